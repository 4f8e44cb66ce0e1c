section
-- ===== PART A: goes FIRST, ahead of the names: the tables' words, and 'selects' of the private methods out of them =====
/-- a private method of a class that the tables say can be made, by its rows of tables_1 -/
def lw_okq (q : MethodName × Nat) : Prop := (q.1.cls ≠ "java/lang/invoke/MethodHandle" ∧ q.1.cls ≠ "java/lang/invoke/VarHandle") ∧ Cond.instantiable q.1.cls q.2 ∈ tables_1 ∧ Cond.privateMethod q.1 ∈ tables_1 ∧ Cond.instanceMethod q.1 ∈ tables_1
theorem lw_p0 : lw_okq (⟨"AlikeSteps", "found", "(I)I"⟩, 14) := ⟨⟨by decide +kernel, by decide +kernel⟩, List.mem_of_getElem? (i := 17) (by decide +kernel), List.mem_of_getElem? (i := 286) (by decide +kernel), List.mem_of_getElem? (i := 287) (by decide +kernel)⟩
theorem lw_p1 : lw_okq (⟨"AlikeSteps", "fine", "(I)I"⟩, 14) := ⟨⟨by decide +kernel, by decide +kernel⟩, List.mem_of_getElem? (i := 17) (by decide +kernel), List.mem_of_getElem? (i := 295) (by decide +kernel), List.mem_of_getElem? (i := 296) (by decide +kernel)⟩
theorem lw_p2 : lw_okq (⟨"AlikeSteps$Tape", "readStates", "(LAlikeSteps$Net;)I"⟩, 3) := ⟨⟨by decide +kernel, by decide +kernel⟩, List.mem_of_getElem? (i := 42) (by decide +kernel), List.mem_of_getElem? (i := 371) (by decide +kernel), List.mem_of_getElem? (i := 372) (by decide +kernel)⟩
theorem lw_p3 : lw_okq (⟨"AlikeSteps$Tape", "next", "()I"⟩, 3) := ⟨⟨by decide +kernel, by decide +kernel⟩, List.mem_of_getElem? (i := 42) (by decide +kernel), List.mem_of_getElem? (i := 375) (by decide +kernel), List.mem_of_getElem? (i := 376) (by decide +kernel)⟩
theorem lw_p4 : lw_okq (⟨"AlikeSteps$Tape", "passes", "(C)Z"⟩, 3) := ⟨⟨by decide +kernel, by decide +kernel⟩, List.mem_of_getElem? (i := 42) (by decide +kernel), List.mem_of_getElem? (i := 382) (by decide +kernel), List.mem_of_getElem? (i := 383) (by decide +kernel)⟩
theorem lw_p5 : lw_okq (⟨"AlikeSteps$Tape", "readArcs", "(LAlikeSteps$Net;)I"⟩, 3) := ⟨⟨by decide +kernel, by decide +kernel⟩, List.mem_of_getElem? (i := 42) (by decide +kernel), List.mem_of_getElem? (i := 390) (by decide +kernel), List.mem_of_getElem? (i := 391) (by decide +kernel)⟩
theorem lw_p6 : lw_okq (⟨"AlikeSteps$Tape", "readEnds", "(LAlikeSteps$Net;I)I"⟩, 3) := ⟨⟨by decide +kernel, by decide +kernel⟩, List.mem_of_getElem? (i := 42) (by decide +kernel), List.mem_of_getElem? (i := 397) (by decide +kernel), List.mem_of_getElem? (i := 398) (by decide +kernel)⟩
theorem lw_p7 : lw_okq (⟨"AlikeSteps$Tape", "readNumber", "(LAlikeSteps$Net;)I"⟩, 3) := ⟨⟨by decide +kernel, by decide +kernel⟩, List.mem_of_getElem? (i := 42) (by decide +kernel), List.mem_of_getElem? (i := 401) (by decide +kernel), List.mem_of_getElem? (i := 402) (by decide +kernel)⟩
theorem lw_p8 : lw_okq (⟨"AlikeSteps$Tape", "isFigure", "(I)Z"⟩, 3) := ⟨⟨by decide +kernel, by decide +kernel⟩, List.mem_of_getElem? (i := 42) (by decide +kernel), List.mem_of_getElem? (i := 405) (by decide +kernel), List.mem_of_getElem? (i := 406) (by decide +kernel)⟩
theorem lw_p9 : lw_okq (⟨"AlikeSteps$Net", "shiftArcs", "(III)V"⟩, 5) := ⟨⟨by decide +kernel, by decide +kernel⟩, List.mem_of_getElem? (i := 58) (by decide +kernel), List.mem_of_getElem? (i := 421) (by decide +kernel), List.mem_of_getElem? (i := 422) (by decide +kernel)⟩
theorem lw_p10 : lw_okq (⟨"AlikeSteps$Acts", "note", "(IIIII)V"⟩, 2) := ⟨⟨by decide +kernel, by decide +kernel⟩, List.mem_of_getElem? (i := 81) (by decide +kernel), List.mem_of_getElem? (i := 469) (by decide +kernel), List.mem_of_getElem? (i := 470) (by decide +kernel)⟩
theorem lw_p11 : lw_okq (⟨"AlikeSteps$Steps", "openArc", "(LAlikeSteps$Net;I)V"⟩, 3) := ⟨⟨by decide +kernel, by decide +kernel⟩, List.mem_of_getElem? (i := 100) (by decide +kernel), List.mem_of_getElem? (i := 564) (by decide +kernel), List.mem_of_getElem? (i := 565) (by decide +kernel)⟩
theorem lw_p12 : lw_okq (⟨"AlikeSteps$Steps", "closeSilent", "()V"⟩, 3) := ⟨⟨by decide +kernel, by decide +kernel⟩, List.mem_of_getElem? (i := 100) (by decide +kernel), List.mem_of_getElem? (i := 576) (by decide +kernel), List.mem_of_getElem? (i := 577) (by decide +kernel)⟩
theorem lw_p13 : lw_okq (⟨"AlikeSteps$Steps", "closeLetters", "()V"⟩, 3) := ⟨⟨by decide +kernel, by decide +kernel⟩, List.mem_of_getElem? (i := 100) (by decide +kernel), List.mem_of_getElem? (i := 591) (by decide +kernel), List.mem_of_getElem? (i := 592) (by decide +kernel)⟩
theorem lw_p14 : lw_okq (⟨"AlikeSteps$Parting", "numberBlocks", "(I)I"⟩, 7) := ⟨⟨by decide +kernel, by decide +kernel⟩, List.mem_of_getElem? (i := 117) (by decide +kernel), List.mem_of_getElem? (i := 621) (by decide +kernel), List.mem_of_getElem? (i := 622) (by decide +kernel)⟩
theorem lw_p15 : lw_okq (⟨"AlikeSteps$Parting", "firstLike", "(II)I"⟩, 7) := ⟨⟨by decide +kernel, by decide +kernel⟩, List.mem_of_getElem? (i := 117) (by decide +kernel), List.mem_of_getElem? (i := 625) (by decide +kernel), List.mem_of_getElem? (i := 626) (by decide +kernel)⟩
def lw_privs_1 : List (MethodName × Nat) := [(⟨"AlikeSteps", "found", "(I)I"⟩, 14), (⟨"AlikeSteps", "fine", "(I)I"⟩, 14), (⟨"AlikeSteps$Tape", "readStates", "(LAlikeSteps$Net;)I"⟩, 3), (⟨"AlikeSteps$Tape", "next", "()I"⟩, 3), (⟨"AlikeSteps$Tape", "passes", "(C)Z"⟩, 3), (⟨"AlikeSteps$Tape", "readArcs", "(LAlikeSteps$Net;)I"⟩, 3), (⟨"AlikeSteps$Tape", "readEnds", "(LAlikeSteps$Net;I)I"⟩, 3), (⟨"AlikeSteps$Tape", "readNumber", "(LAlikeSteps$Net;)I"⟩, 3), (⟨"AlikeSteps$Tape", "isFigure", "(I)Z"⟩, 3), (⟨"AlikeSteps$Net", "shiftArcs", "(III)V"⟩, 5), (⟨"AlikeSteps$Acts", "note", "(IIIII)V"⟩, 2), (⟨"AlikeSteps$Steps", "openArc", "(LAlikeSteps$Net;I)V"⟩, 3), (⟨"AlikeSteps$Steps", "closeSilent", "()V"⟩, 3), (⟨"AlikeSteps$Steps", "closeLetters", "()V"⟩, 3), (⟨"AlikeSteps$Parting", "numberBlocks", "(I)I"⟩, 7), (⟨"AlikeSteps$Parting", "firstLike", "(II)I"⟩, 7)]
theorem lw_r1 : ∀ q ∈ lw_privs_1, lw_okq q := List.forall_mem_cons.mpr ⟨lw_p0, List.forall_mem_cons.mpr ⟨lw_p1, List.forall_mem_cons.mpr ⟨lw_p2, List.forall_mem_cons.mpr ⟨lw_p3, List.forall_mem_cons.mpr ⟨lw_p4, List.forall_mem_cons.mpr ⟨lw_p5, List.forall_mem_cons.mpr ⟨lw_p6, List.forall_mem_cons.mpr ⟨lw_p7, List.forall_mem_cons.mpr ⟨lw_p8, List.forall_mem_cons.mpr ⟨lw_p9, List.forall_mem_cons.mpr ⟨lw_p10, List.forall_mem_cons.mpr ⟨lw_p11, List.forall_mem_cons.mpr ⟨lw_p12, List.forall_mem_cons.mpr ⟨lw_p13, List.forall_mem_cons.mpr ⟨lw_p14, List.forall_mem_cons.mpr ⟨lw_p15, fun _ h => absurd h List.not_mem_nil⟩⟩⟩⟩⟩⟩⟩⟩⟩⟩⟩⟩⟩⟩⟩⟩
theorem lw_p16 : lw_okq (⟨"AlikeSteps$Parting", "partOn", "(LAlikeSteps$Steps;)V"⟩, 7) := ⟨⟨by decide +kernel, by decide +kernel⟩, List.mem_of_getElem? (i := 117) (by decide +kernel), List.mem_of_getElem? (i := 636) (by decide +kernel), List.mem_of_getElem? (i := 637) (by decide +kernel)⟩
theorem lw_p17 : lw_okq (⟨"AlikeSteps$Parting", "signsBy", "(LAlikeSteps$Steps;II)J"⟩, 7) := ⟨⟨by decide +kernel, by decide +kernel⟩, List.mem_of_getElem? (i := 117) (by decide +kernel), List.mem_of_getElem? (i := 640) (by decide +kernel), List.mem_of_getElem? (i := 641) (by decide +kernel)⟩
theorem lw_p18 : lw_okq (⟨"AlikeSteps$Parting", "statesOf", "(II)I"⟩, 7) := ⟨⟨by decide +kernel, by decide +kernel⟩, List.mem_of_getElem? (i := 117) (by decide +kernel), List.mem_of_getElem? (i := 644) (by decide +kernel), List.mem_of_getElem? (i := 645) (by decide +kernel)⟩
theorem lw_p19 : lw_okq (⟨"AlikeSteps$Teller", "findLead", "(LAlikeSteps$Steps;LAlikeSteps$Parting;II)I"⟩, 5) := ⟨⟨by decide +kernel, by decide +kernel⟩, List.mem_of_getElem? (i := 210) (by decide +kernel), List.mem_of_getElem? (i := 711) (by decide +kernel), List.mem_of_getElem? (i := 712) (by decide +kernel)⟩
theorem lw_p20 : lw_okq (⟨"AlikeSteps$Teller", "weighAll", "(ILAlikeSteps$Steps;IZ)V"⟩, 5) := ⟨⟨by decide +kernel, by decide +kernel⟩, List.mem_of_getElem? (i := 210) (by decide +kernel), List.mem_of_getElem? (i := 719) (by decide +kernel), List.mem_of_getElem? (i := 720) (by decide +kernel)⟩
theorem lw_p21 : lw_okq (⟨"AlikeSteps$Teller", "weigh", "(LAlikeSteps$Steps;II)J"⟩, 5) := ⟨⟨by decide +kernel, by decide +kernel⟩, List.mem_of_getElem? (i := 210) (by decide +kernel), List.mem_of_getElem? (i := 723) (by decide +kernel), List.mem_of_getElem? (i := 724) (by decide +kernel)⟩
theorem lw_p22 : lw_okq (⟨"AlikeSteps$Teller", "sizeUpTo", "(III)J"⟩, 5) := ⟨⟨by decide +kernel, by decide +kernel⟩, List.mem_of_getElem? (i := 210) (by decide +kernel), List.mem_of_getElem? (i := 732) (by decide +kernel), List.mem_of_getElem? (i := 733) (by decide +kernel)⟩
theorem lw_p23 : lw_okq (⟨"AlikeSteps$Teller", "memberAt", "(IIJ)I"⟩, 5) := ⟨⟨by decide +kernel, by decide +kernel⟩, List.mem_of_getElem? (i := 210) (by decide +kernel), List.mem_of_getElem? (i := 751) (by decide +kernel), List.mem_of_getElem? (i := 752) (by decide +kernel)⟩
theorem lw_p24 : lw_okq (⟨"AlikeSteps$Formula", "push", "(I)V"⟩, 8) := ⟨⟨by decide +kernel, by decide +kernel⟩, List.mem_of_getElem? (i := 155) (by decide +kernel), List.mem_of_getElem? (i := 786) (by decide +kernel), List.mem_of_getElem? (i := 787) (by decide +kernel)⟩
theorem lw_p25 : lw_okq (⟨"AlikeSteps$Formula", "takeList", "(I)V"⟩, 8) := ⟨⟨by decide +kernel, by decide +kernel⟩, List.mem_of_getElem? (i := 155) (by decide +kernel), List.mem_of_getElem? (i := 790) (by decide +kernel), List.mem_of_getElem? (i := 791) (by decide +kernel)⟩
theorem lw_p26 : lw_okq (⟨"AlikeSteps$Steps", "way", "(II)I"⟩, 3) := ⟨⟨by decide +kernel, by decide +kernel⟩, List.mem_of_getElem? (i := 100) (by decide +kernel), List.mem_of_getElem? (i := 847) (by decide +kernel), List.mem_of_getElem? (i := 848) (by decide +kernel)⟩
theorem lw_p27 : lw_okq (⟨"AlikeSteps", "tellsBlocks", "(ILAlikeSteps$Parting;)Z"⟩, 14) := ⟨⟨by decide +kernel, by decide +kernel⟩, List.mem_of_getElem? (i := 17) (by decide +kernel), List.mem_of_getElem? (i := 856) (by decide +kernel), List.mem_of_getElem? (i := 857) (by decide +kernel)⟩
theorem lw_p28 : lw_okq (⟨"AlikeSteps$Asker", "sizeBody", "()I"⟩, 6) := ⟨⟨by decide +kernel, by decide +kernel⟩, List.mem_of_getElem? (i := 186) (by decide +kernel), List.mem_of_getElem? (i := 890) (by decide +kernel), List.mem_of_getElem? (i := 891) (by decide +kernel)⟩
theorem lw_p29 : lw_okq (⟨"AlikeSteps$Asker", "markBody", "()I"⟩, 6) := ⟨⟨by decide +kernel, by decide +kernel⟩, List.mem_of_getElem? (i := 186) (by decide +kernel), List.mem_of_getElem? (i := 894) (by decide +kernel), List.mem_of_getElem? (i := 895) (by decide +kernel)⟩
theorem lw_p30 : lw_okq (⟨"AlikeSteps$Asker", "body", "(II)I"⟩, 6) := ⟨⟨by decide +kernel, by decide +kernel⟩, List.mem_of_getElem? (i := 186) (by decide +kernel), List.mem_of_getElem? (i := 898) (by decide +kernel), List.mem_of_getElem? (i := 899) (by decide +kernel)⟩
theorem lw_p31 : lw_okq (⟨"AlikeSteps$Asker", "leave", "(I)V"⟩, 6) := ⟨⟨by decide +kernel, by decide +kernel⟩, List.mem_of_getElem? (i := 186) (by decide +kernel), List.mem_of_getElem? (i := 902) (by decide +kernel), List.mem_of_getElem? (i := 903) (by decide +kernel)⟩
def lw_privs_2 : List (MethodName × Nat) := [(⟨"AlikeSteps$Parting", "partOn", "(LAlikeSteps$Steps;)V"⟩, 7), (⟨"AlikeSteps$Parting", "signsBy", "(LAlikeSteps$Steps;II)J"⟩, 7), (⟨"AlikeSteps$Parting", "statesOf", "(II)I"⟩, 7), (⟨"AlikeSteps$Teller", "findLead", "(LAlikeSteps$Steps;LAlikeSteps$Parting;II)I"⟩, 5), (⟨"AlikeSteps$Teller", "weighAll", "(ILAlikeSteps$Steps;IZ)V"⟩, 5), (⟨"AlikeSteps$Teller", "weigh", "(LAlikeSteps$Steps;II)J"⟩, 5), (⟨"AlikeSteps$Teller", "sizeUpTo", "(III)J"⟩, 5), (⟨"AlikeSteps$Teller", "memberAt", "(IIJ)I"⟩, 5), (⟨"AlikeSteps$Formula", "push", "(I)V"⟩, 8), (⟨"AlikeSteps$Formula", "takeList", "(I)V"⟩, 8), (⟨"AlikeSteps$Steps", "way", "(II)I"⟩, 3), (⟨"AlikeSteps", "tellsBlocks", "(ILAlikeSteps$Parting;)Z"⟩, 14), (⟨"AlikeSteps$Asker", "sizeBody", "()I"⟩, 6), (⟨"AlikeSteps$Asker", "markBody", "()I"⟩, 6), (⟨"AlikeSteps$Asker", "body", "(II)I"⟩, 6), (⟨"AlikeSteps$Asker", "leave", "(I)V"⟩, 6)]
theorem lw_r2 : ∀ q ∈ lw_privs_2, lw_okq q := List.forall_mem_cons.mpr ⟨lw_p16, List.forall_mem_cons.mpr ⟨lw_p17, List.forall_mem_cons.mpr ⟨lw_p18, List.forall_mem_cons.mpr ⟨lw_p19, List.forall_mem_cons.mpr ⟨lw_p20, List.forall_mem_cons.mpr ⟨lw_p21, List.forall_mem_cons.mpr ⟨lw_p22, List.forall_mem_cons.mpr ⟨lw_p23, List.forall_mem_cons.mpr ⟨lw_p24, List.forall_mem_cons.mpr ⟨lw_p25, List.forall_mem_cons.mpr ⟨lw_p26, List.forall_mem_cons.mpr ⟨lw_p27, List.forall_mem_cons.mpr ⟨lw_p28, List.forall_mem_cons.mpr ⟨lw_p29, List.forall_mem_cons.mpr ⟨lw_p30, List.forall_mem_cons.mpr ⟨lw_p31, fun _ h => absurd h List.not_mem_nil⟩⟩⟩⟩⟩⟩⟩⟩⟩⟩⟩⟩⟩⟩⟩⟩
theorem lw_p32 : lw_okq (⟨"AlikeStepsModel", "found", "(I)I"⟩, 33) := ⟨⟨by decide +kernel, by decide +kernel⟩, List.mem_of_getElem? (i := 932) (by decide +kernel), List.mem_of_getElem? (i := 1051) (by decide +kernel), List.mem_of_getElem? (i := 1052) (by decide +kernel)⟩
theorem lw_p33 : lw_okq (⟨"AlikeStepsModel", "well", "(I)I"⟩, 33) := ⟨⟨by decide +kernel, by decide +kernel⟩, List.mem_of_getElem? (i := 932) (by decide +kernel), List.mem_of_getElem? (i := 1056) (by decide +kernel), List.mem_of_getElem? (i := 1057) (by decide +kernel)⟩
theorem lw_p34 : lw_okq (⟨"AlikeStepsModel", "isMissing", "(I)Z"⟩, 33) := ⟨⟨by decide +kernel, by decide +kernel⟩, List.mem_of_getElem? (i := 932) (by decide +kernel), List.mem_of_getElem? (i := 1064) (by decide +kernel), List.mem_of_getElem? (i := 1065) (by decide +kernel)⟩
theorem lw_p35 : lw_okq (⟨"AlikeStepsModel", "isPart", "(III)Z"⟩, 33) := ⟨⟨by decide +kernel, by decide +kernel⟩, List.mem_of_getElem? (i := 932) (by decide +kernel), List.mem_of_getElem? (i := 1075) (by decide +kernel), List.mem_of_getElem? (i := 1076) (by decide +kernel)⟩
theorem lw_p36 : lw_okq (⟨"AlikeStepsModel", "advances", "()V"⟩, 33) := ⟨⟨by decide +kernel, by decide +kernel⟩, List.mem_of_getElem? (i := 932) (by decide +kernel), List.mem_of_getElem? (i := 1092) (by decide +kernel), List.mem_of_getElem? (i := 1093) (by decide +kernel)⟩
theorem lw_p37 : lw_okq (⟨"AlikeStepsModel", "byteAt", "(I)I"⟩, 33) := ⟨⟨by decide +kernel, by decide +kernel⟩, List.mem_of_getElem? (i := 932) (by decide +kernel), List.mem_of_getElem? (i := 1096) (by decide +kernel), List.mem_of_getElem? (i := 1097) (by decide +kernel)⟩
theorem lw_p38 : lw_okq (⟨"AlikeStepsModel", "isWell", "()Z"⟩, 33) := ⟨⟨by decide +kernel, by decide +kernel⟩, List.mem_of_getElem? (i := 932) (by decide +kernel), List.mem_of_getElem? (i := 1100) (by decide +kernel), List.mem_of_getElem? (i := 1101) (by decide +kernel)⟩
theorem lw_p39 : lw_okq (⟨"AlikeStepsModel", "readsState", "()V"⟩, 33) := ⟨⟨by decide +kernel, by decide +kernel⟩, List.mem_of_getElem? (i := 932) (by decide +kernel), List.mem_of_getElem? (i := 1107) (by decide +kernel), List.mem_of_getElem? (i := 1108) (by decide +kernel)⟩
theorem lw_p40 : lw_okq (⟨"AlikeStepsModel", "takes", "(ZI)I"⟩, 33) := ⟨⟨by decide +kernel, by decide +kernel⟩, List.mem_of_getElem? (i := 932) (by decide +kernel), List.mem_of_getElem? (i := 1111) (by decide +kernel), List.mem_of_getElem? (i := 1112) (by decide +kernel)⟩
theorem lw_p41 : lw_okq (⟨"AlikeStepsModel", "must", "(Z)V"⟩, 33) := ⟨⟨by decide +kernel, by decide +kernel⟩, List.mem_of_getElem? (i := 932) (by decide +kernel), List.mem_of_getElem? (i := 1115) (by decide +kernel), List.mem_of_getElem? (i := 1116) (by decide +kernel)⟩
theorem lw_p42 : lw_okq (⟨"AlikeStepsModel", "readsArc", "()V"⟩, 33) := ⟨⟨by decide +kernel, by decide +kernel⟩, List.mem_of_getElem? (i := 932) (by decide +kernel), List.mem_of_getElem? (i := 1122) (by decide +kernel), List.mem_of_getElem? (i := 1123) (by decide +kernel)⟩
theorem lw_p43 : lw_okq (⟨"AlikeStepsModel", "figure", "(II)I"⟩, 33) := ⟨⟨by decide +kernel, by decide +kernel⟩, List.mem_of_getElem? (i := 932) (by decide +kernel), List.mem_of_getElem? (i := 1126) (by decide +kernel), List.mem_of_getElem? (i := 1127) (by decide +kernel)⟩
theorem lw_p44 : lw_okq (⟨"AlikeStepsModel", "isState", "(I)Z"⟩, 33) := ⟨⟨by decide +kernel, by decide +kernel⟩, List.mem_of_getElem? (i := 932) (by decide +kernel), List.mem_of_getElem? (i := 1145) (by decide +kernel), List.mem_of_getElem? (i := 1146) (by decide +kernel)⟩
theorem lw_p45 : lw_okq (⟨"AlikeStepsModel", "notes", "()V"⟩, 33) := ⟨⟨by decide +kernel, by decide +kernel⟩, List.mem_of_getElem? (i := 932) (by decide +kernel), List.mem_of_getElem? (i := 1149) (by decide +kernel), List.mem_of_getElem? (i := 1150) (by decide +kernel)⟩
theorem lw_p46 : lw_okq (⟨"AlikeStepsModel", "isArc", "(I)Z"⟩, 33) := ⟨⟨by decide +kernel, by decide +kernel⟩, List.mem_of_getElem? (i := 932) (by decide +kernel), List.mem_of_getElem? (i := 1157) (by decide +kernel), List.mem_of_getElem? (i := 1158) (by decide +kernel)⟩
theorem lw_p47 : lw_okq (⟨"AlikeStepsModel", "looks", "([II)V"⟩, 33) := ⟨⟨by decide +kernel, by decide +kernel⟩, List.mem_of_getElem? (i := 932) (by decide +kernel), List.mem_of_getElem? (i := 1182) (by decide +kernel), List.mem_of_getElem? (i := 1183) (by decide +kernel)⟩
def lw_privs_3 : List (MethodName × Nat) := [(⟨"AlikeStepsModel", "found", "(I)I"⟩, 33), (⟨"AlikeStepsModel", "well", "(I)I"⟩, 33), (⟨"AlikeStepsModel", "isMissing", "(I)Z"⟩, 33), (⟨"AlikeStepsModel", "isPart", "(III)Z"⟩, 33), (⟨"AlikeStepsModel", "advances", "()V"⟩, 33), (⟨"AlikeStepsModel", "byteAt", "(I)I"⟩, 33), (⟨"AlikeStepsModel", "isWell", "()Z"⟩, 33), (⟨"AlikeStepsModel", "readsState", "()V"⟩, 33), (⟨"AlikeStepsModel", "takes", "(ZI)I"⟩, 33), (⟨"AlikeStepsModel", "must", "(Z)V"⟩, 33), (⟨"AlikeStepsModel", "readsArc", "()V"⟩, 33), (⟨"AlikeStepsModel", "figure", "(II)I"⟩, 33), (⟨"AlikeStepsModel", "isState", "(I)Z"⟩, 33), (⟨"AlikeStepsModel", "notes", "()V"⟩, 33), (⟨"AlikeStepsModel", "isArc", "(I)Z"⟩, 33), (⟨"AlikeStepsModel", "looks", "([II)V"⟩, 33)]
theorem lw_r3 : ∀ q ∈ lw_privs_3, lw_okq q := List.forall_mem_cons.mpr ⟨lw_p32, List.forall_mem_cons.mpr ⟨lw_p33, List.forall_mem_cons.mpr ⟨lw_p34, List.forall_mem_cons.mpr ⟨lw_p35, List.forall_mem_cons.mpr ⟨lw_p36, List.forall_mem_cons.mpr ⟨lw_p37, List.forall_mem_cons.mpr ⟨lw_p38, List.forall_mem_cons.mpr ⟨lw_p39, List.forall_mem_cons.mpr ⟨lw_p40, List.forall_mem_cons.mpr ⟨lw_p41, List.forall_mem_cons.mpr ⟨lw_p42, List.forall_mem_cons.mpr ⟨lw_p43, List.forall_mem_cons.mpr ⟨lw_p44, List.forall_mem_cons.mpr ⟨lw_p45, List.forall_mem_cons.mpr ⟨lw_p46, List.forall_mem_cons.mpr ⟨lw_p47, fun _ h => absurd h List.not_mem_nil⟩⟩⟩⟩⟩⟩⟩⟩⟩⟩⟩⟩⟩⟩⟩⟩
theorem lw_p48 : lw_okq (⟨"AlikeStepsModel", "goesFrom", "(III)V"⟩, 33) := ⟨⟨by decide +kernel, by decide +kernel⟩, List.mem_of_getElem? (i := 932) (by decide +kernel), List.mem_of_getElem? (i := 1186) (by decide +kernel), List.mem_of_getElem? (i := 1187) (by decide +kernel)⟩
theorem lw_p49 : lw_okq (⟨"AlikeStepsModel", "states", "()I"⟩, 33) := ⟨⟨by decide +kernel, by decide +kernel⟩, List.mem_of_getElem? (i := 932) (by decide +kernel), List.mem_of_getElem? (i := 1190) (by decide +kernel), List.mem_of_getElem? (i := 1191) (by decide +kernel)⟩
theorem lw_p50 : lw_okq (⟨"AlikeStepsModel", "reaches", "(II)I"⟩, 33) := ⟨⟨by decide +kernel, by decide +kernel⟩, List.mem_of_getElem? (i := 932) (by decide +kernel), List.mem_of_getElem? (i := 1194) (by decide +kernel), List.mem_of_getElem? (i := 1195) (by decide +kernel)⟩
theorem lw_p51 : lw_okq (⟨"AlikeStepsModel", "to", "(II)I"⟩, 33) := ⟨⟨by decide +kernel, by decide +kernel⟩, List.mem_of_getElem? (i := 932) (by decide +kernel), List.mem_of_getElem? (i := 1198) (by decide +kernel), List.mem_of_getElem? (i := 1199) (by decide +kernel)⟩
theorem lw_p52 : lw_okq (⟨"AlikeStepsModel", "moving", "(III)I"⟩, 33) := ⟨⟨by decide +kernel, by decide +kernel⟩, List.mem_of_getElem? (i := 932) (by decide +kernel), List.mem_of_getElem? (i := 1205) (by decide +kernel), List.mem_of_getElem? (i := 1206) (by decide +kernel)⟩
theorem lw_p53 : lw_okq (⟨"AlikeStepsModel", "close", "(I)I"⟩, 33) := ⟨⟨by decide +kernel, by decide +kernel⟩, List.mem_of_getElem? (i := 932) (by decide +kernel), List.mem_of_getElem? (i := 1209) (by decide +kernel), List.mem_of_getElem? (i := 1210) (by decide +kernel)⟩
theorem lw_p54 : lw_okq (⟨"AlikeStepsModel", "blockOf", "(II)I"⟩, 33) := ⟨⟨by decide +kernel, by decide +kernel⟩, List.mem_of_getElem? (i := 932) (by decide +kernel), List.mem_of_getElem? (i := 1217) (by decide +kernel), List.mem_of_getElem? (i := 1218) (by decide +kernel)⟩
theorem lw_p55 : lw_okq (⟨"AlikeStepsModel", "partsBy", "(I)I"⟩, 33) := ⟨⟨by decide +kernel, by decide +kernel⟩, List.mem_of_getElem? (i := 932) (by decide +kernel), List.mem_of_getElem? (i := 1221) (by decide +kernel), List.mem_of_getElem? (i := 1222) (by decide +kernel)⟩
theorem lw_p56 : lw_okq (⟨"AlikeStepsModel", "isMarked", "(I)Z"⟩, 33) := ⟨⟨by decide +kernel, by decide +kernel⟩, List.mem_of_getElem? (i := 932) (by decide +kernel), List.mem_of_getElem? (i := 1225) (by decide +kernel), List.mem_of_getElem? (i := 1226) (by decide +kernel)⟩
theorem lw_p57 : lw_okq (⟨"AlikeStepsModel", "numbers", "(I)I"⟩, 33) := ⟨⟨by decide +kernel, by decide +kernel⟩, List.mem_of_getElem? (i := 932) (by decide +kernel), List.mem_of_getElem? (i := 1229) (by decide +kernel), List.mem_of_getElem? (i := 1230) (by decide +kernel)⟩
theorem lw_p58 : lw_okq (⟨"AlikeStepsModel", "blockIn", "(II)I"⟩, 33) := ⟨⟨by decide +kernel, by decide +kernel⟩, List.mem_of_getElem? (i := 932) (by decide +kernel), List.mem_of_getElem? (i := 1233) (by decide +kernel), List.mem_of_getElem? (i := 1234) (by decide +kernel)⟩
theorem lw_p59 : lw_okq (⟨"AlikeStepsModel", "signsOf", "(III)J"⟩, 33) := ⟨⟨by decide +kernel, by decide +kernel⟩, List.mem_of_getElem? (i := 932) (by decide +kernel), List.mem_of_getElem? (i := 1237) (by decide +kernel), List.mem_of_getElem? (i := 1238) (by decide +kernel)⟩
theorem lw_p60 : lw_okq (⟨"AlikeStepsModel", "alikeIn", "(II)I"⟩, 33) := ⟨⟨by decide +kernel, by decide +kernel⟩, List.mem_of_getElem? (i := 932) (by decide +kernel), List.mem_of_getElem? (i := 1241) (by decide +kernel), List.mem_of_getElem? (i := 1242) (by decide +kernel)⟩
theorem lw_p61 : lw_okq (⟨"AlikeStepsModel", "bitsOf", "(III)J"⟩, 33) := ⟨⟨by decide +kernel, by decide +kernel⟩, List.mem_of_getElem? (i := 932) (by decide +kernel), List.mem_of_getElem? (i := 1245) (by decide +kernel), List.mem_of_getElem? (i := 1246) (by decide +kernel)⟩
theorem lw_p62 : lw_okq (⟨"AlikeStepsModel", "isSystem", "()Z"⟩, 33) := ⟨⟨by decide +kernel, by decide +kernel⟩, List.mem_of_getElem? (i := 932) (by decide +kernel), List.mem_of_getElem? (i := 1254) (by decide +kernel), List.mem_of_getElem? (i := 1255) (by decide +kernel)⟩
theorem lw_p63 : lw_okq (⟨"AlikeStepsModel", "partedIn", "(II)I"⟩, 33) := ⟨⟨by decide +kernel, by decide +kernel⟩, List.mem_of_getElem? (i := 932) (by decide +kernel), List.mem_of_getElem? (i := 1271) (by decide +kernel), List.mem_of_getElem? (i := 1272) (by decide +kernel)⟩
def lw_privs_4 : List (MethodName × Nat) := [(⟨"AlikeStepsModel", "goesFrom", "(III)V"⟩, 33), (⟨"AlikeStepsModel", "states", "()I"⟩, 33), (⟨"AlikeStepsModel", "reaches", "(II)I"⟩, 33), (⟨"AlikeStepsModel", "to", "(II)I"⟩, 33), (⟨"AlikeStepsModel", "moving", "(III)I"⟩, 33), (⟨"AlikeStepsModel", "close", "(I)I"⟩, 33), (⟨"AlikeStepsModel", "blockOf", "(II)I"⟩, 33), (⟨"AlikeStepsModel", "partsBy", "(I)I"⟩, 33), (⟨"AlikeStepsModel", "isMarked", "(I)Z"⟩, 33), (⟨"AlikeStepsModel", "numbers", "(I)I"⟩, 33), (⟨"AlikeStepsModel", "blockIn", "(II)I"⟩, 33), (⟨"AlikeStepsModel", "signsOf", "(III)J"⟩, 33), (⟨"AlikeStepsModel", "alikeIn", "(II)I"⟩, 33), (⟨"AlikeStepsModel", "bitsOf", "(III)J"⟩, 33), (⟨"AlikeStepsModel", "isSystem", "()Z"⟩, 33), (⟨"AlikeStepsModel", "partedIn", "(II)I"⟩, 33)]
theorem lw_r4 : ∀ q ∈ lw_privs_4, lw_okq q := List.forall_mem_cons.mpr ⟨lw_p48, List.forall_mem_cons.mpr ⟨lw_p49, List.forall_mem_cons.mpr ⟨lw_p50, List.forall_mem_cons.mpr ⟨lw_p51, List.forall_mem_cons.mpr ⟨lw_p52, List.forall_mem_cons.mpr ⟨lw_p53, List.forall_mem_cons.mpr ⟨lw_p54, List.forall_mem_cons.mpr ⟨lw_p55, List.forall_mem_cons.mpr ⟨lw_p56, List.forall_mem_cons.mpr ⟨lw_p57, List.forall_mem_cons.mpr ⟨lw_p58, List.forall_mem_cons.mpr ⟨lw_p59, List.forall_mem_cons.mpr ⟨lw_p60, List.forall_mem_cons.mpr ⟨lw_p61, List.forall_mem_cons.mpr ⟨lw_p62, List.forall_mem_cons.mpr ⟨lw_p63, fun _ h => absurd h List.not_mem_nil⟩⟩⟩⟩⟩⟩⟩⟩⟩⟩⟩⟩⟩⟩⟩⟩
theorem lw_p64 : lw_okq (⟨"AlikeStepsModel", "isAsked", "(III)Z"⟩, 33) := ⟨⟨by decide +kernel, by decide +kernel⟩, List.mem_of_getElem? (i := 932) (by decide +kernel), List.mem_of_getElem? (i := 1279) (by decide +kernel), List.mem_of_getElem? (i := 1280) (by decide +kernel)⟩
theorem lw_p65 : lw_okq (⟨"AlikeStepsModel", "tellsAll", "(I)V"⟩, 33) := ⟨⟨by decide +kernel, by decide +kernel⟩, List.mem_of_getElem? (i := 932) (by decide +kernel), List.mem_of_getElem? (i := 1283) (by decide +kernel), List.mem_of_getElem? (i := 1284) (by decide +kernel)⟩
theorem lw_p66 : lw_okq (⟨"AlikeStepsModel", "opens", "(IIII)V"⟩, 33) := ⟨⟨by decide +kernel, by decide +kernel⟩, List.mem_of_getElem? (i := 932) (by decide +kernel), List.mem_of_getElem? (i := 1287) (by decide +kernel), List.mem_of_getElem? (i := 1288) (by decide +kernel)⟩
theorem lw_p67 : lw_okq (⟨"AlikeStepsModel", "sums", "(III)V"⟩, 33) := ⟨⟨by decide +kernel, by decide +kernel⟩, List.mem_of_getElem? (i := 932) (by decide +kernel), List.mem_of_getElem? (i := 1291) (by decide +kernel), List.mem_of_getElem? (i := 1292) (by decide +kernel)⟩
theorem lw_p68 : lw_okq (⟨"AlikeStepsModel", "codeAt", "(IIII)I"⟩, 33) := ⟨⟨by decide +kernel, by decide +kernel⟩, List.mem_of_getElem? (i := 932) (by decide +kernel), List.mem_of_getElem? (i := 1295) (by decide +kernel), List.mem_of_getElem? (i := 1296) (by decide +kernel)⟩
theorem lw_p69 : lw_okq (⟨"AlikeStepsModel", "movingInto", "(III)I"⟩, 33) := ⟨⟨by decide +kernel, by decide +kernel⟩, List.mem_of_getElem? (i := 932) (by decide +kernel), List.mem_of_getElem? (i := 1310) (by decide +kernel), List.mem_of_getElem? (i := 1311) (by decide +kernel)⟩
theorem lw_p70 : lw_okq (⟨"AlikeStepsModel", "smallOf", "(III)I"⟩, 33) := ⟨⟨by decide +kernel, by decide +kernel⟩, List.mem_of_getElem? (i := 932) (by decide +kernel), List.mem_of_getElem? (i := 1318) (by decide +kernel), List.mem_of_getElem? (i := 1319) (by decide +kernel)⟩
theorem lw_p71 : lw_okq (⟨"AlikeStepsModel", "pairsOf", "(I)I"⟩, 33) := ⟨⟨by decide +kernel, by decide +kernel⟩, List.mem_of_getElem? (i := 932) (by decide +kernel), List.mem_of_getElem? (i := 1337) (by decide +kernel), List.mem_of_getElem? (i := 1338) (by decide +kernel)⟩
theorem lw_p72 : lw_okq (⟨"AlikeStepsModel", "pairAt", "(II)I"⟩, 33) := ⟨⟨by decide +kernel, by decide +kernel⟩, List.mem_of_getElem? (i := 932) (by decide +kernel), List.mem_of_getElem? (i := 1341) (by decide +kernel), List.mem_of_getElem? (i := 1342) (by decide +kernel)⟩
theorem lw_p73 : lw_okq (⟨"AlikeStepsModel", "kindIn", "(I)I"⟩, 33) := ⟨⟨by decide +kernel, by decide +kernel⟩, List.mem_of_getElem? (i := 932) (by decide +kernel), List.mem_of_getElem? (i := 1361) (by decide +kernel), List.mem_of_getElem? (i := 1362) (by decide +kernel)⟩
theorem lw_p74 : lw_okq (⟨"AlikeStepsModel", "doorSize", "(I)I"⟩, 33) := ⟨⟨by decide +kernel, by decide +kernel⟩, List.mem_of_getElem? (i := 932) (by decide +kernel), List.mem_of_getElem? (i := 1373) (by decide +kernel), List.mem_of_getElem? (i := 1374) (by decide +kernel)⟩
theorem lw_p75 : lw_okq (⟨"AlikeStepsModel", "traces", "(I)V"⟩, 33) := ⟨⟨by decide +kernel, by decide +kernel⟩, List.mem_of_getElem? (i := 932) (by decide +kernel), List.mem_of_getElem? (i := 1377) (by decide +kernel), List.mem_of_getElem? (i := 1378) (by decide +kernel)⟩
theorem lw_p76 : lw_okq (⟨"AlikeStepsModel", "pairs", "(I)I"⟩, 33) := ⟨⟨by decide +kernel, by decide +kernel⟩, List.mem_of_getElem? (i := 932) (by decide +kernel), List.mem_of_getElem? (i := 1381) (by decide +kernel), List.mem_of_getElem? (i := 1382) (by decide +kernel)⟩
theorem lw_p77 : lw_okq (⟨"AlikeStepsModel", "placeSize", "(I)I"⟩, 33) := ⟨⟨by decide +kernel, by decide +kernel⟩, List.mem_of_getElem? (i := 932) (by decide +kernel), List.mem_of_getElem? (i := 1385) (by decide +kernel), List.mem_of_getElem? (i := 1386) (by decide +kernel)⟩
theorem lw_p78 : lw_okq (⟨"AlikeStepsModel", "placeMark", "(I)I"⟩, 33) := ⟨⟨by decide +kernel, by decide +kernel⟩, List.mem_of_getElem? (i := 932) (by decide +kernel), List.mem_of_getElem? (i := 1389) (by decide +kernel), List.mem_of_getElem? (i := 1390) (by decide +kernel)⟩
theorem lw_p79 : lw_okq (⟨"AlikeStepsModel", "doorMark", "(I)I"⟩, 33) := ⟨⟨by decide +kernel, by decide +kernel⟩, List.mem_of_getElem? (i := 932) (by decide +kernel), List.mem_of_getElem? (i := 1393) (by decide +kernel), List.mem_of_getElem? (i := 1394) (by decide +kernel)⟩
def lw_privs_5 : List (MethodName × Nat) := [(⟨"AlikeStepsModel", "isAsked", "(III)Z"⟩, 33), (⟨"AlikeStepsModel", "tellsAll", "(I)V"⟩, 33), (⟨"AlikeStepsModel", "opens", "(IIII)V"⟩, 33), (⟨"AlikeStepsModel", "sums", "(III)V"⟩, 33), (⟨"AlikeStepsModel", "codeAt", "(IIII)I"⟩, 33), (⟨"AlikeStepsModel", "movingInto", "(III)I"⟩, 33), (⟨"AlikeStepsModel", "smallOf", "(III)I"⟩, 33), (⟨"AlikeStepsModel", "pairsOf", "(I)I"⟩, 33), (⟨"AlikeStepsModel", "pairAt", "(II)I"⟩, 33), (⟨"AlikeStepsModel", "kindIn", "(I)I"⟩, 33), (⟨"AlikeStepsModel", "doorSize", "(I)I"⟩, 33), (⟨"AlikeStepsModel", "traces", "(I)V"⟩, 33), (⟨"AlikeStepsModel", "pairs", "(I)I"⟩, 33), (⟨"AlikeStepsModel", "placeSize", "(I)I"⟩, 33), (⟨"AlikeStepsModel", "placeMark", "(I)I"⟩, 33), (⟨"AlikeStepsModel", "doorMark", "(I)I"⟩, 33)]
theorem lw_r5 : ∀ q ∈ lw_privs_5, lw_okq q := List.forall_mem_cons.mpr ⟨lw_p64, List.forall_mem_cons.mpr ⟨lw_p65, List.forall_mem_cons.mpr ⟨lw_p66, List.forall_mem_cons.mpr ⟨lw_p67, List.forall_mem_cons.mpr ⟨lw_p68, List.forall_mem_cons.mpr ⟨lw_p69, List.forall_mem_cons.mpr ⟨lw_p70, List.forall_mem_cons.mpr ⟨lw_p71, List.forall_mem_cons.mpr ⟨lw_p72, List.forall_mem_cons.mpr ⟨lw_p73, List.forall_mem_cons.mpr ⟨lw_p74, List.forall_mem_cons.mpr ⟨lw_p75, List.forall_mem_cons.mpr ⟨lw_p76, List.forall_mem_cons.mpr ⟨lw_p77, List.forall_mem_cons.mpr ⟨lw_p78, List.forall_mem_cons.mpr ⟨lw_p79, fun _ h => absurd h List.not_mem_nil⟩⟩⟩⟩⟩⟩⟩⟩⟩⟩⟩⟩⟩⟩⟩⟩
def lw_privs : List (MethodName × Nat) := lw_privs_1 ++ (lw_privs_2 ++ (lw_privs_3 ++ (lw_privs_4 ++ (lw_privs_5))))
def lw_tbl : List Cond := k2_sels lw_privs ++ tables_1
theorem lw_privs_ok : ∀ q ∈ lw_privs, lw_okq q := by
  show ∀ q ∈ lw_privs_1 ++ (lw_privs_2 ++ (lw_privs_3 ++ (lw_privs_4 ++ (lw_privs_5)))), lw_okq q
  exact List.forall_mem_append.mpr ⟨lw_r1, List.forall_mem_append.mpr ⟨lw_r2, List.forall_mem_append.mpr ⟨lw_r3, List.forall_mem_append.mpr ⟨lw_r4, lw_r5⟩⟩⟩⟩
-- ===== end of PART A; then your names; then what follows =====
end
section
/-! PART 02: the classes (rows of NAMES), the layout of the cells that the two constructors make, the good words of the tables -/
def RX0 : String := "AlikeSteps$Acts"
def TX0 : u_T := fun k => match k with
  | 0 => ("AlikeSteps$Acts", "log", "[I", true)
  | _ => ("AlikeSteps$Acts", "kept", "I", false)
def tyX0 : Nat → FieldType := fun k => match k with
  | 0 => .array .int
  | _ => .int
theorem nmX0 : ∀ a, a < 2 → ∀ b, b < 2 → a ≠ b → (TX0 a).2.1 ≠ (TX0 b).2.1 := by decide +kernel
theorem tyX0_ok : ∀ k, k < 2 → parseFieldDescriptor (TX0 k).2.2.1 = some (tyX0 k) := by decide +kernel
def RX1 : String := "AlikeSteps$Alike"
def TX1 : u_T := fun k => match k with
  | 0 => ("AlikeSteps$Alike", "steps", "LAlikeSteps$Steps;", true)
  | _ => ("AlikeSteps$Alike", "partings", "[LAlikeSteps$Parting;", true)
def tyX1 : Nat → FieldType := fun k => match k with
  | 0 => .object "AlikeSteps$Steps"
  | _ => .array (.object "AlikeSteps$Parting")
theorem nmX1 : ∀ a, a < 2 → ∀ b, b < 2 → a ≠ b → (TX1 a).2.1 ≠ (TX1 b).2.1 := by decide +kernel
theorem tyX1_ok : ∀ k, k < 2 → parseFieldDescriptor (TX1 k).2.2.1 = some (tyX1 k) := by decide +kernel
def RX2 : String := "AlikeSteps$Asker"
def TX2 : u_T := fun k => match k with
  | 0 => ("AlikeSteps$Asker", "trail", "[I", true)
  | 1 => ("AlikeSteps$Asker", "traced", "I", false)
  | 2 => ("AlikeSteps$Asker", "state", "I", false)
  | 3 => ("AlikeSteps$Asker", "kind", "I", false)
  | 4 => ("AlikeSteps$Asker", "pairs", "I", false)
  | _ => ("AlikeSteps$Asker", "block", "I", false)
def tyX2 : Nat → FieldType := fun k => match k with
  | 0 => .array .int
  | 1 => .int
  | 2 => .int
  | 3 => .int
  | 4 => .int
  | _ => .int
theorem nmX2 : ∀ a, a < 6 → ∀ b, b < 6 → a ≠ b → (TX2 a).2.1 ≠ (TX2 b).2.1 := by decide +kernel
theorem tyX2_ok : ∀ k, k < 6 → parseFieldDescriptor (TX2 k).2.2.1 = some (tyX2 k) := by decide +kernel
def RX3 : String := "AlikeSteps$Formula"
def TX3 : u_T := fun k => match k with
  | 0 => ("AlikeSteps$Formula", "sets", "[I", true)
  | 1 => ("AlikeSteps$Formula", "rule", "I", false)
  | 2 => ("AlikeSteps$Formula", "all", "I", false)
  | 3 => ("AlikeSteps$Formula", "marked", "I", false)
  | 4 => ("AlikeSteps$Formula", "height", "I", false)
  | 5 => ("AlikeSteps$Formula", "list", "I", false)
  | 6 => ("AlikeSteps$Formula", "listOpen", "Z", false)
  | _ => ("AlikeSteps$Formula", "wrong", "Z", false)
def tyX3 : Nat → FieldType := fun k => match k with
  | 0 => .array .int
  | 1 => .int
  | 2 => .int
  | 3 => .int
  | 4 => .int
  | 5 => .int
  | 6 => .boolean
  | _ => .boolean
theorem nmX3 : ∀ a, a < 8 → ∀ b, b < 8 → a ≠ b → (TX3 a).2.1 ≠ (TX3 b).2.1 := by decide +kernel
theorem tyX3_ok : ∀ k, k < 8 → parseFieldDescriptor (TX3 k).2.2.1 = some (tyX3 k) := by decide +kernel
def RX4 : String := "AlikeSteps$Net"
def TX4 : u_T := fun k => match k with
  | 0 => ("AlikeSteps$Net", "kinds", "[I", true)
  | 1 => ("AlikeSteps$Net", "arcParts", "[I", true)
  | 2 => ("AlikeSteps$Net", "states", "I", false)
  | 3 => ("AlikeSteps$Net", "arcs", "I", false)
  | _ => ("AlikeSteps$Net", "version", "I", false)
def tyX4 : Nat → FieldType := fun k => match k with
  | 0 => .array .int
  | 1 => .array .int
  | 2 => .int
  | 3 => .int
  | _ => .int
theorem nmX4 : ∀ a, a < 5 → ∀ b, b < 5 → a ≠ b → (TX4 a).2.1 ≠ (TX4 b).2.1 := by decide +kernel
theorem tyX4_ok : ∀ k, k < 5 → parseFieldDescriptor (TX4 k).2.2.1 = some (tyX4 k) := by decide +kernel
def RX5 : String := "AlikeSteps$Parting"
def TX5 : u_T := fun k => match k with
  | 0 => ("AlikeSteps$Parting", "rule", "I", true)
  | 1 => ("AlikeSteps$Parting", "blocks", "[I", true)
  | 2 => ("AlikeSteps$Parting", "signs", "[J", true)
  | 3 => ("AlikeSteps$Parting", "states", "I", false)
  | 4 => ("AlikeSteps$Parting", "rounds", "I", false)
  | 5 => ("AlikeSteps$Parting", "parts", "I", false)
  | _ => ("AlikeSteps$Parting", "seen", "I", false)
def tyX5 : Nat → FieldType := fun k => match k with
  | 0 => .int
  | 1 => .array .int
  | 2 => .array .long
  | 3 => .int
  | 4 => .int
  | 5 => .int
  | _ => .int
theorem nmX5 : ∀ a, a < 7 → ∀ b, b < 7 → a ≠ b → (TX5 a).2.1 ≠ (TX5 b).2.1 := by decide +kernel
theorem tyX5_ok : ∀ k, k < 7 → parseFieldDescriptor (TX5 k).2.2.1 = some (tyX5 k) := by decide +kernel
def RX6 : String := "AlikeSteps$Rows"
def TX6 : u_T := fun k => match k with
  | 0 => ("AlikeSteps$Rows", "lanes", "[I", true)
  | 1 => ("AlikeSteps$Rows", "lengths", "[I", true)
  | _ => ("AlikeSteps$Rows", "items", "[I", true)
def tyX6 : Nat → FieldType := fun k => match k with
  | 0 => .array .int
  | 1 => .array .int
  | _ => .array .int
theorem nmX6 : ∀ a, a < 3 → ∀ b, b < 3 → a ≠ b → (TX6 a).2.1 ≠ (TX6 b).2.1 := by decide +kernel
theorem tyX6_ok : ∀ k, k < 3 → parseFieldDescriptor (TX6 k).2.2.1 = some (tyX6 k) := by decide +kernel
def RX7 : String := "AlikeSteps$Steps"
def TX7 : u_T := fun k => match k with
  | 0 => ("AlikeSteps$Steps", "goes", "[I", true)
  | 1 => ("AlikeSteps$Steps", "closed", "[I", true)
  | _ => ("AlikeSteps$Steps", "seen", "I", false)
def tyX7 : Nat → FieldType := fun k => match k with
  | 0 => .array .int
  | 1 => .array .int
  | _ => .int
theorem nmX7 : ∀ a, a < 3 → ∀ b, b < 3 → a ≠ b → (TX7 a).2.1 ≠ (TX7 b).2.1 := by decide +kernel
theorem tyX7_ok : ∀ k, k < 3 → parseFieldDescriptor (TX7 k).2.2.1 = some (tyX7 k) := by decide +kernel
def RX8 : String := "AlikeSteps$Tape"
def TX8 : u_T := fun k => match k with
  | 0 => ("AlikeSteps$Tape", "bytes", "[I", true)
  | 1 => ("AlikeSteps$Tape", "length", "I", false)
  | _ => ("AlikeSteps$Tape", "at", "I", false)
def tyX8 : Nat → FieldType := fun k => match k with
  | 0 => .array .int
  | 1 => .int
  | _ => .int
theorem nmX8 : ∀ a, a < 3 → ∀ b, b < 3 → a ≠ b → (TX8 a).2.1 ≠ (TX8 b).2.1 := by decide +kernel
theorem tyX8_ok : ∀ k, k < 3 → parseFieldDescriptor (TX8 k).2.2.1 = some (tyX8 k) := by decide +kernel
def RX9 : String := "AlikeSteps$Teller"
def TX9 : u_T := fun k => match k with
  | 0 => ("AlikeSteps$Teller", "rule", "I", true)
  | 1 => ("AlikeSteps$Teller", "partedIn", "[I", true)
  | 2 => ("AlikeSteps$Teller", "leads", "[I", true)
  | 3 => ("AlikeSteps$Teller", "sizes", "[J", true)
  | _ => ("AlikeSteps$Teller", "seen", "I", false)
def tyX9 : Nat → FieldType := fun k => match k with
  | 0 => .int
  | 1 => .array .int
  | 2 => .array .int
  | 3 => .array .long
  | _ => .int
theorem nmX9 : ∀ a, a < 5 → ∀ b, b < 5 → a ≠ b → (TX9 a).2.1 ≠ (TX9 b).2.1 := by decide +kernel
theorem tyX9_ok : ∀ k, k < 5 → parseFieldDescriptor (TX9 k).2.2.1 = some (tyX9 k) := by decide +kernel
def RX10 : String := "AlikeSteps"
def TX10 : u_T := fun k => match k with
  | 0 => ("AlikeSteps", "rows", "LAlikeSteps$Rows;", true)
  | 1 => ("AlikeSteps", "tape", "LAlikeSteps$Tape;", true)
  | 2 => ("AlikeSteps", "net", "LAlikeSteps$Net;", true)
  | 3 => ("AlikeSteps", "draft", "LAlikeSteps$Net;", true)
  | 4 => ("AlikeSteps", "trial", "LAlikeSteps$Net;", true)
  | 5 => ("AlikeSteps", "images", "[LAlikeSteps$Net;", true)
  | 6 => ("AlikeSteps", "acts", "LAlikeSteps$Acts;", true)
  | 7 => ("AlikeSteps", "alike", "LAlikeSteps$Alike;", true)
  | 8 => ("AlikeSteps", "alikeInTrial", "LAlikeSteps$Alike;", true)
  | 9 => ("AlikeSteps", "tellers", "[LAlikeSteps$Teller;", true)
  | 10 => ("AlikeSteps", "formula", "LAlikeSteps$Formula;", true)
  | 11 => ("AlikeSteps", "asker", "LAlikeSteps$Asker;", true)
  | 12 => ("AlikeSteps", "latestFault", "I", false)
  | _ => ("AlikeSteps", "latestFinding", "I", false)
def tyX10 : Nat → FieldType := fun k => match k with
  | 0 => .object "AlikeSteps$Rows"
  | 1 => .object "AlikeSteps$Tape"
  | 2 => .object "AlikeSteps$Net"
  | 3 => .object "AlikeSteps$Net"
  | 4 => .object "AlikeSteps$Net"
  | 5 => .array (.object "AlikeSteps$Net")
  | 6 => .object "AlikeSteps$Acts"
  | 7 => .object "AlikeSteps$Alike"
  | 8 => .object "AlikeSteps$Alike"
  | 9 => .array (.object "AlikeSteps$Teller")
  | 10 => .object "AlikeSteps$Formula"
  | 11 => .object "AlikeSteps$Asker"
  | 12 => .int
  | _ => .int
theorem nmX10 : ∀ a, a < 14 → ∀ b, b < 14 → a ≠ b → (TX10 a).2.1 ≠ (TX10 b).2.1 := by decide +kernel
theorem tyX10_ok : ∀ k, k < 14 → parseFieldDescriptor (TX10 k).2.2.1 = some (tyX10 k) := by decide +kernel
def RX11 : String := "AlikeStepsModel"
def TX11 : u_T := fun k => match k with
  | 0 => ("AlikeStepsModel", "lane", "[I", true)
  | 1 => ("AlikeStepsModel", "many", "[I", true)
  | 2 => ("AlikeStepsModel", "items", "[I", true)
  | 3 => ("AlikeStepsModel", "spare", "[I", true)
  | 4 => ("AlikeStepsModel", "status", "I", false)
  | 5 => ("AlikeStepsModel", "tape", "[I", true)
  | 6 => ("AlikeStepsModel", "taped", "I", false)
  | 7 => ("AlikeStepsModel", "faultKind", "I", false)
  | 8 => ("AlikeStepsModel", "faultPlace", "I", false)
  | 9 => ("AlikeStepsModel", "at", "I", false)
  | 10 => ("AlikeStepsModel", "start", "I", false)
  | 11 => ("AlikeStepsModel", "token", "I", false)
  | 12 => ("AlikeStepsModel", "value", "I", false)
  | 13 => ("AlikeStepsModel", "now", "[I", true)
  | 14 => ("AlikeStepsModel", "draft", "[I", true)
  | 15 => ("AlikeStepsModel", "past", "[I", true)
  | 16 => ("AlikeStepsModel", "acts", "I", false)
  | 17 => ("AlikeStepsModel", "images", "[I", true)
  | 18 => ("AlikeStepsModel", "kept", "[Z", true)
  | 19 => ("AlikeStepsModel", "system", "[I", true)
  | 20 => ("AlikeStepsModel", "goes", "[I", true)
  | 21 => ("AlikeStepsModel", "silent", "[I", true)
  | 22 => ("AlikeStepsModel", "blocks", "[I", true)
  | 23 => ("AlikeStepsModel", "rounds", "I", false)
  | 24 => ("AlikeStepsModel", "signs", "[J", true)
  | 25 => ("AlikeStepsModel", "codes", "[I", true)
  | 26 => ("AlikeStepsModel", "depths", "[I", true)
  | 27 => ("AlikeStepsModel", "letters", "[I", true)
  | 28 => ("AlikeStepsModel", "ones", "[I", true)
  | 29 => ("AlikeStepsModel", "sets", "[I", true)
  | 30 => ("AlikeStepsModel", "isList", "[Z", true)
  | 31 => ("AlikeStepsModel", "trace", "[I", true)
  | _ => ("AlikeStepsModel", "traced", "I", false)
def tyX11 : Nat → FieldType := fun k => match k with
  | 0 => .array .int
  | 1 => .array .int
  | 2 => .array .int
  | 3 => .array .int
  | 4 => .int
  | 5 => .array .int
  | 6 => .int
  | 7 => .int
  | 8 => .int
  | 9 => .int
  | 10 => .int
  | 11 => .int
  | 12 => .int
  | 13 => .array .int
  | 14 => .array .int
  | 15 => .array .int
  | 16 => .int
  | 17 => .array .int
  | 18 => .array .boolean
  | 19 => .array .int
  | 20 => .array .int
  | 21 => .array .int
  | 22 => .array .int
  | 23 => .int
  | 24 => .array .long
  | 25 => .array .int
  | 26 => .array .int
  | 27 => .array .int
  | 28 => .array .int
  | 29 => .array .int
  | 30 => .array .boolean
  | 31 => .array .int
  | _ => .int
theorem nmX11 : ∀ a, a < 33 → ∀ b, b < 33 → a ≠ b → (TX11 a).2.1 ≠ (TX11 b).2.1 := by decide +kernel
theorem tyX11_ok : ∀ k, k < 33 → parseFieldDescriptor (TX11 k).2.2.1 = some (tyX11 k) := by decide +kernel
def RJ6 : String := "java/lang/Integer"
def RJ9 : String := "java/lang/Math"
def RJ10 : String := "java/lang/System"
def RL : String := "AlikeStepsLaw"
abbrev vwCl : List vw_C := [(RX0, TX0, 2), (RX1, TX1, 2), (RX2, TX2, 6), (RX3, TX3, 8), (RX4, TX4, 5), (RX5, TX5, 7), (RX6, TX6, 3), (RX7, TX7, 3), (RX8, TX8, 3), (RX9, TX9, 5), (RX10, TX10, 14), (RX11, TX11, 33)]
def pj_tb : List Cond := lw_tbl.filter goodWord
theorem pj_mem (i : Nat) {c : Cond} (h : lw_tbl[i]? = some c) (hg : goodWord c = true) : c ∈ pj_tb := List.mem_filter.mpr ⟨List.mem_of_getElem? h, hg⟩
theorem pj_memL {ws : List Cond} (is : List Nat) (h : ws = is.filterMap (fun i => lw_tbl[i]?)) (hg : ws.all goodWord = true) : ∀ c ∈ ws, c ∈ pj_tb := by
  intro c hc
  have h1 := List.all_eq_true.mp hg c hc
  rw [h] at hc
  obtain ⟨i, -, hi⟩ := List.mem_filterMap.mp hc
  exact pj_mem i hi h1
theorem pj_goodIn : GoodIn pj_tb pj_tb := fun c hc => ⟨hc, good_of_word (List.mem_filter.mp hc).2⟩
theorem wiX0 : ∀ c ∈ u_ws RX0 TX0 2, c ∈ pj_tb := pj_memL [168, 170] (by decide +kernel) (by decide +kernel)
theorem wiX1 : ∀ c ∈ u_ws RX1 TX1 2, c ∈ pj_tb := pj_memL [227, 229] (by decide +kernel) (by decide +kernel)
theorem wiX2 : ∀ c ∈ u_ws RX2 TX2 6, c ∈ pj_tb := pj_memL [277, 279, 281, 283, 285, 287] (by decide +kernel) (by decide +kernel)
theorem wiX3 : ∀ c ∈ u_ws RX3 TX3 8, c ∈ pj_tb := pj_memL [248, 250, 252, 254, 256, 258, 260, 262] (by decide +kernel) (by decide +kernel)
theorem wiX4 : ∀ c ∈ u_ws RX4 TX4 5, c ∈ pj_tb := pj_memL [148, 150, 152, 154, 156] (by decide +kernel) (by decide +kernel)
theorem wiX5 : ∀ c ∈ u_ws RX5 TX5 7, c ∈ pj_tb := pj_memL [209, 211, 213, 215, 217, 219, 221] (by decide +kernel) (by decide +kernel)
theorem wiX6 : ∀ c ∈ u_ws RX6 TX6 3, c ∈ pj_tb := pj_memL [113, 115, 117] (by decide +kernel) (by decide +kernel)
theorem wiX7 : ∀ c ∈ u_ws RX7 TX7 3, c ∈ pj_tb := pj_memL [188, 190, 192] (by decide +kernel) (by decide +kernel)
theorem wiX8 : ∀ c ∈ u_ws RX8 TX8 3, c ∈ pj_tb := pj_memL [130, 132, 134] (by decide +kernel) (by decide +kernel)
theorem wiX9 : ∀ c ∈ u_ws RX9 TX9 5, c ∈ pj_tb := pj_memL [300, 302, 304, 306, 308] (by decide +kernel) (by decide +kernel)
theorem wiX10 : ∀ c ∈ u_ws RX10 TX10 14, c ∈ pj_tb := pj_memL [325, 327, 329, 331, 333, 335, 337, 339, 341, 343, 345, 347, 349, 351] (by decide +kernel) (by decide +kernel)
theorem wiX11 : ∀ c ∈ u_ws RX11 TX11 33, c ∈ pj_tb := pj_memL [1051, 1053, 1055, 1057, 1059, 1061, 1063, 1065, 1067, 1069, 1071, 1073, 1075, 1077, 1079, 1081, 1083, 1085, 1087, 1089, 1091, 1093, 1095, 1097, 1099, 1101, 1103, 1105, 1107, 1109, 1111, 1113, 1115] (by decide +kernel) (by decide +kernel)
/-- of a class: a field that is a number, or (kind, what, how far away) of the cell that it holds -/
def pj_ct : Nat → List (Option (Nat × Nat × Nat)) := fun c => match c with
  | 0 => [some (1, 100, 1), none]
  | 1 => [some (0, 7, 1), some (4, 5, 4)]
  | 2 => [some (1, 16, 1), none, none, none, none, none]
  | 3 => [some (1, 30, 1), none, none, none, none, none, none, none]
  | 4 => [some (1, 10, 1), some (1, 60, 2), none, none, none]
  | 5 => [none, some (1, 110, 1), some (2, 10, 2), none, none, none, none]
  | 6 => [some (1, 8, 1), some (1, 8, 2), some (1, 320, 3)]
  | 7 => [some (1, 40, 1), some (1, 40, 2), none]
  | 8 => [some (1, 140, 1), none, none]
  | 9 => [none, some (1, 100, 1), some (1, 100, 2), some (2, 100, 3), none]
  | 10 => [some (0, 6, 1), some (0, 8, 5), some (0, 4, 7), some (0, 4, 10), some (0, 4, 13), some (4, 4, 16), some (0, 0, 17), some (0, 1, 19), some (0, 1, 36), some (4, 9, 53), some (0, 3, 54), some (0, 2, 56), none, none]
  | _ => [some (1, 8, 1), some (1, 8, 2), some (1, 320, 3), some (1, 40, 4), none, some (1, 140, 5), none, none, none, none, none, none, none, some (1, 72, 6), some (1, 72, 7), some (1, 1440, 8), none, some (1, 144, 9), some (3, 2, 10), some (1, 72, 11), some (1, 40, 12), some (1, 10, 13), some (1, 220, 14), none, some (2, 10, 15), some (1, 100, 16), some (1, 100, 17), some (1, 100, 18), some (1, 100, 19), some (1, 30, 20), some (3, 30, 21), some (1, 16, 22), none]
def pj_rlen : Nat → Nat := fun c => match c with
  | 4 => 2
  | 5 => 4
  | 9 => 2
  | _ => 0
def pj_roff : Nat → Nat := fun c => match c with
  | 4 => 42
  | 5 => 1
  | 9 => 11
  | _ => 0
def pj_rstr : Nat → Nat := fun c => match c with
  | 4 => 3
  | 5 => 3
  | 9 => 4
  | _ => 0
/-- the cells, in the order in which they are made: (0, class), (1, length) ints, (2, length) longs, (3, length) booleans, (4, class) references -/
def pj_lay : List (Nat × Nat) := [(0, 10), (0, 6), (1, 8), (1, 8), (1, 320), (0, 8), (1, 140), (0, 4), (1, 10), (1, 60), (0, 4), (1, 10), (1, 60), (0, 4), (1, 10), (1, 60), (4, 4), (0, 0), (1, 100), (0, 1), (0, 7), (1, 40), (1, 40), (4, 5), (0, 5), (1, 110), (2, 10), (0, 5), (1, 110), (2, 10), (0, 5), (1, 110), (2, 10), (0, 5), (1, 110), (2, 10), (0, 1), (0, 7), (1, 40), (1, 40), (4, 5), (0, 5), (1, 110), (2, 10), (0, 5), (1, 110), (2, 10), (0, 5), (1, 110), (2, 10), (0, 5), (1, 110), (2, 10), (4, 9), (0, 3), (1, 30), (0, 2), (1, 16), (0, 4), (1, 10), (1, 60), (0, 4), (1, 10), (1, 60), (0, 9), (1, 100), (1, 100), (2, 100), (0, 9), (1, 100), (1, 100), (2, 100), (0, 11), (1, 8), (1, 8), (1, 320), (1, 40), (1, 140), (1, 72), (1, 72), (1, 1440), (1, 144), (3, 2), (1, 72), (1, 40), (1, 10), (1, 220), (2, 10), (1, 100), (1, 100), (1, 100), (1, 100), (1, 30), (3, 30), (1, 16)]
theorem pj_lay_len : pj_lay.length = 95 := by decide +kernel
abbrev pj_nw : Cond := .methodLinkNest RX7 81 ⟨RX10, "isA", "(II)Z"⟩ "AlikeSteps"
end
section
/-! PART 03: A PURE MACHINE over the fixed layout: a memory of numbers (ints, longs) by cell and place; values; what an instruction does, in continuation form; and that each such step is what the machine does (pj_S). -/
abbrev pj_M : Type := (Nat → Nat → Int32) × (Nat → Nat → Int64)
abbrev pj_V : Type := Int32 ⊕ (Int64 ⊕ (Nat × Nat × Nat))
/-- the world's unknowns: classes' numbers and slots, addresses of cells, array classes, the script -/
abbrev pj_E : Type := va_G × (Nat → Nat) × (ClassId × ClassId × ClassId × (Nat → ClassId)) × (Nat × Nat × (Nat → Int32))
def pj_tys (G : pj_E) : List (ClassId × FieldType) := [(G.2.2.1.1, .int), (G.2.2.1.2.1, .long), (G.2.2.1.2.2.1, .boolean), (G.2.2.1.2.2.2 4, .object "AlikeSteps$Net"), (G.2.2.1.2.2.2 5, .object "AlikeSteps$Parting"), (G.2.2.1.2.2.2 9, .object "AlikeSteps$Teller")]
def pj_tr (G : pj_E) (v : pj_V) : Value := match v with
  | .inl x => .int x
  | .inr (.inl y) => .long y
  | .inr (.inr (t, _, a)) => if t = 5 then .ref G.2.2.2.1 else .ref (G.2.1 a)
def pj_okv (v : pj_V) : Prop := match v with
  | .inr (.inr (t, x, a)) => t = 5 ∨ pj_lay[a]? = some (t, x)
  | _ => True
def pj_fv (G : pj_E) (m : pj_M) (a k : Nat) (f : Option (Nat × Nat × Nat)) : Value := match f with
  | none => .int (m.1 a k)
  | some q => .ref (G.2.1 (a + q.2.2))
def pj_ent (G : pj_E) (m : pj_M) (a : Nat) (q : Nat × Nat) : va_E := match q with
  | (0, x) => .inr (x, (pj_ct x).mapIdx (fun k f => pj_fv G m a k f))
  | (1, x) => .inl (G.2.2.1.1, (x, .inl (m.1 a)))
  | (2, x) => .inl (G.2.2.1.2.1, (x, .inr (.inl (m.2 a))))
  | (3, x) => .inl (G.2.2.1.2.2.1, (x, .inl (m.1 a)))
  | (_, x) => .inl (G.2.2.1.2.2.2 x, (pj_rlen x, .inr (.inr (.inr (.inr (fun i => some (G.2.1 (a + pj_roff x + pj_rstr x * i))))))))
def pj_ws (G : pj_E) (m : pj_M) : va_W := pj_lay.mapIdx (fun a q => (G.2.1 a, pj_ent G m a q))
theorem pj_ws_at {G : pj_E} {m : pj_M} {a : Nat} {q : Nat × Nat} (h : pj_lay[a]? = some q) : (pj_ws G m)[a]? = some (G.2.1 a, pj_ent G m a q) := by
  simp [pj_ws, h]
theorem pj_ws_of {G : pj_E} {m : pj_M} {a : Nat} {q : Nat × va_E} (h : (pj_ws G m)[a]? = some q) : ∃ t, pj_lay[a]? = some t ∧ q = (G.2.1 a, pj_ent G m a t) := by
  simp only [pj_ws, List.getElem?_mapIdx, Option.map_eq_some_iff] at h
  obtain ⟨t, h1, h2⟩ := h
  exact ⟨t, h1, h2.symm⟩
theorem pj_ent_congr {G : pj_E} {m m' : pj_M} {a : Nat} {q : Nat × Nat} (h1 : m'.1 a = m.1 a) (h2 : m'.2 a = m.2 a) : pj_ent G m' a q = pj_ent G m a q := by
  have hf : ∀ k f, pj_fv G m' a k f = pj_fv G m a k f := by
    intro k f
    cases f with
    | none => simp [pj_fv, h1]
    | some _ => rfl
  unfold pj_ent
  split <;> simp [h1, h2, hf]
theorem pj_ws_set {G : pj_E} {m m' : pj_M} {a : Nat} {q : Nat × Nat} (h : pj_lay[a]? = some q) (h1 : ∀ j, j ≠ a → m'.1 j = m.1 j) (h2 : ∀ j, j ≠ a → m'.2 j = m.2 j) : (pj_ws G m).set a (G.2.1 a, pj_ent G m' a q) = pj_ws G m' := by
  apply List.ext_getElem?
  intro j
  by_cases hj : j = a
  · subst hj
    rw [pj_ws_at h, List.getElem?_set]
    have hl : j < (pj_ws G m).length := by
      have := (List.getElem?_eq_some_iff.mp h).1
      simpa [pj_ws] using this
    simp [hl]
  · rw [List.getElem?_set_ne (by omega)]
    simp only [pj_ws, List.getElem?_mapIdx]
    cases hq : pj_lay[j]? with
    | none => rfl
    | some t => simp [pj_ent_congr (G := G) (q := t) (h1 j hj) (h2 j hj)]
theorem pj_D_irr {G : pj_E} {A : Nat → Prop} {m m' : pj_M} (h : va_D A (pj_ws G m)) : va_D A (pj_ws G m') := by
  refine ⟨fun i j p q hp hq hpq => ?_, fun k q hk => ?_⟩
  · obtain ⟨t1, h1, rfl⟩ := pj_ws_of hp
    obtain ⟨t2, h2, rfl⟩ := pj_ws_of hq
    exact h.1 i j _ _ (pj_ws_at h1) (pj_ws_at h2) hpq
  · obtain ⟨t1, h1, rfl⟩ := pj_ws_of hk
    exact h.2 k (G.2.1 k, pj_ent G m k t1) (pj_ws_at h1)
/-- a number is written; a stretch of ints is copied -/
def pj_wr (m : pj_M) (a k : Nat) (v : Int32) : pj_M := (fun j => if j = a then upd (m.1 a) k v else m.1 j, m.2)
def pj_wl (m : pj_M) (a k : Nat) (v : Int64) : pj_M := (m.1, fun j => if j = a then vp_updL (m.2 a) k v else m.2 j)
def pj_cp (m : pj_M) (a0 sp a1 dp n : Nat) : pj_M := (fun j => if j = a1 then va_cpy (m.1 a0) (m.1 a1) sp dp n else m.1 j, m.2)
/-- locals -/
def pj_inv (L : List (Option pj_V)) (i : Nat) : List (Option pj_V) := match i with
  | 0 => L
  | j + 1 => match L[j]? with
    | some (some (.inr (.inl _))) => L.set j none
    | _ => L
def pj_st1 (L : List (Option pj_V)) (i : Nat) (v : pj_V) : List (Option pj_V) := (pj_inv L i).set i (some v)
def pj_st2 (L : List (Option pj_V)) (i : Nat) (v : pj_V) : List (Option pj_V) := ((pj_inv L i).set i (some v)).set (i + 1) none
def pj_isl (v : pj_V) : Bool := match v with
  | .inr (.inl _) => true
  | _ => false
def pj_cat (st : List pj_V) : Nat := match st with
  | [] => 0
  | v :: st => (match v with
    | .inr (.inl _) => 2
    | _ => 1) + pj_cat st
def pj_l0 (as : List pj_V) : List (Option pj_V) := match as with
  | [] => []
  | .inr (.inl y) :: as => some (.inr (.inl y)) :: none :: pj_l0 as
  | .inl x :: as => some (.inl x) :: pj_l0 as
  | .inr (.inr r) :: as => some (.inr (.inr r)) :: pj_l0 as
theorem pj_tr_cat (G : pj_E) (v : pj_V) : (pj_tr G v).category = 2 ↔ pj_isl v = true := by
  rcases v with x | y | ⟨t, x, a⟩
  · simp [pj_tr, pj_isl, Value.category]
  · simp [pj_tr, pj_isl, Value.category]
  · simp only [pj_tr, pj_isl]
    split <;> simp [Value.category]
theorem pj_cat_eq (G : pj_E) (st : List pj_V) : ((st.map (pj_tr G)).map fun v => v.category).sum = pj_cat st := by
  induction st with
  | nil => rfl
  | cons v st ih =>
    simp only [List.map_cons, List.sum_cons, pj_cat, ih]
    congr 1
    rcases v with x | y | ⟨t, x, a⟩
    · rfl
    · rfl
    · simp only [pj_tr]
      split <;> rfl
def pj_F (G : pj_E) (nL : Nat) (L : List (Option pj_V)) (st : List pj_V) (ls : Array Slot) : Prop :=
  ls.size = nL ∧ lv_wf ls ∧ L.length = nL ∧ (∀ (i : Nat) (v : pj_V), L[i]? = some (some v) → ls[i]? = some (Slot.val (pj_tr G v)) ∧ pj_okv v) ∧ ∀ v ∈ st, pj_okv v
def pj_lv (G : pj_E) (L : List (Option pj_V)) : List (Nat × Value) := (List.range L.length).filterMap (fun i => match L[i]? with
  | some (some v) => some (i, pj_tr G v)
  | _ => none)
theorem pj_lv_mem {G : pj_E} {L : List (Option pj_V)} {q : Nat × Value} : q ∈ pj_lv G L ↔ ∃ v, L[q.1]? = some (some v) ∧ q.2 = pj_tr G v := by
  unfold pj_lv
  rw [List.mem_filterMap]
  constructor
  · rintro ⟨i, hi, h⟩
    split at h
    · rename_i v hv
      cases h
      exact ⟨v, hv, rfl⟩
    · cases h
  · rintro ⟨v, hv, h2⟩
    refine ⟨q.1, List.mem_range.mpr (List.getElem?_eq_some_iff.mp hv).1, ?_⟩
    rw [hv]
    show some (q.1, pj_tr G v) = some q
    rw [← h2]
theorem pj_F.has {G : pj_E} {nL : Nat} {L : List (Option pj_V)} {st : List pj_V} {ls : Array Slot} (h : pj_F G nL L st ls) : lv_has ls nL (pj_lv G L) := by
  refine ⟨h.1, h.2.1, fun q hq => ?_⟩
  obtain ⟨v, hv, h2⟩ := pj_lv_mem.mp hq
  rw [h2]
  exact (h.2.2.2.1 _ _ hv).1
theorem pj_inv_len (L : List (Option pj_V)) (i : Nat) : (pj_inv L i).length = L.length := by
  unfold pj_inv
  split
  · rfl
  · split <;> simp
theorem pj_inv_at {L : List (Option pj_V)} {i j : Nat} {v : pj_V} (h : (pj_inv L i)[j]? = some (some v)) : L[j]? = some (some v) ∧ ¬ (j + 1 = i ∧ pj_isl v = true) := by
  unfold pj_inv at h
  split at h
  · exact ⟨h, fun q => by omega⟩
  · rename_i k
    split at h
    · rename_i y hy
      by_cases hj : j = k
      · subst hj
        rw [List.getElem?_set_self (List.getElem?_eq_some_iff.mp hy).1] at h
        cases h
      · rw [List.getElem?_set_ne (by omega)] at h
        exact ⟨h, fun q => by omega⟩
    · rename_i hn
      refine ⟨h, fun q => ?_⟩
      have hj : j = k := by omega
      subst hj
      rcases v with x | y | r
      · simp [pj_isl] at q
      · exact hn y h
      · simp [pj_isl] at q
theorem pj_F.st1 {G : pj_E} {nL i : Nat} {L : List (Option pj_V)} {st : List pj_V} {v : pj_V} {ls ls' : Array Slot} (h : pj_F G nL L (v :: st) ls)
    (h' : lv_has ls' nL ((i, pj_tr G v) :: (pj_lv G L).filter (fun q => !(q.1 == i) && !(q.1 + 1 == i && q.2.category == 2)))) : pj_F G nL (pj_st1 L i v) st ls' := by
  obtain ⟨h1, h2, h3, h4, h5⟩ := h
  refine ⟨h'.1, h'.2.1, by simp [pj_st1, pj_inv_len, h3], fun j u hu => ?_, fun u hu => h5 u (List.mem_cons_of_mem _ hu)⟩
  unfold pj_st1 at hu
  by_cases hj : j = i
  · subst hj
    have hl := (List.getElem?_eq_some_iff.mp hu).1
    rw [List.length_set] at hl
    rw [List.getElem?_set_self hl] at hu
    cases hu
    exact ⟨h'.2.2 _ List.mem_cons_self, h5 _ List.mem_cons_self⟩
  · rw [List.getElem?_set_ne (by omega)] at hu
    obtain ⟨hu1, hu2⟩ := pj_inv_at hu
    refine ⟨h'.2.2 (j, pj_tr G u) (List.mem_cons_of_mem _ (List.mem_filter.mpr ⟨pj_lv_mem.mpr ⟨u, hu1, rfl⟩, ?_⟩)), (h4 _ _ hu1).2⟩
    simp only [Bool.and_eq_true, Bool.not_eq_true', beq_eq_false_iff_ne, ne_eq, Bool.and_eq_false_imp, beq_iff_eq]
    refine ⟨hj, fun e1 => ?_⟩
    intro e2
    exact hu2 ⟨e1, (pj_tr_cat G u).mp e2⟩
theorem pj_F.st2 {G : pj_E} {nL i : Nat} {L : List (Option pj_V)} {st : List pj_V} {v : pj_V} {ls ls' : Array Slot} (h : pj_F G nL L (v :: st) ls)
    (h' : lv_has ls' nL ((i, pj_tr G v) :: (pj_lv G L).filter (fun q => !(q.1 == i) && (!(q.1 == i + 1) && !(q.1 + 1 == i && q.2.category == 2))))) : pj_F G nL (pj_st2 L i v) st ls' := by
  obtain ⟨h1, h2, h3, h4, h5⟩ := h
  refine ⟨h'.1, h'.2.1, by simp [pj_st2, pj_inv_len, h3], fun j u hu => ?_, fun u hu => h5 u (List.mem_cons_of_mem _ hu)⟩
  unfold pj_st2 at hu
  by_cases hj1 : j = i + 1
  · subst hj1
    have hl := (List.getElem?_eq_some_iff.mp hu).1
    rw [List.length_set] at hl
    rw [List.getElem?_set_self hl] at hu
    cases hu
  rw [List.getElem?_set_ne (by omega)] at hu
  by_cases hj : j = i
  · subst hj
    have hl := (List.getElem?_eq_some_iff.mp hu).1
    rw [List.length_set] at hl
    rw [List.getElem?_set_self hl] at hu
    cases hu
    exact ⟨h'.2.2 _ List.mem_cons_self, h5 _ List.mem_cons_self⟩
  · rw [List.getElem?_set_ne (by omega)] at hu
    obtain ⟨hu1, hu2⟩ := pj_inv_at hu
    refine ⟨h'.2.2 (j, pj_tr G u) (List.mem_cons_of_mem _ (List.mem_filter.mpr ⟨pj_lv_mem.mpr ⟨u, hu1, rfl⟩, ?_⟩)), (h4 _ _ hu1).2⟩
    simp only [Bool.and_eq_true, Bool.not_eq_true', beq_eq_false_iff_ne, ne_eq, Bool.and_eq_false_imp, beq_iff_eq]
    refine ⟨hj, hj1, fun e1 => ?_⟩
    intro e2
    exact hu2 ⟨e1, (pj_tr_cat G u).mp e2⟩
end
section
/-! PART 04: steps of the pure machine (qs_..), each with its row that the machine does it (qz_..). Written by wip/whole/gen/mkcore.py -/
abbrev pj_X : Type := pj_E × (Nat → Prop) × (ByteArray × String × Nat × Option FieldType × Nat) × (Program × Launch × Env × Room) × (State × MethodId × Array Value × List Frame × Method × Code) × (Nat × Nat × (State → Prop))
def pj_cc (X : pj_X) : ByteArray := X.2.2.1.1
def pj_own (X : pj_X) : String := X.2.2.1.2.1
def pj_rk (X : pj_X) : Nat := X.2.2.1.2.2.2.2
def pj_retT (X : pj_X) : Option FieldType := X.2.2.1.2.2.2.1
def pj_rm (r : Nat) : Room := { frames := r + 1, cells := 0, slots := 0, locals := 60 * (r + 1) }
/-- what stands while a method's body runs -/
def pj_C (X : pj_X) : Prop := match X with
  | (G, A, (cc, own, nL, _, rk), (p, _, _, R), (s, mi, args, _, _, c), (cells, slots, _)) =>
    p.tables.exec = Jvm.exec ∧ c.code = cc ∧ c.maxLocals = nL ∧ s.vm.findClass own = some mi.cls ∧ (∀ w ∈ pj_tb, w.before args s = true) ∧ va_K G.1 vwCl (pj_tys G) s ∧ va_Nw pj_nw s ∧
    rk + 1 ≤ R.frames ∧ 60 * (rk + 1) ≤ R.locals ∧ cells ≤ R.cells ∧ slots ≤ R.slots ∧ va_X G.2.2.2.1 G.2.2.2.2.1 G.2.2.2.2.2 s s.heap ∧ G.2.2.2.1 < s.heap.size ∧ ¬ A G.2.2.2.1
def pj_H (G : pj_E) (A : Nat → Prop) (m : pj_M) (s : State) (H : Heap) (locs : List Loc) : Prop := va_P G.1 vwCl (pj_ws G m) H ∧ va_D A (pj_ws G m) ∧ va_S A s.heap H locs
def pj_W (X : pj_X) (pc : Nat) (L : List (Option pj_V)) (st : List pj_V) (m : pj_M) : Prop := match X with
  | (G, A, (_, _, nL, _, _), (p, l, e, R), (s, mi, args, below, meth, c), (cells, slots, Q)) =>
    ∀ (ls : Array Slot) (H : Heap) (locs : List Loc), pj_F G nL L st ls → pj_H G A m s H locs → W p l e R s mi args below meth c H locs cells slots Q (F0 mi pc ls (st.map (pj_tr G)))
def pj_rd (cc : ByteArray) (ret : Option FieldType) (o : Option pj_V) (pc : Nat) : Prop := match o with
  | none => decode cc pc = .ok (.return_, 1) ∧ ret = none
  | some (.inl v) => decode cc pc = .ok (.ireturn, 1) ∧ ∃ ty, ret = some ty ∧ narrow ty (.int v) = .int v
  | some (.inr (.inl _)) => decode cc pc = .ok (.lreturn, 1) ∧ ret = some .long
  | some (.inr (.inr _)) => decode cc pc = .ok (.areturn, 1) ∧ ∃ n, ret = some (.object n)
/-- a return with an answer and a memory is good for the goal -/
def pj_R (X : pj_X) (o : Option pj_V) (m : pj_M) : Prop := match X with
  | (G, A, (cc, _, _, ret, _), (p, l, e, R), (s, mi, args, below, meth, c), (cells, slots, Q)) =>
    ∀ (pc : Nat) (ls : Array Slot) (H : Heap) (locs : List Loc), pj_rd cc ret o pc → (∀ v, o = some v → pj_okv v) → pj_H G A m s H locs → W p l e R s mi args below meth c H locs cells slots Q (F0 mi pc ls ((o.map (pj_tr G)).toList))
abbrev pj_K (ρ : Type) : Type := Nat → List (Option pj_V) → List pj_V → pj_M → Option ρ
abbrev pj_T (ρ : Type) : Type := pj_K ρ → List (Option pj_V) → List pj_V → pj_M → Option ρ
/-- the step τ at pc is the machine's: where what follows is good, it is -/
def pj_S {ρ : Type} (X : pj_X) (enc : ρ → Option pj_V × pj_M) (pc : Nat) (τ : pj_T ρ) : Prop :=
  ∀ K : pj_K ρ, (∀ pc' L st m r, K pc' L st m = some r → pj_R X (enc r).1 (enc r).2 → pj_W X pc' L st m) → ∀ L st m r, τ K L st m = some r → pj_R X (enc r).1 (enc r).2 → pj_W X pc L st m
theorem pj_F.stk {G : pj_E} {nL : Nat} {L : List (Option pj_V)} {st st' : List pj_V} {ls : Array Slot} (h : pj_F G nL L st ls) (h' : ∀ v ∈ st', pj_okv v) : pj_F G nL L st' ls := ⟨h.1, h.2.1, h.2.2.1, h.2.2.2.1, h'⟩
theorem pj_okc {a : pj_V} {st : List pj_V} (h1 : pj_okv a) (h2 : ∀ v ∈ st, pj_okv v) : ∀ v ∈ a :: st, pj_okv v := fun v hv => (List.mem_cons.mp hv).elim (fun e => e ▸ h1) (h2 v)
theorem pj_ok1 {a : pj_V} {st : List pj_V} (h : ∀ v ∈ a :: st, pj_okv v) : ∀ v ∈ st, pj_okv v := fun v hv => h v (List.mem_cons_of_mem _ hv)
theorem pj_okh {a : pj_V} {st : List pj_V} (h : ∀ v ∈ a :: st, pj_okv v) : pj_okv a := h a List.mem_cons_self
theorem pj_okd {n : Nat} {st : List pj_V} (h : ∀ v ∈ st, pj_okv v) : ∀ v ∈ st.drop n, pj_okv v := fun v hv => h v (List.mem_of_mem_drop hv)
theorem pj_okt {n : Nat} {st : List pj_V} (h : ∀ v ∈ st, pj_okv v) : ∀ v ∈ (st.take n).reverse, pj_okv v := fun v hv => h v (List.mem_of_mem_take (List.mem_reverse.mp hv))
/-! steps -/
def qs_ci {ρ : Type} (v : Int32) (nx : Nat) : pj_T ρ := fun K L st m => K nx L (.inl v :: st) m
def qs_cl {ρ : Type} (v : Int64) (nx : Nat) : pj_T ρ := fun K L st m => K nx L (.inr (.inl v) :: st) m
def qs_ldi {ρ : Type} (i nx : Nat) : pj_T ρ := fun K L st m => match L[i]? with
  | some (some (.inl x)) => K nx L (.inl x :: st) m
  | _ => none
def qs_ldl {ρ : Type} (i nx : Nat) : pj_T ρ := fun K L st m => match L[i]? with
  | some (some (.inr (.inl x))) => K nx L (.inr (.inl x) :: st) m
  | _ => none
def qs_lda {ρ : Type} (i nx : Nat) : pj_T ρ := fun K L st m => match L[i]? with
  | some (some (.inr (.inr x))) => K nx L (.inr (.inr x) :: st) m
  | _ => none
def qs_sti {ρ : Type} (i nx : Nat) : pj_T ρ := fun K L st m => match st, L[i]? with
  | .inl x :: st, some _ => K nx (pj_st1 L i (.inl x)) st m
  | _, _ => none
def qs_sta {ρ : Type} (i nx : Nat) : pj_T ρ := fun K L st m => match st, L[i]? with
  | .inr (.inr x) :: st, some _ => K nx (pj_st1 L i (.inr (.inr x))) st m
  | _, _ => none
def qs_stl {ρ : Type} (i nx : Nat) : pj_T ρ := fun K L st m => match st, L[i + 1]? with
  | .inr (.inl x) :: st, some _ => K nx (pj_st2 L i (.inr (.inl x))) st m
  | _, _ => none
def qs_inc {ρ : Type} (i : Nat) (d : Int32) (nx : Nat) : pj_T ρ := fun K L st m => match L[i]? with
  | some (some (.inl x)) => K nx (pj_st1 L i (.inl (x + d))) st m
  | _ => none
theorem qz_iconst {ρ : Type} {X : pj_X} {enc : ρ → Option pj_V × pj_M} {pc : Nat} (C : pj_C X) {n : Int} {v : Int32} (hd : decode (pj_cc X) pc = .ok (.iconst n, 1)) (hv : Int32.ofInt n = v) : pj_S X enc pc (qs_ci v (pc + 1)) := by
  intro K hK L st m r h hR
  obtain ⟨G, A, ⟨cc, own, nL, ret, rk⟩, ⟨p, l, e, R⟩, ⟨s, mi, args, below, meth, c⟩, ⟨cells, slots, Q⟩⟩ := X
  obtain ⟨hx, hb, hml, hown, hts, hk, hnw, hfr, hlo, hce, hsl, hX, hbl, hbA⟩ := C
  intro ls H locs hF hH
  exact lv_iconst hx hb hd hv (hK _ _ _ _ _ h hR ls H locs (hF.stk (pj_okc trivial hF.2.2.2.2)) hH)
theorem qz_bipush {ρ : Type} {X : pj_X} {enc : ρ → Option pj_V × pj_M} {pc : Nat} (C : pj_C X) {n : Int} {v : Int32} (hd : decode (pj_cc X) pc = .ok (.bipush n, 2)) (hv : (Int8.ofInt n).toInt32 = v) : pj_S X enc pc (qs_ci v (pc + 2)) := by
  intro K hK L st m r h hR
  obtain ⟨G, A, ⟨cc, own, nL, ret, rk⟩, ⟨p, l, e, R⟩, ⟨s, mi, args, below, meth, c⟩, ⟨cells, slots, Q⟩⟩ := X
  obtain ⟨hx, hb, hml, hown, hts, hk, hnw, hfr, hlo, hce, hsl, hX, hbl, hbA⟩ := C
  intro ls H locs hF hH
  exact lv_bipush hx hb hd hv (hK _ _ _ _ _ h hR ls H locs (hF.stk (pj_okc trivial hF.2.2.2.2)) hH)
theorem qz_sipush {ρ : Type} {X : pj_X} {enc : ρ → Option pj_V × pj_M} {pc : Nat} (C : pj_C X) {n : Int} {v : Int32} (hd : decode (pj_cc X) pc = .ok (.sipush n, 3)) (hv : (Int16.ofInt n).toInt32 = v) : pj_S X enc pc (qs_ci v (pc + 3)) := by
  intro K hK L st m r h hR
  obtain ⟨G, A, ⟨cc, own, nL, ret, rk⟩, ⟨p, l, e, R⟩, ⟨s, mi, args, below, meth, c⟩, ⟨cells, slots, Q⟩⟩ := X
  obtain ⟨hx, hb, hml, hown, hts, hk, hnw, hfr, hlo, hce, hsl, hX, hbl, hbA⟩ := C
  intro ls H locs hF hH
  exact lv_sipush hx hb hd hv (hK _ _ _ _ _ h hR ls H locs (hF.stk (pj_okc trivial hF.2.2.2.2)) hH)
theorem qz_lconst {ρ : Type} {X : pj_X} {enc : ρ → Option pj_V × pj_M} {pc : Nat} (C : pj_C X) {n : Fin 2} {v : Int64} (hd : decode (pj_cc X) pc = .ok (.lconst n, 1)) (hv : Int64.ofNat (n : Nat) = v) : pj_S X enc pc (qs_cl v (pc + 1)) := by
  intro K hK L st m r h hR
  obtain ⟨G, A, ⟨cc, own, nL, ret, rk⟩, ⟨p, l, e, R⟩, ⟨s, mi, args, below, meth, c⟩, ⟨cells, slots, Q⟩⟩ := X
  obtain ⟨hx, hb, hml, hown, hts, hk, hnw, hfr, hlo, hce, hsl, hX, hbl, hbA⟩ := C
  intro ls H locs hF hH
  exact lv_lconst hx hb hd hv (hK _ _ _ _ _ h hR ls H locs (hF.stk (pj_okc trivial hF.2.2.2.2)) hH)
theorem qz_ldc {ρ : Type} {X : pj_X} {enc : ρ → Option pj_V × pj_M} {pc : Nat} (C : pj_C X) {i : Nat} {v : Int32} (hd : decode (pj_cc X) pc = .ok (.ldc i, 2)) (hc : Cond.constant (pj_own X) i v ∈ pj_tb) : pj_S X enc pc (qs_ci v (pc + 2)) := by
  intro K hK L st m r h hR
  obtain ⟨G, A, ⟨cc, own, nL, ret, rk⟩, ⟨p, l, e, R⟩, ⟨s, mi, args, below, meth, c⟩, ⟨cells, slots, Q⟩⟩ := X
  obtain ⟨hx, hb, hml, hown, hts, hk, hnw, hfr, hlo, hce, hsl, hX, hbl, hbA⟩ := C
  intro ls H locs hF hH
  exact lv_ldc hx hb hown (hts _ hc) hd (hK _ _ _ _ _ h hR ls H locs (hF.stk (pj_okc trivial hF.2.2.2.2)) hH)
theorem qz_ldcw {ρ : Type} {X : pj_X} {enc : ρ → Option pj_V × pj_M} {pc : Nat} (C : pj_C X) {i : Nat} {v : Int32} (hd : decode (pj_cc X) pc = .ok (.ldc_w i, 3)) (hc : Cond.constant (pj_own X) i v ∈ pj_tb) : pj_S X enc pc (qs_ci v (pc + 3)) := by
  intro K hK L st m r h hR
  obtain ⟨G, A, ⟨cc, own, nL, ret, rk⟩, ⟨p, l, e, R⟩, ⟨s, mi, args, below, meth, c⟩, ⟨cells, slots, Q⟩⟩ := X
  obtain ⟨hx, hb, hml, hown, hts, hk, hnw, hfr, hlo, hce, hsl, hX, hbl, hbA⟩ := C
  intro ls H locs hF hH
  exact lv_ldcw hx hb hown (hts _ hc) hd (hK _ _ _ _ _ h hR ls H locs (hF.stk (pj_okc trivial hF.2.2.2.2)) hH)
theorem qz_ldc2 {ρ : Type} {X : pj_X} {enc : ρ → Option pj_V × pj_M} {pc : Nat} (C : pj_C X) {i : Nat} {v : Int64} (hd : decode (pj_cc X) pc = .ok (.ldc2_w i, 3)) (hc : Cond.constantLong (pj_own X) i v ∈ pj_tb) : pj_S X enc pc (qs_cl v (pc + 3)) := by
  intro K hK L st m r h hR
  obtain ⟨G, A, ⟨cc, own, nL, ret, rk⟩, ⟨p, l, e, R⟩, ⟨s, mi, args, below, meth, c⟩, ⟨cells, slots, Q⟩⟩ := X
  obtain ⟨hx, hb, hml, hown, hts, hk, hnw, hfr, hlo, hce, hsl, hX, hbl, hbA⟩ := C
  intro ls H locs hF hH
  exact lv_ldc2 hx hb hown (hts _ hc) hd (hK _ _ _ _ _ h hR ls H locs (hF.stk (pj_okc trivial hF.2.2.2.2)) hH)
theorem qz_iload_n {ρ : Type} {X : pj_X} {enc : ρ → Option pj_V × pj_M} {pc : Nat} (C : pj_C X) {k : Fin 4} {i : Nat} (hd : decode (pj_cc X) pc = .ok (.iload_n k, 1)) (hi : (k : Nat) = i) : pj_S X enc pc (qs_ldi i (pc + 1)) := by
  intro K hK L st m r h hR
  obtain ⟨G, A, ⟨cc, own, nL, ret, rk⟩, ⟨p, l, e, R⟩, ⟨s, mi, args, below, meth, c⟩, ⟨cells, slots, Q⟩⟩ := X
  obtain ⟨hx, hb, hml, hown, hts, hk, hnw, hfr, hlo, hce, hsl, hX, hbl, hbA⟩ := C
  unfold qs_ldi at h
  split at h
  · rename_i x hx1
    intro ls H locs hF hH
    exact lv_iload_n hx hb hd hi (hF.2.2.2.1 _ _ hx1).1 (hK _ _ _ _ _ h hR ls H locs (hF.stk (pj_okc trivial hF.2.2.2.2)) hH)
  · cases h
theorem qz_iload {ρ : Type} {X : pj_X} {enc : ρ → Option pj_V × pj_M} {pc : Nat} (C : pj_C X) {i : Nat} (hd : decode (pj_cc X) pc = .ok (.iload i, 2))  : pj_S X enc pc (qs_ldi i (pc + 2)) := by
  intro K hK L st m r h hR
  obtain ⟨G, A, ⟨cc, own, nL, ret, rk⟩, ⟨p, l, e, R⟩, ⟨s, mi, args, below, meth, c⟩, ⟨cells, slots, Q⟩⟩ := X
  obtain ⟨hx, hb, hml, hown, hts, hk, hnw, hfr, hlo, hce, hsl, hX, hbl, hbA⟩ := C
  unfold qs_ldi at h
  split at h
  · rename_i x hx1
    intro ls H locs hF hH
    exact lv_iload hx hb hd  (hF.2.2.2.1 _ _ hx1).1 (hK _ _ _ _ _ h hR ls H locs (hF.stk (pj_okc trivial hF.2.2.2.2)) hH)
  · cases h
theorem qz_lload_n {ρ : Type} {X : pj_X} {enc : ρ → Option pj_V × pj_M} {pc : Nat} (C : pj_C X) {k : Fin 4} {i : Nat} (hd : decode (pj_cc X) pc = .ok (.lload_n k, 1)) (hi : (k : Nat) = i) : pj_S X enc pc (qs_ldl i (pc + 1)) := by
  intro K hK L st m r h hR
  obtain ⟨G, A, ⟨cc, own, nL, ret, rk⟩, ⟨p, l, e, R⟩, ⟨s, mi, args, below, meth, c⟩, ⟨cells, slots, Q⟩⟩ := X
  obtain ⟨hx, hb, hml, hown, hts, hk, hnw, hfr, hlo, hce, hsl, hX, hbl, hbA⟩ := C
  unfold qs_ldl at h
  split at h
  · rename_i x hx1
    intro ls H locs hF hH
    exact lv_lload_n hx hb hd hi (hF.2.2.2.1 _ _ hx1).1 (hK _ _ _ _ _ h hR ls H locs (hF.stk (pj_okc trivial hF.2.2.2.2)) hH)
  · cases h
theorem qz_lload {ρ : Type} {X : pj_X} {enc : ρ → Option pj_V × pj_M} {pc : Nat} (C : pj_C X) {i : Nat} (hd : decode (pj_cc X) pc = .ok (.lload i, 2))  : pj_S X enc pc (qs_ldl i (pc + 2)) := by
  intro K hK L st m r h hR
  obtain ⟨G, A, ⟨cc, own, nL, ret, rk⟩, ⟨p, l, e, R⟩, ⟨s, mi, args, below, meth, c⟩, ⟨cells, slots, Q⟩⟩ := X
  obtain ⟨hx, hb, hml, hown, hts, hk, hnw, hfr, hlo, hce, hsl, hX, hbl, hbA⟩ := C
  unfold qs_ldl at h
  split at h
  · rename_i x hx1
    intro ls H locs hF hH
    exact lv_lload hx hb hd  (hF.2.2.2.1 _ _ hx1).1 (hK _ _ _ _ _ h hR ls H locs (hF.stk (pj_okc trivial hF.2.2.2.2)) hH)
  · cases h
theorem pj_tr_ref (G : pj_E) (r : Nat × Nat × Nat) : ∃ a, pj_tr G (.inr (.inr r)) = .ref a := by
  obtain ⟨t, x, a⟩ := r
  simp only [pj_tr]
  split
  · exact ⟨_, rfl⟩
  · exact ⟨_, rfl⟩
theorem qz_aload_n {ρ : Type} {X : pj_X} {enc : ρ → Option pj_V × pj_M} {pc : Nat} (C : pj_C X) {k : Fin 4} {i : Nat} (hd : decode (pj_cc X) pc = .ok (.aload_n k, 1)) (hi : (k : Nat) = i) : pj_S X enc pc (qs_lda i (pc + 1)) := by
  intro K hK L st m r h hR
  obtain ⟨G, A, ⟨cc, own, nL, ret, rk⟩, ⟨p, l, e, R⟩, ⟨s, mi, args, below, meth, c⟩, ⟨cells, slots, Q⟩⟩ := X
  obtain ⟨hx, hb, hml, hown, hts, hk, hnw, hfr, hlo, hce, hsl, hX, hbl, hbA⟩ := C
  unfold qs_lda at h
  split at h
  · rename_i x hx1
    intro ls H locs hF hH
    have h1 := hF.2.2.2.1 _ _ hx1
    have h2 := hK _ _ _ _ _ h hR ls H locs (hF.stk (pj_okc h1.2 hF.2.2.2.2)) hH
    obtain ⟨a, ha⟩ := pj_tr_ref G x
    rw [List.map_cons, ha] at h2
    exact lv_aload_n hx hb hd hi (by rw [← ha]; exact h1.1) h2
  · cases h
theorem qz_aload {ρ : Type} {X : pj_X} {enc : ρ → Option pj_V × pj_M} {pc : Nat} (C : pj_C X) {i : Nat} (hd : decode (pj_cc X) pc = .ok (.aload i, 2))  : pj_S X enc pc (qs_lda i (pc + 2)) := by
  intro K hK L st m r h hR
  obtain ⟨G, A, ⟨cc, own, nL, ret, rk⟩, ⟨p, l, e, R⟩, ⟨s, mi, args, below, meth, c⟩, ⟨cells, slots, Q⟩⟩ := X
  obtain ⟨hx, hb, hml, hown, hts, hk, hnw, hfr, hlo, hce, hsl, hX, hbl, hbA⟩ := C
  unfold qs_lda at h
  split at h
  · rename_i x hx1
    intro ls H locs hF hH
    have h1 := hF.2.2.2.1 _ _ hx1
    have h2 := hK _ _ _ _ _ h hR ls H locs (hF.stk (pj_okc h1.2 hF.2.2.2.2)) hH
    obtain ⟨a, ha⟩ := pj_tr_ref G x
    rw [List.map_cons, ha] at h2
    exact lv_aload hx hb hd  (by rw [← ha]; exact h1.1) h2
  · cases h
theorem qz_istore_n {ρ : Type} {X : pj_X} {enc : ρ → Option pj_V × pj_M} {pc : Nat} (C : pj_C X) {k : Fin 4} {i : Nat} (hd : decode (pj_cc X) pc = .ok (.istore_n k, 1)) (hi : (k : Nat) = i) : pj_S X enc pc (qs_sti i (pc + 1)) := by
  intro K hK L st m r h hR
  obtain ⟨G, A, ⟨cc, own, nL, ret, rk⟩, ⟨p, l, e, R⟩, ⟨s, mi, args, below, meth, c⟩, ⟨cells, slots, Q⟩⟩ := X
  obtain ⟨hx, hb, hml, hown, hts, hk, hnw, hfr, hlo, hce, hsl, hX, hbl, hbA⟩ := C
  unfold qs_sti at h
  split at h
  · rename_i x st o hx1
    intro ls H locs hF hH
    have hlt := (List.getElem?_eq_some_iff.mp hx1).1
    rw [hF.2.2.1] at hlt
    exact lv_istore_n hx hb hd hi hF.has hlt rfl (fun ls2 h2 => hK _ _ _ _ _ h hR ls2 H locs (hF.st1 h2) hH)
  · cases h
theorem qz_istore {ρ : Type} {X : pj_X} {enc : ρ → Option pj_V × pj_M} {pc : Nat} (C : pj_C X) {i : Nat} (hd : decode (pj_cc X) pc = .ok (.istore i, 2))  : pj_S X enc pc (qs_sti i (pc + 2)) := by
  intro K hK L st m r h hR
  obtain ⟨G, A, ⟨cc, own, nL, ret, rk⟩, ⟨p, l, e, R⟩, ⟨s, mi, args, below, meth, c⟩, ⟨cells, slots, Q⟩⟩ := X
  obtain ⟨hx, hb, hml, hown, hts, hk, hnw, hfr, hlo, hce, hsl, hX, hbl, hbA⟩ := C
  unfold qs_sti at h
  split at h
  · rename_i x st o hx1
    intro ls H locs hF hH
    have hlt := (List.getElem?_eq_some_iff.mp hx1).1
    rw [hF.2.2.1] at hlt
    exact lv_istore hx hb hd  hF.has hlt rfl (fun ls2 h2 => hK _ _ _ _ _ h hR ls2 H locs (hF.st1 h2) hH)
  · cases h
theorem qz_astore_n {ρ : Type} {X : pj_X} {enc : ρ → Option pj_V × pj_M} {pc : Nat} (C : pj_C X) {k : Fin 4} {i : Nat} (hd : decode (pj_cc X) pc = .ok (.astore_n k, 1)) (hi : (k : Nat) = i) : pj_S X enc pc (qs_sta i (pc + 1)) := by
  intro K hK L st m r h hR
  obtain ⟨G, A, ⟨cc, own, nL, ret, rk⟩, ⟨p, l, e, R⟩, ⟨s, mi, args, below, meth, c⟩, ⟨cells, slots, Q⟩⟩ := X
  obtain ⟨hx, hb, hml, hown, hts, hk, hnw, hfr, hlo, hce, hsl, hX, hbl, hbA⟩ := C
  unfold qs_sta at h
  split at h
  · rename_i x st o hx1
    intro ls H locs hF hH
    have hlt := (List.getElem?_eq_some_iff.mp hx1).1
    rw [hF.2.2.1] at hlt
    obtain ⟨a, ha⟩ := pj_tr_ref G x
    rw [List.map_cons, ha]
    exact lv_astore_n hx hb hd hi hF.has hlt rfl (fun ls2 h2 => hK _ _ _ _ _ h hR ls2 H locs (hF.st1 (by rw [ha]; exact h2)) hH)
  · cases h
theorem qz_astore {ρ : Type} {X : pj_X} {enc : ρ → Option pj_V × pj_M} {pc : Nat} (C : pj_C X) {i : Nat} (hd : decode (pj_cc X) pc = .ok (.astore i, 2))  : pj_S X enc pc (qs_sta i (pc + 2)) := by
  intro K hK L st m r h hR
  obtain ⟨G, A, ⟨cc, own, nL, ret, rk⟩, ⟨p, l, e, R⟩, ⟨s, mi, args, below, meth, c⟩, ⟨cells, slots, Q⟩⟩ := X
  obtain ⟨hx, hb, hml, hown, hts, hk, hnw, hfr, hlo, hce, hsl, hX, hbl, hbA⟩ := C
  unfold qs_sta at h
  split at h
  · rename_i x st o hx1
    intro ls H locs hF hH
    have hlt := (List.getElem?_eq_some_iff.mp hx1).1
    rw [hF.2.2.1] at hlt
    obtain ⟨a, ha⟩ := pj_tr_ref G x
    rw [List.map_cons, ha]
    exact lv_astore hx hb hd  hF.has hlt rfl (fun ls2 h2 => hK _ _ _ _ _ h hR ls2 H locs (hF.st1 (by rw [ha]; exact h2)) hH)
  · cases h
theorem qz_lstore_n {ρ : Type} {X : pj_X} {enc : ρ → Option pj_V × pj_M} {pc : Nat} (C : pj_C X) {k : Fin 4} {i : Nat} (hd : decode (pj_cc X) pc = .ok (.lstore_n k, 1)) (hi : (k : Nat) = i) : pj_S X enc pc (qs_stl i (pc + 1)) := by
  intro K hK L st m r h hR
  obtain ⟨G, A, ⟨cc, own, nL, ret, rk⟩, ⟨p, l, e, R⟩, ⟨s, mi, args, below, meth, c⟩, ⟨cells, slots, Q⟩⟩ := X
  obtain ⟨hx, hb, hml, hown, hts, hk, hnw, hfr, hlo, hce, hsl, hX, hbl, hbA⟩ := C
  unfold qs_stl at h
  split at h
  · rename_i x st o hx1
    intro ls H locs hF hH
    have hlt := (List.getElem?_eq_some_iff.mp hx1).1
    rw [hF.2.2.1] at hlt
    exact lv_lstore_n hx hb hd hi hF.has hlt rfl (fun ls2 h2 => hK _ _ _ _ _ h hR ls2 H locs (hF.st2 h2) hH)
  · cases h
theorem qz_lstore {ρ : Type} {X : pj_X} {enc : ρ → Option pj_V × pj_M} {pc : Nat} (C : pj_C X) {i : Nat} (hd : decode (pj_cc X) pc = .ok (.lstore i, 2))  : pj_S X enc pc (qs_stl i (pc + 2)) := by
  intro K hK L st m r h hR
  obtain ⟨G, A, ⟨cc, own, nL, ret, rk⟩, ⟨p, l, e, R⟩, ⟨s, mi, args, below, meth, c⟩, ⟨cells, slots, Q⟩⟩ := X
  obtain ⟨hx, hb, hml, hown, hts, hk, hnw, hfr, hlo, hce, hsl, hX, hbl, hbA⟩ := C
  unfold qs_stl at h
  split at h
  · rename_i x st o hx1
    intro ls H locs hF hH
    have hlt := (List.getElem?_eq_some_iff.mp hx1).1
    rw [hF.2.2.1] at hlt
    exact lv_lstore hx hb hd  hF.has hlt rfl (fun ls2 h2 => hK _ _ _ _ _ h hR ls2 H locs (hF.st2 h2) hH)
  · cases h
theorem qz_iinc {ρ : Type} {X : pj_X} {enc : ρ → Option pj_V × pj_M} {pc : Nat} (C : pj_C X) {i : Nat} {n : Int} {d : Int32} (hd : decode (pj_cc X) pc = .ok (.iinc i n, 3)) (hn : Int32.ofInt n = d) : pj_S X enc pc (qs_inc i d (pc + 3)) := by
  intro K hK L st m r h hR
  obtain ⟨G, A, ⟨cc, own, nL, ret, rk⟩, ⟨p, l, e, R⟩, ⟨s, mi, args, below, meth, c⟩, ⟨cells, slots, Q⟩⟩ := X
  obtain ⟨hx, hb, hml, hown, hts, hk, hnw, hfr, hlo, hce, hsl, hX, hbl, hbA⟩ := C
  unfold qs_inc at h
  split at h
  · rename_i x hx1
    intro ls H locs hF hH
    have hlt := (List.getElem?_eq_some_iff.mp hx1).1
    rw [hF.2.2.1] at hlt
    obtain ⟨k, hk1⟩ := List.getElem?_of_mem (pj_lv_mem (G := G) (q := (i, .int x)) |>.mpr ⟨.inl x, hx1, rfl⟩)
    refine lv_iinc hx hb hd hF.has hk1 (by rw [hn]) hlt rfl (fun ls2 h2 => hK _ _ _ _ _ h hR ls2 H locs ?_ hH)
    exact pj_F.st1 (v := .inl (x + d)) (hF.stk (pj_okc trivial hF.2.2.2.2)) h2
  · cases h
def qs_b2 {ρ : Type} (f : Int32 → Int32 → Int32) (nx : Nat) : pj_T ρ := fun K L st m => match st with
  | .inl y :: .inl x :: st => K nx L (.inl (f x y) :: st) m
  | _ => none
def qs_d2 {ρ : Type} (f : Int32 → Int32 → Int32) (nx : Nat) : pj_T ρ := fun K L st m => match st with
  | .inl y :: .inl x :: st => if y = 0 then none else K nx L (.inl (f x y) :: st) m
  | _ => none
def qs_l2 {ρ : Type} (f : Int64 → Int64 → Int64) (nx : Nat) : pj_T ρ := fun K L st m => match st with
  | .inr (.inl y) :: .inr (.inl x) :: st => K nx L (.inr (.inl (f x y)) :: st) m
  | _ => none
def qs_ld2 {ρ : Type} (f : Int64 → Int64 → Int64) (nx : Nat) : pj_T ρ := fun K L st m => match st with
  | .inr (.inl y) :: .inr (.inl x) :: st => if y = 0 then none else K nx L (.inr (.inl (f x y)) :: st) m
  | _ => none
def qs_lsh {ρ : Type} (f : Int64 → Int32 → Int64) (nx : Nat) : pj_T ρ := fun K L st m => match st with
  | .inl y :: .inr (.inl x) :: st => K nx L (.inr (.inl (f x y)) :: st) m
  | _ => none
def qs_lcmp {ρ : Type} (nx : Nat) : pj_T ρ := fun K L st m => match st with
  | .inr (.inl y) :: .inr (.inl x) :: st => K nx L (.inl (lg_cmp x y) :: st) m
  | _ => none
def qs_u1 {ρ : Type} (f : Int32 → Int32) (nx : Nat) : pj_T ρ := fun K L st m => match st with
  | .inl x :: st => K nx L (.inl (f x) :: st) m
  | _ => none
def qs_i2l {ρ : Type} (nx : Nat) : pj_T ρ := fun K L st m => match st with
  | .inl x :: st => K nx L (.inr (.inl x.toInt64) :: st) m
  | _ => none
def qs_l2i {ρ : Type} (nx : Nat) : pj_T ρ := fun K L st m => match st with
  | .inr (.inl x) :: st => K nx L (.inl x.toInt32 :: st) m
  | _ => none
theorem qz_iadd {ρ : Type} {X : pj_X} {enc : ρ → Option pj_V × pj_M} {pc : Nat} (C : pj_C X) (hd : decode (pj_cc X) pc = .ok (.iadd, 1)) : pj_S X enc pc (qs_b2 (fun x y => x + y) (pc + 1)) := by
  intro K hK L st m r h hR
  obtain ⟨G, A, ⟨cc, own, nL, ret, rk⟩, ⟨p, l, e, R⟩, ⟨s, mi, args, below, meth, c⟩, ⟨cells, slots, Q⟩⟩ := X
  obtain ⟨hx, hb, hml, hown, hts, hk, hnw, hfr, hlo, hce, hsl, hX, hbl, hbA⟩ := C
  unfold qs_b2 at h
  split at h
  · rename_i y x st
    intro ls H locs hF hH
    exact lv_iadd hx hb hd (hK _ _ _ _ _ h hR ls H locs (hF.stk (pj_okc trivial (pj_ok1 (pj_ok1 hF.2.2.2.2)))) hH)
  · cases h
theorem qz_isub {ρ : Type} {X : pj_X} {enc : ρ → Option pj_V × pj_M} {pc : Nat} (C : pj_C X) (hd : decode (pj_cc X) pc = .ok (.isub, 1)) : pj_S X enc pc (qs_b2 (fun x y => x - y) (pc + 1)) := by
  intro K hK L st m r h hR
  obtain ⟨G, A, ⟨cc, own, nL, ret, rk⟩, ⟨p, l, e, R⟩, ⟨s, mi, args, below, meth, c⟩, ⟨cells, slots, Q⟩⟩ := X
  obtain ⟨hx, hb, hml, hown, hts, hk, hnw, hfr, hlo, hce, hsl, hX, hbl, hbA⟩ := C
  unfold qs_b2 at h
  split at h
  · rename_i y x st
    intro ls H locs hF hH
    exact lv_isub hx hb hd (hK _ _ _ _ _ h hR ls H locs (hF.stk (pj_okc trivial (pj_ok1 (pj_ok1 hF.2.2.2.2)))) hH)
  · cases h
theorem qz_imul {ρ : Type} {X : pj_X} {enc : ρ → Option pj_V × pj_M} {pc : Nat} (C : pj_C X) (hd : decode (pj_cc X) pc = .ok (.imul, 1)) : pj_S X enc pc (qs_b2 (fun x y => x * y) (pc + 1)) := by
  intro K hK L st m r h hR
  obtain ⟨G, A, ⟨cc, own, nL, ret, rk⟩, ⟨p, l, e, R⟩, ⟨s, mi, args, below, meth, c⟩, ⟨cells, slots, Q⟩⟩ := X
  obtain ⟨hx, hb, hml, hown, hts, hk, hnw, hfr, hlo, hce, hsl, hX, hbl, hbA⟩ := C
  unfold qs_b2 at h
  split at h
  · rename_i y x st
    intro ls H locs hF hH
    exact lv_imul hx hb hd (hK _ _ _ _ _ h hR ls H locs (hF.stk (pj_okc trivial (pj_ok1 (pj_ok1 hF.2.2.2.2)))) hH)
  · cases h
theorem qz_iand {ρ : Type} {X : pj_X} {enc : ρ → Option pj_V × pj_M} {pc : Nat} (C : pj_C X) (hd : decode (pj_cc X) pc = .ok (.iand, 1)) : pj_S X enc pc (qs_b2 (fun x y => x &&& y) (pc + 1)) := by
  intro K hK L st m r h hR
  obtain ⟨G, A, ⟨cc, own, nL, ret, rk⟩, ⟨p, l, e, R⟩, ⟨s, mi, args, below, meth, c⟩, ⟨cells, slots, Q⟩⟩ := X
  obtain ⟨hx, hb, hml, hown, hts, hk, hnw, hfr, hlo, hce, hsl, hX, hbl, hbA⟩ := C
  unfold qs_b2 at h
  split at h
  · rename_i y x st
    intro ls H locs hF hH
    exact lv_iand hx hb hd (hK _ _ _ _ _ h hR ls H locs (hF.stk (pj_okc trivial (pj_ok1 (pj_ok1 hF.2.2.2.2)))) hH)
  · cases h
theorem qz_ior {ρ : Type} {X : pj_X} {enc : ρ → Option pj_V × pj_M} {pc : Nat} (C : pj_C X) (hd : decode (pj_cc X) pc = .ok (.ior, 1)) : pj_S X enc pc (qs_b2 (fun x y => x ||| y) (pc + 1)) := by
  intro K hK L st m r h hR
  obtain ⟨G, A, ⟨cc, own, nL, ret, rk⟩, ⟨p, l, e, R⟩, ⟨s, mi, args, below, meth, c⟩, ⟨cells, slots, Q⟩⟩ := X
  obtain ⟨hx, hb, hml, hown, hts, hk, hnw, hfr, hlo, hce, hsl, hX, hbl, hbA⟩ := C
  unfold qs_b2 at h
  split at h
  · rename_i y x st
    intro ls H locs hF hH
    exact lv_ior hx hb hd (hK _ _ _ _ _ h hR ls H locs (hF.stk (pj_okc trivial (pj_ok1 (pj_ok1 hF.2.2.2.2)))) hH)
  · cases h
theorem qz_ixor {ρ : Type} {X : pj_X} {enc : ρ → Option pj_V × pj_M} {pc : Nat} (C : pj_C X) (hd : decode (pj_cc X) pc = .ok (.ixor, 1)) : pj_S X enc pc (qs_b2 (fun x y => x ^^^ y) (pc + 1)) := by
  intro K hK L st m r h hR
  obtain ⟨G, A, ⟨cc, own, nL, ret, rk⟩, ⟨p, l, e, R⟩, ⟨s, mi, args, below, meth, c⟩, ⟨cells, slots, Q⟩⟩ := X
  obtain ⟨hx, hb, hml, hown, hts, hk, hnw, hfr, hlo, hce, hsl, hX, hbl, hbA⟩ := C
  unfold qs_b2 at h
  split at h
  · rename_i y x st
    intro ls H locs hF hH
    exact lv_ixor hx hb hd (hK _ _ _ _ _ h hR ls H locs (hF.stk (pj_okc trivial (pj_ok1 (pj_ok1 hF.2.2.2.2)))) hH)
  · cases h
theorem qz_ishl {ρ : Type} {X : pj_X} {enc : ρ → Option pj_V × pj_M} {pc : Nat} (C : pj_C X) (hd : decode (pj_cc X) pc = .ok (.ishl, 1)) : pj_S X enc pc (qs_b2 (fun x y => x <<< (y &&& 31)) (pc + 1)) := by
  intro K hK L st m r h hR
  obtain ⟨G, A, ⟨cc, own, nL, ret, rk⟩, ⟨p, l, e, R⟩, ⟨s, mi, args, below, meth, c⟩, ⟨cells, slots, Q⟩⟩ := X
  obtain ⟨hx, hb, hml, hown, hts, hk, hnw, hfr, hlo, hce, hsl, hX, hbl, hbA⟩ := C
  unfold qs_b2 at h
  split at h
  · rename_i y x st
    intro ls H locs hF hH
    exact lv_ishl hx hb hd (hK _ _ _ _ _ h hR ls H locs (hF.stk (pj_okc trivial (pj_ok1 (pj_ok1 hF.2.2.2.2)))) hH)
  · cases h
theorem qz_ishr {ρ : Type} {X : pj_X} {enc : ρ → Option pj_V × pj_M} {pc : Nat} (C : pj_C X) (hd : decode (pj_cc X) pc = .ok (.ishr, 1)) : pj_S X enc pc (qs_b2 (fun x y => x >>> (y &&& 31)) (pc + 1)) := by
  intro K hK L st m r h hR
  obtain ⟨G, A, ⟨cc, own, nL, ret, rk⟩, ⟨p, l, e, R⟩, ⟨s, mi, args, below, meth, c⟩, ⟨cells, slots, Q⟩⟩ := X
  obtain ⟨hx, hb, hml, hown, hts, hk, hnw, hfr, hlo, hce, hsl, hX, hbl, hbA⟩ := C
  unfold qs_b2 at h
  split at h
  · rename_i y x st
    intro ls H locs hF hH
    exact lv_ishr hx hb hd (hK _ _ _ _ _ h hR ls H locs (hF.stk (pj_okc trivial (pj_ok1 (pj_ok1 hF.2.2.2.2)))) hH)
  · cases h
theorem qz_iushr {ρ : Type} {X : pj_X} {enc : ρ → Option pj_V × pj_M} {pc : Nat} (C : pj_C X) (hd : decode (pj_cc X) pc = .ok (.iushr, 1)) : pj_S X enc pc (qs_b2 (fun x y => (x.toUInt32 >>> (y.toUInt32 &&& Int32.toUInt32 31)).toInt32) (pc + 1)) := by
  intro K hK L st m r h hR
  obtain ⟨G, A, ⟨cc, own, nL, ret, rk⟩, ⟨p, l, e, R⟩, ⟨s, mi, args, below, meth, c⟩, ⟨cells, slots, Q⟩⟩ := X
  obtain ⟨hx, hb, hml, hown, hts, hk, hnw, hfr, hlo, hce, hsl, hX, hbl, hbA⟩ := C
  unfold qs_b2 at h
  split at h
  · rename_i y x st
    intro ls H locs hF hH
    exact lv_iushr hx hb hd rfl (hK _ _ _ _ _ h hR ls H locs (hF.stk (pj_okc trivial (pj_ok1 (pj_ok1 hF.2.2.2.2)))) hH)
  · cases h
theorem qz_idiv {ρ : Type} {X : pj_X} {enc : ρ → Option pj_V × pj_M} {pc : Nat} (C : pj_C X) (hd : decode (pj_cc X) pc = .ok (.idiv, 1)) : pj_S X enc pc (qs_d2 (fun x y => x / y) (pc + 1)) := by
  intro K hK L st m r h hR
  obtain ⟨G, A, ⟨cc, own, nL, ret, rk⟩, ⟨p, l, e, R⟩, ⟨s, mi, args, below, meth, c⟩, ⟨cells, slots, Q⟩⟩ := X
  obtain ⟨hx, hb, hml, hown, hts, hk, hnw, hfr, hlo, hce, hsl, hX, hbl, hbA⟩ := C
  unfold qs_d2 at h
  split at h
  · rename_i y x st
    intro ls H locs hF hH
    split at h
    · cases h
    · rename_i hne
      exact lv_idiv hx hb hd hne (hK _ _ _ _ _ h hR ls H locs (hF.stk (pj_okc trivial (pj_ok1 (pj_ok1 hF.2.2.2.2)))) hH)
  · cases h
theorem qz_irem {ρ : Type} {X : pj_X} {enc : ρ → Option pj_V × pj_M} {pc : Nat} (C : pj_C X) (hd : decode (pj_cc X) pc = .ok (.irem, 1)) : pj_S X enc pc (qs_d2 (fun x y => x - x / y * y) (pc + 1)) := by
  intro K hK L st m r h hR
  obtain ⟨G, A, ⟨cc, own, nL, ret, rk⟩, ⟨p, l, e, R⟩, ⟨s, mi, args, below, meth, c⟩, ⟨cells, slots, Q⟩⟩ := X
  obtain ⟨hx, hb, hml, hown, hts, hk, hnw, hfr, hlo, hce, hsl, hX, hbl, hbA⟩ := C
  unfold qs_d2 at h
  split at h
  · rename_i y x st
    intro ls H locs hF hH
    split at h
    · cases h
    · rename_i hne
      exact lv_irem hx hb hd hne (hK _ _ _ _ _ h hR ls H locs (hF.stk (pj_okc trivial (pj_ok1 (pj_ok1 hF.2.2.2.2)))) hH)
  · cases h
theorem qz_ladd {ρ : Type} {X : pj_X} {enc : ρ → Option pj_V × pj_M} {pc : Nat} (C : pj_C X) (hd : decode (pj_cc X) pc = .ok (.ladd, 1)) : pj_S X enc pc (qs_l2 (fun x y => x + y) (pc + 1)) := by
  intro K hK L st m r h hR
  obtain ⟨G, A, ⟨cc, own, nL, ret, rk⟩, ⟨p, l, e, R⟩, ⟨s, mi, args, below, meth, c⟩, ⟨cells, slots, Q⟩⟩ := X
  obtain ⟨hx, hb, hml, hown, hts, hk, hnw, hfr, hlo, hce, hsl, hX, hbl, hbA⟩ := C
  unfold qs_l2 at h
  split at h
  · rename_i y x st
    intro ls H locs hF hH
    exact lv_ladd hx hb hd (hK _ _ _ _ _ h hR ls H locs (hF.stk (pj_okc trivial (pj_ok1 (pj_ok1 hF.2.2.2.2)))) hH)
  · cases h
theorem qz_lsub {ρ : Type} {X : pj_X} {enc : ρ → Option pj_V × pj_M} {pc : Nat} (C : pj_C X) (hd : decode (pj_cc X) pc = .ok (.lsub, 1)) : pj_S X enc pc (qs_l2 (fun x y => x - y) (pc + 1)) := by
  intro K hK L st m r h hR
  obtain ⟨G, A, ⟨cc, own, nL, ret, rk⟩, ⟨p, l, e, R⟩, ⟨s, mi, args, below, meth, c⟩, ⟨cells, slots, Q⟩⟩ := X
  obtain ⟨hx, hb, hml, hown, hts, hk, hnw, hfr, hlo, hce, hsl, hX, hbl, hbA⟩ := C
  unfold qs_l2 at h
  split at h
  · rename_i y x st
    intro ls H locs hF hH
    exact lv_lsub hx hb hd (hK _ _ _ _ _ h hR ls H locs (hF.stk (pj_okc trivial (pj_ok1 (pj_ok1 hF.2.2.2.2)))) hH)
  · cases h
theorem qz_lmul {ρ : Type} {X : pj_X} {enc : ρ → Option pj_V × pj_M} {pc : Nat} (C : pj_C X) (hd : decode (pj_cc X) pc = .ok (.lmul, 1)) : pj_S X enc pc (qs_l2 (fun x y => x * y) (pc + 1)) := by
  intro K hK L st m r h hR
  obtain ⟨G, A, ⟨cc, own, nL, ret, rk⟩, ⟨p, l, e, R⟩, ⟨s, mi, args, below, meth, c⟩, ⟨cells, slots, Q⟩⟩ := X
  obtain ⟨hx, hb, hml, hown, hts, hk, hnw, hfr, hlo, hce, hsl, hX, hbl, hbA⟩ := C
  unfold qs_l2 at h
  split at h
  · rename_i y x st
    intro ls H locs hF hH
    exact lv_lmul hx hb hd (hK _ _ _ _ _ h hR ls H locs (hF.stk (pj_okc trivial (pj_ok1 (pj_ok1 hF.2.2.2.2)))) hH)
  · cases h
theorem qz_land {ρ : Type} {X : pj_X} {enc : ρ → Option pj_V × pj_M} {pc : Nat} (C : pj_C X) (hd : decode (pj_cc X) pc = .ok (.land, 1)) : pj_S X enc pc (qs_l2 (fun x y => x &&& y) (pc + 1)) := by
  intro K hK L st m r h hR
  obtain ⟨G, A, ⟨cc, own, nL, ret, rk⟩, ⟨p, l, e, R⟩, ⟨s, mi, args, below, meth, c⟩, ⟨cells, slots, Q⟩⟩ := X
  obtain ⟨hx, hb, hml, hown, hts, hk, hnw, hfr, hlo, hce, hsl, hX, hbl, hbA⟩ := C
  unfold qs_l2 at h
  split at h
  · rename_i y x st
    intro ls H locs hF hH
    exact lv_land hx hb hd (hK _ _ _ _ _ h hR ls H locs (hF.stk (pj_okc trivial (pj_ok1 (pj_ok1 hF.2.2.2.2)))) hH)
  · cases h
theorem qz_lor {ρ : Type} {X : pj_X} {enc : ρ → Option pj_V × pj_M} {pc : Nat} (C : pj_C X) (hd : decode (pj_cc X) pc = .ok (.lor, 1)) : pj_S X enc pc (qs_l2 (fun x y => x ||| y) (pc + 1)) := by
  intro K hK L st m r h hR
  obtain ⟨G, A, ⟨cc, own, nL, ret, rk⟩, ⟨p, l, e, R⟩, ⟨s, mi, args, below, meth, c⟩, ⟨cells, slots, Q⟩⟩ := X
  obtain ⟨hx, hb, hml, hown, hts, hk, hnw, hfr, hlo, hce, hsl, hX, hbl, hbA⟩ := C
  unfold qs_l2 at h
  split at h
  · rename_i y x st
    intro ls H locs hF hH
    exact lv_lor hx hb hd (hK _ _ _ _ _ h hR ls H locs (hF.stk (pj_okc trivial (pj_ok1 (pj_ok1 hF.2.2.2.2)))) hH)
  · cases h
theorem qz_lxor {ρ : Type} {X : pj_X} {enc : ρ → Option pj_V × pj_M} {pc : Nat} (C : pj_C X) (hd : decode (pj_cc X) pc = .ok (.lxor, 1)) : pj_S X enc pc (qs_l2 (fun x y => x ^^^ y) (pc + 1)) := by
  intro K hK L st m r h hR
  obtain ⟨G, A, ⟨cc, own, nL, ret, rk⟩, ⟨p, l, e, R⟩, ⟨s, mi, args, below, meth, c⟩, ⟨cells, slots, Q⟩⟩ := X
  obtain ⟨hx, hb, hml, hown, hts, hk, hnw, hfr, hlo, hce, hsl, hX, hbl, hbA⟩ := C
  unfold qs_l2 at h
  split at h
  · rename_i y x st
    intro ls H locs hF hH
    exact lv_lxor hx hb hd (hK _ _ _ _ _ h hR ls H locs (hF.stk (pj_okc trivial (pj_ok1 (pj_ok1 hF.2.2.2.2)))) hH)
  · cases h
theorem qz_lrem {ρ : Type} {X : pj_X} {enc : ρ → Option pj_V × pj_M} {pc : Nat} (C : pj_C X) (hd : decode (pj_cc X) pc = .ok (.lrem, 1)) : pj_S X enc pc (qs_ld2 (fun x y => x - x / y * y) (pc + 1)) := by
  intro K hK L st m r h hR
  obtain ⟨G, A, ⟨cc, own, nL, ret, rk⟩, ⟨p, l, e, R⟩, ⟨s, mi, args, below, meth, c⟩, ⟨cells, slots, Q⟩⟩ := X
  obtain ⟨hx, hb, hml, hown, hts, hk, hnw, hfr, hlo, hce, hsl, hX, hbl, hbA⟩ := C
  unfold qs_ld2 at h
  split at h
  · rename_i y x st
    intro ls H locs hF hH
    split at h
    · cases h
    · rename_i hne
      exact lv_lrem hx hb hd hne (hK _ _ _ _ _ h hR ls H locs (hF.stk (pj_okc trivial (pj_ok1 (pj_ok1 hF.2.2.2.2)))) hH)
  · cases h
theorem qz_lshl {ρ : Type} {X : pj_X} {enc : ρ → Option pj_V × pj_M} {pc : Nat} (C : pj_C X) (hd : decode (pj_cc X) pc = .ok (.lshl, 1)) : pj_S X enc pc (qs_lsh (fun x y => x <<< (y.toInt64 &&& 63)) (pc + 1)) := by
  intro K hK L st m r h hR
  obtain ⟨G, A, ⟨cc, own, nL, ret, rk⟩, ⟨p, l, e, R⟩, ⟨s, mi, args, below, meth, c⟩, ⟨cells, slots, Q⟩⟩ := X
  obtain ⟨hx, hb, hml, hown, hts, hk, hnw, hfr, hlo, hce, hsl, hX, hbl, hbA⟩ := C
  unfold qs_lsh at h
  split at h
  · rename_i y x st
    intro ls H locs hF hH
    exact lv_lshl hx hb hd rfl (hK _ _ _ _ _ h hR ls H locs (hF.stk (pj_okc trivial (pj_ok1 (pj_ok1 hF.2.2.2.2)))) hH)
  · cases h
theorem qz_lcmp {ρ : Type} {X : pj_X} {enc : ρ → Option pj_V × pj_M} {pc : Nat} (C : pj_C X) (hd : decode (pj_cc X) pc = .ok (.lcmp, 1)) : pj_S X enc pc (qs_lcmp (pc + 1)) := by
  intro K hK L st m r h hR
  obtain ⟨G, A, ⟨cc, own, nL, ret, rk⟩, ⟨p, l, e, R⟩, ⟨s, mi, args, below, meth, c⟩, ⟨cells, slots, Q⟩⟩ := X
  obtain ⟨hx, hb, hml, hown, hts, hk, hnw, hfr, hlo, hce, hsl, hX, hbl, hbA⟩ := C
  unfold qs_lcmp at h
  split at h
  · rename_i y x st
    intro ls H locs hF hH
    exact W.lcmp hx hb hd (hK _ _ _ _ _ h hR ls H locs (hF.stk (pj_okc trivial (pj_ok1 (pj_ok1 hF.2.2.2.2)))) hH)
  · cases h
theorem qz_ineg {ρ : Type} {X : pj_X} {enc : ρ → Option pj_V × pj_M} {pc : Nat} (C : pj_C X) (hd : decode (pj_cc X) pc = .ok (.ineg, 1)) : pj_S X enc pc (qs_u1 (fun x => -x) (pc + 1)) := by
  intro K hK L st m r h hR
  obtain ⟨G, A, ⟨cc, own, nL, ret, rk⟩, ⟨p, l, e, R⟩, ⟨s, mi, args, below, meth, c⟩, ⟨cells, slots, Q⟩⟩ := X
  obtain ⟨hx, hb, hml, hown, hts, hk, hnw, hfr, hlo, hce, hsl, hX, hbl, hbA⟩ := C
  unfold qs_u1 at h
  split at h
  · rename_i x st
    intro ls H locs hF hH
    exact lv_ineg hx hb hd (hK _ _ _ _ _ h hR ls H locs (hF.stk (pj_okc trivial (pj_ok1 hF.2.2.2.2))) hH)
  · cases h
theorem qz_i2b {ρ : Type} {X : pj_X} {enc : ρ → Option pj_V × pj_M} {pc : Nat} (C : pj_C X) (hd : decode (pj_cc X) pc = .ok (.i2b, 1)) : pj_S X enc pc (qs_u1 (fun x => x.toInt8.toInt32) (pc + 1)) := by
  intro K hK L st m r h hR
  obtain ⟨G, A, ⟨cc, own, nL, ret, rk⟩, ⟨p, l, e, R⟩, ⟨s, mi, args, below, meth, c⟩, ⟨cells, slots, Q⟩⟩ := X
  obtain ⟨hx, hb, hml, hown, hts, hk, hnw, hfr, hlo, hce, hsl, hX, hbl, hbA⟩ := C
  unfold qs_u1 at h
  split at h
  · rename_i x st
    intro ls H locs hF hH
    exact lv_i2b hx hb hd rfl (hK _ _ _ _ _ h hR ls H locs (hF.stk (pj_okc trivial (pj_ok1 hF.2.2.2.2))) hH)
  · cases h
theorem qz_i2s {ρ : Type} {X : pj_X} {enc : ρ → Option pj_V × pj_M} {pc : Nat} (C : pj_C X) (hd : decode (pj_cc X) pc = .ok (.i2s, 1)) : pj_S X enc pc (qs_u1 (fun x => x.toInt16.toInt32) (pc + 1)) := by
  intro K hK L st m r h hR
  obtain ⟨G, A, ⟨cc, own, nL, ret, rk⟩, ⟨p, l, e, R⟩, ⟨s, mi, args, below, meth, c⟩, ⟨cells, slots, Q⟩⟩ := X
  obtain ⟨hx, hb, hml, hown, hts, hk, hnw, hfr, hlo, hce, hsl, hX, hbl, hbA⟩ := C
  unfold qs_u1 at h
  split at h
  · rename_i x st
    intro ls H locs hF hH
    exact lv_i2s hx hb hd rfl (hK _ _ _ _ _ h hR ls H locs (hF.stk (pj_okc trivial (pj_ok1 hF.2.2.2.2))) hH)
  · cases h
theorem qz_i2l {ρ : Type} {X : pj_X} {enc : ρ → Option pj_V × pj_M} {pc : Nat} (C : pj_C X) (hd : decode (pj_cc X) pc = .ok (.i2l, 1)) : pj_S X enc pc (qs_i2l (pc + 1)) := by
  intro K hK L st m r h hR
  obtain ⟨G, A, ⟨cc, own, nL, ret, rk⟩, ⟨p, l, e, R⟩, ⟨s, mi, args, below, meth, c⟩, ⟨cells, slots, Q⟩⟩ := X
  obtain ⟨hx, hb, hml, hown, hts, hk, hnw, hfr, hlo, hce, hsl, hX, hbl, hbA⟩ := C
  unfold qs_i2l at h
  split at h
  · rename_i x st
    intro ls H locs hF hH
    exact lv_i2l hx hb hd rfl (hK _ _ _ _ _ h hR ls H locs (hF.stk (pj_okc trivial (pj_ok1 hF.2.2.2.2))) hH)
  · cases h
theorem qz_l2i {ρ : Type} {X : pj_X} {enc : ρ → Option pj_V × pj_M} {pc : Nat} (C : pj_C X) (hd : decode (pj_cc X) pc = .ok (.l2i, 1)) : pj_S X enc pc (qs_l2i (pc + 1)) := by
  intro K hK L st m r h hR
  obtain ⟨G, A, ⟨cc, own, nL, ret, rk⟩, ⟨p, l, e, R⟩, ⟨s, mi, args, below, meth, c⟩, ⟨cells, slots, Q⟩⟩ := X
  obtain ⟨hx, hb, hml, hown, hts, hk, hnw, hfr, hlo, hce, hsl, hX, hbl, hbA⟩ := C
  unfold qs_l2i at h
  split at h
  · rename_i x st
    intro ls H locs hF hH
    exact lv_l2i hx hb hd rfl (hK _ _ _ _ _ h hR ls H locs (hF.stk (pj_okc trivial (pj_ok1 hF.2.2.2.2))) hH)
  · cases h
def qs_dup {ρ : Type} (nx : Nat) : pj_T ρ := fun K L st m => match st with
  | .inl x :: st => K nx L (.inl x :: .inl x :: st) m
  | .inr (.inr x) :: st => K nx L (.inr (.inr x) :: .inr (.inr x) :: st) m
  | _ => none
def qs_pop {ρ : Type} (nx : Nat) : pj_T ρ := fun K L st m => match st with
  | .inl _ :: st => K nx L st m
  | .inr (.inr _) :: st => K nx L st m
  | _ => none
def qs_dup2 {ρ : Type} (nx : Nat) : pj_T ρ := fun K L st m => match st with
  | .inl x :: .inr (.inr y) :: st => K nx L (.inl x :: .inr (.inr y) :: .inl x :: .inr (.inr y) :: st) m
  | _ => none
theorem pj_cat1 (G : pj_E) (r : Nat × Nat × Nat) : (pj_tr G (.inr (.inr r))).category = 1 := by
  obtain ⟨a, ha⟩ := pj_tr_ref G r
  rw [ha]
  rfl
theorem qz_dup {ρ : Type} {X : pj_X} {enc : ρ → Option pj_V × pj_M} {pc : Nat} (C : pj_C X) (hd : decode (pj_cc X) pc = .ok (.dup, 1)) : pj_S X enc pc (qs_dup (pc + 1)) := by
  intro K hK L st m r h hR
  obtain ⟨G, A, ⟨cc, own, nL, ret, rk⟩, ⟨p, l, e, R⟩, ⟨s, mi, args, below, meth, c⟩, ⟨cells, slots, Q⟩⟩ := X
  obtain ⟨hx, hb, hml, hown, hts, hk, hnw, hfr, hlo, hce, hsl, hX, hbl, hbA⟩ := C
  unfold qs_dup at h
  split at h
  · intro ls H locs hF hH
    exact lv_dup hx hb hd rfl (hK _ _ _ _ _ h hR ls H locs (hF.stk (pj_okc trivial hF.2.2.2.2)) hH)
  · intro ls H locs hF hH
    exact lv_dup hx hb hd (pj_cat1 G _) (hK _ _ _ _ _ h hR ls H locs (hF.stk (pj_okc (pj_okh hF.2.2.2.2) hF.2.2.2.2)) hH)
  · cases h
theorem qz_pop {ρ : Type} {X : pj_X} {enc : ρ → Option pj_V × pj_M} {pc : Nat} (C : pj_C X) (hd : decode (pj_cc X) pc = .ok (.pop, 1)) : pj_S X enc pc (qs_pop (pc + 1)) := by
  intro K hK L st m r h hR
  obtain ⟨G, A, ⟨cc, own, nL, ret, rk⟩, ⟨p, l, e, R⟩, ⟨s, mi, args, below, meth, c⟩, ⟨cells, slots, Q⟩⟩ := X
  obtain ⟨hx, hb, hml, hown, hts, hk, hnw, hfr, hlo, hce, hsl, hX, hbl, hbA⟩ := C
  unfold qs_pop at h
  split at h
  · intro ls H locs hF hH
    exact lv_pop (va := .int _) hx hb hd rfl (hK _ _ _ _ _ h hR ls H locs (hF.stk (pj_ok1 hF.2.2.2.2)) hH)
  · intro ls H locs hF hH
    exact lv_pop hx hb hd (pj_cat1 G _) (hK _ _ _ _ _ h hR ls H locs (hF.stk (pj_ok1 hF.2.2.2.2)) hH)
  · cases h
theorem qz_dup2 {ρ : Type} {X : pj_X} {enc : ρ → Option pj_V × pj_M} {pc : Nat} (C : pj_C X) (hd : decode (pj_cc X) pc = .ok (.dup2, 1)) : pj_S X enc pc (qs_dup2 (pc + 1)) := by
  intro K hK L st m r h hR
  obtain ⟨G, A, ⟨cc, own, nL, ret, rk⟩, ⟨p, l, e, R⟩, ⟨s, mi, args, below, meth, c⟩, ⟨cells, slots, Q⟩⟩ := X
  obtain ⟨hx, hb, hml, hown, hts, hk, hnw, hfr, hlo, hce, hsl, hX, hbl, hbA⟩ := C
  unfold qs_dup2 at h
  split at h
  · intro ls H locs hF hH
    exact lv_dup2_11 hx hb hd rfl (pj_cat1 G _) (hK _ _ _ _ _ h hR ls H locs (hF.stk (pj_okc trivial (pj_okc (pj_okh (pj_ok1 hF.2.2.2.2)) hF.2.2.2.2))) hH)
  · cases h
def qs_go {ρ : Type} (tgt : Nat) : pj_T ρ := fun K L st m => K tgt L st m
theorem qz_goto {ρ : Type} {X : pj_X} {enc : ρ → Option pj_V × pj_M} {pc : Nat} (C : pj_C X) {off : Int} {tgt : Nat} (hd : decode (pj_cc X) pc = .ok (.goto off, 3)) (ht : (pc : Int) + off = (tgt : Int)) : pj_S X enc pc (qs_go tgt) := by
  intro K hK L st m r h hR
  obtain ⟨G, A, ⟨cc, own, nL, ret, rk⟩, ⟨p, l, e, R⟩, ⟨s, mi, args, below, meth, c⟩, ⟨cells, slots, Q⟩⟩ := X
  obtain ⟨hx, hb, hml, hown, hts, hk, hnw, hfr, hlo, hce, hsl, hX, hbl, hbA⟩ := C
  intro ls H locs hF hH
  exact lv_goto hx hb hd ht (hK _ _ _ _ _ h hR ls H locs hF hH)
def qs_ifeq {ρ : Type} (tgt nx : Nat) : pj_T ρ := fun K L st m => match st with
  | .inl x :: st => if x = 0 then K tgt L st m else K nx L st m
  | _ => none
theorem qz_ifeq {ρ : Type} {X : pj_X} {enc : ρ → Option pj_V × pj_M} {pc : Nat} (C : pj_C X) {off : Int} {tgt : Nat} (hd : decode (pj_cc X) pc = .ok (.ifCond .eq off, 3)) (ht : (pc : Int) + off = (tgt : Int)) : pj_S X enc pc (qs_ifeq tgt (pc + 3)) := by
  intro K hK L st m r h hR
  obtain ⟨G, A, ⟨cc, own, nL, ret, rk⟩, ⟨p, l, e, R⟩, ⟨s, mi, args, below, meth, c⟩, ⟨cells, slots, Q⟩⟩ := X
  obtain ⟨hx, hb, hml, hown, hts, hk, hnw, hfr, hlo, hce, hsl, hX, hbl, hbA⟩ := C
  unfold qs_ifeq at h
  split at h
  · intro ls H locs hF hH
    have hF1 := hF.stk (pj_ok1 hF.2.2.2.2)
    refine lv_if_eq hx hb hd ht (fun c1 => ?_) (fun c1 => ?_)
    · rw [if_pos c1] at h
      exact hK _ _ _ _ _ h hR ls H locs hF1 hH
    · rw [if_neg c1] at h
      exact hK _ _ _ _ _ h hR ls H locs hF1 hH
  · cases h
def qs_ifne {ρ : Type} (tgt nx : Nat) : pj_T ρ := fun K L st m => match st with
  | .inl x :: st => if x = 0 then K nx L st m else K tgt L st m
  | _ => none
theorem qz_ifne {ρ : Type} {X : pj_X} {enc : ρ → Option pj_V × pj_M} {pc : Nat} (C : pj_C X) {off : Int} {tgt : Nat} (hd : decode (pj_cc X) pc = .ok (.ifCond .ne off, 3)) (ht : (pc : Int) + off = (tgt : Int)) : pj_S X enc pc (qs_ifne tgt (pc + 3)) := by
  intro K hK L st m r h hR
  obtain ⟨G, A, ⟨cc, own, nL, ret, rk⟩, ⟨p, l, e, R⟩, ⟨s, mi, args, below, meth, c⟩, ⟨cells, slots, Q⟩⟩ := X
  obtain ⟨hx, hb, hml, hown, hts, hk, hnw, hfr, hlo, hce, hsl, hX, hbl, hbA⟩ := C
  unfold qs_ifne at h
  split at h
  · intro ls H locs hF hH
    have hF1 := hF.stk (pj_ok1 hF.2.2.2.2)
    refine lv_if_ne hx hb hd ht (fun c1 => ?_) (fun c1 => ?_)
    · rw [if_neg c1] at h
      exact hK _ _ _ _ _ h hR ls H locs hF1 hH
    · rw [if_pos c1] at h
      exact hK _ _ _ _ _ h hR ls H locs hF1 hH
  · cases h
def qs_iflt {ρ : Type} (tgt nx : Nat) : pj_T ρ := fun K L st m => match st with
  | .inl x :: st => if x < 0 then K tgt L st m else K nx L st m
  | _ => none
theorem qz_iflt {ρ : Type} {X : pj_X} {enc : ρ → Option pj_V × pj_M} {pc : Nat} (C : pj_C X) {off : Int} {tgt : Nat} (hd : decode (pj_cc X) pc = .ok (.ifCond .lt off, 3)) (ht : (pc : Int) + off = (tgt : Int)) : pj_S X enc pc (qs_iflt tgt (pc + 3)) := by
  intro K hK L st m r h hR
  obtain ⟨G, A, ⟨cc, own, nL, ret, rk⟩, ⟨p, l, e, R⟩, ⟨s, mi, args, below, meth, c⟩, ⟨cells, slots, Q⟩⟩ := X
  obtain ⟨hx, hb, hml, hown, hts, hk, hnw, hfr, hlo, hce, hsl, hX, hbl, hbA⟩ := C
  unfold qs_iflt at h
  split at h
  · intro ls H locs hF hH
    have hF1 := hF.stk (pj_ok1 hF.2.2.2.2)
    refine lv_if_lt hx hb hd ht (fun c1 => ?_) (fun c1 => ?_)
    · rw [if_pos c1] at h
      exact hK _ _ _ _ _ h hR ls H locs hF1 hH
    · rw [if_neg c1] at h
      exact hK _ _ _ _ _ h hR ls H locs hF1 hH
  · cases h
def qs_ifge {ρ : Type} (tgt nx : Nat) : pj_T ρ := fun K L st m => match st with
  | .inl x :: st => if x < 0 then K nx L st m else K tgt L st m
  | _ => none
theorem qz_ifge {ρ : Type} {X : pj_X} {enc : ρ → Option pj_V × pj_M} {pc : Nat} (C : pj_C X) {off : Int} {tgt : Nat} (hd : decode (pj_cc X) pc = .ok (.ifCond .ge off, 3)) (ht : (pc : Int) + off = (tgt : Int)) : pj_S X enc pc (qs_ifge tgt (pc + 3)) := by
  intro K hK L st m r h hR
  obtain ⟨G, A, ⟨cc, own, nL, ret, rk⟩, ⟨p, l, e, R⟩, ⟨s, mi, args, below, meth, c⟩, ⟨cells, slots, Q⟩⟩ := X
  obtain ⟨hx, hb, hml, hown, hts, hk, hnw, hfr, hlo, hce, hsl, hX, hbl, hbA⟩ := C
  unfold qs_ifge at h
  split at h
  · intro ls H locs hF hH
    have hF1 := hF.stk (pj_ok1 hF.2.2.2.2)
    refine lv_if_ge hx hb hd ht (fun c1 => ?_) (fun c1 => ?_)
    · rw [if_neg (Int32.not_lt.mpr c1)] at h
      exact hK _ _ _ _ _ h hR ls H locs hF1 hH
    · rw [if_pos (Int32.not_le.mp c1)] at h
      exact hK _ _ _ _ _ h hR ls H locs hF1 hH
  · cases h
def qs_ifgt {ρ : Type} (tgt nx : Nat) : pj_T ρ := fun K L st m => match st with
  | .inl x :: st => if 0 < x then K tgt L st m else K nx L st m
  | _ => none
theorem qz_ifgt {ρ : Type} {X : pj_X} {enc : ρ → Option pj_V × pj_M} {pc : Nat} (C : pj_C X) {off : Int} {tgt : Nat} (hd : decode (pj_cc X) pc = .ok (.ifCond .gt off, 3)) (ht : (pc : Int) + off = (tgt : Int)) : pj_S X enc pc (qs_ifgt tgt (pc + 3)) := by
  intro K hK L st m r h hR
  obtain ⟨G, A, ⟨cc, own, nL, ret, rk⟩, ⟨p, l, e, R⟩, ⟨s, mi, args, below, meth, c⟩, ⟨cells, slots, Q⟩⟩ := X
  obtain ⟨hx, hb, hml, hown, hts, hk, hnw, hfr, hlo, hce, hsl, hX, hbl, hbA⟩ := C
  unfold qs_ifgt at h
  split at h
  · intro ls H locs hF hH
    have hF1 := hF.stk (pj_ok1 hF.2.2.2.2)
    refine lv_if_gt hx hb hd ht (fun c1 => ?_) (fun c1 => ?_)
    · rw [if_pos c1] at h
      exact hK _ _ _ _ _ h hR ls H locs hF1 hH
    · rw [if_neg c1] at h
      exact hK _ _ _ _ _ h hR ls H locs hF1 hH
  · cases h
def qs_ifle {ρ : Type} (tgt nx : Nat) : pj_T ρ := fun K L st m => match st with
  | .inl x :: st => if 0 < x then K nx L st m else K tgt L st m
  | _ => none
theorem qz_ifle {ρ : Type} {X : pj_X} {enc : ρ → Option pj_V × pj_M} {pc : Nat} (C : pj_C X) {off : Int} {tgt : Nat} (hd : decode (pj_cc X) pc = .ok (.ifCond .le off, 3)) (ht : (pc : Int) + off = (tgt : Int)) : pj_S X enc pc (qs_ifle tgt (pc + 3)) := by
  intro K hK L st m r h hR
  obtain ⟨G, A, ⟨cc, own, nL, ret, rk⟩, ⟨p, l, e, R⟩, ⟨s, mi, args, below, meth, c⟩, ⟨cells, slots, Q⟩⟩ := X
  obtain ⟨hx, hb, hml, hown, hts, hk, hnw, hfr, hlo, hce, hsl, hX, hbl, hbA⟩ := C
  unfold qs_ifle at h
  split at h
  · intro ls H locs hF hH
    have hF1 := hF.stk (pj_ok1 hF.2.2.2.2)
    refine lv_if_le hx hb hd ht (fun c1 => ?_) (fun c1 => ?_)
    · rw [if_neg (Int32.not_lt.mpr c1)] at h
      exact hK _ _ _ _ _ h hR ls H locs hF1 hH
    · rw [if_pos (Int32.not_le.mp c1)] at h
      exact hK _ _ _ _ _ h hR ls H locs hF1 hH
  · cases h
def qs_iceq {ρ : Type} (tgt nx : Nat) : pj_T ρ := fun K L st m => match st with
  | .inl y :: .inl x :: st => if x = y then K tgt L st m else K nx L st m
  | _ => none
theorem qz_iceq {ρ : Type} {X : pj_X} {enc : ρ → Option pj_V × pj_M} {pc : Nat} (C : pj_C X) {off : Int} {tgt : Nat} (hd : decode (pj_cc X) pc = .ok (.if_icmp .eq off, 3)) (ht : (pc : Int) + off = (tgt : Int)) : pj_S X enc pc (qs_iceq tgt (pc + 3)) := by
  intro K hK L st m r h hR
  obtain ⟨G, A, ⟨cc, own, nL, ret, rk⟩, ⟨p, l, e, R⟩, ⟨s, mi, args, below, meth, c⟩, ⟨cells, slots, Q⟩⟩ := X
  obtain ⟨hx, hb, hml, hown, hts, hk, hnw, hfr, hlo, hce, hsl, hX, hbl, hbA⟩ := C
  unfold qs_iceq at h
  split at h
  · intro ls H locs hF hH
    have hF1 := hF.stk (pj_ok1 (pj_ok1 hF.2.2.2.2))
    refine lv_icmp_eq hx hb hd ht (fun c1 => ?_) (fun c1 => ?_)
    · rw [if_pos c1] at h
      exact hK _ _ _ _ _ h hR ls H locs hF1 hH
    · rw [if_neg c1] at h
      exact hK _ _ _ _ _ h hR ls H locs hF1 hH
  · cases h
def qs_icne {ρ : Type} (tgt nx : Nat) : pj_T ρ := fun K L st m => match st with
  | .inl y :: .inl x :: st => if x = y then K nx L st m else K tgt L st m
  | _ => none
theorem qz_icne {ρ : Type} {X : pj_X} {enc : ρ → Option pj_V × pj_M} {pc : Nat} (C : pj_C X) {off : Int} {tgt : Nat} (hd : decode (pj_cc X) pc = .ok (.if_icmp .ne off, 3)) (ht : (pc : Int) + off = (tgt : Int)) : pj_S X enc pc (qs_icne tgt (pc + 3)) := by
  intro K hK L st m r h hR
  obtain ⟨G, A, ⟨cc, own, nL, ret, rk⟩, ⟨p, l, e, R⟩, ⟨s, mi, args, below, meth, c⟩, ⟨cells, slots, Q⟩⟩ := X
  obtain ⟨hx, hb, hml, hown, hts, hk, hnw, hfr, hlo, hce, hsl, hX, hbl, hbA⟩ := C
  unfold qs_icne at h
  split at h
  · intro ls H locs hF hH
    have hF1 := hF.stk (pj_ok1 (pj_ok1 hF.2.2.2.2))
    refine lv_icmp_ne hx hb hd ht (fun c1 => ?_) (fun c1 => ?_)
    · rw [if_neg c1] at h
      exact hK _ _ _ _ _ h hR ls H locs hF1 hH
    · rw [if_pos c1] at h
      exact hK _ _ _ _ _ h hR ls H locs hF1 hH
  · cases h
def qs_iclt {ρ : Type} (tgt nx : Nat) : pj_T ρ := fun K L st m => match st with
  | .inl y :: .inl x :: st => if x < y then K tgt L st m else K nx L st m
  | _ => none
theorem qz_iclt {ρ : Type} {X : pj_X} {enc : ρ → Option pj_V × pj_M} {pc : Nat} (C : pj_C X) {off : Int} {tgt : Nat} (hd : decode (pj_cc X) pc = .ok (.if_icmp .lt off, 3)) (ht : (pc : Int) + off = (tgt : Int)) : pj_S X enc pc (qs_iclt tgt (pc + 3)) := by
  intro K hK L st m r h hR
  obtain ⟨G, A, ⟨cc, own, nL, ret, rk⟩, ⟨p, l, e, R⟩, ⟨s, mi, args, below, meth, c⟩, ⟨cells, slots, Q⟩⟩ := X
  obtain ⟨hx, hb, hml, hown, hts, hk, hnw, hfr, hlo, hce, hsl, hX, hbl, hbA⟩ := C
  unfold qs_iclt at h
  split at h
  · intro ls H locs hF hH
    have hF1 := hF.stk (pj_ok1 (pj_ok1 hF.2.2.2.2))
    refine lv_icmp_lt hx hb hd ht (fun c1 => ?_) (fun c1 => ?_)
    · rw [if_pos c1] at h
      exact hK _ _ _ _ _ h hR ls H locs hF1 hH
    · rw [if_neg c1] at h
      exact hK _ _ _ _ _ h hR ls H locs hF1 hH
  · cases h
def qs_icge {ρ : Type} (tgt nx : Nat) : pj_T ρ := fun K L st m => match st with
  | .inl y :: .inl x :: st => if x < y then K nx L st m else K tgt L st m
  | _ => none
theorem qz_icge {ρ : Type} {X : pj_X} {enc : ρ → Option pj_V × pj_M} {pc : Nat} (C : pj_C X) {off : Int} {tgt : Nat} (hd : decode (pj_cc X) pc = .ok (.if_icmp .ge off, 3)) (ht : (pc : Int) + off = (tgt : Int)) : pj_S X enc pc (qs_icge tgt (pc + 3)) := by
  intro K hK L st m r h hR
  obtain ⟨G, A, ⟨cc, own, nL, ret, rk⟩, ⟨p, l, e, R⟩, ⟨s, mi, args, below, meth, c⟩, ⟨cells, slots, Q⟩⟩ := X
  obtain ⟨hx, hb, hml, hown, hts, hk, hnw, hfr, hlo, hce, hsl, hX, hbl, hbA⟩ := C
  unfold qs_icge at h
  split at h
  · intro ls H locs hF hH
    have hF1 := hF.stk (pj_ok1 (pj_ok1 hF.2.2.2.2))
    refine lv_icmp_ge hx hb hd ht (fun c1 => ?_) (fun c1 => ?_)
    · rw [if_neg (Int32.not_lt.mpr c1)] at h
      exact hK _ _ _ _ _ h hR ls H locs hF1 hH
    · rw [if_pos (Int32.not_le.mp c1)] at h
      exact hK _ _ _ _ _ h hR ls H locs hF1 hH
  · cases h
def qs_icgt {ρ : Type} (tgt nx : Nat) : pj_T ρ := fun K L st m => match st with
  | .inl y :: .inl x :: st => if y < x then K tgt L st m else K nx L st m
  | _ => none
theorem qz_icgt {ρ : Type} {X : pj_X} {enc : ρ → Option pj_V × pj_M} {pc : Nat} (C : pj_C X) {off : Int} {tgt : Nat} (hd : decode (pj_cc X) pc = .ok (.if_icmp .gt off, 3)) (ht : (pc : Int) + off = (tgt : Int)) : pj_S X enc pc (qs_icgt tgt (pc + 3)) := by
  intro K hK L st m r h hR
  obtain ⟨G, A, ⟨cc, own, nL, ret, rk⟩, ⟨p, l, e, R⟩, ⟨s, mi, args, below, meth, c⟩, ⟨cells, slots, Q⟩⟩ := X
  obtain ⟨hx, hb, hml, hown, hts, hk, hnw, hfr, hlo, hce, hsl, hX, hbl, hbA⟩ := C
  unfold qs_icgt at h
  split at h
  · intro ls H locs hF hH
    have hF1 := hF.stk (pj_ok1 (pj_ok1 hF.2.2.2.2))
    refine lv_icmp_gt hx hb hd ht (fun c1 => ?_) (fun c1 => ?_)
    · rw [if_pos c1] at h
      exact hK _ _ _ _ _ h hR ls H locs hF1 hH
    · rw [if_neg c1] at h
      exact hK _ _ _ _ _ h hR ls H locs hF1 hH
  · cases h
def qs_icle {ρ : Type} (tgt nx : Nat) : pj_T ρ := fun K L st m => match st with
  | .inl y :: .inl x :: st => if y < x then K nx L st m else K tgt L st m
  | _ => none
theorem qz_icle {ρ : Type} {X : pj_X} {enc : ρ → Option pj_V × pj_M} {pc : Nat} (C : pj_C X) {off : Int} {tgt : Nat} (hd : decode (pj_cc X) pc = .ok (.if_icmp .le off, 3)) (ht : (pc : Int) + off = (tgt : Int)) : pj_S X enc pc (qs_icle tgt (pc + 3)) := by
  intro K hK L st m r h hR
  obtain ⟨G, A, ⟨cc, own, nL, ret, rk⟩, ⟨p, l, e, R⟩, ⟨s, mi, args, below, meth, c⟩, ⟨cells, slots, Q⟩⟩ := X
  obtain ⟨hx, hb, hml, hown, hts, hk, hnw, hfr, hlo, hce, hsl, hX, hbl, hbA⟩ := C
  unfold qs_icle at h
  split at h
  · intro ls H locs hF hH
    have hF1 := hF.stk (pj_ok1 (pj_ok1 hF.2.2.2.2))
    refine lv_icmp_le hx hb hd ht (fun c1 => ?_) (fun c1 => ?_)
    · rw [if_neg (Int32.not_lt.mpr c1)] at h
      exact hK _ _ _ _ _ h hR ls H locs hF1 hH
    · rw [if_pos (Int32.not_le.mp c1)] at h
      exact hK _ _ _ _ _ h hR ls H locs hF1 hH
  · cases h
end
section
/-! PART 05: steps on fields, arrays; switches; returns; calls. Written by wip/whole/gen/mkcore2.py -/
def pj_chk : Bool := (List.range 95).all (fun a => match pj_lay[a]? with
  | some (0, ci) => (pj_ct ci).all (fun f => match f with
    | none => true
    | some (t, x, d) => pj_lay[a + d]? == some (t, x))
  | some (4, x) => (List.range (pj_rlen x)).all (fun i => pj_lay[a + pj_roff x + pj_rstr x * i]? == some (0, x))
  | some (1, x) => decide (x < 2 ^ 31)
  | some (2, x) => decide (x < 2 ^ 31)
  | some (3, x) => decide (x < 2 ^ 31)
  | some _ => false
  | none => true)
theorem pj_chk_ok : pj_chk = true := by decide +kernel
theorem pj_lay_lt {a : Nat} {q : Nat × Nat} (h : pj_lay[a]? = some q) : a < 95 := by
  have h1 := (List.getElem?_eq_some_iff.mp h).1
  rw [pj_lay_len] at h1
  exact h1
theorem pj_chk_at {a : Nat} (h : a < 95) : (match pj_lay[a]? with
  | some (0, ci) => (pj_ct ci).all (fun f => match f with
    | none => true
    | some (t, x, d) => pj_lay[a + d]? == some (t, x))
  | some (4, x) => (List.range (pj_rlen x)).all (fun i => pj_lay[a + pj_roff x + pj_rstr x * i]? == some (0, x))
  | some (1, x) => decide (x < 2 ^ 31)
  | some (2, x) => decide (x < 2 ^ 31)
  | some (3, x) => decide (x < 2 ^ 31)
  | some _ => false
  | none => true) = true := List.all_eq_true.mp pj_chk_ok a (List.mem_range.mpr h)
theorem pj_lay_fld {a ci k t x d : Nat} (h : pj_lay[a]? = some (0, ci)) (hf : (pj_ct ci)[k]? = some (some (t, x, d))) : pj_lay[a + d]? = some (t, x) := by
  have h1 := pj_chk_at (pj_lay_lt h)
  rw [h] at h1
  have h2 := List.all_eq_true.mp h1 _ (List.mem_of_getElem? hf)
  exact eq_of_beq h2
theorem pj_lay_ref {a x i : Nat} (h : pj_lay[a]? = some (4, x)) (hi : i < pj_rlen x) : pj_lay[a + pj_roff x + pj_rstr x * i]? = some (0, x) := by
  have h1 := pj_chk_at (pj_lay_lt h)
  rw [h] at h1
  have h2 := List.all_eq_true.mp h1 i (List.mem_range.mpr hi)
  exact eq_of_beq h2
theorem pj_lay_5 {a t x : Nat} (h : pj_lay[a]? = some (t, x)) : t ≠ 5 := by
  intro e
  subst e
  have h1 := pj_chk_at (pj_lay_lt h)
  rw [h] at h1
  cases h1
theorem pj_tr_lay {G : pj_E} {t x a : Nat} (h : pj_lay[a]? = some (t, x)) : pj_tr G (.inr (.inr (t, x, a))) = .ref (G.2.1 a) := by
  simp only [pj_tr, if_neg (pj_lay_5 h)]
theorem pj_okl {t x a : Nat} (h : pj_okv (.inr (.inr (t, x, a)))) (ht : t ≠ 5) : pj_lay[a]? = some (t, x) := h.elim (fun e => absurd e ht) id
/-! fields -/
def qs_gf {ρ : Type} (ci k nx : Nat) : pj_T ρ := fun K L st m => match st with
  | .inr (.inr (t, x, a)) :: st => (match Nat.beq t 0 && Nat.beq x ci with
    | true => (match (pj_ct ci)[k]? with
      | some none => K nx L (.inl (m.1 a k) :: st) m
      | some (some (t', x', d)) => K nx L (.inr (.inr (t', x', a + d)) :: st) m
      | none => none)
    | false => none)
  | _ => none
def qs_pf {ρ : Type} (ci k nx : Nat) : pj_T ρ := fun K L st m => match st with
  | .inl v :: .inr (.inr (t, x, a)) :: st => (match Nat.beq t 0 && Nat.beq x ci with
    | true => (match (pj_ct ci)[k]? with
      | some none => K nx L st (pj_wr m a k v)
      | _ => none)
    | false => none)
  | _ => none
def qs_pz {ρ : Type} (ci k nx : Nat) : pj_T ρ := fun K L st m => match st with
  | .inl v :: .inr (.inr (t, x, a)) :: st => (match Nat.beq t 0 && Nat.beq x ci with
    | true => (match (pj_ct ci)[k]? with
      | some none => if v = 0 then K nx L st (pj_wr m a k 0) else if v = 1 then K nx L st (pj_wr m a k 1) else none
      | _ => none)
    | false => none)
  | _ => none
theorem pj_b2 {a b c d : Nat} (h : (Nat.beq a b && Nat.beq c d) = true) : a = b ∧ c = d := by
  simp only [Bool.and_eq_true, Nat.beq_eq] at h
  exact h
theorem pj_fs_at {G : pj_E} {m : pj_M} {a ci k : Nat} {f : Option (Nat × Nat × Nat)} (h : (pj_ct ci)[k]? = some f) : ((pj_ct ci).mapIdx (fun k f => pj_fv G m a k f))[k]? = some (pj_fv G m a k f) := by
  simp [h]
theorem pj_wr_at (m : pj_M) (a k : Nat) (v : Int32) : (pj_wr m a k v).1 a = upd (m.1 a) k v := by
  simp [pj_wr]
theorem pj_wr_ne {m : pj_M} {a k j : Nat} {v : Int32} (h : j ≠ a) : (pj_wr m a k v).1 j = m.1 j := by
  simp [pj_wr, h]
theorem pj_fs_set {G : pj_E} {m : pj_M} {a ci k : Nat} {v : Int32} (h : (pj_ct ci)[k]? = some none) : ((pj_ct ci).mapIdx (fun j f => pj_fv G m a j f)).set k (.int v) = (pj_ct ci).mapIdx (fun j f => pj_fv G (pj_wr m a k v) a j f) := by
  apply List.ext_getElem?
  intro j
  have hlt := (List.getElem?_eq_some_iff.mp h).1
  by_cases hj : j = k
  · subst hj
    rw [List.getElem?_set_self (by simpa using hlt), pj_fs_at h]
    simp [pj_fv, pj_wr_at, upd]
  · rw [List.getElem?_set_ne (by omega)]
    simp only [List.getElem?_mapIdx]
    cases hf : (pj_ct ci)[j]? with
    | none => rfl
    | some f =>
      cases f with
      | none => simp [pj_fv, pj_wr_at, upd, hj]
      | some q => rfl
theorem pj_H.wr {G : pj_E} {A : Nat → Prop} {m m' : pj_M} {s : State} {H1 : Heap} {locs1 : List Loc} {a : Nat} {q : Nat × Nat} {en : va_E} (hq : pj_lay[a]? = some q) (h1 : ∀ j, j ≠ a → m'.1 j = m.1 j) (h2 : ∀ j, j ≠ a → m'.2 j = m.2 j) (he : pj_ent G m' a q = en)
    (hP : va_P G.1 vwCl ((pj_ws G m).set a (G.2.1 a, en)) H1) (hD : va_D A (pj_ws G m)) (hS : va_S A s.heap H1 locs1) : pj_H G A m' s H1 locs1 := by
  subst he
  rw [pj_ws_set hq h1 h2] at hP
  exact ⟨hP, pj_D_irr hD, hS⟩
theorem qz_gf {ρ : Type} {X : pj_X} {enc : ρ → Option pj_V × pj_M} {pc : Nat} (C : pj_C X) {ci k i N : Nat} {Cn : String} {T : u_T} (hd : decode (pj_cc X) pc = .ok (.getfield i, 3)) (hc : vwCl[ci]? = some (Cn, T, N)) (hin : ∀ c ∈ u_ws Cn T N, c ∈ pj_tb) (hkN : k < N) (hl : Cond.fieldLink (pj_own X) i (T k).1 (T k).2.1 (T k).2.2.1 ∈ pj_tb) : pj_S X enc pc (qs_gf ci k (pc + 3)) := by
  intro K hK L st m r h hR
  obtain ⟨G, A, ⟨cc, own, nL, ret, rk⟩, ⟨p, l, e, R⟩, ⟨s, mi, args, below, meth, c⟩, ⟨cells, slots, Q⟩⟩ := X
  obtain ⟨hx, hb, hml, hown, hts, hk, hnw, hfr, hlo, hce, hsl, hX, hbl, hbA⟩ := C
  unfold qs_gf at h
  split at h
  · rename_i t x a st
    split at h
    · rename_i hbq
      obtain ⟨rfl, rfl⟩ := pj_b2 hbq
      intro ls H locs hF hH
      have hla := pj_okl (pj_okh hF.2.2.2.2) (by decide)
      rw [List.map_cons, pj_tr_lay hla]
      split at h
      · rename_i hf
        exact va_get hx hb hts hin hown hk hH.1 a (pj_ws_at hla) hc k hkN (hts _ hl) (fun _ h9 => h9) (pj_fs_at hf) hd (hK _ _ _ _ _ h hR ls H locs (hF.stk (pj_okc trivial (pj_ok1 hF.2.2.2.2))) hH)
      · rename_i t' x' d hf
        have hl2 := pj_lay_fld hla hf
        have h2 := hK _ _ _ _ _ h hR ls H locs (hF.stk (pj_okc (Or.inr hl2) (pj_ok1 hF.2.2.2.2))) hH
        rw [List.map_cons, pj_tr_lay hl2] at h2
        exact va_get hx hb hts hin hown hk hH.1 a (pj_ws_at hla) hc k hkN (hts _ hl) (fun _ h9 => h9) (pj_fs_at hf) hd h2
      · cases h
    · cases h
  · cases h
theorem qz_pf {ρ : Type} {X : pj_X} {enc : ρ → Option pj_V × pj_M} {pc : Nat} (C : pj_C X) {ci k i N : Nat} {Cn : String} {T : u_T} {ty0 : Nat → FieldType} (hd : decode (pj_cc X) pc = .ok (.putfield i, 3)) (hc : vwCl[ci]? = some (Cn, T, N)) (hin : ∀ c ∈ u_ws Cn T N, c ∈ pj_tb) (hty : ∀ k, k < N → parseFieldDescriptor (T k).2.2.1 = some (ty0 k)) (hnm : ∀ a, a < N → ∀ b, b < N → a ≠ b → (T a).2.1 ≠ (T b).2.1) (hkN : k < N) (hl : Cond.fieldLink (pj_own X) i (T k).1 (T k).2.1 (T k).2.2.1 ∈ pj_tb) (hfin : (T k).2.2.2 = false) (hi : ty0 k = .int) : pj_S X enc pc (qs_pf ci k (pc + 3)) := by
  intro K hK L st m r h hR
  obtain ⟨G, A, ⟨cc, own, nL, ret, rk⟩, ⟨p, l, e, R⟩, ⟨s, mi, args, below, meth, c⟩, ⟨cells, slots, Q⟩⟩ := X
  obtain ⟨hx, hb, hml, hown, hts, hk, hnw, hfr, hlo, hce, hsl, hX, hbl, hbA⟩ := C
  unfold qs_pf at h
  split at h
  · rename_i v t x a st
    split at h
    · rename_i hbq
      obtain ⟨rfl, rfl⟩ := pj_b2 hbq
      intro ls H locs hF hH
      have hla := pj_okl (pj_okh (pj_ok1 hF.2.2.2.2)) (by decide)
      rw [List.map_cons, List.map_cons, pj_tr_lay hla]
      split at h
      · rename_i hf
        have hlt := (List.getElem?_eq_some_iff.mp hf).1
        have hp := hty k hkN
        rw [hi] at hp
        refine va_put hx hb hts hin ty0 hty hnm hown hk hH.1 hH.2.1 hH.2.2 a (pj_ws_at hla) hc k hkN (hts _ hl) (fun _ h9 => h9) hfin (ty := .int) (v := .int v) hp rfl rfl (by simpa using hlt) hd (fun H1 locs1 hP hD hS => ?_)
        exact hK _ _ _ _ _ h hR ls H1 locs1 (hF.stk (pj_ok1 (pj_ok1 hF.2.2.2.2))) (pj_H.wr hla (fun j hj => pj_wr_ne hj) (fun j hj => rfl) (by rw [pj_fs_set hf]; rfl) hP hH.2.1 hS)
      · cases h
    · cases h
  · cases h
theorem qz_pz {ρ : Type} {X : pj_X} {enc : ρ → Option pj_V × pj_M} {pc : Nat} (C : pj_C X) {ci k i N : Nat} {Cn : String} {T : u_T} {ty0 : Nat → FieldType} (hd : decode (pj_cc X) pc = .ok (.putfield i, 3)) (hc : vwCl[ci]? = some (Cn, T, N)) (hin : ∀ c ∈ u_ws Cn T N, c ∈ pj_tb) (hty : ∀ k, k < N → parseFieldDescriptor (T k).2.2.1 = some (ty0 k)) (hnm : ∀ a, a < N → ∀ b, b < N → a ≠ b → (T a).2.1 ≠ (T b).2.1) (hkN : k < N) (hl : Cond.fieldLink (pj_own X) i (T k).1 (T k).2.1 (T k).2.2.1 ∈ pj_tb) (hfin : (T k).2.2.2 = false) (hi : ty0 k = .boolean) : pj_S X enc pc (qs_pz ci k (pc + 3)) := by
  intro K hK L st m r h hR
  obtain ⟨G, A, ⟨cc, own, nL, ret, rk⟩, ⟨p, l, e, R⟩, ⟨s, mi, args, below, meth, c⟩, ⟨cells, slots, Q⟩⟩ := X
  obtain ⟨hx, hb, hml, hown, hts, hk, hnw, hfr, hlo, hce, hsl, hX, hbl, hbA⟩ := C
  unfold qs_pz at h
  split at h
  · rename_i v t x a st
    split at h
    · rename_i hbq
      obtain ⟨rfl, rfl⟩ := pj_b2 hbq
      intro ls H locs hF hH
      have hla := pj_okl (pj_okh (pj_ok1 hF.2.2.2.2)) (by decide)
      rw [List.map_cons, List.map_cons, pj_tr_lay hla]
      split at h
      · rename_i hf
        have hlt := (List.getElem?_eq_some_iff.mp hf).1
        have hp := hty k hkN
        rw [hi] at hp
        split at h
        · rename_i hv
          subst hv
          refine va_put hx hb hts hin ty0 hty hnm hown hk hH.1 hH.2.1 hH.2.2 a (pj_ws_at hla) hc k hkN (hts _ hl) (fun _ h9 => h9) hfin (ty := .boolean) (v := .int 0) hp (by decide +kernel) (by decide +kernel) (by simpa using hlt) hd (fun H1 locs1 hP hD hS => ?_)
          exact hK _ _ _ _ _ h hR ls H1 locs1 (hF.stk (pj_ok1 (pj_ok1 hF.2.2.2.2))) (pj_H.wr hla (fun j hj => pj_wr_ne hj) (fun j hj => rfl) (by rw [pj_fs_set hf]; rfl) hP hH.2.1 hS)
        · split at h
          · rename_i hv
            subst hv
            refine va_put hx hb hts hin ty0 hty hnm hown hk hH.1 hH.2.1 hH.2.2 a (pj_ws_at hla) hc k hkN (hts _ hl) (fun _ h9 => h9) hfin (ty := .boolean) (v := .int 1) hp (by decide +kernel) (by decide +kernel) (by simpa using hlt) hd (fun H1 locs1 hP hD hS => ?_)
            exact hK _ _ _ _ _ h hR ls H1 locs1 (hF.stk (pj_ok1 (pj_ok1 hF.2.2.2.2))) (pj_H.wr hla (fun j hj => pj_wr_ne hj) (fun j hj => rfl) (by rw [pj_fs_set hf]; rfl) hP hH.2.1 hS)
          · cases h
      · cases h
    · cases h
  · cases h
/-! arrays -/
def qs_iald {ρ : Type} (nx : Nat) : pj_T ρ := fun K L st m => match st with
  | .inl i :: .inr (.inr (t, x, a)) :: st => (match Nat.beq t 1 with
    | true => if i < 0 ∨ x ≤ i.toNatClampNeg then none else K nx L (.inl (m.1 a i.toNatClampNeg) :: st) m
    | false => none)
  | _ => none
def qs_iast {ρ : Type} (nx : Nat) : pj_T ρ := fun K L st m => match st with
  | .inl v :: .inl i :: .inr (.inr (t, x, a)) :: st => (match Nat.beq t 1 with
    | true => if i < 0 ∨ x ≤ i.toNatClampNeg then none else K nx L st (pj_wr m a i.toNatClampNeg v)
    | false => none)
  | _ => none
def qs_lald {ρ : Type} (nx : Nat) : pj_T ρ := fun K L st m => match st with
  | .inl i :: .inr (.inr (t, x, a)) :: st => (match Nat.beq t 2 with
    | true => if i < 0 ∨ x ≤ i.toNatClampNeg then none else K nx L (.inr (.inl (m.2 a i.toNatClampNeg)) :: st) m
    | false => none)
  | _ => none
def qs_last {ρ : Type} (nx : Nat) : pj_T ρ := fun K L st m => match st with
  | .inr (.inl v) :: .inl i :: .inr (.inr (t, x, a)) :: st => (match Nat.beq t 2 with
    | true => if i < 0 ∨ x ≤ i.toNatClampNeg then none else K nx L st (pj_wl m a i.toNatClampNeg v)
    | false => none)
  | _ => none
def qs_zald {ρ : Type} (nx : Nat) : pj_T ρ := fun K L st m => match st with
  | .inl i :: .inr (.inr (t, x, a)) :: st => (match Nat.beq t 3 with
    | true => if i < 0 ∨ x ≤ i.toNatClampNeg then none else K nx L (.inl (m.1 a i.toNatClampNeg) :: st) m
    | false => none)
  | _ => none
def qs_zast {ρ : Type} (nx : Nat) : pj_T ρ := fun K L st m => match st with
  | .inl v :: .inl i :: .inr (.inr (t, x, a)) :: st => (match Nat.beq t 3 with
    | true => if i < 0 ∨ x ≤ i.toNatClampNeg then none else if v = 0 then K nx L st (pj_wr m a i.toNatClampNeg 0) else if v = 1 then K nx L st (pj_wr m a i.toNatClampNeg 1) else none
    | false => none)
  | _ => none
def qs_aald {ρ : Type} (nx : Nat) : pj_T ρ := fun K L st m => match st with
  | .inl i :: .inr (.inr (t, x, a)) :: st => (match Nat.beq t 4 with
    | true => if i < 0 ∨ pj_rlen x ≤ i.toNatClampNeg then none else K nx L (.inr (.inr (0, x, a + pj_roff x + pj_rstr x * i.toNatClampNeg)) :: st) m
    | false => none)
  | _ => none
def qs_alen {ρ : Type} (nx : Nat) : pj_T ρ := fun K L st m => match st with
  | .inr (.inr (t, x, _)) :: st => (match Nat.beq t 1 with
    | true => K nx L (.inl (Int32.ofNat x) :: st) m
    | false => none)
  | _ => none
/-- the law's script: its length, its ints -/
def qs_sald {ρ : Type} (n : Nat) (xs : Nat → Int32) (nx : Nat) : pj_T ρ := fun K L st m => match st with
  | .inl i :: .inr (.inr (t, _, _)) :: st => (match Nat.beq t 5 with
    | true => if i < 0 ∨ n ≤ i.toNatClampNeg then none else K nx L (.inl (xs i.toNatClampNeg) :: st) m
    | false => none)
  | _ => none
def qs_slen {ρ : Type} (n : Nat) (nx : Nat) : pj_T ρ := fun K L st m => match st with
  | .inr (.inr (t, _, _)) :: st => (match Nat.beq t 5 with
    | true => K nx L (.inl (Int32.ofNat n) :: st) m
    | false => none)
  | _ => none
theorem pj_wl_at (m : pj_M) (a k : Nat) (v : Int64) : (pj_wl m a k v).2 a = vp_updL (m.2 a) k v := by
  simp [pj_wl]
theorem pj_wl_ne {m : pj_M} {a k j : Nat} {v : Int64} (h : j ≠ a) : (pj_wl m a k v).2 j = m.2 j := by
  simp [pj_wl, h]

theorem qz_iald {ρ : Type} {X : pj_X} {enc : ρ → Option pj_V × pj_M} {pc : Nat} (C : pj_C X) (hd : decode (pj_cc X) pc = .ok (.iaload, 1)) : pj_S X enc pc (qs_iald (pc + 1)) := by
  intro K hK L st m r h hR
  obtain ⟨G, A, ⟨cc, own, nL, ret, rk⟩, ⟨p, l, e, R⟩, ⟨s, mi, args, below, meth, c⟩, ⟨cells, slots, Q⟩⟩ := X
  obtain ⟨hx, hb, hml, hown, hts, hk, hnw, hfr, hlo, hce, hsl, hX, hbl, hbA⟩ := C
  unfold qs_iald at h
  split at h
  · rename_i i t x a st
    split at h
    · rename_i hbq
      obtain rfl := Nat.eq_of_beq_eq_true hbq
      split at h
      · cases h
      · rename_i hi
        intro ls H locs hF hH
        have hla := pj_okl (pj_okh (pj_ok1 hF.2.2.2.2)) (by decide)
        rw [List.map_cons, List.map_cons, pj_tr_lay hla]
        exact va_iald hx hb hk hH.1 a 0 (pj_ws_at hla) rfl hi hd (hK _ _ _ _ _ h hR ls H locs (hF.stk (pj_okc trivial (pj_ok1 (pj_ok1 hF.2.2.2.2)))) hH)
    · cases h
  · cases h
theorem qz_lald {ρ : Type} {X : pj_X} {enc : ρ → Option pj_V × pj_M} {pc : Nat} (C : pj_C X) (hd : decode (pj_cc X) pc = .ok (.laload, 1)) : pj_S X enc pc (qs_lald (pc + 1)) := by
  intro K hK L st m r h hR
  obtain ⟨G, A, ⟨cc, own, nL, ret, rk⟩, ⟨p, l, e, R⟩, ⟨s, mi, args, below, meth, c⟩, ⟨cells, slots, Q⟩⟩ := X
  obtain ⟨hx, hb, hml, hown, hts, hk, hnw, hfr, hlo, hce, hsl, hX, hbl, hbA⟩ := C
  unfold qs_lald at h
  split at h
  · rename_i i t x a st
    split at h
    · rename_i hbq
      obtain rfl := Nat.eq_of_beq_eq_true hbq
      split at h
      · cases h
      · rename_i hi
        intro ls H locs hF hH
        have hla := pj_okl (pj_okh (pj_ok1 hF.2.2.2.2)) (by decide)
        rw [List.map_cons, List.map_cons, pj_tr_lay hla]
        exact va_lald hx hb hk hH.1 a 1 (pj_ws_at hla) rfl hi hd (hK _ _ _ _ _ h hR ls H locs (hF.stk (pj_okc trivial (pj_ok1 (pj_ok1 hF.2.2.2.2)))) hH)
    · cases h
  · cases h
theorem qz_zald {ρ : Type} {X : pj_X} {enc : ρ → Option pj_V × pj_M} {pc : Nat} (C : pj_C X) (hd : decode (pj_cc X) pc = .ok (.baload, 1)) : pj_S X enc pc (qs_zald (pc + 1)) := by
  intro K hK L st m r h hR
  obtain ⟨G, A, ⟨cc, own, nL, ret, rk⟩, ⟨p, l, e, R⟩, ⟨s, mi, args, below, meth, c⟩, ⟨cells, slots, Q⟩⟩ := X
  obtain ⟨hx, hb, hml, hown, hts, hk, hnw, hfr, hlo, hce, hsl, hX, hbl, hbA⟩ := C
  unfold qs_zald at h
  split at h
  · rename_i i t x a st
    split at h
    · rename_i hbq
      obtain rfl := Nat.eq_of_beq_eq_true hbq
      split at h
      · cases h
      · rename_i hi
        intro ls H locs hF hH
        have hla := pj_okl (pj_okh (pj_ok1 hF.2.2.2.2)) (by decide)
        rw [List.map_cons, List.map_cons, pj_tr_lay hla]
        exact va_zald hx hb hk hH.1 a 2 (pj_ws_at hla) rfl hi hd (hK _ _ _ _ _ h hR ls H locs (hF.stk (pj_okc trivial (pj_ok1 (pj_ok1 hF.2.2.2.2)))) hH)
    · cases h
  · cases h
theorem qz_iast {ρ : Type} {X : pj_X} {enc : ρ → Option pj_V × pj_M} {pc : Nat} (C : pj_C X) (hd : decode (pj_cc X) pc = .ok (.iastore, 1)) : pj_S X enc pc (qs_iast (pc + 1)) := by
  intro K hK L st m r h hR
  obtain ⟨G, A, ⟨cc, own, nL, ret, rk⟩, ⟨p, l, e, R⟩, ⟨s, mi, args, below, meth, c⟩, ⟨cells, slots, Q⟩⟩ := X
  obtain ⟨hx, hb, hml, hown, hts, hk, hnw, hfr, hlo, hce, hsl, hX, hbl, hbA⟩ := C
  unfold qs_iast at h
  split at h
  · rename_i v i t x a st
    split at h
    · rename_i hbq
      obtain rfl := Nat.eq_of_beq_eq_true hbq
      split at h
      · cases h
      · rename_i hi
        intro ls H locs hF hH
        have hla := pj_okl (pj_okh (pj_ok1 (pj_ok1 hF.2.2.2.2))) (by decide)
        rw [List.map_cons, List.map_cons, List.map_cons, pj_tr_lay hla]
        refine va_iast hx hb hk hH.1 hH.2.1 hH.2.2 a 0 (pj_ws_at hla) rfl hi hd (fun H1 locs1 hP hD hS => ?_)
        exact hK _ _ _ _ _ h hR ls H1 locs1 (hF.stk (pj_ok1 (pj_ok1 (pj_ok1 hF.2.2.2.2)))) (pj_H.wr (m := m) (m' := pj_wr m a i.toNatClampNeg v) hla (fun j hj => pj_wr_ne hj) (fun j hj => rfl) (by simp only [pj_ent, pj_wr_at]) hP hH.2.1 hS)
    · cases h
  · cases h
theorem qz_last {ρ : Type} {X : pj_X} {enc : ρ → Option pj_V × pj_M} {pc : Nat} (C : pj_C X) (hd : decode (pj_cc X) pc = .ok (.lastore, 1)) : pj_S X enc pc (qs_last (pc + 1)) := by
  intro K hK L st m r h hR
  obtain ⟨G, A, ⟨cc, own, nL, ret, rk⟩, ⟨p, l, e, R⟩, ⟨s, mi, args, below, meth, c⟩, ⟨cells, slots, Q⟩⟩ := X
  obtain ⟨hx, hb, hml, hown, hts, hk, hnw, hfr, hlo, hce, hsl, hX, hbl, hbA⟩ := C
  unfold qs_last at h
  split at h
  · rename_i v i t x a st
    split at h
    · rename_i hbq
      obtain rfl := Nat.eq_of_beq_eq_true hbq
      split at h
      · cases h
      · rename_i hi
        intro ls H locs hF hH
        have hla := pj_okl (pj_okh (pj_ok1 (pj_ok1 hF.2.2.2.2))) (by decide)
        rw [List.map_cons, List.map_cons, List.map_cons, pj_tr_lay hla]
        refine va_last hx hb hk hH.1 hH.2.1 hH.2.2 a 1 (pj_ws_at hla) rfl hi hd (fun H1 locs1 hP hD hS => ?_)
        exact hK _ _ _ _ _ h hR ls H1 locs1 (hF.stk (pj_ok1 (pj_ok1 (pj_ok1 hF.2.2.2.2)))) (pj_H.wr (m := m) (m' := pj_wl m a i.toNatClampNeg v) hla (fun _ _ => rfl) (fun j hj => pj_wl_ne hj) (by simp only [pj_ent, pj_wl_at]) hP hH.2.1 hS)
    · cases h
  · cases h
theorem qz_zast {ρ : Type} {X : pj_X} {enc : ρ → Option pj_V × pj_M} {pc : Nat} (C : pj_C X) (hd : decode (pj_cc X) pc = .ok (.bastore, 1)) : pj_S X enc pc (qs_zast (pc + 1)) := by
  intro K hK L st m r h hR
  obtain ⟨G, A, ⟨cc, own, nL, ret, rk⟩, ⟨p, l, e, R⟩, ⟨s, mi, args, below, meth, c⟩, ⟨cells, slots, Q⟩⟩ := X
  obtain ⟨hx, hb, hml, hown, hts, hk, hnw, hfr, hlo, hce, hsl, hX, hbl, hbA⟩ := C
  unfold qs_zast at h
  split at h
  · rename_i v i t x a st
    split at h
    · rename_i hbq
      obtain rfl := Nat.eq_of_beq_eq_true hbq
      split at h
      · cases h
      · rename_i hi
        intro ls H locs hF hH
        have hla := pj_okl (pj_okh (pj_ok1 (pj_ok1 hF.2.2.2.2))) (by decide)
        rw [List.map_cons, List.map_cons, List.map_cons, pj_tr_lay hla]
        refine va_zast hx hb hk hH.1 hH.2.1 hH.2.2 a 2 (pj_ws_at hla) rfl hi hd (fun H1 locs1 hP hD hS => ?_)
        split at h
        · rename_i hv
          subst hv
          exact hK _ _ _ _ _ h hR ls H1 locs1 (hF.stk (pj_ok1 (pj_ok1 (pj_ok1 hF.2.2.2.2)))) (pj_H.wr hla (fun j hj => pj_wr_ne hj) (fun j hj => rfl) (by simp only [pj_ent, pj_wr_at, show vp_nar .boolean 0 = 0 by decide +kernel]) hP hH.2.1 hS)
        · split at h
          · rename_i hv
            subst hv
            exact hK _ _ _ _ _ h hR ls H1 locs1 (hF.stk (pj_ok1 (pj_ok1 (pj_ok1 hF.2.2.2.2)))) (pj_H.wr hla (fun j hj => pj_wr_ne hj) (fun j hj => rfl) (by simp only [pj_ent, pj_wr_at, show vp_nar .boolean 1 = 1 by decide +kernel]) hP hH.2.1 hS)
          · cases h
    · cases h
  · cases h
theorem qz_aald {ρ : Type} {X : pj_X} {enc : ρ → Option pj_V × pj_M} {pc : Nat} (C : pj_C X) (hd : decode (pj_cc X) pc = .ok (.aaload, 1)) : pj_S X enc pc (qs_aald (pc + 1)) := by
  intro K hK L st m r h hR
  obtain ⟨G, A, ⟨cc, own, nL, ret, rk⟩, ⟨p, l, e, R⟩, ⟨s, mi, args, below, meth, c⟩, ⟨cells, slots, Q⟩⟩ := X
  obtain ⟨hx, hb, hml, hown, hts, hk, hnw, hfr, hlo, hce, hsl, hX, hbl, hbA⟩ := C
  unfold qs_aald at h
  split at h
  · rename_i i t x a st
    split at h
    · rename_i hbq
      obtain rfl := Nat.eq_of_beq_eq_true hbq
      split at h
      · cases h
      · rename_i hi
        intro ls H locs hF hH
        have hla := pj_okl (pj_okh (pj_ok1 hF.2.2.2.2)) (by decide)
        rw [List.map_cons, List.map_cons, pj_tr_lay hla]
        have hl2 := pj_lay_ref hla (show i.toNatClampNeg < pj_rlen x by omega)
        have h2 := hK _ _ _ _ _ h hR ls H locs (hF.stk (pj_okc (Or.inr hl2) (pj_ok1 (pj_ok1 hF.2.2.2.2)))) hH
        rw [List.map_cons, pj_tr_lay hl2] at h2
        have hx0 : x = 4 ∨ x = 5 ∨ x = 9 := by
          have hlt : 0 < pj_rlen x := by omega
          unfold pj_rlen at hlt
          split at hlt <;> simp_all
        rcases hx0 with rfl | rfl | rfl
        · exact va_aldq hx hb hk hH.1 a 3 (pj_ws_at hla) rfl hi hd h2
        · exact va_aldq hx hb hk hH.1 a 4 (pj_ws_at hla) rfl hi hd h2
        · exact va_aldq hx hb hk hH.1 a 5 (pj_ws_at hla) rfl hi hd h2
    · cases h
  · cases h
theorem qz_alen {ρ : Type} {X : pj_X} {enc : ρ → Option pj_V × pj_M} {pc : Nat} (C : pj_C X) (hd : decode (pj_cc X) pc = .ok (.arraylength, 1)) : pj_S X enc pc (qs_alen (pc + 1)) := by
  intro K hK L st m r h hR
  obtain ⟨G, A, ⟨cc, own, nL, ret, rk⟩, ⟨p, l, e, R⟩, ⟨s, mi, args, below, meth, c⟩, ⟨cells, slots, Q⟩⟩ := X
  obtain ⟨hx, hb, hml, hown, hts, hk, hnw, hfr, hlo, hce, hsl, hX, hbl, hbA⟩ := C
  unfold qs_alen at h
  split at h
  · rename_i t x a st
    split at h
    · rename_i hbq
      obtain rfl := Nat.eq_of_beq_eq_true hbq
      intro ls H locs hF hH
      have hla := pj_okl (pj_okh hF.2.2.2.2) (by decide)
      rw [List.map_cons, pj_tr_lay hla]
      exact va_alen hx hb hk hH.1 a 0 (pj_ws_at hla) rfl rfl hd (hK _ _ _ _ _ h hR ls H locs (hF.stk (pj_okc trivial (pj_ok1 hF.2.2.2.2))) hH)
    · cases h
  · cases h
def pj_sL (X : pj_X) : Nat := X.1.2.2.2.2.1
def pj_sxs (X : pj_X) : Nat → Int32 := X.1.2.2.2.2.2
theorem qz_sald {ρ : Type} {X : pj_X} {enc : ρ → Option pj_V × pj_M} {pc : Nat} (C : pj_C X) {n : Nat} {xs : Nat → Int32} (hn : pj_sL X = n) (hs : pj_sxs X = xs) (hd : decode (pj_cc X) pc = .ok (.iaload, 1)) : pj_S X enc pc (qs_sald n xs (pc + 1)) := by
  intro K hK L st m r h hR
  obtain ⟨G, A, ⟨cc, own, nL, ret, rk⟩, ⟨p, l, e, R⟩, ⟨s, mi, args, below, meth, c⟩, ⟨cells, slots, Q⟩⟩ := X
  obtain ⟨hx, hb, hml, hown, hts, hk, hnw, hfr, hlo, hce, hsl, hX, hbl, hbA⟩ := C
  subst hn
  subst hs
  unfold qs_sald at h
  split at h
  · rename_i i t x a st
    split at h
    · rename_i hbq
      obtain rfl := Nat.eq_of_beq_eq_true hbq
      split at h
      · cases h
      · rename_i hi
        intro ls H locs hF hH
        exact va_sld hx hb hX hbl hbA hH.2.2 hi hd (hK _ _ _ _ _ h hR ls H locs (hF.stk (pj_okc trivial (pj_ok1 (pj_ok1 hF.2.2.2.2)))) hH)
    · cases h
  · cases h
theorem qz_slen {ρ : Type} {X : pj_X} {enc : ρ → Option pj_V × pj_M} {pc : Nat} (C : pj_C X) {n : Nat} (hn : pj_sL X = n) (hd : decode (pj_cc X) pc = .ok (.arraylength, 1)) : pj_S X enc pc (qs_slen n (pc + 1)) := by
  intro K hK L st m r h hR
  obtain ⟨G, A, ⟨cc, own, nL, ret, rk⟩, ⟨p, l, e, R⟩, ⟨s, mi, args, below, meth, c⟩, ⟨cells, slots, Q⟩⟩ := X
  obtain ⟨hx, hb, hml, hown, hts, hk, hnw, hfr, hlo, hce, hsl, hX, hbl, hbA⟩ := C
  subst hn
  unfold qs_slen at h
  split at h
  · rename_i t x a st
    split at h
    · rename_i hbq
      obtain rfl := Nat.eq_of_beq_eq_true hbq
      intro ls H locs hF hH
      exact va_slen hx hb hX hbl hbA hH.2.2 hd (hK _ _ _ _ _ h hR ls H locs (hF.stk (pj_okc trivial (pj_ok1 hF.2.2.2.2))) hH)
    · cases h
  · cases h
end
section
/-! PART 06: switches, returns, the library's own calls, calls, the run of a body, contracts. Written by wip/whole/gen/mkcore3.py -/
def pj_sw {ρ : Type} (K : pj_K ρ) (L : List (Option pj_V)) (st : List pj_V) (m : pj_M) (d : Nat) (x : Int32) (ps : List (Int32 × Nat)) : Option ρ := match ps with
  | [] => K d L st m
  | q :: ps => if x = q.1 then K q.2 L st m else pj_sw K L st m d x ps
def qs_sw {ρ : Type} (ps : List (Int32 × Nat)) (d : Nat) : pj_T ρ := fun K L st m => match st with
  | .inl x :: st => pj_sw K L st m d x ps
  | _ => none
theorem pj_sw_of {ρ : Type} {K : pj_K ρ} {L : List (Option pj_V)} {st : List pj_V} {m : pj_M} {d : Nat} {x : Int32} {ps : List (Int32 × Nat)} {r : ρ} (h : pj_sw K L st m d x ps = some r) :
    (∃ (k : Nat) (q : Int32 × Nat), ps[k]? = some q ∧ x = q.1 ∧ K q.2 L st m = some r) ∨ ((∀ q ∈ ps, x ≠ q.1) ∧ K d L st m = some r) := by
  induction ps with
  | nil => exact Or.inr ⟨fun q hq => by simp at hq, h⟩
  | cons q ps ih =>
    unfold pj_sw at h
    split at h
    · rename_i hq
      exact Or.inl ⟨0, q, rfl, hq, h⟩
    · rename_i hq
      rcases ih h with ⟨k, q2, h1, h2, h3⟩ | ⟨h1, h2⟩
      · exact Or.inl ⟨k + 1, q2, by simpa using h1, h2, h3⟩
      · refine Or.inr ⟨fun q2 hq2 => ?_, h2⟩
        rcases List.mem_cons.mp hq2 with rfl | hq3
        · exact hq
        · exact h1 q2 hq3
def pj_tsok (pc : Nat) (lo hi dflt : Int) (offs : List Int) (ps : List (Int32 × Nat)) (d : Nat) : Bool :=
  (List.range ps.length).all (fun k => match ps[k]?, offs[k]? with
    | some q, some off => decide ((pc : Int) + off = (q.2 : Int)) && decide (q.1.toInt = lo + (k : Int))
    | _, _ => false) && (decide ((ps.length : Int) = hi - lo + 1) && decide ((pc : Int) + dflt = (d : Int)))
theorem qz_tsw {ρ : Type} {X : pj_X} {enc : ρ → Option pj_V × pj_M} {pc : Nat} (C : pj_C X) {dflt lo hi : Int} {offs : Array Int} {len d : Nat} {ps : List (Int32 × Nat)} (hd : decode (pj_cc X) pc = .ok (.tableswitch dflt lo hi offs, len)) (hps : pj_tsok pc lo hi dflt offs.toList ps d = true) : pj_S X enc pc (qs_sw ps d) := by
  intro K hK L st m r h hR
  obtain ⟨G, A, ⟨cc, own, nL, ret, rk⟩, ⟨p, l, e, R⟩, ⟨s, mi, args, below, meth, c⟩, ⟨cells, slots, Q⟩⟩ := X
  obtain ⟨hx, hb, hml, hown, hts, hk, hnw, hfr, hlo, hce, hsl, hX, hbl, hbA⟩ := C
  unfold qs_sw at h
  simp only [pj_tsok, Bool.and_eq_true, decide_eq_true_eq] at hps
  obtain ⟨hp1, hp2, hp3⟩ := hps
  have hp : ∀ (k : Nat) (q : Int32 × Nat), ps[k]? = some q → ∃ off, offs[k]? = some off ∧ (pc : Int) + off = (q.2 : Int) ∧ q.1.toInt = lo + (k : Int) := by
    intro k q hq
    have h1 := List.all_eq_true.mp hp1 k (List.mem_range.mpr (List.getElem?_eq_some_iff.mp hq).1)
    rw [hq] at h1
    cases ho : offs.toList[k]? with
    | none => rw [ho] at h1; cases h1
    | some off =>
      rw [ho] at h1
      simp only [Bool.and_eq_true, decide_eq_true_eq] at h1
      exact ⟨off, by simpa using ho, h1.1, h1.2⟩
  split at h
  · rename_i x st
    intro ls H locs hF hH
    have hF1 := hF.stk (pj_ok1 hF.2.2.2.2)
    rcases pj_sw_of h with ⟨k, q, h1, h2, h3⟩ | ⟨h1, h2⟩
    · obtain ⟨off, g1, g2, g3⟩ := hp k q h1
      have hlt := (List.getElem?_eq_some_iff.mp h1).1
      subst h2
      refine lv_tableIn hx hb hd (by omega) (by omega) (off := off) ?_ g2 (hK _ _ _ _ _ h3 hR ls H locs hF1 hH)
      rw [g3, show (lo + (k : Int) - lo).toNat = k by omega]
      exact g1
    · refine lv_tableOut hx hb hd ?_ hp3 (hK _ _ _ _ _ h2 hR ls H locs hF1 hH)
      rcases Int.lt_or_le x.toInt lo with q1 | q1
      · exact Or.inl q1
      rcases Int.lt_or_le hi x.toInt with q2 | q2
      · exact Or.inr q2
      exfalso
      have hk1 : (x.toInt - lo).toNat < ps.length := by omega
      have hq : ps[(x.toInt - lo).toNat]? = some (ps[(x.toInt - lo).toNat]'hk1) := List.getElem?_eq_getElem hk1
      obtain ⟨off, g1, g2, g3⟩ := hp _ _ hq
      refine h1 _ (List.mem_of_getElem? hq) (Int32.toInt_inj.mp ?_)
      rw [g3]
      omega
  · cases h
def pj_lsok (pc : Nat) (dflt : Int) (pr : List (Int × Int)) (ps : List (Int32 × Nat)) (d : Nat) : Bool := match pr, ps with
  | [], [] => decide ((pc : Int) + dflt = (d : Int))
  | a :: pr, q :: ps => (decide (q.1.toInt = a.1) && decide ((pc : Int) + a.2 = (q.2 : Int))) && pj_lsok pc dflt pr ps d
  | _, _ => false
theorem pj_ls_of {ρ : Type} {K : pj_K ρ} {L : List (Option pj_V)} {st : List pj_V} {m : pj_M} {d pc : Nat} {dflt : Int} {x : Int32} {r : ρ} (ps : List (Int32 × Nat)) : ∀ (pr : List (Int × Int)), pj_lsok pc dflt pr ps d = true → pj_sw K L st m d x ps = some r →
    ∃ tgt : Nat, (pc : Int) + Op.lookupswitch.offset pr dflt x.toInt = (tgt : Int) ∧ K tgt L st m = some r := by
  induction ps with
  | nil =>
    intro pr hp h
    cases pr with
    | nil => exact ⟨d, by simpa [pj_lsok, Op.lookupswitch.offset_nil] using hp, h⟩
    | cons _ _ => cases hp
  | cons q ps ih =>
    intro pr hp h
    cases pr with
    | nil => cases hp
    | cons a pr =>
      obtain ⟨a, o⟩ := a
      simp only [pj_lsok, Bool.and_eq_true, decide_eq_true_eq] at hp
      obtain ⟨⟨g1, g2⟩, g3⟩ := hp
      unfold pj_sw at h
      rw [Op.lookupswitch.offset_cons]
      split at h
      · rename_i hq
        rw [if_pos (by rw [hq, g1])]
        exact ⟨q.2, g2, h⟩
      · rename_i hq
        rw [if_neg (fun e => hq (Int32.toInt_inj.mp (by rw [g1, e])))]
        exact ih pr g3 h
theorem qz_lsw {ρ : Type} {X : pj_X} {enc : ρ → Option pj_V × pj_M} {pc : Nat} (C : pj_C X) {dflt : Int} {pr : Array (Int × Int)} {len d : Nat} {ps : List (Int32 × Nat)} (hd : decode (pj_cc X) pc = .ok (.lookupswitch dflt pr, len)) (hso : (pr.toList.zip (pr.toList.drop 1)).all (fun (a, next) => a.1 < next.1) = true) (hps : pj_lsok pc dflt pr.toList ps d = true) : pj_S X enc pc (qs_sw ps d) := by
  intro K hK L st m r h hR
  obtain ⟨G, A, ⟨cc, own, nL, ret, rk⟩, ⟨p, l, e, R⟩, ⟨s, mi, args, below, meth, c⟩, ⟨cells, slots, Q⟩⟩ := X
  obtain ⟨hx, hb, hml, hown, hts, hk, hnw, hfr, hlo, hce, hsl, hX, hbl, hbA⟩ := C
  unfold qs_sw at h
  split at h
  · rename_i x st
    intro ls H locs hF hH
    have hF1 := hF.stk (pj_ok1 hF.2.2.2.2)
    obtain ⟨tgt, h1, h2⟩ := pj_ls_of ps _ hps h
    exact lv_lookup hx hb hd hso rfl h1 (hK _ _ _ _ _ h2 hR ls H locs hF1 hH)
  · cases h
/-! returns -/
def pj_eI (q : Int32 × pj_M) : Option pj_V × pj_M := (some (.inl q.1), q.2)
def pj_eL (q : Int64 × pj_M) : Option pj_V × pj_M := (some (.inr (.inl q.1)), q.2)
def pj_eR (cr : Nat) (q : Nat × pj_M) : Option pj_V × pj_M := (some (.inr (.inr (0, cr, q.1))), q.2)
def pj_eV (m : pj_M) : Option pj_V × pj_M := (none, m)
def qs_iret : pj_T (Int32 × pj_M) := fun _ _ st m => match st with
  | [.inl v] => some (v, m)
  | _ => none
def qs_zret : pj_T (Int32 × pj_M) := fun _ _ st m => match st with
  | [.inl v] => if v = 0 then some (0, m) else if v = 1 then some (1, m) else none
  | _ => none
def qs_lret : pj_T (Int64 × pj_M) := fun _ _ st m => match st with
  | [.inr (.inl v)] => some (v, m)
  | _ => none
def qs_aret (cr : Nat) : pj_T (Nat × pj_M) := fun _ _ st m => match st with
  | [.inr (.inr (t, x, a))] => (match Nat.beq t 0 && Nat.beq x cr with
    | true => some (a, m)
    | false => none)
  | _ => none
def qs_vret : pj_T pj_M := fun _ _ st m => match st with
  | [] => some m
  | _ => none
theorem qz_iret {X : pj_X} {pc : Nat} (C : pj_C X) (hd : decode (pj_cc X) pc = .ok (.ireturn, 1)) (hr : pj_retT X = some .int) : pj_S X pj_eI pc qs_iret := by
  intro K hK L st m r h hR
  obtain ⟨G, A, ⟨cc, own, nL, ret, rk⟩, ⟨p, l, e, R⟩, ⟨s, mi, args, below, meth, c⟩, ⟨cells, slots, Q⟩⟩ := X
  obtain ⟨hx, hb, hml, hown, hts, hk, hnw, hfr, hlo, hce, hsl, hX, hbl, hbA⟩ := C
  unfold qs_iret at h
  split at h
  · cases h
    intro ls H locs hF hH
    exact hR pc ls H locs ⟨hd, .int, hr, rfl⟩ (fun v hv => by cases hv; trivial) hH
  · cases h
theorem qz_zret {X : pj_X} {pc : Nat} (C : pj_C X) (hd : decode (pj_cc X) pc = .ok (.ireturn, 1)) (hr : pj_retT X = some .boolean) : pj_S X pj_eI pc qs_zret := by
  intro K hK L st m r h hR
  obtain ⟨G, A, ⟨cc, own, nL, ret, rk⟩, ⟨p, l, e, R⟩, ⟨s, mi, args, below, meth, c⟩, ⟨cells, slots, Q⟩⟩ := X
  obtain ⟨hx, hb, hml, hown, hts, hk, hnw, hfr, hlo, hce, hsl, hX, hbl, hbA⟩ := C
  unfold qs_zret at h
  split at h
  · split at h
    · rename_i hv
      subst hv
      cases h
      intro ls H locs hF hH
      exact hR pc ls H locs ⟨hd, .boolean, hr, (by decide +kernel : narrow .boolean (.int 0) = .int 0)⟩ (fun v hv => by cases hv; trivial) hH
    · split at h
      · rename_i hv
        subst hv
        cases h
        intro ls H locs hF hH
        exact hR pc ls H locs ⟨hd, .boolean, hr, (by decide +kernel : narrow .boolean (.int 1) = .int 1)⟩ (fun v hv => by cases hv; trivial) hH
      · cases h
  · cases h
theorem qz_lret {X : pj_X} {pc : Nat} (C : pj_C X) (hd : decode (pj_cc X) pc = .ok (.lreturn, 1)) (hr : pj_retT X = some .long) : pj_S X pj_eL pc qs_lret := by
  intro K hK L st m r h hR
  obtain ⟨G, A, ⟨cc, own, nL, ret, rk⟩, ⟨p, l, e, R⟩, ⟨s, mi, args, below, meth, c⟩, ⟨cells, slots, Q⟩⟩ := X
  obtain ⟨hx, hb, hml, hown, hts, hk, hnw, hfr, hlo, hce, hsl, hX, hbl, hbA⟩ := C
  unfold qs_lret at h
  split at h
  · cases h
    intro ls H locs hF hH
    exact hR pc ls H locs ⟨hd, hr⟩ (fun v hv => by cases hv; trivial) hH
  · cases h
theorem qz_aret {X : pj_X} {pc cr : Nat} {n : String} (C : pj_C X) (hd : decode (pj_cc X) pc = .ok (.areturn, 1)) (hr : pj_retT X = some (.object n)) : pj_S X (pj_eR cr) pc (qs_aret cr) := by
  intro K hK L st m r h hR
  obtain ⟨G, A, ⟨cc, own, nL, ret, rk⟩, ⟨p, l, e, R⟩, ⟨s, mi, args, below, meth, c⟩, ⟨cells, slots, Q⟩⟩ := X
  obtain ⟨hx, hb, hml, hown, hts, hk, hnw, hfr, hlo, hce, hsl, hX, hbl, hbA⟩ := C
  unfold qs_aret at h
  split at h
  · split at h
    · rename_i hbq
      obtain ⟨rfl, rfl⟩ := pj_b2 hbq
      cases h
      intro ls H locs hF hH
      exact hR pc ls H locs ⟨hd, n, hr⟩ (fun v hv => by cases hv; exact pj_okh hF.2.2.2.2) hH
    · cases h
  · cases h
theorem qz_vret {X : pj_X} {pc : Nat} (C : pj_C X) (hd : decode (pj_cc X) pc = .ok (.return_, 1)) (hr : pj_retT X = none) : pj_S X pj_eV pc qs_vret := by
  intro K hK L st m r h hR
  obtain ⟨G, A, ⟨cc, own, nL, ret, rk⟩, ⟨p, l, e, R⟩, ⟨s, mi, args, below, meth, c⟩, ⟨cells, slots, Q⟩⟩ := X
  obtain ⟨hx, hb, hml, hown, hts, hk, hnw, hfr, hlo, hce, hsl, hX, hbl, hbA⟩ := C
  unfold qs_vret at h
  split at h
  · cases h
    intro ls H locs hF hH
    exact hR pc ls H locs ⟨hd, hr⟩ (fun v hv => by cases hv) hH
  · cases h
/-! the library's own -/
def qs_cpi {ρ : Type} (nx : Nat) : pj_T ρ := fun K L st m => match st with
  | .inl n :: .inl dp :: .inr (.inr (t1, x1, a1)) :: .inl sp :: .inr (.inr (t0, x0, a0)) :: st => (match (Nat.beq t1 1 && Nat.beq t0 1) && Nat.ble (pj_cat st) 8 with
    | true => if (sp < 0 ∨ dp < 0 ∨ n < 0) ∨ x0 < sp.toNatClampNeg + n.toNatClampNeg ∨ x1 < dp.toNatClampNeg + n.toNatClampNeg then none else K nx L st (pj_cp m a0 sp.toNatClampNeg a1 dp.toNatClampNeg n.toNatClampNeg)
    | false => none)
  | _ => none
theorem qz_cpi {ρ : Type} {X : pj_X} {enc : ρ → Option pj_V × pj_M} {pc : Nat} (C : pj_C X) {i : Nat} (hd : decode (pj_cc X) pc = .ok (.invokestatic i, 3)) (h1 : Cond.methodLink (pj_own X) i arraycopyName ∈ pj_tb) (h2 : Cond.native arraycopyName ∈ pj_tb) (h3 : Cond.static arraycopyName ∈ pj_tb) (h4 : Cond.initialized "java/lang/System" ∈ pj_tb) : pj_S X enc pc (qs_cpi (pc + 3)) := by
  intro K hK L st m r h hR
  obtain ⟨G, A, ⟨cc, own, nL, ret, rk⟩, ⟨p, l, e, R⟩, ⟨s, mi, args, below, meth, c⟩, ⟨cells, slots, Q⟩⟩ := X
  obtain ⟨hx, hb, hml, hown, hts, hk, hnw, hfr, hlo, hce, hsl, hX, hbl, hbA⟩ := C
  unfold qs_cpi at h
  split at h
  · rename_i n dp t1 x1 a1 sp t0 x0 a0 st
    split at h
    · rename_i hbq
      simp only [Bool.and_eq_true, Nat.beq_eq, Nat.ble_eq] at hbq
      obtain ⟨⟨rfl, rfl⟩, hcat⟩ := hbq
      split at h
      · cases h
      · rename_i hi
        simp only [not_or, Nat.not_lt] at hi
        obtain ⟨⟨i1, i2, i3⟩, i4, i5⟩ := hi
        intro ls H locs hF hH
        have hok := hF.2.2.2.2
        have hla1 := pj_okl (pj_okh (pj_ok1 (pj_ok1 hok))) (by decide)
        have hla0 := pj_okl (pj_okh (pj_ok1 (pj_ok1 (pj_ok1 (pj_ok1 hok))))) (by decide)
        rw [List.map_cons, List.map_cons, List.map_cons, List.map_cons, List.map_cons, pj_tr_lay hla1, pj_tr_lay hla0]
        have hnf : nativeFrameWords "java/lang/System" "arraycopy" 5 = 7 := by decide +kernel
        have hct := pj_cat_eq G st
        refine va_copyi hx hb (hml.trans hF.1.symm) hown (hts _ h1) (hts _ h2) (hts _ h3) (hts _ h4) hk hH.1 hH.2.1 hH.2.2 a0 a1 0 0 (pj_ws_at hla0) (pj_ws_at hla1) rfl rfl rfl i1 i2 i3 i4 i5 (fun _ _ => rfl) (by omega) (by rw [hct, hnf]; omega) hd (fun H1 locs1 hP hD hS => ?_)
        exact hK _ _ _ _ _ h hR ls H1 locs1 (hF.stk (pj_ok1 (pj_ok1 (pj_ok1 (pj_ok1 (pj_ok1 hok)))))) (pj_H.wr (m := m) (m' := pj_cp m a0 sp.toNatClampNeg a1 dp.toNatClampNeg n.toNatClampNeg) hla1 (fun j hj => by simp [pj_cp, hj]) (fun _ _ => rfl) (by simp [pj_ent, pj_cp]) hP hH.2.1 hS)
    · cases h
  · cases h
def qs_mmax {ρ : Type} (nx : Nat) : pj_T ρ := fun K L st m => match st with
  | .inl y :: .inl x :: st => (match Nat.ble (pj_cat st) 8 with
    | true => K nx L (.inl (if x < y then y else x) :: st) m
    | false => none)
  | _ => none
def qs_mmin {ρ : Type} (nx : Nat) : pj_T ρ := fun K L st m => match st with
  | .inl y :: .inl x :: st => (match Nat.ble (pj_cat st) 8 with
    | true => K nx L (.inl (if y < x then y else x) :: st) m
    | false => none)
  | _ => none
def qs_lmin {ρ : Type} (nx : Nat) : pj_T ρ := fun K L st m => match st with
  | .inr (.inl y) :: .inr (.inl x) :: st => (match Nat.ble (pj_cat st) 8 with
    | true => K nx L (.inr (.inl (if y < x then y else x)) :: st) m
    | false => none)
  | _ => none
theorem qz_mmax {ρ : Type} {X : pj_X} {enc : ρ → Option pj_V × pj_M} {pc : Nat} (C : pj_C X) {i : Nat} (hd : decode (pj_cc X) pc = .ok (.invokestatic i, 3)) (h1 : Cond.methodLink (pj_own X) i Lib.Math.max.name ∈ pj_tb) (h2 : Cond.static Lib.Math.max.name ∈ pj_tb) (h3 : Cond.initialized "java/lang/Math" ∈ pj_tb) (h4 : Cond.code Lib.Math.max.name Lib.Math.max.code 2 (some .int) ∈ pj_tb) : pj_S X enc pc (qs_mmax (pc + 3)) := by
  intro K hK L st m r h hR
  obtain ⟨G, A, ⟨cc, own, nL, ret, rk⟩, ⟨p, l, e, R⟩, ⟨s, mi, args, below, meth, c⟩, ⟨cells, slots, Q⟩⟩ := X
  obtain ⟨hx, hb, hml, hown, hts, hk, hnw, hfr, hlo, hce, hsl, hX, hbl, hbA⟩ := C
  unfold qs_mmax at h
  split at h
  · rename_i y x st
    split at h
    · rename_i hbq
      have hbq := Nat.le_of_ble_eq_true hbq
      intro ls H locs hF hH
      have hct := pj_cat_eq G st
      exact va_mmax hx hb (hml.trans hF.1.symm) hown (hts _ h1) (hts _ h2) (hts _ h3) (hts _ h4) (by omega) (by rw [hct]; omega) hce hsl hd (hK _ _ _ _ _ h hR ls H locs (hF.stk (pj_okc trivial (pj_ok1 (pj_ok1 hF.2.2.2.2)))) hH)
    · cases h
  · cases h
theorem qz_mmin {ρ : Type} {X : pj_X} {enc : ρ → Option pj_V × pj_M} {pc : Nat} (C : pj_C X) {i : Nat} (hd : decode (pj_cc X) pc = .ok (.invokestatic i, 3)) (h1 : Cond.methodLink (pj_own X) i Lib.Math.min.name ∈ pj_tb) (h2 : Cond.static Lib.Math.min.name ∈ pj_tb) (h3 : Cond.initialized "java/lang/Math" ∈ pj_tb) (h4 : Cond.code Lib.Math.min.name Lib.Math.min.code 2 (some .int) ∈ pj_tb) : pj_S X enc pc (qs_mmin (pc + 3)) := by
  intro K hK L st m r h hR
  obtain ⟨G, A, ⟨cc, own, nL, ret, rk⟩, ⟨p, l, e, R⟩, ⟨s, mi, args, below, meth, c⟩, ⟨cells, slots, Q⟩⟩ := X
  obtain ⟨hx, hb, hml, hown, hts, hk, hnw, hfr, hlo, hce, hsl, hX, hbl, hbA⟩ := C
  unfold qs_mmin at h
  split at h
  · rename_i y x st
    split at h
    · rename_i hbq
      have hbq := Nat.le_of_ble_eq_true hbq
      intro ls H locs hF hH
      have hct := pj_cat_eq G st
      exact va_mmin hx hb (hml.trans hF.1.symm) hown (hts _ h1) (hts _ h2) (hts _ h3) (hts _ h4) (by omega) (by rw [hct]; omega) hce hsl hd (hK _ _ _ _ _ h hR ls H locs (hF.stk (pj_okc trivial (pj_ok1 (pj_ok1 hF.2.2.2.2)))) hH)
    · cases h
  · cases h
theorem qz_lmin {ρ : Type} {X : pj_X} {enc : ρ → Option pj_V × pj_M} {pc : Nat} (C : pj_C X) {i : Nat} (hd : decode (pj_cc X) pc = .ok (.invokestatic i, 3)) (h1 : Cond.methodLink (pj_own X) i Lib.MathLoose.min_long.x ∈ pj_tb) (h2 : Cond.static Lib.MathLoose.min_long.x ∈ pj_tb) (h3 : Cond.initialized "java/lang/Math" ∈ pj_tb) (h4 : Cond.code Lib.MathLoose.min_long.x Lib.MathLoose.min_long.code 4 (some .long) ∈ pj_tb) : pj_S X enc pc (qs_lmin (pc + 3)) := by
  intro K hK L st m r h hR
  obtain ⟨G, A, ⟨cc, own, nL, ret, rk⟩, ⟨p, l, e, R⟩, ⟨s, mi, args, below, meth, c⟩, ⟨cells, slots, Q⟩⟩ := X
  obtain ⟨hx, hb, hml, hown, hts, hk, hnw, hfr, hlo, hce, hsl, hX, hbl, hbA⟩ := C
  unfold qs_lmin at h
  split at h
  · rename_i y x st
    split at h
    · rename_i hbq
      have hbq := Nat.le_of_ble_eq_true hbq
      intro ls H locs hF hH
      have hct := pj_cat_eq G st
      exact va_mmin_long hx hb (hml.trans hF.1.symm) hown (hts _ h1) (hts _ h2) (hts _ h3) (hts _ h4) (by omega) (by rw [hct]; omega) hce hsl hd (hK _ _ _ _ _ h hR ls H locs (hF.stk (pj_okc trivial (pj_ok1 (pj_ok1 hF.2.2.2.2)))) hH)
    · cases h
  · cases h
/-! calls -/
def pj_Aw (G : pj_E) : Nat → Prop := fun q => ∃ a, a < 95 ∧ q = G.2.1 a
def pj_Pre (G : pj_E) (m : pj_M) (U : State) : Prop := va_P G.1 vwCl (pj_ws G m) U.heap ∧ va_K G.1 vwCl (pj_tys G) U ∧ va_D (pj_Aw G) (pj_ws G m) ∧ va_Nw pj_nw U ∧ va_X G.2.2.2.1 G.2.2.2.2.1 G.2.2.2.2.2 U U.heap ∧ G.2.2.2.1 < U.heap.size ∧ ¬ pj_Aw G G.2.2.2.1
def pj_Qc (G : pj_E) (o : Option pj_V) (m : pj_M) : Array Value → State → Outcome → State → Prop := fun _ st oc t =>
  oc = .returned (o.map (pj_tr G)) ∧ (∀ v, o = some v → pj_okv v) ∧ va_P G.1 vwCl (pj_ws G m) t.heap ∧ va_F (pj_Aw G) st t
/-- a method's contract: where its pure text answers, the machine answers so -/
def pj_Ct {σ : Type} (ef : σ → Option pj_V × pj_M) (y : MethodName) (cc : ByteArray) (nL : Nat) (ret : Option FieldType) (rk : Nat) (F : List pj_V → pj_M → Option σ) : Prop :=
  ∀ (l : Launch) (G : pj_E) (as : List pj_V) (m : pj_M) (r : σ), F as m = some r → (∀ v ∈ as, pj_okv v) → Met l y (Cond.code y cc nL ret :: pj_tb) (pj_rm rk) (va_Pc (as.map (pj_tr G)) (pj_Pre G m)) (pj_Qc G (ef r).1 (ef r).2) 0 0 (pj_Aw G)
theorem pj_Pre_blind (G : pj_E) (m : pj_M) (av : List Value) : FrameBlind (va_Pc av (pj_Pre G m)) := by
  intro a U g mk h
  obtain ⟨h0, h1, h2, h3, h4, h5, h6, h7⟩ := h
  exact ⟨h0, h1, va_K.moved (u := U) (U := U.calling g mk a) (Vm.Alike.refl U.vm) h2, h3, va_Nw.same (u := U) (U := U.calling g mk a) rfl rfl h4, va_X.moved (u := U) (U := U.calling g mk a) (Vm.Alike.refl U.vm) h5, h6, h7⟩
theorem pj_D_aw {G : pj_E} {A : Nat → Prop} {m : pj_M} (h : va_D A (pj_ws G m)) : va_D (pj_Aw G) (pj_ws G m) := ⟨h.1, fun k q hk => by
  obtain ⟨t, h1, rfl⟩ := pj_ws_of hk
  exact ⟨k, pj_lay_lt h1, rfl⟩⟩
theorem pj_aw_in {G : pj_E} {A : Nat → Prop} {m : pj_M} (h : va_D A (pj_ws G m)) : ∀ q, pj_Aw G q → A q := by
  rintro q ⟨a, ha, rfl⟩
  rw [← pj_lay_len] at ha
  exact h.2 a _ (pj_ws_at (List.getElem?_eq_getElem ha))
theorem pj_pre_at {G : pj_E} {A : Nat → Prop} {m : pj_M} {s : State} {H : Heap} {locs : List Loc} (hk : va_K G.1 vwCl (pj_tys G) s) (hnw : va_Nw pj_nw s) (hX : va_X G.2.2.2.1 G.2.2.2.2.1 G.2.2.2.2.2 s s.heap) (hbl : G.2.2.2.1 < s.heap.size) (hbA : ¬ A G.2.2.2.1) (hH : pj_H G A m s H locs) : ∀ U : State, U.heap = H → s.WarmedH U.vm → pj_Pre G m U := by
  intro U hU hW
  refine ⟨by rw [hU]; exact hH.1, va_K.moved hW.alike hk, pj_D_aw hH.2.1, va_Nw.warmM hW hnw, ?_, ?_, fun h => hbA (pj_aw_in hH.2.1 _ h)⟩
  · rw [hU]
    exact va_X.moved hW.alike (hX.kept (hH.2.2.2.1 _ hbl hbA))
  · rw [hU]
    exact Nat.lt_of_lt_of_le hbl hH.2.2.1
theorem pj_go {p : Program} {l : Launch} {e : Env} {R : Room} {s : State} {mi : MethodId} {args : Array Value} {below : List Frame} {meth : Method} {c : Code} {H : Heap} {locs : List Loc} {cells slots : Nat} {Q : State → Prop} {pc : Nat} {ls : Array Slot} {st0 rest : List Value} {a : Array Value} {G : pj_E} {A : Nat → Prop} {m m1 : pj_M} {o : Option pj_V}
    (hr : va_Run p l e R s mi args below meth c H locs cells slots 0 0 (F0 mi pc ls st0) rest (pj_Qc G o m1 a) (pj_Aw G)) (hH : pj_H G A m s H locs)
    (kk : ∀ (H1 : Heap) (locs1 : List Loc), (∀ v, o = some v → pj_okv v) → pj_H G A m1 s H1 locs1 → W p l e R s mi args below meth c H1 locs1 cells slots Q (F0 mi (pc + 3) ls ((o.map (pj_tr G)).toList ++ rest))) : W p l e R s mi args below meth c H locs cells slots Q (F0 mi pc ls st0) := by
  intro T hT X
  obtain ⟨v, st₀, t, T', L, h0, X', hL, e1, e2, ⟨hv, hov, hP, hz, hk⟩, st⟩ := hr T hT X
  cases hv
  rw [h0] at hz hk
  obtain ⟨hP0, hD0, hS⟩ := hH
  have hin := pj_aw_in hD0
  obtain ⟨t2, a1, b1⟩ := kk T'.heap (locs ++ L) hov ⟨by rw [e1]; exact hP, pj_D_irr hD0, ⟨Nat.le_trans hS.1 (by rw [e1]; exact hz), fun q h1 h2 => by rw [e1, hk q (Nat.lt_of_lt_of_le h1 hS.1) (fun z => h2 (hin q z))]; exact hS.2.1 q h1 h2, fun q hq => by
      rcases List.mem_append.mp hq with h | h
      · exact hS.2.2 q h
      · exact hin _ (hL q h)⟩⟩ T' rfl X'
  exact ⟨t2, st t2 a1, b1⟩
/-- what the tables say of a method: (its class, descriptor), its words -/
def pj_mv (y : MethodName) (cc : ByteArray) (nL : Nat) (ret : Option FieldType) (n : Nat) : Prop := (Cond.code y cc nL ret ∈ pj_tb ∧ Cond.instanceMethod y ∈ pj_tb ∧ Cond.selects y.cls y y ∈ pj_tb ∧ Cond.initialized y.cls ∈ pj_tb) ∧ (y.cls ≠ "java/lang/invoke/MethodHandle" ∧ y.cls ≠ "java/lang/invoke/VarHandle" ∧ (parseMethodDescriptor y.desc).map (fun d => d.parameters.length) = some n) ∧ nL ≤ 40
def pj_ms (y : MethodName) (cc : ByteArray) (nL : Nat) (ret : Option FieldType) (n : Nat) : Prop := (Cond.code y cc nL ret ∈ pj_tb ∧ Cond.static y ∈ pj_tb ∧ Cond.initialized y.cls ∈ pj_tb) ∧ (y.cls ≠ "java/lang/invoke/MethodHandle" ∧ y.cls ≠ "java/lang/invoke/VarHandle" ∧ (parseMethodDescriptor y.desc).map (fun d => d.parameters.length) = some n) ∧ nL ≤ 40
theorem pj_good {w : Cond} (h : w ∈ pj_tb) : GoodIn pj_tb (w :: pj_tb) := fun c hc => (List.mem_cons.mp hc).elim (fun e => by subst e; exact pj_goodIn _ h) (fun h => pj_goodIn c h)
theorem pj_split {α : Type} (st : List α) (n : Nat) (x : α) (as : List α) (h : (st.take n).reverse = x :: as) : st = as.reverse ++ x :: st.drop n := by
  have h1 : st.take n = as.reverse ++ [x] := by
    rw [← List.reverse_reverse (st.take n), h, List.reverse_cons]
  conv => lhs; rw [← List.take_append_drop n st, h1]
  simp
theorem pj_split0 {α : Type} (st : List α) (n : Nat) : st = (st.take n).reverse.reverse ++ st.drop n := by
  rw [List.reverse_reverse, List.take_append_drop]
/-- a call of an instance method of a class of its own: n the arguments with the receiver -/
def pj_cv {ρ σ : Type} (ci n : Nat) (F : List pj_V → pj_M → Option σ) (k : σ → List pj_V → Option ρ) : List pj_V → pj_M → Option ρ := fun st m => match (st.take n).reverse with
  | .inr (.inr (t, x, a)) :: as => (match (Nat.beq t 0 && Nat.beq x ci) && (Nat.ble (pj_cat (st.drop n)) 8 && Nat.beq (as.length + 1) n) with
    | true => (F (.inr (.inr (t, x, a)) :: as) m).bind (fun q => k q (st.drop n))
    | false => none)
  | _ => none
def pj_cs {ρ σ : Type} (n : Nat) (F : List pj_V → pj_M → Option σ) (k : σ → List pj_V → Option ρ) : List pj_V → pj_M → Option ρ := fun st m => (match Nat.ble (pj_cat (st.drop n)) 8 && Nat.beq (st.take n).length n with
    | true => (F (st.take n).reverse m).bind (fun q => k q (st.drop n))
    | false => none)
theorem pj_wV {ρ : Type} {X : pj_X} {pc : Nat} (C : pj_C X) {σ : Type} {ef : σ → Option pj_V × pj_M} {y : MethodName} {cc' : ByteArray} {nL' n rk' ci i N : Nat} {ret' : Option FieldType} {F : List pj_V → pj_M → Option σ} {T : u_T} (hd : decode (pj_cc X) pc = .ok (.invokevirtual i, 3)) (ct : pj_Ct ef y cc' nL' ret' rk' F) (hw : pj_mv y cc' nL' ret' n) (hl : Cond.methodLink (pj_own X) i y ∈ pj_tb) (hc : vwCl[ci]? = some (y.cls, T, N)) (hrk : rk' < pj_rk X)
    {k : σ → List pj_V → Option ρ} {L : List (Option pj_V)} {st : List pj_V} {m : pj_M} {r : ρ} (h : pj_cv ci (n + 1) F k st m = some r)
    (hk9 : ∀ (q : σ) (rest : List pj_V), k q rest = some r → pj_W X (pc + 3) L ((ef q).1.toList ++ rest) (ef q).2) : pj_W X pc L st m := by
  obtain ⟨G, A, ⟨cc, own, nL, ret, rk⟩, ⟨p, l, e, R⟩, ⟨s, mi, args, below, meth, c⟩, ⟨cells, slots, Q⟩⟩ := X
  obtain ⟨hx, hb, hml, hown, hts, hk, hnw, hfr, hlo, hce, hsl, hX, hbl, hbA⟩ := C
  unfold pj_cv at h
  split at h
  · rename_i t x a as hst
    split at h
    · rename_i hbq
      simp only [Bool.and_eq_true, Nat.beq_eq, Nat.ble_eq] at hbq
      obtain ⟨⟨rfl, rfl⟩, hcat, hlen⟩ := hbq
      obtain ⟨q, hq, hkq⟩ := Option.bind_eq_some_iff.mp h
      intro ls H locs hF hH
      have hok := hF.2.2.2.2
      have hoka : ∀ v ∈ Sum.inr (Sum.inr (0, x, a)) :: as, pj_okv v := by rw [← hst]; exact pj_okt hok
      have hla := pj_okl (pj_okh hoka) (by decide)
      have hM := ct l G _ m q hq hoka
      rw [List.map_cons, pj_tr_lay hla] at hM
      obtain ⟨⟨w1, w2, w3, w4⟩, hdd, hn40⟩ := hw
      have hrk : rk' < rk := hrk
      have cb : CallB R s args own i y cc' nL' ret' (Cond.code y cc' nL' ret' :: pj_tb) (pj_rm rk') 0 0 n := callB_of n hts (pj_good w1) rfl rfl rfl (hts _ w4) (hts _ hl) hdd ⟨by simp only [pj_rm]; omega, by simp only [pj_rm]; omega⟩
      have hct := pj_cat_eq G (st.drop (n + 1))
      refine pj_go (va_runV (As := as.map (pj_tr G)) (rest := (st.drop (n + 1)).map (pj_tr G)) (b := G.2.1 a) ⟨hx, hb, hml, hown, hts⟩ hM ⟨cb, hts _ w2, hts _ w3⟩ ⟨pj_Pre_blind G m _, va_recv hk hH.1 hc (pj_ws_at hla), fun U hU hW => ⟨rfl, pj_pre_at hk hnw hX hbl hbA hH U hU hW⟩⟩ rfl (by simp; omega) hF.1 ?_ (lv_room (by rw [hct]; exact hcat)) hd ⟨by omega, by omega⟩) hH (fun H1 locs1 hov hH1 => ?_)
      · show st.map (pj_tr G) = _
        conv => lhs; rw [pj_split st (n + 1) _ as hst]
        rw [List.map_append, List.map_cons, pj_tr_lay hla, List.map_reverse]
      · have h2 := hk9 q _ hkq ls H1 locs1 (hF.stk ?_) hH1
        · rw [List.map_append] at h2
          cases ho : (ef q).1 with
          | none => rw [ho] at h2; exact h2
          | some v => rw [ho] at h2; exact h2
        · intro v hv
          rcases List.mem_append.mp hv with h3 | h3
          · cases ho : (ef q).1 with
            | none => rw [ho] at h3; cases h3
            | some u =>
              rw [ho] at h3 hov
              simp only [Option.toList_some, List.mem_singleton] at h3
              subst h3
              exact hov _ rfl
          · exact pj_okd hok v h3
    · cases h
  · cases h
theorem pj_wS {ρ : Type} {X : pj_X} {pc : Nat} (C : pj_C X) {σ : Type} {ef : σ → Option pj_V × pj_M} {y : MethodName} {cc' : ByteArray} {nL' n rk' i : Nat} {ret' : Option FieldType} {F : List pj_V → pj_M → Option σ} (hd : decode (pj_cc X) pc = .ok (.invokestatic i, 3)) (ct : pj_Ct ef y cc' nL' ret' rk' F) (hw : pj_ms y cc' nL' ret' n) (hl : Cond.methodLink (pj_own X) i y ∈ pj_tb ∨ (pj_own X = RX7 ∧ Cond.methodLinkNest (pj_own X) i y "AlikeSteps" = pj_nw)) (hrk : rk' < pj_rk X)
    {k : σ → List pj_V → Option ρ} {L : List (Option pj_V)} {st : List pj_V} {m : pj_M} {r : ρ} (h : pj_cs n F k st m = some r)
    (hk9 : ∀ (q : σ) (rest : List pj_V), k q rest = some r → pj_W X (pc + 3) L ((ef q).1.toList ++ rest) (ef q).2) : pj_W X pc L st m := by
  obtain ⟨G, A, ⟨cc, own, nL, ret, rk⟩, ⟨p, l, e, R⟩, ⟨s, mi, args, below, meth, c⟩, ⟨cells, slots, Q⟩⟩ := X
  obtain ⟨hx, hb, hml, hown, hts, hk, hnw, hfr, hlo, hce, hsl, hX, hbl, hbA⟩ := C
  unfold pj_cs at h
  split at h
  · rename_i hbq
    simp only [Bool.and_eq_true, Nat.beq_eq, Nat.ble_eq] at hbq
    obtain ⟨hcat, hlen⟩ := hbq
    obtain ⟨q, hq, hkq⟩ := Option.bind_eq_some_iff.mp h
    intro ls H locs hF hH
    have hok := hF.2.2.2.2
    have hM := ct l G _ m q hq (pj_okt hok)
    obtain ⟨⟨w1, w2, w4⟩, hdd, hn40⟩ := hw
    have hrk : rk' < rk := hrk
    have hct := pj_cat_eq G (st.drop n)
    have hrun : va_Run p l e R s mi args below meth c H locs cells slots 0 0 (F0 mi pc ls (st.map (pj_tr G))) ((st.drop n).map (pj_tr G)) (pj_Qc G (ef q).1 (ef q).2 (((st.take n).reverse.map (pj_tr G)).toArray)) (pj_Aw G) := by
      have hstk : (F0 mi pc ls (st.map (pj_tr G))).stack = ((st.take n).reverse.map (pj_tr G)).reverse ++ (st.drop n).map (pj_tr G) := by
        show st.map (pj_tr G) = _
        conv => lhs; rw [pj_split0 st n]
        rw [List.map_append, List.map_reverse]
      rcases hl with hl | ⟨ho, hl⟩
      · have cb : CallB R s args own i y cc' nL' ret' (Cond.code y cc' nL' ret' :: pj_tb) (pj_rm rk') 0 0 n := callB_of n hts (pj_good w1) rfl rfl rfl (hts _ w4) (hts _ hl) hdd ⟨by simp only [pj_rm]; omega, by simp only [pj_rm]; omega⟩
        exact va_runS (As := (st.take n).reverse.map (pj_tr G)) ⟨hx, hb, hml, hown, hts⟩ hM ⟨cb, hts _ w2⟩ ⟨pj_Pre_blind G m _, fun U hU hW => ⟨rfl, pj_pre_at hk hnw hX hbl hbA hH U hU hW⟩⟩ rfl (by simpa using hlen) hF.1 hstk (lv_room (by rw [hct]; exact hcat)) hd ⟨by omega, by omega⟩
      · have hnw1 : va_Nw (Cond.methodLinkNest own i y "AlikeSteps") s := by
          have e9 : Cond.methodLinkNest own i y "AlikeSteps" = pj_nw := hl
          rw [e9]
          exact hnw
        have cb := va_cnB (own := own) (host := "AlikeSteps") (index := i) (maxL := nL') (mc := 0) (ms := 0) (y := y) (bytes := cc') (ret := ret') (rm := pj_rm rk') (R := R) n hts (pj_good w1) rfl rfl rfl hnw1 (hts _ w4) hdd ⟨by simp only [pj_rm]; omega, by simp only [pj_rm]; omega⟩
        exact va_runSN (As := (st.take n).reverse.map (pj_tr G)) ⟨hx, hb, hml, hown, hts⟩ hM ⟨cb, hts _ w2, trivial⟩ ⟨pj_Pre_blind G m _, fun U hU hW => ⟨rfl, pj_pre_at hk hnw hX hbl hbA hH U hU hW⟩⟩ rfl (by simpa using hlen) hF.1 hstk (lv_room (by rw [hct]; exact hcat)) hd ⟨by omega, by omega⟩
    refine pj_go hrun hH (fun H1 locs1 hov hH1 => ?_)
    have h2 := hk9 q _ hkq ls H1 locs1 (hF.stk ?_) hH1
    · rw [List.map_append] at h2
      cases ho : (ef q).1 with
      | none => rw [ho] at h2; exact h2
      | some v => rw [ho] at h2; exact h2
    · intro v hv
      rcases List.mem_append.mp hv with h3 | h3
      · cases ho : (ef q).1 with
        | none => rw [ho] at h3; cases h3
        | some u =>
          rw [ho] at h3 hov
          simp only [Option.toList_some, List.mem_singleton] at h3
          subst h3
          exact hov _ rfl
      · exact pj_okd hok v h3
  · cases h
def qs_vI {ρ : Type} (ci n : Nat) (F : List pj_V → pj_M → Option (Int32 × pj_M)) (nx : Nat) : pj_T ρ := fun K L st m => pj_cv ci n F (fun q rest => K nx L (.inl q.1 :: rest) q.2) st m
def qs_sI {ρ : Type} (n : Nat) (F : List pj_V → pj_M → Option (Int32 × pj_M)) (nx : Nat) : pj_T ρ := fun K L st m => pj_cs n F (fun q rest => K nx L (.inl q.1 :: rest) q.2) st m
theorem qz_vI {ρ : Type} {X : pj_X} {enc : ρ → Option pj_V × pj_M} {pc : Nat} (C : pj_C X) {y : MethodName} {cc' : ByteArray} {nL' n rk' ci i N : Nat} {ret' : Option FieldType} {F : List pj_V → pj_M → Option (Int32 × pj_M)} {T : u_T} (hd : decode (pj_cc X) pc = .ok (.invokevirtual i, 3)) (ct : pj_Ct pj_eI y cc' nL' ret' rk' F) (hw : pj_mv y cc' nL' ret' n) (hl : Cond.methodLink (pj_own X) i y ∈ pj_tb) (hc : vwCl[ci]? = some (y.cls, T, N)) (hrk : rk' < pj_rk X) : pj_S X enc pc (qs_vI ci (n + 1) F (pc + 3)) := by
  intro K hK L st m r h hR
  exact pj_wV C hd ct hw hl hc hrk h (fun q rest hq => hK _ _ _ _ _ hq hR)
theorem qz_sI {ρ : Type} {X : pj_X} {enc : ρ → Option pj_V × pj_M} {pc : Nat} (C : pj_C X) {y : MethodName} {cc' : ByteArray} {nL' n rk' i : Nat} {ret' : Option FieldType} {F : List pj_V → pj_M → Option (Int32 × pj_M)} (hd : decode (pj_cc X) pc = .ok (.invokestatic i, 3)) (ct : pj_Ct pj_eI y cc' nL' ret' rk' F) (hw : pj_ms y cc' nL' ret' n) (hl : Cond.methodLink (pj_own X) i y ∈ pj_tb ∨ (pj_own X = RX7 ∧ Cond.methodLinkNest (pj_own X) i y "AlikeSteps" = pj_nw)) (hrk : rk' < pj_rk X) : pj_S X enc pc (qs_sI n F (pc + 3)) := by
  intro K hK L st m r h hR
  exact pj_wS C hd ct hw hl hrk h (fun q rest hq => hK _ _ _ _ _ hq hR)
def qs_vL {ρ : Type} (ci n : Nat) (F : List pj_V → pj_M → Option (Int64 × pj_M)) (nx : Nat) : pj_T ρ := fun K L st m => pj_cv ci n F (fun q rest => K nx L (.inr (.inl q.1) :: rest) q.2) st m
def qs_sL {ρ : Type} (n : Nat) (F : List pj_V → pj_M → Option (Int64 × pj_M)) (nx : Nat) : pj_T ρ := fun K L st m => pj_cs n F (fun q rest => K nx L (.inr (.inl q.1) :: rest) q.2) st m
theorem qz_vL {ρ : Type} {X : pj_X} {enc : ρ → Option pj_V × pj_M} {pc : Nat} (C : pj_C X) {y : MethodName} {cc' : ByteArray} {nL' n rk' ci i N : Nat} {ret' : Option FieldType} {F : List pj_V → pj_M → Option (Int64 × pj_M)} {T : u_T} (hd : decode (pj_cc X) pc = .ok (.invokevirtual i, 3)) (ct : pj_Ct pj_eL y cc' nL' ret' rk' F) (hw : pj_mv y cc' nL' ret' n) (hl : Cond.methodLink (pj_own X) i y ∈ pj_tb) (hc : vwCl[ci]? = some (y.cls, T, N)) (hrk : rk' < pj_rk X) : pj_S X enc pc (qs_vL ci (n + 1) F (pc + 3)) := by
  intro K hK L st m r h hR
  exact pj_wV C hd ct hw hl hc hrk h (fun q rest hq => hK _ _ _ _ _ hq hR)
theorem qz_sL {ρ : Type} {X : pj_X} {enc : ρ → Option pj_V × pj_M} {pc : Nat} (C : pj_C X) {y : MethodName} {cc' : ByteArray} {nL' n rk' i : Nat} {ret' : Option FieldType} {F : List pj_V → pj_M → Option (Int64 × pj_M)} (hd : decode (pj_cc X) pc = .ok (.invokestatic i, 3)) (ct : pj_Ct pj_eL y cc' nL' ret' rk' F) (hw : pj_ms y cc' nL' ret' n) (hl : Cond.methodLink (pj_own X) i y ∈ pj_tb ∨ (pj_own X = RX7 ∧ Cond.methodLinkNest (pj_own X) i y "AlikeSteps" = pj_nw)) (hrk : rk' < pj_rk X) : pj_S X enc pc (qs_sL n F (pc + 3)) := by
  intro K hK L st m r h hR
  exact pj_wS C hd ct hw hl hrk h (fun q rest hq => hK _ _ _ _ _ hq hR)
def qs_vR {ρ : Type} (cr ci n : Nat) (F : List pj_V → pj_M → Option (Nat × pj_M)) (nx : Nat) : pj_T ρ := fun K L st m => pj_cv ci n F (fun q rest => K nx L (.inr (.inr (0, cr, q.1)) :: rest) q.2) st m
def qs_sR {ρ : Type} (cr n : Nat) (F : List pj_V → pj_M → Option (Nat × pj_M)) (nx : Nat) : pj_T ρ := fun K L st m => pj_cs n F (fun q rest => K nx L (.inr (.inr (0, cr, q.1)) :: rest) q.2) st m
theorem qz_vR {ρ : Type} {X : pj_X} {enc : ρ → Option pj_V × pj_M} {pc : Nat} (C : pj_C X) {y : MethodName} {cc' : ByteArray} {nL' n rk' cr ci i N : Nat} {ret' : Option FieldType} {F : List pj_V → pj_M → Option (Nat × pj_M)} {T : u_T} (hd : decode (pj_cc X) pc = .ok (.invokevirtual i, 3)) (ct : pj_Ct (pj_eR cr) y cc' nL' ret' rk' F) (hw : pj_mv y cc' nL' ret' n) (hl : Cond.methodLink (pj_own X) i y ∈ pj_tb) (hc : vwCl[ci]? = some (y.cls, T, N)) (hrk : rk' < pj_rk X) : pj_S X enc pc (qs_vR cr ci (n + 1) F (pc + 3)) := by
  intro K hK L st m r h hR
  exact pj_wV C hd ct hw hl hc hrk h (fun q rest hq => hK _ _ _ _ _ hq hR)
theorem qz_sR {ρ : Type} {X : pj_X} {enc : ρ → Option pj_V × pj_M} {pc : Nat} (C : pj_C X) {y : MethodName} {cc' : ByteArray} {nL' n rk' cr i : Nat} {ret' : Option FieldType} {F : List pj_V → pj_M → Option (Nat × pj_M)} (hd : decode (pj_cc X) pc = .ok (.invokestatic i, 3)) (ct : pj_Ct (pj_eR cr) y cc' nL' ret' rk' F) (hw : pj_ms y cc' nL' ret' n) (hl : Cond.methodLink (pj_own X) i y ∈ pj_tb ∨ (pj_own X = RX7 ∧ Cond.methodLinkNest (pj_own X) i y "AlikeSteps" = pj_nw)) (hrk : rk' < pj_rk X) : pj_S X enc pc (qs_sR cr n F (pc + 3)) := by
  intro K hK L st m r h hR
  exact pj_wS C hd ct hw hl hrk h (fun q rest hq => hK _ _ _ _ _ hq hR)
def qs_vV {ρ : Type} (ci n : Nat) (F : List pj_V → pj_M → Option (pj_M)) (nx : Nat) : pj_T ρ := fun K L st m => pj_cv ci n F (fun q rest => K nx L rest q) st m
def qs_sV {ρ : Type} (n : Nat) (F : List pj_V → pj_M → Option (pj_M)) (nx : Nat) : pj_T ρ := fun K L st m => pj_cs n F (fun q rest => K nx L rest q) st m
theorem qz_vV {ρ : Type} {X : pj_X} {enc : ρ → Option pj_V × pj_M} {pc : Nat} (C : pj_C X) {y : MethodName} {cc' : ByteArray} {nL' n rk' ci i N : Nat} {ret' : Option FieldType} {F : List pj_V → pj_M → Option (pj_M)} {T : u_T} (hd : decode (pj_cc X) pc = .ok (.invokevirtual i, 3)) (ct : pj_Ct pj_eV y cc' nL' ret' rk' F) (hw : pj_mv y cc' nL' ret' n) (hl : Cond.methodLink (pj_own X) i y ∈ pj_tb) (hc : vwCl[ci]? = some (y.cls, T, N)) (hrk : rk' < pj_rk X) : pj_S X enc pc (qs_vV ci (n + 1) F (pc + 3)) := by
  intro K hK L st m r h hR
  exact pj_wV C hd ct hw hl hc hrk h (fun q rest hq => hK _ _ _ _ _ hq hR)
theorem qz_sV {ρ : Type} {X : pj_X} {enc : ρ → Option pj_V × pj_M} {pc : Nat} (C : pj_C X) {y : MethodName} {cc' : ByteArray} {nL' n rk' i : Nat} {ret' : Option FieldType} {F : List pj_V → pj_M → Option (pj_M)} (hd : decode (pj_cc X) pc = .ok (.invokestatic i, 3)) (ct : pj_Ct pj_eV y cc' nL' ret' rk' F) (hw : pj_ms y cc' nL' ret' n) (hl : Cond.methodLink (pj_own X) i y ∈ pj_tb ∨ (pj_own X = RX7 ∧ Cond.methodLinkNest (pj_own X) i y "AlikeSteps" = pj_nw)) (hrk : rk' < pj_rk X) : pj_S X enc pc (qs_sV n F (pc + 3)) := by
  intro K hK L st m r h hR
  exact pj_wS C hd ct hw hl hrk h (fun q rest hq => hK _ _ _ _ _ hq hR)
/-! the run of a body -/
def pj_at {α : Type} (tb : List (Nat × α)) (pc : Nat) : Option α := match tb with
  | [] => none
  | q :: tb => (match Nat.beq q.1 pc with
    | true => some q.2
    | false => pj_at tb pc)
abbrev pj_N (ρ : Type) : Type := List (Option pj_V) → List pj_V → pj_M → Option ρ
def pj_run {ρ : Type} (tb : List (Nat × pj_T ρ)) (ct : List (Nat × pj_N ρ)) : Nat → pj_K ρ
  | 0, _, _, _, _ => none
  | n + 1, pc, L, st, m => (match pj_at tb pc with
    | none => none
    | some τ => τ (fun pc' L' st' m' => match pj_at ct pc' with
      | some t => t L' st' m'
      | none => pj_run tb ct n pc' L' st' m') L st m)
theorem pj_at_mem {α : Type} {tb : List (Nat × α)} {pc : Nat} {τ : α} (h : pj_at tb pc = some τ) : (pc, τ) ∈ tb := by
  induction tb with
  | nil => cases h
  | cons q tb ih =>
    unfold pj_at at h
    split at h
    · rename_i hq
      cases h
      obtain ⟨a, b⟩ := q
      obtain rfl := Nat.eq_of_beq_eq_true hq
      exact List.mem_cons_self
    · exact List.mem_cons_of_mem _ (ih h)
/-- t, in the place of what follows at pc, is good -/
def pj_G {ρ : Type} (X : pj_X) (enc : ρ → Option pj_V × pj_M) (pc : Nat) (t : pj_N ρ) : Prop := ∀ L st m r, t L st m = some r → pj_R X (enc r).1 (enc r).2 → pj_W X pc L st m
theorem pj_run_ok {ρ : Type} {X : pj_X} {enc : ρ → Option pj_V × pj_M} {tb : List (Nat × pj_T ρ)} {ct : List (Nat × pj_N ρ)} (hS : ∀ q ∈ tb, pj_S X enc q.1 q.2) (hct : ∀ q ∈ ct, pj_G X enc q.1 q.2) : ∀ (n pc : Nat) (L : List (Option pj_V)) (st : List pj_V) (m : pj_M) (r : ρ), pj_run tb ct n pc L st m = some r → pj_R X (enc r).1 (enc r).2 → pj_W X pc L st m := by
  intro n
  induction n with
  | zero => intro pc L st m r h; cases h
  | succ n ih =>
    intro pc L st m r h hR
    unfold pj_run at h
    split at h
    · cases h
    · rename_i τ hτ
      refine hS _ (pj_at_mem hτ) _ ?_ L st m r h hR
      intro pc' L' st' m' r' h' hR'
      split at h'
      · rename_i t ht
        exact hct _ (pj_at_mem ht) L' st' m' r' h' hR'
      · exact ih pc' L' st' m' r' h' hR'
/-! contracts -/
theorem pj_l0_sl (G : pj_E) (as : List pj_V) : (lg_sl (as.map (pj_tr G))).length = (pj_l0 as).length := by
  induction as with
  | nil => rfl
  | cons v as ih =>
    have e1 : lg_sl ((v :: as).map (pj_tr G)) = (if (pj_tr G v).category = 2 then [Slot.val (pj_tr G v), Slot.second] else [Slot.val (pj_tr G v)]) ++ lg_sl (as.map (pj_tr G)) := by
      simp [lg_sl]
    rw [e1, List.length_append, ih]
    rcases v with x | y | q
    · simp [pj_l0, pj_tr, Value.category]; omega
    · simp [pj_l0, pj_tr, Value.category]; omega
    · rw [if_neg (by rw [pj_cat1]; decide)]
      simp [pj_l0]; omega
theorem pj_l0_args (G : pj_E) (as : List pj_V) : ∀ (k i : Nat) (v : pj_V), (pj_l0 as)[i]? = some (some v) → (k + i, pj_tr G v) ∈ lv_args k (as.map (pj_tr G)) ∧ v ∈ as := by
  induction as with
  | nil => intro k i v h; simp [pj_l0] at h
  | cons u as ih =>
    intro k i v h
    have step1 : ∀ (j : Nat), (pj_l0 as)[j]? = some (some v) → (pj_tr G u).category ≠ 2 → i = j + 1 → (k + i, pj_tr G v) ∈ lv_args k ((u :: as).map (pj_tr G)) ∧ v ∈ u :: as := by
      intro j h1 hc hi
      obtain ⟨g1, g2⟩ := ih (k + 1) j v h1
      refine ⟨?_, List.mem_cons_of_mem _ g2⟩
      rw [List.map_cons]
      simp only [lv_args, if_neg hc]
      rw [hi, show k + (j + 1) = k + 1 + j by omega]
      exact List.mem_cons_of_mem _ g1
    rcases u with x | y | q
    · cases i with
      | zero => simp only [pj_l0, List.getElem?_cons_zero] at h; cases h; exact ⟨by simp [lv_args, pj_tr], List.mem_cons_self⟩
      | succ i => exact step1 i (by simpa [pj_l0] using h) (by simp [pj_tr, Value.category]) rfl
    · cases i with
      | zero => simp only [pj_l0, List.getElem?_cons_zero] at h; cases h; exact ⟨by simp [lv_args, pj_tr], List.mem_cons_self⟩
      | succ i =>
        cases i with
        | zero => simp [pj_l0] at h
        | succ i =>
          obtain ⟨g1, g2⟩ := ih (k + 2) i v (by simpa [pj_l0] using h)
          refine ⟨?_, List.mem_cons_of_mem _ g2⟩
          rw [List.map_cons]
          simp only [lv_args, pj_tr, Value.category, if_true]
          rw [show k + (i + 1 + 1) = k + 2 + i by omega]
          exact List.mem_cons_of_mem _ g1
    · cases i with
      | zero => simp only [pj_l0, List.getElem?_cons_zero] at h; cases h; exact ⟨by simp [lv_args], List.mem_cons_self⟩
      | succ i => exact step1 i (by simpa [pj_l0] using h) (by rw [pj_cat1]; decide) rfl
/-- a method's contract out of the walk of its body -/
theorem pj_ct_of {σ : Type} {ef : σ → Option pj_V × pj_M} {y : MethodName} {cc : ByteArray} {nL : Nat} {ret : Option FieldType} {rk : Nat} {F : List pj_V → pj_M → Option σ} (hy : plainName y.cls = true)
    (hlen : ∀ as m r, F as m = some r → (pj_l0 as).length ≤ nL)
    (hbody : ∀ (G : pj_E) (A : Nat → Prop) (P : Program × Launch × Env × Room) (S : State × MethodId × Array Value × List Frame × Method × Code) (Z : Nat × Nat × (State → Prop)), pj_C (G, A, (cc, y.cls, nL, ret, rk), P, S, Z) → ∀ as m r, F as m = some r → pj_R (G, A, (cc, y.cls, nL, ret, rk), P, S, Z) (ef r).1 (ef r).2 → pj_W (G, A, (cc, y.cls, nL, ret, rk), P, S, Z) 0 (pj_l0 as ++ List.replicate (nL - (pj_l0 as).length) none) [] m) : pj_Ct ef y cc nL ret rk F := by
  intro l G as m r hF hok
  refine Met.ofW (cc := cc) (maxL := nL) (ret := ret) hy rfl ?_
  intro p e s mi args below meth c s₁ B hml hv
  obtain ⟨rfl, hP, hK, hD, hnw, hX, hbl, hbA⟩ := hv
  have hts := atoms_spec (ws := Cond.code y cc nL ret :: pj_tb) B.pre
  have hlocks := B.notSynchronized
  have hret := B.returns
  rw [lg_entry_eq]
  have hle : (lg_sl (as.map (pj_tr G))).length ≤ nL := by rw [pj_l0_sl]; exact hlen as m r hF
  have hl := lv_entry (as.map (pj_tr G)) (n := nL) hle
  have hC : pj_C (G, pj_Aw G, (cc, y.cls, nL, ret, rk), (p, l, e, pj_rm rk), (s, mi, (as.map (pj_tr G)).toArray, below, meth, c), (0, 0, MQ below (pj_Qc G (ef r).1 (ef r).2) (as.map (pj_tr G)).toArray s 0 0 (pj_Aw G))) :=
    ⟨B.exec, B.bytes, hml, findClass_of_methodNamed B.named, fun w hw => hts w (List.mem_cons_of_mem _ hw), hK, hnw, Nat.le_refl _, Nat.le_refl _, Nat.le_refl _, Nat.le_refl _, hX, hbl, hbA⟩
  refine hbody _ _ _ _ _ hC as m r hF ?_ _ s.heap [] ?_ ⟨hP, hD, va_S.rf⟩
  · intro pc ls H locs hrd hov hH
    have hq : ∀ t : State, t.heap = H → s.WarmedH t.vm → pj_Qc G (ef r).1 (ef r).2 (as.map (pj_tr G)).toArray s (.returned ((ef r).1.map (pj_tr G))) t := fun t ht hW => ⟨rfl, hov, by rw [ht]; exact hH.1, hH.2.2.F ht⟩
    generalize (ef r).1 = o at hrd hov hq
    rcases o with _ | v | v | q
    · exact W.vret B.exec B.bytes (hret.trans hrd.2) hq hH.2.2.2.2 hrd.1
    · obtain ⟨h1, ty, h2, h3⟩ := hrd
      exact W.zret B.exec B.bytes (hret.trans h2) h3 hq hH.2.2.2.2 h1
    · exact W.lret B.exec B.bytes (hret.trans hrd.2) hq hH.2.2.2.2 hrd.1
    · obtain ⟨h1, n, h2⟩ := hrd
      obtain ⟨a, ha⟩ := pj_tr_ref G q
      exact W.aret B.exec B.bytes (hret.trans h2) (Or.inl ⟨n, rfl⟩) (Or.inr ⟨a, ha⟩) hq hH.2.2.2.2 h1
  · have hll : (pj_l0 as).length ≤ nL := hlen as m r hF
    refine ⟨hl.1, hl.2.1, by simp; omega, fun i v hv => ?_, fun v hv => by cases hv⟩
    rcases Nat.lt_or_ge i (pj_l0 as).length with hi | hi
    · rw [List.getElem?_append_left hi] at hv
      obtain ⟨g1, g2⟩ := pj_l0_args G as 0 i v hv
      rw [Nat.zero_add] at g1
      exact ⟨hl.2.2 _ g1, hok v g2⟩
    · rw [List.getElem?_append_right hi] at hv
      have := List.mem_of_getElem? hv
      rw [List.mem_replicate] at this
      cases this.2
end
section
/-! PART 07: words of the tables that the rows use -/
theorem pj_t1 {c : Cond} (h : c ∈ tables_1_1) (hg : goodWord c = true) : c ∈ pj_tb := List.mem_filter.mpr ⟨List.mem_append_right _ (List.mem_append_left _ h), hg⟩
theorem pj_t2 {c : Cond} (h : c ∈ tables_1_2) (hg : goodWord c = true) : c ∈ pj_tb := List.mem_filter.mpr ⟨List.mem_append_right _ (List.mem_append_right _ (List.mem_append_left _ h)), hg⟩
theorem pj_t3 {c : Cond} (h : c ∈ tables_1_3) (hg : goodWord c = true) : c ∈ pj_tb := List.mem_filter.mpr ⟨List.mem_append_right _ (List.mem_append_right _ (List.mem_append_right _ (List.mem_append_left _ h))), hg⟩
theorem pj_t4 {c : Cond} (h : c ∈ tables_1_4) (hg : goodWord c = true) : c ∈ pj_tb := List.mem_filter.mpr ⟨List.mem_append_right _ (List.mem_append_right _ (List.mem_append_right _ (List.mem_append_right _ (List.mem_append_left _ h)))), hg⟩
theorem pj_t5 {c : Cond} (h : c ∈ tables_1_5) (hg : goodWord c = true) : c ∈ pj_tb := List.mem_filter.mpr ⟨List.mem_append_right _ (List.mem_append_right _ (List.mem_append_right _ (List.mem_append_right _ (List.mem_append_right _ (List.mem_append_left _ h))))), hg⟩
theorem pj_t6 {c : Cond} (h : c ∈ tables_1_6) (hg : goodWord c = true) : c ∈ pj_tb := List.mem_filter.mpr ⟨List.mem_append_right _ (List.mem_append_right _ (List.mem_append_right _ (List.mem_append_right _ (List.mem_append_right _ (List.mem_append_right _ (h)))))), hg⟩
set_option maxRecDepth 5000 in
theorem cw_0 : (.selects "AlikeSteps" ⟨"AlikeSteps", "found", "(I)I"⟩ ⟨"AlikeSteps", "found", "(I)I"⟩ : Cond) ∈ pj_tb := pj_mem 0 rfl rfl
set_option maxRecDepth 5000 in
theorem cw_1 : (.selects "AlikeSteps" ⟨"AlikeSteps", "fine", "(I)I"⟩ ⟨"AlikeSteps", "fine", "(I)I"⟩ : Cond) ∈ pj_tb := pj_mem 1 rfl rfl
set_option maxRecDepth 5000 in
theorem cw_2 : (.selects "AlikeSteps$Tape" ⟨"AlikeSteps$Tape", "readStates", "(LAlikeSteps$Net;)I"⟩ ⟨"AlikeSteps$Tape", "readStates", "(LAlikeSteps$Net;)I"⟩ : Cond) ∈ pj_tb := pj_mem 2 rfl rfl
set_option maxRecDepth 5000 in
theorem cw_3 : (.selects "AlikeSteps$Tape" ⟨"AlikeSteps$Tape", "next", "()I"⟩ ⟨"AlikeSteps$Tape", "next", "()I"⟩ : Cond) ∈ pj_tb := pj_mem 3 rfl rfl
set_option maxRecDepth 5000 in
theorem cw_4 : (.selects "AlikeSteps$Tape" ⟨"AlikeSteps$Tape", "passes", "(C)Z"⟩ ⟨"AlikeSteps$Tape", "passes", "(C)Z"⟩ : Cond) ∈ pj_tb := pj_mem 4 rfl rfl
set_option maxRecDepth 5000 in
theorem cw_5 : (.selects "AlikeSteps$Tape" ⟨"AlikeSteps$Tape", "readArcs", "(LAlikeSteps$Net;)I"⟩ ⟨"AlikeSteps$Tape", "readArcs", "(LAlikeSteps$Net;)I"⟩ : Cond) ∈ pj_tb := pj_mem 5 rfl rfl
set_option maxRecDepth 5000 in
theorem cw_6 : (.selects "AlikeSteps$Tape" ⟨"AlikeSteps$Tape", "readEnds", "(LAlikeSteps$Net;I)I"⟩ ⟨"AlikeSteps$Tape", "readEnds", "(LAlikeSteps$Net;I)I"⟩ : Cond) ∈ pj_tb := pj_mem 6 rfl rfl
set_option maxRecDepth 5000 in
theorem cw_7 : (.selects "AlikeSteps$Tape" ⟨"AlikeSteps$Tape", "readNumber", "(LAlikeSteps$Net;)I"⟩ ⟨"AlikeSteps$Tape", "readNumber", "(LAlikeSteps$Net;)I"⟩ : Cond) ∈ pj_tb := pj_mem 7 rfl rfl
set_option maxRecDepth 5000 in
theorem cw_8 : (.selects "AlikeSteps$Tape" ⟨"AlikeSteps$Tape", "isFigure", "(I)Z"⟩ ⟨"AlikeSteps$Tape", "isFigure", "(I)Z"⟩ : Cond) ∈ pj_tb := pj_mem 8 rfl rfl
set_option maxRecDepth 5000 in
theorem cw_9 : (.selects "AlikeSteps$Net" ⟨"AlikeSteps$Net", "shiftArcs", "(III)V"⟩ ⟨"AlikeSteps$Net", "shiftArcs", "(III)V"⟩ : Cond) ∈ pj_tb := pj_mem 9 rfl rfl
set_option maxRecDepth 5000 in
theorem cw_10 : (.selects "AlikeSteps$Acts" ⟨"AlikeSteps$Acts", "note", "(IIIII)V"⟩ ⟨"AlikeSteps$Acts", "note", "(IIIII)V"⟩ : Cond) ∈ pj_tb := pj_mem 10 rfl rfl
set_option maxRecDepth 5000 in
theorem cw_11 : (.selects "AlikeSteps$Steps" ⟨"AlikeSteps$Steps", "openArc", "(LAlikeSteps$Net;I)V"⟩ ⟨"AlikeSteps$Steps", "openArc", "(LAlikeSteps$Net;I)V"⟩ : Cond) ∈ pj_tb := pj_mem 11 rfl rfl
set_option maxRecDepth 5000 in
theorem cw_12 : (.selects "AlikeSteps$Steps" ⟨"AlikeSteps$Steps", "closeSilent", "()V"⟩ ⟨"AlikeSteps$Steps", "closeSilent", "()V"⟩ : Cond) ∈ pj_tb := pj_mem 12 rfl rfl
set_option maxRecDepth 5000 in
theorem cw_13 : (.selects "AlikeSteps$Steps" ⟨"AlikeSteps$Steps", "closeLetters", "()V"⟩ ⟨"AlikeSteps$Steps", "closeLetters", "()V"⟩ : Cond) ∈ pj_tb := pj_mem 13 rfl rfl
set_option maxRecDepth 5000 in
theorem cw_14 : (.selects "AlikeSteps$Parting" ⟨"AlikeSteps$Parting", "numberBlocks", "(I)I"⟩ ⟨"AlikeSteps$Parting", "numberBlocks", "(I)I"⟩ : Cond) ∈ pj_tb := pj_mem 14 rfl rfl
set_option maxRecDepth 5000 in
theorem cw_15 : (.selects "AlikeSteps$Parting" ⟨"AlikeSteps$Parting", "firstLike", "(II)I"⟩ ⟨"AlikeSteps$Parting", "firstLike", "(II)I"⟩ : Cond) ∈ pj_tb := pj_mem 15 rfl rfl
set_option maxRecDepth 5000 in
theorem cw_16 : (.selects "AlikeSteps$Parting" ⟨"AlikeSteps$Parting", "partOn", "(LAlikeSteps$Steps;)V"⟩ ⟨"AlikeSteps$Parting", "partOn", "(LAlikeSteps$Steps;)V"⟩ : Cond) ∈ pj_tb := pj_mem 16 rfl rfl
set_option maxRecDepth 5000 in
theorem cw_17 : (.selects "AlikeSteps$Parting" ⟨"AlikeSteps$Parting", "signsBy", "(LAlikeSteps$Steps;II)J"⟩ ⟨"AlikeSteps$Parting", "signsBy", "(LAlikeSteps$Steps;II)J"⟩ : Cond) ∈ pj_tb := pj_mem 17 rfl rfl
set_option maxRecDepth 5000 in
theorem cw_18 : (.selects "AlikeSteps$Parting" ⟨"AlikeSteps$Parting", "statesOf", "(II)I"⟩ ⟨"AlikeSteps$Parting", "statesOf", "(II)I"⟩ : Cond) ∈ pj_tb := pj_mem 18 rfl rfl
set_option maxRecDepth 5000 in
theorem cw_19 : (.selects "AlikeSteps$Teller" ⟨"AlikeSteps$Teller", "findLead", "(LAlikeSteps$Steps;LAlikeSteps$Parting;II)I"⟩ ⟨"AlikeSteps$Teller", "findLead", "(LAlikeSteps$Steps;LAlikeSteps$Parting;II)I"⟩ : Cond) ∈ pj_tb := pj_mem 19 rfl rfl
set_option maxRecDepth 5000 in
theorem cw_20 : (.selects "AlikeSteps$Teller" ⟨"AlikeSteps$Teller", "weighAll", "(ILAlikeSteps$Steps;IZ)V"⟩ ⟨"AlikeSteps$Teller", "weighAll", "(ILAlikeSteps$Steps;IZ)V"⟩ : Cond) ∈ pj_tb := pj_mem 20 rfl rfl
set_option maxRecDepth 5000 in
theorem cw_21 : (.selects "AlikeSteps$Teller" ⟨"AlikeSteps$Teller", "weigh", "(LAlikeSteps$Steps;II)J"⟩ ⟨"AlikeSteps$Teller", "weigh", "(LAlikeSteps$Steps;II)J"⟩ : Cond) ∈ pj_tb := pj_mem 21 rfl rfl
set_option maxRecDepth 5000 in
theorem cw_22 : (.selects "AlikeSteps$Teller" ⟨"AlikeSteps$Teller", "sizeUpTo", "(III)J"⟩ ⟨"AlikeSteps$Teller", "sizeUpTo", "(III)J"⟩ : Cond) ∈ pj_tb := pj_mem 22 rfl rfl
set_option maxRecDepth 5000 in
theorem cw_23 : (.selects "AlikeSteps$Teller" ⟨"AlikeSteps$Teller", "memberAt", "(IIJ)I"⟩ ⟨"AlikeSteps$Teller", "memberAt", "(IIJ)I"⟩ : Cond) ∈ pj_tb := pj_mem 23 rfl rfl
set_option maxRecDepth 5000 in
theorem cw_24 : (.selects "AlikeSteps$Formula" ⟨"AlikeSteps$Formula", "push", "(I)V"⟩ ⟨"AlikeSteps$Formula", "push", "(I)V"⟩ : Cond) ∈ pj_tb := pj_mem 24 rfl rfl
set_option maxRecDepth 5000 in
theorem cw_25 : (.selects "AlikeSteps$Formula" ⟨"AlikeSteps$Formula", "takeList", "(I)V"⟩ ⟨"AlikeSteps$Formula", "takeList", "(I)V"⟩ : Cond) ∈ pj_tb := pj_mem 25 rfl rfl
set_option maxRecDepth 5000 in
theorem cw_26 : (.selects "AlikeSteps$Steps" ⟨"AlikeSteps$Steps", "way", "(II)I"⟩ ⟨"AlikeSteps$Steps", "way", "(II)I"⟩ : Cond) ∈ pj_tb := pj_mem 26 rfl rfl
set_option maxRecDepth 5000 in
theorem cw_27 : (.selects "AlikeSteps" ⟨"AlikeSteps", "tellsBlocks", "(ILAlikeSteps$Parting;)Z"⟩ ⟨"AlikeSteps", "tellsBlocks", "(ILAlikeSteps$Parting;)Z"⟩ : Cond) ∈ pj_tb := pj_mem 27 rfl rfl
set_option maxRecDepth 5000 in
theorem cw_28 : (.selects "AlikeSteps$Asker" ⟨"AlikeSteps$Asker", "sizeBody", "()I"⟩ ⟨"AlikeSteps$Asker", "sizeBody", "()I"⟩ : Cond) ∈ pj_tb := pj_mem 28 rfl rfl
set_option maxRecDepth 5000 in
theorem cw_29 : (.selects "AlikeSteps$Asker" ⟨"AlikeSteps$Asker", "markBody", "()I"⟩ ⟨"AlikeSteps$Asker", "markBody", "()I"⟩ : Cond) ∈ pj_tb := pj_mem 29 rfl rfl
set_option maxRecDepth 5000 in
theorem cw_30 : (.selects "AlikeSteps$Asker" ⟨"AlikeSteps$Asker", "body", "(II)I"⟩ ⟨"AlikeSteps$Asker", "body", "(II)I"⟩ : Cond) ∈ pj_tb := pj_mem 30 rfl rfl
set_option maxRecDepth 5000 in
theorem cw_31 : (.selects "AlikeSteps$Asker" ⟨"AlikeSteps$Asker", "leave", "(I)V"⟩ ⟨"AlikeSteps$Asker", "leave", "(I)V"⟩ : Cond) ∈ pj_tb := pj_mem 31 rfl rfl
set_option maxRecDepth 5000 in
theorem cw_32 : (.selects "AlikeStepsModel" ⟨"AlikeStepsModel", "found", "(I)I"⟩ ⟨"AlikeStepsModel", "found", "(I)I"⟩ : Cond) ∈ pj_tb := pj_mem 32 rfl rfl
set_option maxRecDepth 5000 in
theorem cw_33 : (.selects "AlikeStepsModel" ⟨"AlikeStepsModel", "well", "(I)I"⟩ ⟨"AlikeStepsModel", "well", "(I)I"⟩ : Cond) ∈ pj_tb := pj_mem 33 rfl rfl
set_option maxRecDepth 5000 in
theorem cw_34 : (.selects "AlikeStepsModel" ⟨"AlikeStepsModel", "isMissing", "(I)Z"⟩ ⟨"AlikeStepsModel", "isMissing", "(I)Z"⟩ : Cond) ∈ pj_tb := pj_mem 34 rfl rfl
set_option maxRecDepth 5000 in
theorem cw_35 : (.selects "AlikeStepsModel" ⟨"AlikeStepsModel", "isPart", "(III)Z"⟩ ⟨"AlikeStepsModel", "isPart", "(III)Z"⟩ : Cond) ∈ pj_tb := pj_mem 35 rfl rfl
set_option maxRecDepth 5000 in
theorem cw_36 : (.selects "AlikeStepsModel" ⟨"AlikeStepsModel", "advances", "()V"⟩ ⟨"AlikeStepsModel", "advances", "()V"⟩ : Cond) ∈ pj_tb := pj_mem 36 rfl rfl
set_option maxRecDepth 5000 in
theorem cw_37 : (.selects "AlikeStepsModel" ⟨"AlikeStepsModel", "byteAt", "(I)I"⟩ ⟨"AlikeStepsModel", "byteAt", "(I)I"⟩ : Cond) ∈ pj_tb := pj_mem 37 rfl rfl
set_option maxRecDepth 5000 in
theorem cw_38 : (.selects "AlikeStepsModel" ⟨"AlikeStepsModel", "isWell", "()Z"⟩ ⟨"AlikeStepsModel", "isWell", "()Z"⟩ : Cond) ∈ pj_tb := pj_mem 38 rfl rfl
set_option maxRecDepth 5000 in
theorem cw_39 : (.selects "AlikeStepsModel" ⟨"AlikeStepsModel", "readsState", "()V"⟩ ⟨"AlikeStepsModel", "readsState", "()V"⟩ : Cond) ∈ pj_tb := pj_mem 39 rfl rfl
set_option maxRecDepth 5000 in
theorem cw_40 : (.selects "AlikeStepsModel" ⟨"AlikeStepsModel", "takes", "(ZI)I"⟩ ⟨"AlikeStepsModel", "takes", "(ZI)I"⟩ : Cond) ∈ pj_tb := pj_mem 40 rfl rfl
set_option maxRecDepth 5000 in
theorem cw_41 : (.selects "AlikeStepsModel" ⟨"AlikeStepsModel", "must", "(Z)V"⟩ ⟨"AlikeStepsModel", "must", "(Z)V"⟩ : Cond) ∈ pj_tb := pj_mem 41 rfl rfl
set_option maxRecDepth 5000 in
theorem cw_42 : (.selects "AlikeStepsModel" ⟨"AlikeStepsModel", "readsArc", "()V"⟩ ⟨"AlikeStepsModel", "readsArc", "()V"⟩ : Cond) ∈ pj_tb := pj_mem 42 rfl rfl
set_option maxRecDepth 5000 in
theorem cw_43 : (.selects "AlikeStepsModel" ⟨"AlikeStepsModel", "figure", "(II)I"⟩ ⟨"AlikeStepsModel", "figure", "(II)I"⟩ : Cond) ∈ pj_tb := pj_mem 43 rfl rfl
set_option maxRecDepth 5000 in
theorem cw_44 : (.selects "AlikeStepsModel" ⟨"AlikeStepsModel", "isState", "(I)Z"⟩ ⟨"AlikeStepsModel", "isState", "(I)Z"⟩ : Cond) ∈ pj_tb := pj_mem 44 rfl rfl
set_option maxRecDepth 5000 in
theorem cw_45 : (.selects "AlikeStepsModel" ⟨"AlikeStepsModel", "notes", "()V"⟩ ⟨"AlikeStepsModel", "notes", "()V"⟩ : Cond) ∈ pj_tb := pj_mem 45 rfl rfl
set_option maxRecDepth 5000 in
theorem cw_46 : (.selects "AlikeStepsModel" ⟨"AlikeStepsModel", "isArc", "(I)Z"⟩ ⟨"AlikeStepsModel", "isArc", "(I)Z"⟩ : Cond) ∈ pj_tb := pj_mem 46 rfl rfl
set_option maxRecDepth 5000 in
theorem cw_47 : (.selects "AlikeStepsModel" ⟨"AlikeStepsModel", "looks", "([II)V"⟩ ⟨"AlikeStepsModel", "looks", "([II)V"⟩ : Cond) ∈ pj_tb := pj_mem 47 rfl rfl
set_option maxRecDepth 5000 in
theorem cw_48 : (.selects "AlikeStepsModel" ⟨"AlikeStepsModel", "goesFrom", "(III)V"⟩ ⟨"AlikeStepsModel", "goesFrom", "(III)V"⟩ : Cond) ∈ pj_tb := pj_mem 48 rfl rfl
set_option maxRecDepth 5000 in
theorem cw_49 : (.selects "AlikeStepsModel" ⟨"AlikeStepsModel", "states", "()I"⟩ ⟨"AlikeStepsModel", "states", "()I"⟩ : Cond) ∈ pj_tb := pj_mem 49 rfl rfl
set_option maxRecDepth 5000 in
theorem cw_50 : (.selects "AlikeStepsModel" ⟨"AlikeStepsModel", "reaches", "(II)I"⟩ ⟨"AlikeStepsModel", "reaches", "(II)I"⟩ : Cond) ∈ pj_tb := pj_mem 50 rfl rfl
set_option maxRecDepth 5000 in
theorem cw_51 : (.selects "AlikeStepsModel" ⟨"AlikeStepsModel", "to", "(II)I"⟩ ⟨"AlikeStepsModel", "to", "(II)I"⟩ : Cond) ∈ pj_tb := pj_mem 51 rfl rfl
set_option maxRecDepth 5000 in
theorem cw_52 : (.selects "AlikeStepsModel" ⟨"AlikeStepsModel", "moving", "(III)I"⟩ ⟨"AlikeStepsModel", "moving", "(III)I"⟩ : Cond) ∈ pj_tb := pj_mem 52 rfl rfl
set_option maxRecDepth 5000 in
theorem cw_53 : (.selects "AlikeStepsModel" ⟨"AlikeStepsModel", "close", "(I)I"⟩ ⟨"AlikeStepsModel", "close", "(I)I"⟩ : Cond) ∈ pj_tb := pj_mem 53 rfl rfl
set_option maxRecDepth 5000 in
theorem cw_54 : (.selects "AlikeStepsModel" ⟨"AlikeStepsModel", "blockOf", "(II)I"⟩ ⟨"AlikeStepsModel", "blockOf", "(II)I"⟩ : Cond) ∈ pj_tb := pj_mem 54 rfl rfl
set_option maxRecDepth 5000 in
theorem cw_55 : (.selects "AlikeStepsModel" ⟨"AlikeStepsModel", "partsBy", "(I)I"⟩ ⟨"AlikeStepsModel", "partsBy", "(I)I"⟩ : Cond) ∈ pj_tb := pj_mem 55 rfl rfl
set_option maxRecDepth 5000 in
theorem cw_56 : (.selects "AlikeStepsModel" ⟨"AlikeStepsModel", "isMarked", "(I)Z"⟩ ⟨"AlikeStepsModel", "isMarked", "(I)Z"⟩ : Cond) ∈ pj_tb := pj_mem 56 rfl rfl
set_option maxRecDepth 5000 in
theorem cw_57 : (.selects "AlikeStepsModel" ⟨"AlikeStepsModel", "numbers", "(I)I"⟩ ⟨"AlikeStepsModel", "numbers", "(I)I"⟩ : Cond) ∈ pj_tb := pj_mem 57 rfl rfl
set_option maxRecDepth 5000 in
theorem cw_58 : (.selects "AlikeStepsModel" ⟨"AlikeStepsModel", "blockIn", "(II)I"⟩ ⟨"AlikeStepsModel", "blockIn", "(II)I"⟩ : Cond) ∈ pj_tb := pj_mem 58 rfl rfl
set_option maxRecDepth 5000 in
theorem cw_59 : (.selects "AlikeStepsModel" ⟨"AlikeStepsModel", "signsOf", "(III)J"⟩ ⟨"AlikeStepsModel", "signsOf", "(III)J"⟩ : Cond) ∈ pj_tb := pj_mem 59 rfl rfl
set_option maxRecDepth 5000 in
theorem cw_60 : (.selects "AlikeStepsModel" ⟨"AlikeStepsModel", "alikeIn", "(II)I"⟩ ⟨"AlikeStepsModel", "alikeIn", "(II)I"⟩ : Cond) ∈ pj_tb := pj_mem 60 rfl rfl
set_option maxRecDepth 5000 in
theorem cw_61 : (.selects "AlikeStepsModel" ⟨"AlikeStepsModel", "bitsOf", "(III)J"⟩ ⟨"AlikeStepsModel", "bitsOf", "(III)J"⟩ : Cond) ∈ pj_tb := pj_mem 61 rfl rfl
set_option maxRecDepth 5000 in
theorem cw_62 : (.selects "AlikeStepsModel" ⟨"AlikeStepsModel", "isSystem", "()Z"⟩ ⟨"AlikeStepsModel", "isSystem", "()Z"⟩ : Cond) ∈ pj_tb := pj_mem 62 rfl rfl
set_option maxRecDepth 5000 in
theorem cw_63 : (.selects "AlikeStepsModel" ⟨"AlikeStepsModel", "partedIn", "(II)I"⟩ ⟨"AlikeStepsModel", "partedIn", "(II)I"⟩ : Cond) ∈ pj_tb := pj_mem 63 rfl rfl
set_option maxRecDepth 5000 in
theorem cw_64 : (.selects "AlikeStepsModel" ⟨"AlikeStepsModel", "isAsked", "(III)Z"⟩ ⟨"AlikeStepsModel", "isAsked", "(III)Z"⟩ : Cond) ∈ pj_tb := pj_mem 64 rfl rfl
set_option maxRecDepth 5000 in
theorem cw_65 : (.selects "AlikeStepsModel" ⟨"AlikeStepsModel", "tellsAll", "(I)V"⟩ ⟨"AlikeStepsModel", "tellsAll", "(I)V"⟩ : Cond) ∈ pj_tb := pj_mem 65 rfl rfl
set_option maxRecDepth 5000 in
theorem cw_66 : (.selects "AlikeStepsModel" ⟨"AlikeStepsModel", "opens", "(IIII)V"⟩ ⟨"AlikeStepsModel", "opens", "(IIII)V"⟩ : Cond) ∈ pj_tb := pj_mem 66 rfl rfl
set_option maxRecDepth 5000 in
theorem cw_67 : (.selects "AlikeStepsModel" ⟨"AlikeStepsModel", "sums", "(III)V"⟩ ⟨"AlikeStepsModel", "sums", "(III)V"⟩ : Cond) ∈ pj_tb := pj_mem 67 rfl rfl
set_option maxRecDepth 5000 in
theorem cw_68 : (.selects "AlikeStepsModel" ⟨"AlikeStepsModel", "codeAt", "(IIII)I"⟩ ⟨"AlikeStepsModel", "codeAt", "(IIII)I"⟩ : Cond) ∈ pj_tb := pj_mem 68 rfl rfl
set_option maxRecDepth 5000 in
theorem cw_69 : (.selects "AlikeStepsModel" ⟨"AlikeStepsModel", "movingInto", "(III)I"⟩ ⟨"AlikeStepsModel", "movingInto", "(III)I"⟩ : Cond) ∈ pj_tb := pj_mem 69 rfl rfl
set_option maxRecDepth 5000 in
theorem cw_70 : (.selects "AlikeStepsModel" ⟨"AlikeStepsModel", "smallOf", "(III)I"⟩ ⟨"AlikeStepsModel", "smallOf", "(III)I"⟩ : Cond) ∈ pj_tb := pj_mem 70 rfl rfl
set_option maxRecDepth 5000 in
theorem cw_71 : (.selects "AlikeStepsModel" ⟨"AlikeStepsModel", "pairsOf", "(I)I"⟩ ⟨"AlikeStepsModel", "pairsOf", "(I)I"⟩ : Cond) ∈ pj_tb := pj_mem 71 rfl rfl
set_option maxRecDepth 5000 in
theorem cw_72 : (.selects "AlikeStepsModel" ⟨"AlikeStepsModel", "pairAt", "(II)I"⟩ ⟨"AlikeStepsModel", "pairAt", "(II)I"⟩ : Cond) ∈ pj_tb := pj_mem 72 rfl rfl
set_option maxRecDepth 5000 in
theorem cw_73 : (.selects "AlikeStepsModel" ⟨"AlikeStepsModel", "kindIn", "(I)I"⟩ ⟨"AlikeStepsModel", "kindIn", "(I)I"⟩ : Cond) ∈ pj_tb := pj_mem 73 rfl rfl
set_option maxRecDepth 5000 in
theorem cw_74 : (.selects "AlikeStepsModel" ⟨"AlikeStepsModel", "doorSize", "(I)I"⟩ ⟨"AlikeStepsModel", "doorSize", "(I)I"⟩ : Cond) ∈ pj_tb := pj_mem 74 rfl rfl
set_option maxRecDepth 5000 in
theorem cw_75 : (.selects "AlikeStepsModel" ⟨"AlikeStepsModel", "traces", "(I)V"⟩ ⟨"AlikeStepsModel", "traces", "(I)V"⟩ : Cond) ∈ pj_tb := pj_mem 75 rfl rfl
set_option maxRecDepth 5000 in
theorem cw_76 : (.selects "AlikeStepsModel" ⟨"AlikeStepsModel", "pairs", "(I)I"⟩ ⟨"AlikeStepsModel", "pairs", "(I)I"⟩ : Cond) ∈ pj_tb := pj_mem 76 rfl rfl
set_option maxRecDepth 5000 in
theorem cw_77 : (.selects "AlikeStepsModel" ⟨"AlikeStepsModel", "placeSize", "(I)I"⟩ ⟨"AlikeStepsModel", "placeSize", "(I)I"⟩ : Cond) ∈ pj_tb := pj_mem 77 rfl rfl
set_option maxRecDepth 5000 in
theorem cw_78 : (.selects "AlikeStepsModel" ⟨"AlikeStepsModel", "placeMark", "(I)I"⟩ ⟨"AlikeStepsModel", "placeMark", "(I)I"⟩ : Cond) ∈ pj_tb := pj_mem 78 rfl rfl
set_option maxRecDepth 5000 in
theorem cw_79 : (.selects "AlikeStepsModel" ⟨"AlikeStepsModel", "doorMark", "(I)I"⟩ ⟨"AlikeStepsModel", "doorMark", "(I)I"⟩ : Cond) ∈ pj_tb := pj_mem 79 rfl rfl
set_option maxRecDepth 5000 in
theorem cw_81 : (.initialized "AlikeSteps" : Cond) ∈ pj_tb := pj_t1 (List.mem_of_getElem? (i := 1) (by rfl)) (by rfl)
set_option maxRecDepth 5000 in
theorem cw_82 : (.initialized "AlikeSteps$Rows" : Cond) ∈ pj_tb := pj_t1 (List.mem_of_getElem? (i := 2) (by rfl)) (by rfl)
set_option maxRecDepth 5000 in
theorem cw_83 : (.initialized "AlikeSteps$Tape" : Cond) ∈ pj_tb := pj_t1 (List.mem_of_getElem? (i := 3) (by rfl)) (by rfl)
set_option maxRecDepth 5000 in
theorem cw_84 : (.initialized "AlikeSteps$Net" : Cond) ∈ pj_tb := pj_t1 (List.mem_of_getElem? (i := 4) (by rfl)) (by rfl)
set_option maxRecDepth 5000 in
theorem cw_85 : (.initialized "AlikeSteps$Acts" : Cond) ∈ pj_tb := pj_t1 (List.mem_of_getElem? (i := 5) (by rfl)) (by rfl)
set_option maxRecDepth 5000 in
theorem cw_86 : (.initialized "AlikeSteps$Alike" : Cond) ∈ pj_tb := pj_t1 (List.mem_of_getElem? (i := 6) (by rfl)) (by rfl)
set_option maxRecDepth 5000 in
theorem cw_87 : (.initialized "AlikeSteps$Steps" : Cond) ∈ pj_tb := pj_t1 (List.mem_of_getElem? (i := 7) (by rfl)) (by rfl)
set_option maxRecDepth 5000 in
theorem cw_88 : (.initialized "AlikeSteps$Parting" : Cond) ∈ pj_tb := pj_t1 (List.mem_of_getElem? (i := 8) (by rfl)) (by rfl)
set_option maxRecDepth 5000 in
theorem cw_89 : (.initialized "AlikeSteps$Formula" : Cond) ∈ pj_tb := pj_t1 (List.mem_of_getElem? (i := 9) (by rfl)) (by rfl)
set_option maxRecDepth 5000 in
theorem cw_90 : (.initialized "AlikeSteps$Asker" : Cond) ∈ pj_tb := pj_t1 (List.mem_of_getElem? (i := 10) (by rfl)) (by rfl)
set_option maxRecDepth 5000 in
theorem cw_91 : (.initialized "AlikeSteps$Teller" : Cond) ∈ pj_tb := pj_t1 (List.mem_of_getElem? (i := 11) (by rfl)) (by rfl)
set_option maxRecDepth 5000 in
theorem cw_92 : (.initialized "AlikeStepsModel" : Cond) ∈ pj_tb := pj_t1 (List.mem_of_getElem? (i := 12) (by rfl)) (by rfl)
set_option maxRecDepth 5000 in
theorem cw_93 : (.initialized "java/lang/System" : Cond) ∈ pj_tb := pj_t1 (List.mem_of_getElem? (i := 13) (by rfl)) (by rfl)
set_option maxRecDepth 5000 in
theorem cw_94 : (.initialized "java/lang/Math" : Cond) ∈ pj_tb := pj_t1 (List.mem_of_getElem? (i := 14) (by rfl)) (by rfl)
set_option maxRecDepth 5000 in
theorem cw_95 : (.initialized "java/lang/Integer" : Cond) ∈ pj_tb := pj_t1 (List.mem_of_getElem? (i := 15) (by rfl)) (by rfl)
set_option maxRecDepth 5000 in
theorem cw_110 : (.fieldLink RX6 9 "AlikeSteps$Rows" "lanes" "[I" : Cond) ∈ pj_tb := pj_t1 (List.mem_of_getElem? (i := 30) (by rfl)) (by rfl)
set_option maxRecDepth 5000 in
theorem cw_111 : (.fieldLink RX6 13 "AlikeSteps$Rows" "lengths" "[I" : Cond) ∈ pj_tb := pj_t1 (List.mem_of_getElem? (i := 31) (by rfl)) (by rfl)
set_option maxRecDepth 5000 in
theorem cw_112 : (.fieldLink RX6 16 "AlikeSteps$Rows" "items" "[I" : Cond) ∈ pj_tb := pj_t1 (List.mem_of_getElem? (i := 32) (by rfl)) (by rfl)
set_option maxRecDepth 5000 in
theorem cw_127 : (.fieldLink RX8 11 "AlikeSteps$Tape" "bytes" "[I" : Cond) ∈ pj_tb := pj_t1 (List.mem_of_getElem? (i := 47) (by rfl)) (by rfl)
set_option maxRecDepth 5000 in
theorem cw_128 : (.fieldLink RX8 15 "AlikeSteps$Tape" "length" "I" : Cond) ∈ pj_tb := pj_t1 (List.mem_of_getElem? (i := 48) (by rfl)) (by rfl)
set_option maxRecDepth 5000 in
theorem cw_129 : (.fieldLink RX8 19 "AlikeSteps$Tape" "at" "I" : Cond) ∈ pj_tb := pj_t1 (List.mem_of_getElem? (i := 49) (by rfl)) (by rfl)
set_option maxRecDepth 5000 in
theorem cw_143 : (.fieldLink RX4 9 "AlikeSteps$Net" "kinds" "[I" : Cond) ∈ pj_tb := pj_t1 (List.mem_of_getElem? (i := 63) (by rfl)) (by rfl)
set_option maxRecDepth 5000 in
theorem cw_144 : (.fieldLink RX4 15 "AlikeSteps$Net" "arcParts" "[I" : Cond) ∈ pj_tb := pj_t1 (List.mem_of_getElem? (i := 64) (by rfl)) (by rfl)
set_option maxRecDepth 5000 in
theorem cw_145 : (.fieldLink RX4 18 "AlikeSteps$Net" "states" "I" : Cond) ∈ pj_tb := pj_t1 (List.mem_of_getElem? (i := 65) (by rfl)) (by rfl)
set_option maxRecDepth 5000 in
theorem cw_146 : (.fieldLink RX4 22 "AlikeSteps$Net" "arcs" "I" : Cond) ∈ pj_tb := pj_t1 (List.mem_of_getElem? (i := 66) (by rfl)) (by rfl)
set_option maxRecDepth 5000 in
theorem cw_147 : (.fieldLink RX4 25 "AlikeSteps$Net" "version" "I" : Cond) ∈ pj_tb := pj_t1 (List.mem_of_getElem? (i := 67) (by rfl)) (by rfl)
set_option maxRecDepth 5000 in
theorem cw_166 : (.fieldLink RX0 9 "AlikeSteps$Acts" "log" "[I" : Cond) ∈ pj_tb := pj_t1 (List.mem_of_getElem? (i := 86) (by rfl)) (by rfl)
set_option maxRecDepth 5000 in
theorem cw_167 : (.fieldLink RX0 13 "AlikeSteps$Acts" "kept" "I" : Cond) ∈ pj_tb := pj_t1 (List.mem_of_getElem? (i := 87) (by rfl)) (by rfl)
set_option maxRecDepth 5000 in
theorem cw_185 : (.fieldLink RX7 9 "AlikeSteps$Steps" "goes" "[I" : Cond) ∈ pj_tb := pj_t1 (List.mem_of_getElem? (i := 105) (by rfl)) (by rfl)
set_option maxRecDepth 5000 in
theorem cw_186 : (.fieldLink RX7 15 "AlikeSteps$Steps" "closed" "[I" : Cond) ∈ pj_tb := pj_t1 (List.mem_of_getElem? (i := 106) (by rfl)) (by rfl)
set_option maxRecDepth 5000 in
theorem cw_187 : (.fieldLink RX7 18 "AlikeSteps$Steps" "seen" "I" : Cond) ∈ pj_tb := pj_t1 (List.mem_of_getElem? (i := 107) (by rfl)) (by rfl)
set_option maxRecDepth 5000 in
theorem cw_202 : (.fieldLink RX5 32 "AlikeSteps$Parting" "rule" "I" : Cond) ∈ pj_tb := pj_t1 (List.mem_of_getElem? (i := 122) (by rfl)) (by rfl)
set_option maxRecDepth 5000 in
theorem cw_203 : (.fieldLink RX5 9 "AlikeSteps$Parting" "blocks" "[I" : Cond) ∈ pj_tb := pj_t1 (List.mem_of_getElem? (i := 123) (by rfl)) (by rfl)
set_option maxRecDepth 5000 in
theorem cw_204 : (.fieldLink RX5 15 "AlikeSteps$Parting" "signs" "[J" : Cond) ∈ pj_tb := pj_t1 (List.mem_of_getElem? (i := 124) (by rfl)) (by rfl)
set_option maxRecDepth 5000 in
theorem cw_205 : (.fieldLink RX5 19 "AlikeSteps$Parting" "states" "I" : Cond) ∈ pj_tb := pj_t1 (List.mem_of_getElem? (i := 125) (by rfl)) (by rfl)
set_option maxRecDepth 5000 in
theorem cw_206 : (.fieldLink RX5 23 "AlikeSteps$Parting" "rounds" "I" : Cond) ∈ pj_tb := pj_t1 (List.mem_of_getElem? (i := 126) (by rfl)) (by rfl)
set_option maxRecDepth 5000 in
theorem cw_207 : (.fieldLink RX5 26 "AlikeSteps$Parting" "parts" "I" : Cond) ∈ pj_tb := pj_t1 (List.mem_of_getElem? (i := 127) (by rfl)) (by rfl)
set_option maxRecDepth 5000 in
theorem cw_208 : (.fieldLink RX5 29 "AlikeSteps$Parting" "seen" "I" : Cond) ∈ pj_tb := pj_t1 (List.mem_of_getElem? (i := 128) (by rfl)) (by rfl)
set_option maxRecDepth 5000 in
theorem cw_225 : (.fieldLink RX1 10 "AlikeSteps$Alike" "steps" "LAlikeSteps$Steps;" : Cond) ∈ pj_tb := pj_t1 (List.mem_of_getElem? (i := 145) (by rfl)) (by rfl)
set_option maxRecDepth 5000 in
theorem cw_226 : (.fieldLink RX1 18 "AlikeSteps$Alike" "partings" "[LAlikeSteps$Parting;" : Cond) ∈ pj_tb := pj_t1 (List.mem_of_getElem? (i := 146) (by rfl)) (by rfl)
set_option maxRecDepth 5000 in
theorem cw_240 : (.fieldLink RX3 11 "AlikeSteps$Formula" "sets" "[I" : Cond) ∈ pj_tb := pj_t1 (List.mem_of_getElem? (i := 160) (by rfl)) (by rfl)
set_option maxRecDepth 5000 in
theorem cw_241 : (.fieldLink RX3 15 "AlikeSteps$Formula" "rule" "I" : Cond) ∈ pj_tb := pj_t1 (List.mem_of_getElem? (i := 161) (by rfl)) (by rfl)
set_option maxRecDepth 5000 in
theorem cw_242 : (.fieldLink RX3 19 "AlikeSteps$Formula" "all" "I" : Cond) ∈ pj_tb := pj_t1 (List.mem_of_getElem? (i := 162) (by rfl)) (by rfl)
set_option maxRecDepth 5000 in
theorem cw_243 : (.fieldLink RX3 22 "AlikeSteps$Formula" "marked" "I" : Cond) ∈ pj_tb := pj_t1 (List.mem_of_getElem? (i := 163) (by rfl)) (by rfl)
set_option maxRecDepth 5000 in
theorem cw_244 : (.fieldLink RX3 25 "AlikeSteps$Formula" "height" "I" : Cond) ∈ pj_tb := pj_t1 (List.mem_of_getElem? (i := 164) (by rfl)) (by rfl)
set_option maxRecDepth 5000 in
theorem cw_245 : (.fieldLink RX3 28 "AlikeSteps$Formula" "list" "I" : Cond) ∈ pj_tb := pj_t1 (List.mem_of_getElem? (i := 165) (by rfl)) (by rfl)
set_option maxRecDepth 5000 in
theorem cw_246 : (.fieldLink RX3 31 "AlikeSteps$Formula" "listOpen" "Z" : Cond) ∈ pj_tb := pj_t1 (List.mem_of_getElem? (i := 166) (by rfl)) (by rfl)
set_option maxRecDepth 5000 in
theorem cw_247 : (.fieldLink RX3 35 "AlikeSteps$Formula" "wrong" "Z" : Cond) ∈ pj_tb := pj_t1 (List.mem_of_getElem? (i := 167) (by rfl)) (by rfl)
set_option maxRecDepth 5000 in
theorem cw_271 : (.fieldLink RX2 11 "AlikeSteps$Asker" "trail" "[I" : Cond) ∈ pj_tb := pj_t1 (List.mem_of_getElem? (i := 191) (by rfl)) (by rfl)
set_option maxRecDepth 5000 in
theorem cw_272 : (.fieldLink RX2 15 "AlikeSteps$Asker" "traced" "I" : Cond) ∈ pj_tb := pj_t1 (List.mem_of_getElem? (i := 192) (by rfl)) (by rfl)
set_option maxRecDepth 5000 in
theorem cw_273 : (.fieldLink RX2 19 "AlikeSteps$Asker" "state" "I" : Cond) ∈ pj_tb := pj_t1 (List.mem_of_getElem? (i := 193) (by rfl)) (by rfl)
set_option maxRecDepth 5000 in
theorem cw_274 : (.fieldLink RX2 22 "AlikeSteps$Asker" "kind" "I" : Cond) ∈ pj_tb := pj_t1 (List.mem_of_getElem? (i := 194) (by rfl)) (by rfl)
set_option maxRecDepth 5000 in
theorem cw_275 : (.fieldLink RX2 25 "AlikeSteps$Asker" "pairs" "I" : Cond) ∈ pj_tb := pj_t1 (List.mem_of_getElem? (i := 195) (by rfl)) (by rfl)
set_option maxRecDepth 5000 in
theorem cw_276 : (.fieldLink RX2 28 "AlikeSteps$Asker" "block" "I" : Cond) ∈ pj_tb := pj_t1 (List.mem_of_getElem? (i := 196) (by rfl)) (by rfl)
set_option maxRecDepth 5000 in
theorem cw_295 : (.fieldLink RX9 26 "AlikeSteps$Teller" "rule" "I" : Cond) ∈ pj_tb := pj_t1 (List.mem_of_getElem? (i := 215) (by rfl)) (by rfl)
set_option maxRecDepth 5000 in
theorem cw_296 : (.fieldLink RX9 9 "AlikeSteps$Teller" "partedIn" "[I" : Cond) ∈ pj_tb := pj_t1 (List.mem_of_getElem? (i := 216) (by rfl)) (by rfl)
set_option maxRecDepth 5000 in
theorem cw_297 : (.fieldLink RX9 15 "AlikeSteps$Teller" "leads" "[I" : Cond) ∈ pj_tb := pj_t1 (List.mem_of_getElem? (i := 217) (by rfl)) (by rfl)
set_option maxRecDepth 5000 in
theorem cw_298 : (.fieldLink RX9 18 "AlikeSteps$Teller" "sizes" "[J" : Cond) ∈ pj_tb := pj_t1 (List.mem_of_getElem? (i := 218) (by rfl)) (by rfl)
set_option maxRecDepth 5000 in
theorem cw_299 : (.fieldLink RX9 22 "AlikeSteps$Teller" "seen" "I" : Cond) ∈ pj_tb := pj_t1 (List.mem_of_getElem? (i := 219) (by rfl)) (by rfl)
set_option maxRecDepth 5000 in
theorem cw_311 : (.fieldLink RX10 10 "AlikeSteps" "rows" "LAlikeSteps$Rows;" : Cond) ∈ pj_tb := pj_t1 (List.mem_of_getElem? (i := 231) (by rfl)) (by rfl)
set_option maxRecDepth 5000 in
theorem cw_312 : (.fieldLink RX10 19 "AlikeSteps" "tape" "LAlikeSteps$Tape;" : Cond) ∈ pj_tb := pj_t1 (List.mem_of_getElem? (i := 232) (by rfl)) (by rfl)
set_option maxRecDepth 5000 in
theorem cw_313 : (.fieldLink RX10 26 "AlikeSteps" "net" "LAlikeSteps$Net;" : Cond) ∈ pj_tb := pj_t1 (List.mem_of_getElem? (i := 233) (by rfl)) (by rfl)
set_option maxRecDepth 5000 in
theorem cw_314 : (.fieldLink RX10 30 "AlikeSteps" "draft" "LAlikeSteps$Net;" : Cond) ∈ pj_tb := pj_t1 (List.mem_of_getElem? (i := 234) (by rfl)) (by rfl)
set_option maxRecDepth 5000 in
theorem cw_315 : (.fieldLink RX10 33 "AlikeSteps" "trial" "LAlikeSteps$Net;" : Cond) ∈ pj_tb := pj_t1 (List.mem_of_getElem? (i := 235) (by rfl)) (by rfl)
set_option maxRecDepth 5000 in
theorem cw_316 : (.fieldLink RX10 36 "AlikeSteps" "images" "[LAlikeSteps$Net;" : Cond) ∈ pj_tb := pj_t1 (List.mem_of_getElem? (i := 236) (by rfl)) (by rfl)
set_option maxRecDepth 5000 in
theorem cw_317 : (.fieldLink RX10 43 "AlikeSteps" "acts" "LAlikeSteps$Acts;" : Cond) ∈ pj_tb := pj_t1 (List.mem_of_getElem? (i := 237) (by rfl)) (by rfl)
set_option maxRecDepth 5000 in
theorem cw_318 : (.fieldLink RX10 50 "AlikeSteps" "alike" "LAlikeSteps$Alike;" : Cond) ∈ pj_tb := pj_t1 (List.mem_of_getElem? (i := 238) (by rfl)) (by rfl)
set_option maxRecDepth 5000 in
theorem cw_319 : (.fieldLink RX10 54 "AlikeSteps" "alikeInTrial" "LAlikeSteps$Alike;" : Cond) ∈ pj_tb := pj_t1 (List.mem_of_getElem? (i := 239) (by rfl)) (by rfl)
set_option maxRecDepth 5000 in
theorem cw_320 : (.fieldLink RX10 59 "AlikeSteps" "tellers" "[LAlikeSteps$Teller;" : Cond) ∈ pj_tb := pj_t2 (List.mem_of_getElem? (i := 0) (by rfl)) (by rfl)
set_option maxRecDepth 5000 in
theorem cw_321 : (.fieldLink RX10 66 "AlikeSteps" "formula" "LAlikeSteps$Formula;" : Cond) ∈ pj_tb := pj_t2 (List.mem_of_getElem? (i := 1) (by rfl)) (by rfl)
set_option maxRecDepth 5000 in
theorem cw_322 : (.fieldLink RX10 73 "AlikeSteps" "asker" "LAlikeSteps$Asker;" : Cond) ∈ pj_tb := pj_t2 (List.mem_of_getElem? (i := 2) (by rfl)) (by rfl)
set_option maxRecDepth 5000 in
theorem cw_323 : (.fieldLink RX10 77 "AlikeSteps" "latestFault" "I" : Cond) ∈ pj_tb := pj_t2 (List.mem_of_getElem? (i := 3) (by rfl)) (by rfl)
set_option maxRecDepth 5000 in
theorem cw_324 : (.fieldLink RX10 81 "AlikeSteps" "latestFinding" "I" : Cond) ∈ pj_tb := pj_t2 (List.mem_of_getElem? (i := 4) (by rfl)) (by rfl)
set_option maxRecDepth 5000 in
theorem cw_355 : (.instanceMethod ⟨"AlikeSteps", "row", "(III)I"⟩ : Cond) ∈ pj_tb := pj_t2 (List.mem_of_getElem? (i := 35) (by rfl)) (by rfl)
set_option maxRecDepth 5000 in
theorem cw_356 : (.selects "AlikeSteps" ⟨"AlikeSteps", "row", "(III)I"⟩ ⟨"AlikeSteps", "row", "(III)I"⟩ : Cond) ∈ pj_tb := pj_t2 (List.mem_of_getElem? (i := 36) (by rfl)) (by rfl)
set_option maxRecDepth 5000 in
theorem cw_357 : (.code ⟨"AlikeSteps", "row", "(III)I"⟩ prog_1_method_2_code 4 (some .int) : Cond) ∈ pj_tb := pj_t2 (List.mem_of_getElem? (i := 37) (by rfl)) (by rfl)
set_option maxRecDepth 5000 in
theorem cw_358 : (.methodLink RX10 87 ⟨"AlikeSteps$Rows", "exists", "(I)Z"⟩ : Cond) ∈ pj_tb := pj_t2 (List.mem_of_getElem? (i := 38) (by rfl)) (by rfl)
set_option maxRecDepth 5000 in
theorem cw_359 : (.static ⟨"AlikeSteps$Rows", "exists", "(I)Z"⟩ : Cond) ∈ pj_tb := pj_t2 (List.mem_of_getElem? (i := 39) (by rfl)) (by rfl)
set_option maxRecDepth 5000 in
theorem cw_360 : (.code ⟨"AlikeSteps$Rows", "exists", "(I)Z"⟩ prog_8_method_2_code 1 (some .boolean) : Cond) ∈ pj_tb := pj_t2 (List.mem_of_getElem? (i := 40) (by rfl)) (by rfl)
set_option maxRecDepth 5000 in
theorem cw_361 : (.methodLink RX10 91 ⟨"AlikeSteps", "within", "(III)Z"⟩ : Cond) ∈ pj_tb := pj_t2 (List.mem_of_getElem? (i := 41) (by rfl)) (by rfl)
set_option maxRecDepth 5000 in
theorem cw_362 : (.static ⟨"AlikeSteps", "within", "(III)Z"⟩ : Cond) ∈ pj_tb := pj_t2 (List.mem_of_getElem? (i := 42) (by rfl)) (by rfl)
set_option maxRecDepth 5000 in
theorem cw_363 : (.code ⟨"AlikeSteps", "within", "(III)Z"⟩ prog_1_method_40_code 3 (some .boolean) : Cond) ∈ pj_tb := pj_t2 (List.mem_of_getElem? (i := 43) (by rfl)) (by rfl)
set_option maxRecDepth 5000 in
theorem cw_364 : (.constant RX10 95 (-1000001) : Cond) ∈ pj_tb := pj_t2 (List.mem_of_getElem? (i := 44) (by rfl)) (by rfl)
set_option maxRecDepth 5000 in
theorem cw_365 : (.methodLink RX10 96 ⟨"AlikeSteps", "found", "(I)I"⟩ : Cond) ∈ pj_tb := pj_t2 (List.mem_of_getElem? (i := 45) (by rfl)) (by rfl)
set_option maxRecDepth 5000 in
theorem cw_367 : (.instanceMethod ⟨"AlikeSteps", "found", "(I)I"⟩ : Cond) ∈ pj_tb := pj_t2 (List.mem_of_getElem? (i := 47) (by rfl)) (by rfl)
set_option maxRecDepth 5000 in
theorem cw_368 : (.code ⟨"AlikeSteps", "found", "(I)I"⟩ prog_1_method_37_code 2 (some .int) : Cond) ∈ pj_tb := pj_t2 (List.mem_of_getElem? (i := 48) (by rfl)) (by rfl)
set_option maxRecDepth 5000 in
theorem cw_369 : (.constant RX10 327 (-1000010) : Cond) ∈ pj_tb := pj_t2 (List.mem_of_getElem? (i := 49) (by rfl)) (by rfl)
set_option maxRecDepth 5000 in
theorem cw_370 : (.methodLink RX10 100 ⟨"AlikeSteps$Rows", "make", "(III)V"⟩ : Cond) ∈ pj_tb := pj_t2 (List.mem_of_getElem? (i := 50) (by rfl)) (by rfl)
set_option maxRecDepth 5000 in
theorem cw_371 : (.instanceMethod ⟨"AlikeSteps$Rows", "make", "(III)V"⟩ : Cond) ∈ pj_tb := pj_t2 (List.mem_of_getElem? (i := 51) (by rfl)) (by rfl)
set_option maxRecDepth 5000 in
theorem cw_372 : (.selects "AlikeSteps$Rows" ⟨"AlikeSteps$Rows", "make", "(III)V"⟩ ⟨"AlikeSteps$Rows", "make", "(III)V"⟩ : Cond) ∈ pj_tb := pj_t2 (List.mem_of_getElem? (i := 52) (by rfl)) (by rfl)
set_option maxRecDepth 5000 in
theorem cw_373 : (.code ⟨"AlikeSteps$Rows", "make", "(III)V"⟩ prog_8_method_8_code 5 none : Cond) ∈ pj_tb := pj_t2 (List.mem_of_getElem? (i := 53) (by rfl)) (by rfl)
set_option maxRecDepth 5000 in
theorem cw_374 : (.methodLink RX10 104 ⟨"AlikeSteps", "fine", "(I)I"⟩ : Cond) ∈ pj_tb := pj_t2 (List.mem_of_getElem? (i := 54) (by rfl)) (by rfl)
set_option maxRecDepth 5000 in
theorem cw_376 : (.instanceMethod ⟨"AlikeSteps", "fine", "(I)I"⟩ : Cond) ∈ pj_tb := pj_t2 (List.mem_of_getElem? (i := 56) (by rfl)) (by rfl)
set_option maxRecDepth 5000 in
theorem cw_377 : (.code ⟨"AlikeSteps", "fine", "(I)I"⟩ prog_1_method_38_code 2 (some .int) : Cond) ∈ pj_tb := pj_t2 (List.mem_of_getElem? (i := 57) (by rfl)) (by rfl)
set_option maxRecDepth 5000 in
theorem cw_379 : (.instanceMethod ⟨"AlikeSteps", "set", "(III)I"⟩ : Cond) ∈ pj_tb := pj_t2 (List.mem_of_getElem? (i := 59) (by rfl)) (by rfl)
set_option maxRecDepth 5000 in
theorem cw_380 : (.selects "AlikeSteps" ⟨"AlikeSteps", "set", "(III)I"⟩ ⟨"AlikeSteps", "set", "(III)I"⟩ : Cond) ∈ pj_tb := pj_t2 (List.mem_of_getElem? (i := 60) (by rfl)) (by rfl)
set_option maxRecDepth 5000 in
theorem cw_381 : (.code ⟨"AlikeSteps", "set", "(III)I"⟩ prog_1_method_3_code 4 (some .int) : Cond) ∈ pj_tb := pj_t2 (List.mem_of_getElem? (i := 61) (by rfl)) (by rfl)
set_option maxRecDepth 5000 in
theorem cw_382 : (.methodLink RX10 107 ⟨"AlikeSteps$Rows", "isMissing", "(I)Z"⟩ : Cond) ∈ pj_tb := pj_t2 (List.mem_of_getElem? (i := 62) (by rfl)) (by rfl)
set_option maxRecDepth 5000 in
theorem cw_383 : (.instanceMethod ⟨"AlikeSteps$Rows", "isMissing", "(I)Z"⟩ : Cond) ∈ pj_tb := pj_t2 (List.mem_of_getElem? (i := 63) (by rfl)) (by rfl)
set_option maxRecDepth 5000 in
theorem cw_384 : (.selects "AlikeSteps$Rows" ⟨"AlikeSteps$Rows", "isMissing", "(I)Z"⟩ ⟨"AlikeSteps$Rows", "isMissing", "(I)Z"⟩ : Cond) ∈ pj_tb := pj_t2 (List.mem_of_getElem? (i := 64) (by rfl)) (by rfl)
set_option maxRecDepth 5000 in
theorem cw_385 : (.code ⟨"AlikeSteps$Rows", "isMissing", "(I)Z"⟩ prog_8_method_3_code 2 (some .boolean) : Cond) ∈ pj_tb := pj_t2 (List.mem_of_getElem? (i := 65) (by rfl)) (by rfl)
set_option maxRecDepth 5000 in
theorem cw_386 : (.methodLink RX10 110 ⟨"AlikeSteps$Rows", "length", "(I)I"⟩ : Cond) ∈ pj_tb := pj_t2 (List.mem_of_getElem? (i := 66) (by rfl)) (by rfl)
set_option maxRecDepth 5000 in
theorem cw_387 : (.instanceMethod ⟨"AlikeSteps$Rows", "length", "(I)I"⟩ : Cond) ∈ pj_tb := pj_t2 (List.mem_of_getElem? (i := 67) (by rfl)) (by rfl)
set_option maxRecDepth 5000 in
theorem cw_388 : (.selects "AlikeSteps$Rows" ⟨"AlikeSteps$Rows", "length", "(I)I"⟩ ⟨"AlikeSteps$Rows", "length", "(I)I"⟩ : Cond) ∈ pj_tb := pj_t2 (List.mem_of_getElem? (i := 68) (by rfl)) (by rfl)
set_option maxRecDepth 5000 in
theorem cw_389 : (.code ⟨"AlikeSteps$Rows", "length", "(I)I"⟩ prog_8_method_5_code 2 (some .int) : Cond) ∈ pj_tb := pj_t2 (List.mem_of_getElem? (i := 69) (by rfl)) (by rfl)
set_option maxRecDepth 5000 in
theorem cw_390 : (.methodLink RX10 113 ⟨"AlikeSteps$Rows", "put", "(III)I"⟩ : Cond) ∈ pj_tb := pj_t2 (List.mem_of_getElem? (i := 70) (by rfl)) (by rfl)
set_option maxRecDepth 5000 in
theorem cw_391 : (.instanceMethod ⟨"AlikeSteps$Rows", "put", "(III)I"⟩ : Cond) ∈ pj_tb := pj_t2 (List.mem_of_getElem? (i := 71) (by rfl)) (by rfl)
set_option maxRecDepth 5000 in
theorem cw_392 : (.selects "AlikeSteps$Rows" ⟨"AlikeSteps$Rows", "put", "(III)I"⟩ ⟨"AlikeSteps$Rows", "put", "(III)I"⟩ : Cond) ∈ pj_tb := pj_t2 (List.mem_of_getElem? (i := 72) (by rfl)) (by rfl)
set_option maxRecDepth 5000 in
theorem cw_393 : (.code ⟨"AlikeSteps$Rows", "put", "(III)I"⟩ prog_8_method_10_code 5 (some .int) : Cond) ∈ pj_tb := pj_t2 (List.mem_of_getElem? (i := 73) (by rfl)) (by rfl)
set_option maxRecDepth 5000 in
theorem cw_394 : (.methodLink RX6 23 ⟨"AlikeSteps$Rows", "cutToLane", "(II)I"⟩ : Cond) ∈ pj_tb := pj_t2 (List.mem_of_getElem? (i := 74) (by rfl)) (by rfl)
set_option maxRecDepth 5000 in
theorem cw_395 : (.static ⟨"AlikeSteps$Rows", "cutToLane", "(II)I"⟩ : Cond) ∈ pj_tb := pj_t2 (List.mem_of_getElem? (i := 75) (by rfl)) (by rfl)
set_option maxRecDepth 5000 in
theorem cw_396 : (.code ⟨"AlikeSteps$Rows", "cutToLane", "(II)I"⟩ prog_8_method_13_code 2 (some .int) : Cond) ∈ pj_tb := pj_t2 (List.mem_of_getElem? (i := 76) (by rfl)) (by rfl)
set_option maxRecDepth 5000 in
theorem cw_398 : (.instanceMethod ⟨"AlikeSteps", "copy", "(IIIII)I"⟩ : Cond) ∈ pj_tb := pj_t2 (List.mem_of_getElem? (i := 78) (by rfl)) (by rfl)
set_option maxRecDepth 5000 in
theorem cw_399 : (.selects "AlikeSteps" ⟨"AlikeSteps", "copy", "(IIIII)I"⟩ ⟨"AlikeSteps", "copy", "(IIIII)I"⟩ : Cond) ∈ pj_tb := pj_t2 (List.mem_of_getElem? (i := 79) (by rfl)) (by rfl)
set_option maxRecDepth 5000 in
theorem cw_400 : (.code ⟨"AlikeSteps", "copy", "(IIIII)I"⟩ prog_1_method_4_code 6 (some .int) : Cond) ∈ pj_tb := pj_t2 (List.mem_of_getElem? (i := 80) (by rfl)) (by rfl)
set_option maxRecDepth 5000 in
theorem cw_401 : (.methodLink RX10 117 ⟨"AlikeSteps$Rows", "lane", "(I)I"⟩ : Cond) ∈ pj_tb := pj_t2 (List.mem_of_getElem? (i := 81) (by rfl)) (by rfl)
set_option maxRecDepth 5000 in
theorem cw_402 : (.instanceMethod ⟨"AlikeSteps$Rows", "lane", "(I)I"⟩ : Cond) ∈ pj_tb := pj_t2 (List.mem_of_getElem? (i := 82) (by rfl)) (by rfl)
set_option maxRecDepth 5000 in
theorem cw_403 : (.selects "AlikeSteps$Rows" ⟨"AlikeSteps$Rows", "lane", "(I)I"⟩ ⟨"AlikeSteps$Rows", "lane", "(I)I"⟩ : Cond) ∈ pj_tb := pj_t2 (List.mem_of_getElem? (i := 83) (by rfl)) (by rfl)
set_option maxRecDepth 5000 in
theorem cw_404 : (.code ⟨"AlikeSteps$Rows", "lane", "(I)I"⟩ prog_8_method_4_code 2 (some .int) : Cond) ∈ pj_tb := pj_t2 (List.mem_of_getElem? (i := 84) (by rfl)) (by rfl)
set_option maxRecDepth 5000 in
theorem cw_405 : (.methodLink RX10 120 ⟨"AlikeSteps$Rows", "hasRange", "(III)Z"⟩ : Cond) ∈ pj_tb := pj_t2 (List.mem_of_getElem? (i := 85) (by rfl)) (by rfl)
set_option maxRecDepth 5000 in
theorem cw_406 : (.instanceMethod ⟨"AlikeSteps$Rows", "hasRange", "(III)Z"⟩ : Cond) ∈ pj_tb := pj_t2 (List.mem_of_getElem? (i := 86) (by rfl)) (by rfl)
set_option maxRecDepth 5000 in
theorem cw_407 : (.selects "AlikeSteps$Rows" ⟨"AlikeSteps$Rows", "hasRange", "(III)Z"⟩ ⟨"AlikeSteps$Rows", "hasRange", "(III)Z"⟩ : Cond) ∈ pj_tb := pj_t2 (List.mem_of_getElem? (i := 87) (by rfl)) (by rfl)
set_option maxRecDepth 5000 in
theorem cw_408 : (.code ⟨"AlikeSteps$Rows", "hasRange", "(III)Z"⟩ prog_8_method_11_code 4 (some .boolean) : Cond) ∈ pj_tb := pj_t2 (List.mem_of_getElem? (i := 88) (by rfl)) (by rfl)
set_option maxRecDepth 5000 in
theorem cw_409 : (.methodLink RX10 123 ⟨"AlikeSteps$Rows", "carry", "(IIIII)V"⟩ : Cond) ∈ pj_tb := pj_t2 (List.mem_of_getElem? (i := 89) (by rfl)) (by rfl)
set_option maxRecDepth 5000 in
theorem cw_410 : (.instanceMethod ⟨"AlikeSteps$Rows", "carry", "(IIIII)V"⟩ : Cond) ∈ pj_tb := pj_t2 (List.mem_of_getElem? (i := 90) (by rfl)) (by rfl)
set_option maxRecDepth 5000 in
theorem cw_411 : (.selects "AlikeSteps$Rows" ⟨"AlikeSteps$Rows", "carry", "(IIIII)V"⟩ ⟨"AlikeSteps$Rows", "carry", "(IIIII)V"⟩ : Cond) ∈ pj_tb := pj_t2 (List.mem_of_getElem? (i := 91) (by rfl)) (by rfl)
set_option maxRecDepth 5000 in
theorem cw_412 : (.code ⟨"AlikeSteps$Rows", "carry", "(IIIII)V"⟩ prog_8_method_12_code 6 none : Cond) ∈ pj_tb := pj_t2 (List.mem_of_getElem? (i := 92) (by rfl)) (by rfl)
set_option maxRecDepth 5000 in
theorem cw_413 : (.methodLink RX6 27 ⟨"java/lang/System", "arraycopy", "(Ljava/lang/Object;ILjava/lang/Object;II)V"⟩ : Cond) ∈ pj_tb := pj_t2 (List.mem_of_getElem? (i := 93) (by rfl)) (by rfl)
set_option maxRecDepth 5000 in
theorem cw_414 : (.static ⟨"java/lang/System", "arraycopy", "(Ljava/lang/Object;ILjava/lang/Object;II)V"⟩ : Cond) ∈ pj_tb := pj_t2 (List.mem_of_getElem? (i := 94) (by rfl)) (by rfl)
set_option maxRecDepth 5000 in
theorem cw_415 : (.native ⟨"java/lang/System", "arraycopy", "(Ljava/lang/Object;ILjava/lang/Object;II)V"⟩ : Cond) ∈ pj_tb := pj_t2 (List.mem_of_getElem? (i := 95) (by rfl)) (by rfl)
set_option maxRecDepth 5000 in
theorem cw_417 : (.instanceMethod ⟨"AlikeSteps", "drop", "(I)I"⟩ : Cond) ∈ pj_tb := pj_t2 (List.mem_of_getElem? (i := 97) (by rfl)) (by rfl)
set_option maxRecDepth 5000 in
theorem cw_418 : (.selects "AlikeSteps" ⟨"AlikeSteps", "drop", "(I)I"⟩ ⟨"AlikeSteps", "drop", "(I)I"⟩ : Cond) ∈ pj_tb := pj_t2 (List.mem_of_getElem? (i := 98) (by rfl)) (by rfl)
set_option maxRecDepth 5000 in
theorem cw_419 : (.code ⟨"AlikeSteps", "drop", "(I)I"⟩ prog_1_method_5_code 3 (some .int) : Cond) ∈ pj_tb := pj_t2 (List.mem_of_getElem? (i := 99) (by rfl)) (by rfl)
set_option maxRecDepth 5000 in
theorem cw_420 : (.methodLink RX10 127 ⟨"AlikeSteps$Rows", "remove", "(I)V"⟩ : Cond) ∈ pj_tb := pj_t2 (List.mem_of_getElem? (i := 100) (by rfl)) (by rfl)
set_option maxRecDepth 5000 in
theorem cw_421 : (.instanceMethod ⟨"AlikeSteps$Rows", "remove", "(I)V"⟩ : Cond) ∈ pj_tb := pj_t2 (List.mem_of_getElem? (i := 101) (by rfl)) (by rfl)
set_option maxRecDepth 5000 in
theorem cw_422 : (.selects "AlikeSteps$Rows" ⟨"AlikeSteps$Rows", "remove", "(I)V"⟩ ⟨"AlikeSteps$Rows", "remove", "(I)V"⟩ : Cond) ∈ pj_tb := pj_t2 (List.mem_of_getElem? (i := 102) (by rfl)) (by rfl)
set_option maxRecDepth 5000 in
theorem cw_423 : (.code ⟨"AlikeSteps$Rows", "remove", "(I)V"⟩ prog_8_method_9_code 2 none : Cond) ∈ pj_tb := pj_t2 (List.mem_of_getElem? (i := 103) (by rfl)) (by rfl)
set_option maxRecDepth 5000 in
theorem cw_425 : (.instanceMethod ⟨"AlikeSteps", "feed", "(I)I"⟩ : Cond) ∈ pj_tb := pj_t2 (List.mem_of_getElem? (i := 105) (by rfl)) (by rfl)
set_option maxRecDepth 5000 in
theorem cw_426 : (.selects "AlikeSteps" ⟨"AlikeSteps", "feed", "(I)I"⟩ ⟨"AlikeSteps", "feed", "(I)I"⟩ : Cond) ∈ pj_tb := pj_t2 (List.mem_of_getElem? (i := 106) (by rfl)) (by rfl)
set_option maxRecDepth 5000 in
theorem cw_427 : (.code ⟨"AlikeSteps", "feed", "(I)I"⟩ prog_1_method_6_code 2 (some .int) : Cond) ∈ pj_tb := pj_t2 (List.mem_of_getElem? (i := 107) (by rfl)) (by rfl)
set_option maxRecDepth 5000 in
theorem cw_428 : (.methodLink RX10 130 ⟨"AlikeSteps$Tape", "isFull", "()Z"⟩ : Cond) ∈ pj_tb := pj_t2 (List.mem_of_getElem? (i := 108) (by rfl)) (by rfl)
set_option maxRecDepth 5000 in
theorem cw_429 : (.instanceMethod ⟨"AlikeSteps$Tape", "isFull", "()Z"⟩ : Cond) ∈ pj_tb := pj_t2 (List.mem_of_getElem? (i := 109) (by rfl)) (by rfl)
set_option maxRecDepth 5000 in
theorem cw_430 : (.selects "AlikeSteps$Tape" ⟨"AlikeSteps$Tape", "isFull", "()Z"⟩ ⟨"AlikeSteps$Tape", "isFull", "()Z"⟩ : Cond) ∈ pj_tb := pj_t2 (List.mem_of_getElem? (i := 110) (by rfl)) (by rfl)
set_option maxRecDepth 5000 in
theorem cw_431 : (.code ⟨"AlikeSteps$Tape", "isFull", "()Z"⟩ prog_10_method_2_code 1 (some .boolean) : Cond) ∈ pj_tb := pj_t2 (List.mem_of_getElem? (i := 111) (by rfl)) (by rfl)
set_option maxRecDepth 5000 in
theorem cw_432 : (.constant RX10 134 (-1000003) : Cond) ∈ pj_tb := pj_t2 (List.mem_of_getElem? (i := 112) (by rfl)) (by rfl)
set_option maxRecDepth 5000 in
theorem cw_433 : (.methodLink RX10 135 ⟨"AlikeSteps$Tape", "append", "(I)I"⟩ : Cond) ∈ pj_tb := pj_t2 (List.mem_of_getElem? (i := 113) (by rfl)) (by rfl)
set_option maxRecDepth 5000 in
theorem cw_434 : (.instanceMethod ⟨"AlikeSteps$Tape", "append", "(I)I"⟩ : Cond) ∈ pj_tb := pj_t2 (List.mem_of_getElem? (i := 114) (by rfl)) (by rfl)
set_option maxRecDepth 5000 in
theorem cw_435 : (.selects "AlikeSteps$Tape" ⟨"AlikeSteps$Tape", "append", "(I)I"⟩ ⟨"AlikeSteps$Tape", "append", "(I)I"⟩ : Cond) ∈ pj_tb := pj_t2 (List.mem_of_getElem? (i := 115) (by rfl)) (by rfl)
set_option maxRecDepth 5000 in
theorem cw_436 : (.code ⟨"AlikeSteps$Tape", "append", "(I)I"⟩ prog_10_method_4_code 2 (some .int) : Cond) ∈ pj_tb := pj_t2 (List.mem_of_getElem? (i := 116) (by rfl)) (by rfl)
set_option maxRecDepth 5000 in
theorem cw_437 : (.methodLink RX8 22 ⟨"AlikeSteps$Tape", "isFull", "()Z"⟩ : Cond) ∈ pj_tb := pj_t2 (List.mem_of_getElem? (i := 117) (by rfl)) (by rfl)
set_option maxRecDepth 5000 in
theorem cw_439 : (.instanceMethod ⟨"AlikeSteps", "system", "()I"⟩ : Cond) ∈ pj_tb := pj_t2 (List.mem_of_getElem? (i := 119) (by rfl)) (by rfl)
set_option maxRecDepth 5000 in
theorem cw_440 : (.selects "AlikeSteps" ⟨"AlikeSteps", "system", "()I"⟩ ⟨"AlikeSteps", "system", "()I"⟩ : Cond) ∈ pj_tb := pj_t2 (List.mem_of_getElem? (i := 120) (by rfl)) (by rfl)
set_option maxRecDepth 5000 in
theorem cw_441 : (.code ⟨"AlikeSteps", "system", "()I"⟩ prog_1_method_7_code 2 (some .int) : Cond) ∈ pj_tb := pj_t2 (List.mem_of_getElem? (i := 121) (by rfl)) (by rfl)
set_option maxRecDepth 5000 in
theorem cw_442 : (.methodLink RX10 138 ⟨"AlikeSteps$Tape", "read", "(LAlikeSteps$Net;)I"⟩ : Cond) ∈ pj_tb := pj_t2 (List.mem_of_getElem? (i := 122) (by rfl)) (by rfl)
set_option maxRecDepth 5000 in
theorem cw_443 : (.instanceMethod ⟨"AlikeSteps$Tape", "read", "(LAlikeSteps$Net;)I"⟩ : Cond) ∈ pj_tb := pj_t2 (List.mem_of_getElem? (i := 123) (by rfl)) (by rfl)
set_option maxRecDepth 5000 in
theorem cw_444 : (.selects "AlikeSteps$Tape" ⟨"AlikeSteps$Tape", "read", "(LAlikeSteps$Net;)I"⟩ ⟨"AlikeSteps$Tape", "read", "(LAlikeSteps$Net;)I"⟩ : Cond) ∈ pj_tb := pj_t2 (List.mem_of_getElem? (i := 124) (by rfl)) (by rfl)
set_option maxRecDepth 5000 in
theorem cw_445 : (.code ⟨"AlikeSteps$Tape", "read", "(LAlikeSteps$Net;)I"⟩ prog_10_method_7_code 3 (some .int) : Cond) ∈ pj_tb := pj_t2 (List.mem_of_getElem? (i := 125) (by rfl)) (by rfl)
set_option maxRecDepth 5000 in
theorem cw_446 : (.methodLink RX8 26 ⟨"AlikeSteps$Net", "clear", "()V"⟩ : Cond) ∈ pj_tb := pj_t2 (List.mem_of_getElem? (i := 126) (by rfl)) (by rfl)
set_option maxRecDepth 5000 in
theorem cw_447 : (.instanceMethod ⟨"AlikeSteps$Net", "clear", "()V"⟩ : Cond) ∈ pj_tb := pj_t2 (List.mem_of_getElem? (i := 127) (by rfl)) (by rfl)
set_option maxRecDepth 5000 in
theorem cw_448 : (.selects "AlikeSteps$Net" ⟨"AlikeSteps$Net", "clear", "()V"⟩ ⟨"AlikeSteps$Net", "clear", "()V"⟩ : Cond) ∈ pj_tb := pj_t2 (List.mem_of_getElem? (i := 128) (by rfl)) (by rfl)
set_option maxRecDepth 5000 in
theorem cw_449 : (.code ⟨"AlikeSteps$Net", "clear", "()V"⟩ prog_6_method_11_code 1 none : Cond) ∈ pj_tb := pj_t2 (List.mem_of_getElem? (i := 129) (by rfl)) (by rfl)
set_option maxRecDepth 5000 in
theorem cw_450 : (.methodLink RX8 31 ⟨"AlikeSteps$Tape", "readStates", "(LAlikeSteps$Net;)I"⟩ : Cond) ∈ pj_tb := pj_t2 (List.mem_of_getElem? (i := 130) (by rfl)) (by rfl)
set_option maxRecDepth 5000 in
theorem cw_452 : (.instanceMethod ⟨"AlikeSteps$Tape", "readStates", "(LAlikeSteps$Net;)I"⟩ : Cond) ∈ pj_tb := pj_t2 (List.mem_of_getElem? (i := 132) (by rfl)) (by rfl)
set_option maxRecDepth 5000 in
theorem cw_453 : (.code ⟨"AlikeSteps$Tape", "readStates", "(LAlikeSteps$Net;)I"⟩ prog_10_method_8_code 4 (some .int) : Cond) ∈ pj_tb := pj_t2 (List.mem_of_getElem? (i := 133) (by rfl)) (by rfl)
set_option maxRecDepth 5000 in
theorem cw_454 : (.methodLink RX8 38 ⟨"AlikeSteps$Tape", "next", "()I"⟩ : Cond) ∈ pj_tb := pj_t2 (List.mem_of_getElem? (i := 134) (by rfl)) (by rfl)
set_option maxRecDepth 5000 in
theorem cw_456 : (.instanceMethod ⟨"AlikeSteps$Tape", "next", "()I"⟩ : Cond) ∈ pj_tb := pj_t2 (List.mem_of_getElem? (i := 136) (by rfl)) (by rfl)
set_option maxRecDepth 5000 in
theorem cw_457 : (.code ⟨"AlikeSteps$Tape", "next", "()I"⟩ prog_10_method_14_code 1 (some .int) : Cond) ∈ pj_tb := pj_t2 (List.mem_of_getElem? (i := 137) (by rfl)) (by rfl)
set_option maxRecDepth 5000 in
theorem cw_458 : (.methodLink RX8 42 ⟨"AlikeSteps$Tape", "kindOfSort", "(I)I"⟩ : Cond) ∈ pj_tb := pj_t2 (List.mem_of_getElem? (i := 138) (by rfl)) (by rfl)
set_option maxRecDepth 5000 in
theorem cw_459 : (.static ⟨"AlikeSteps$Tape", "kindOfSort", "(I)I"⟩ : Cond) ∈ pj_tb := pj_t2 (List.mem_of_getElem? (i := 139) (by rfl)) (by rfl)
set_option maxRecDepth 5000 in
theorem cw_460 : (.code ⟨"AlikeSteps$Tape", "kindOfSort", "(I)I"⟩ prog_10_method_15_code 1 (some .int) : Cond) ∈ pj_tb := pj_t2 (List.mem_of_getElem? (i := 140) (by rfl)) (by rfl)
set_option maxRecDepth 5000 in
theorem cw_461 : (.methodLink RX8 46 ⟨"AlikeSteps$Tape", "passes", "(C)Z"⟩ : Cond) ∈ pj_tb := pj_t2 (List.mem_of_getElem? (i := 141) (by rfl)) (by rfl)
set_option maxRecDepth 5000 in
theorem cw_463 : (.instanceMethod ⟨"AlikeSteps$Tape", "passes", "(C)Z"⟩ : Cond) ∈ pj_tb := pj_t2 (List.mem_of_getElem? (i := 143) (by rfl)) (by rfl)
set_option maxRecDepth 5000 in
theorem cw_464 : (.code ⟨"AlikeSteps$Tape", "passes", "(C)Z"⟩ prog_10_method_13_code 2 (some .boolean) : Cond) ∈ pj_tb := pj_t2 (List.mem_of_getElem? (i := 144) (by rfl)) (by rfl)
set_option maxRecDepth 5000 in
theorem cw_465 : (.methodLink RX8 50 ⟨"AlikeSteps$Net", "addState", "(I)V"⟩ : Cond) ∈ pj_tb := pj_t2 (List.mem_of_getElem? (i := 145) (by rfl)) (by rfl)
set_option maxRecDepth 5000 in
theorem cw_466 : (.instanceMethod ⟨"AlikeSteps$Net", "addState", "(I)V"⟩ : Cond) ∈ pj_tb := pj_t2 (List.mem_of_getElem? (i := 146) (by rfl)) (by rfl)
set_option maxRecDepth 5000 in
theorem cw_467 : (.selects "AlikeSteps$Net" ⟨"AlikeSteps$Net", "addState", "(I)V"⟩ ⟨"AlikeSteps$Net", "addState", "(I)V"⟩ : Cond) ∈ pj_tb := pj_t2 (List.mem_of_getElem? (i := 147) (by rfl)) (by rfl)
set_option maxRecDepth 5000 in
theorem cw_468 : (.code ⟨"AlikeSteps$Net", "addState", "(I)V"⟩ prog_6_method_13_code 2 none : Cond) ∈ pj_tb := pj_t2 (List.mem_of_getElem? (i := 148) (by rfl)) (by rfl)
set_option maxRecDepth 5000 in
theorem cw_469 : (.methodLink RX8 35 ⟨"AlikeSteps$Tape", "readArcs", "(LAlikeSteps$Net;)I"⟩ : Cond) ∈ pj_tb := pj_t2 (List.mem_of_getElem? (i := 149) (by rfl)) (by rfl)
set_option maxRecDepth 5000 in
theorem cw_471 : (.instanceMethod ⟨"AlikeSteps$Tape", "readArcs", "(LAlikeSteps$Net;)I"⟩ : Cond) ∈ pj_tb := pj_t2 (List.mem_of_getElem? (i := 151) (by rfl)) (by rfl)
set_option maxRecDepth 5000 in
theorem cw_472 : (.code ⟨"AlikeSteps$Tape", "readArcs", "(LAlikeSteps$Net;)I"⟩ prog_10_method_9_code 5 (some .int) : Cond) ∈ pj_tb := pj_t2 (List.mem_of_getElem? (i := 152) (by rfl)) (by rfl)
set_option maxRecDepth 5000 in
theorem cw_473 : (.methodLink RX8 54 ⟨"AlikeSteps$Tape", "letterOf", "(I)I"⟩ : Cond) ∈ pj_tb := pj_t2 (List.mem_of_getElem? (i := 153) (by rfl)) (by rfl)
set_option maxRecDepth 5000 in
theorem cw_474 : (.static ⟨"AlikeSteps$Tape", "letterOf", "(I)I"⟩ : Cond) ∈ pj_tb := pj_t2 (List.mem_of_getElem? (i := 154) (by rfl)) (by rfl)
set_option maxRecDepth 5000 in
theorem cw_475 : (.code ⟨"AlikeSteps$Tape", "letterOf", "(I)I"⟩ prog_10_method_16_code 1 (some .int) : Cond) ∈ pj_tb := pj_t2 (List.mem_of_getElem? (i := 155) (by rfl)) (by rfl)
set_option maxRecDepth 5000 in
theorem cw_476 : (.methodLink RX8 57 ⟨"AlikeSteps$Tape", "readEnds", "(LAlikeSteps$Net;I)I"⟩ : Cond) ∈ pj_tb := pj_t2 (List.mem_of_getElem? (i := 156) (by rfl)) (by rfl)
set_option maxRecDepth 5000 in
theorem cw_478 : (.instanceMethod ⟨"AlikeSteps$Tape", "readEnds", "(LAlikeSteps$Net;I)I"⟩ : Cond) ∈ pj_tb := pj_t2 (List.mem_of_getElem? (i := 158) (by rfl)) (by rfl)
set_option maxRecDepth 5000 in
theorem cw_479 : (.code ⟨"AlikeSteps$Tape", "readEnds", "(LAlikeSteps$Net;I)I"⟩ prog_10_method_10_code 5 (some .int) : Cond) ∈ pj_tb := pj_t2 (List.mem_of_getElem? (i := 159) (by rfl)) (by rfl)
set_option maxRecDepth 5000 in
theorem cw_480 : (.methodLink RX8 61 ⟨"AlikeSteps$Tape", "readNumber", "(LAlikeSteps$Net;)I"⟩ : Cond) ∈ pj_tb := pj_t2 (List.mem_of_getElem? (i := 160) (by rfl)) (by rfl)
set_option maxRecDepth 5000 in
theorem cw_482 : (.instanceMethod ⟨"AlikeSteps$Tape", "readNumber", "(LAlikeSteps$Net;)I"⟩ : Cond) ∈ pj_tb := pj_t2 (List.mem_of_getElem? (i := 162) (by rfl)) (by rfl)
set_option maxRecDepth 5000 in
theorem cw_483 : (.code ⟨"AlikeSteps$Tape", "readNumber", "(LAlikeSteps$Net;)I"⟩ prog_10_method_11_code 4 (some .int) : Cond) ∈ pj_tb := pj_t2 (List.mem_of_getElem? (i := 163) (by rfl)) (by rfl)
set_option maxRecDepth 5000 in
theorem cw_484 : (.methodLink RX8 68 ⟨"AlikeSteps$Tape", "isFigure", "(I)Z"⟩ : Cond) ∈ pj_tb := pj_t2 (List.mem_of_getElem? (i := 164) (by rfl)) (by rfl)
set_option maxRecDepth 5000 in
theorem cw_486 : (.instanceMethod ⟨"AlikeSteps$Tape", "isFigure", "(I)Z"⟩ : Cond) ∈ pj_tb := pj_t2 (List.mem_of_getElem? (i := 166) (by rfl)) (by rfl)
set_option maxRecDepth 5000 in
theorem cw_487 : (.code ⟨"AlikeSteps$Tape", "isFigure", "(I)Z"⟩ prog_10_method_12_code 2 (some .boolean) : Cond) ∈ pj_tb := pj_t2 (List.mem_of_getElem? (i := 167) (by rfl)) (by rfl)
set_option maxRecDepth 5000 in
theorem cw_488 : (.methodLink RX8 72 ⟨"AlikeSteps$Net", "hasState", "(I)Z"⟩ : Cond) ∈ pj_tb := pj_t2 (List.mem_of_getElem? (i := 168) (by rfl)) (by rfl)
set_option maxRecDepth 5000 in
theorem cw_489 : (.instanceMethod ⟨"AlikeSteps$Net", "hasState", "(I)Z"⟩ : Cond) ∈ pj_tb := pj_t2 (List.mem_of_getElem? (i := 169) (by rfl)) (by rfl)
set_option maxRecDepth 5000 in
theorem cw_490 : (.selects "AlikeSteps$Net" ⟨"AlikeSteps$Net", "hasState", "(I)Z"⟩ ⟨"AlikeSteps$Net", "hasState", "(I)Z"⟩ : Cond) ∈ pj_tb := pj_t2 (List.mem_of_getElem? (i := 170) (by rfl)) (by rfl)
set_option maxRecDepth 5000 in
theorem cw_491 : (.code ⟨"AlikeSteps$Net", "hasState", "(I)Z"⟩ prog_6_method_5_code 2 (some .boolean) : Cond) ∈ pj_tb := pj_t2 (List.mem_of_getElem? (i := 171) (by rfl)) (by rfl)
set_option maxRecDepth 5000 in
theorem cw_492 : (.methodLink RX8 64 ⟨"AlikeSteps$Net", "addArc", "(III)V"⟩ : Cond) ∈ pj_tb := pj_t2 (List.mem_of_getElem? (i := 172) (by rfl)) (by rfl)
set_option maxRecDepth 5000 in
theorem cw_493 : (.instanceMethod ⟨"AlikeSteps$Net", "addArc", "(III)V"⟩ : Cond) ∈ pj_tb := pj_t2 (List.mem_of_getElem? (i := 173) (by rfl)) (by rfl)
set_option maxRecDepth 5000 in
theorem cw_494 : (.selects "AlikeSteps$Net" ⟨"AlikeSteps$Net", "addArc", "(III)V"⟩ ⟨"AlikeSteps$Net", "addArc", "(III)V"⟩ : Cond) ∈ pj_tb := pj_t2 (List.mem_of_getElem? (i := 174) (by rfl)) (by rfl)
set_option maxRecDepth 5000 in
theorem cw_495 : (.code ⟨"AlikeSteps$Net", "addArc", "(III)V"⟩ prog_6_method_15_code 4 none : Cond) ∈ pj_tb := pj_t2 (List.mem_of_getElem? (i := 175) (by rfl)) (by rfl)
set_option maxRecDepth 5000 in
theorem cw_496 : (.methodLink RX4 34 ⟨"AlikeSteps$Net", "insertArc", "(IIII)V"⟩ : Cond) ∈ pj_tb := pj_t2 (List.mem_of_getElem? (i := 176) (by rfl)) (by rfl)
set_option maxRecDepth 5000 in
theorem cw_497 : (.instanceMethod ⟨"AlikeSteps$Net", "insertArc", "(IIII)V"⟩ : Cond) ∈ pj_tb := pj_t2 (List.mem_of_getElem? (i := 177) (by rfl)) (by rfl)
set_option maxRecDepth 5000 in
theorem cw_498 : (.selects "AlikeSteps$Net" ⟨"AlikeSteps$Net", "insertArc", "(IIII)V"⟩ ⟨"AlikeSteps$Net", "insertArc", "(IIII)V"⟩ : Cond) ∈ pj_tb := pj_t2 (List.mem_of_getElem? (i := 178) (by rfl)) (by rfl)
set_option maxRecDepth 5000 in
theorem cw_499 : (.code ⟨"AlikeSteps$Net", "insertArc", "(IIII)V"⟩ prog_6_method_16_code 5 none : Cond) ∈ pj_tb := pj_t2 (List.mem_of_getElem? (i := 179) (by rfl)) (by rfl)
set_option maxRecDepth 5000 in
theorem cw_500 : (.methodLink RX4 38 ⟨"AlikeSteps$Net", "shiftArcs", "(III)V"⟩ : Cond) ∈ pj_tb := pj_t2 (List.mem_of_getElem? (i := 180) (by rfl)) (by rfl)
set_option maxRecDepth 5000 in
theorem cw_502 : (.instanceMethod ⟨"AlikeSteps$Net", "shiftArcs", "(III)V"⟩ : Cond) ∈ pj_tb := pj_t2 (List.mem_of_getElem? (i := 182) (by rfl)) (by rfl)
set_option maxRecDepth 5000 in
theorem cw_503 : (.code ⟨"AlikeSteps$Net", "shiftArcs", "(III)V"⟩ prog_6_method_20_code 6 none : Cond) ∈ pj_tb := pj_t2 (List.mem_of_getElem? (i := 183) (by rfl)) (by rfl)
set_option maxRecDepth 5000 in
theorem cw_504 : (.methodLink RX4 28 ⟨"java/lang/System", "arraycopy", "(Ljava/lang/Object;ILjava/lang/Object;II)V"⟩ : Cond) ∈ pj_tb := pj_t2 (List.mem_of_getElem? (i := 184) (by rfl)) (by rfl)
set_option maxRecDepth 5000 in
theorem cw_505 : (.methodLink RX4 42 ⟨"AlikeSteps$Net", "setArcPart", "(III)V"⟩ : Cond) ∈ pj_tb := pj_t2 (List.mem_of_getElem? (i := 185) (by rfl)) (by rfl)
set_option maxRecDepth 5000 in
theorem cw_506 : (.instanceMethod ⟨"AlikeSteps$Net", "setArcPart", "(III)V"⟩ : Cond) ∈ pj_tb := pj_t2 (List.mem_of_getElem? (i := 186) (by rfl)) (by rfl)
set_option maxRecDepth 5000 in
theorem cw_507 : (.selects "AlikeSteps$Net" ⟨"AlikeSteps$Net", "setArcPart", "(III)V"⟩ ⟨"AlikeSteps$Net", "setArcPart", "(III)V"⟩ : Cond) ∈ pj_tb := pj_t2 (List.mem_of_getElem? (i := 187) (by rfl)) (by rfl)
set_option maxRecDepth 5000 in
theorem cw_508 : (.code ⟨"AlikeSteps$Net", "setArcPart", "(III)V"⟩ prog_6_method_19_code 4 none : Cond) ∈ pj_tb := pj_t2 (List.mem_of_getElem? (i := 188) (by rfl)) (by rfl)
set_option maxRecDepth 5000 in
theorem cw_509 : (.methodLink RX10 142 ⟨"AlikeSteps$Tape", "clear", "()V"⟩ : Cond) ∈ pj_tb := pj_t2 (List.mem_of_getElem? (i := 189) (by rfl)) (by rfl)
set_option maxRecDepth 5000 in
theorem cw_510 : (.instanceMethod ⟨"AlikeSteps$Tape", "clear", "()V"⟩ : Cond) ∈ pj_tb := pj_t2 (List.mem_of_getElem? (i := 190) (by rfl)) (by rfl)
set_option maxRecDepth 5000 in
theorem cw_511 : (.selects "AlikeSteps$Tape" ⟨"AlikeSteps$Tape", "clear", "()V"⟩ ⟨"AlikeSteps$Tape", "clear", "()V"⟩ : Cond) ∈ pj_tb := pj_t2 (List.mem_of_getElem? (i := 191) (by rfl)) (by rfl)
set_option maxRecDepth 5000 in
theorem cw_512 : (.code ⟨"AlikeSteps$Tape", "clear", "()V"⟩ prog_10_method_5_code 1 none : Cond) ∈ pj_tb := pj_t2 (List.mem_of_getElem? (i := 192) (by rfl)) (by rfl)
set_option maxRecDepth 5000 in
theorem cw_513 : (.constant RX10 145 (-1000100) : Cond) ∈ pj_tb := pj_t2 (List.mem_of_getElem? (i := 193) (by rfl)) (by rfl)
set_option maxRecDepth 5000 in
theorem cw_514 : (.methodLink RX10 146 ⟨"AlikeSteps$Tape", "place", "()I"⟩ : Cond) ∈ pj_tb := pj_t2 (List.mem_of_getElem? (i := 194) (by rfl)) (by rfl)
set_option maxRecDepth 5000 in
theorem cw_515 : (.instanceMethod ⟨"AlikeSteps$Tape", "place", "()I"⟩ : Cond) ∈ pj_tb := pj_t2 (List.mem_of_getElem? (i := 195) (by rfl)) (by rfl)
set_option maxRecDepth 5000 in
theorem cw_516 : (.selects "AlikeSteps$Tape" ⟨"AlikeSteps$Tape", "place", "()I"⟩ ⟨"AlikeSteps$Tape", "place", "()I"⟩ : Cond) ∈ pj_tb := pj_t2 (List.mem_of_getElem? (i := 196) (by rfl)) (by rfl)
set_option maxRecDepth 5000 in
theorem cw_517 : (.code ⟨"AlikeSteps$Tape", "place", "()I"⟩ prog_10_method_6_code 1 (some .int) : Cond) ∈ pj_tb := pj_t2 (List.mem_of_getElem? (i := 197) (by rfl)) (by rfl)
set_option maxRecDepth 5000 in
theorem cw_518 : (.methodLink RX10 150 ⟨"AlikeSteps$Net", "takeOver", "(LAlikeSteps$Net;)V"⟩ : Cond) ∈ pj_tb := pj_t2 (List.mem_of_getElem? (i := 198) (by rfl)) (by rfl)
set_option maxRecDepth 5000 in
theorem cw_519 : (.instanceMethod ⟨"AlikeSteps$Net", "takeOver", "(LAlikeSteps$Net;)V"⟩ : Cond) ∈ pj_tb := pj_t2 (List.mem_of_getElem? (i := 199) (by rfl)) (by rfl)
set_option maxRecDepth 5000 in
theorem cw_520 : (.selects "AlikeSteps$Net" ⟨"AlikeSteps$Net", "takeOver", "(LAlikeSteps$Net;)V"⟩ ⟨"AlikeSteps$Net", "takeOver", "(LAlikeSteps$Net;)V"⟩ : Cond) ∈ pj_tb := pj_t2 (List.mem_of_getElem? (i := 200) (by rfl)) (by rfl)
set_option maxRecDepth 5000 in
theorem cw_521 : (.code ⟨"AlikeSteps$Net", "takeOver", "(LAlikeSteps$Net;)V"⟩ prog_6_method_12_code 2 none : Cond) ∈ pj_tb := pj_t2 (List.mem_of_getElem? (i := 201) (by rfl)) (by rfl)
set_option maxRecDepth 5000 in
theorem cw_522 : (.methodLink RX10 154 ⟨"AlikeSteps$Acts", "forget", "()V"⟩ : Cond) ∈ pj_tb := pj_t2 (List.mem_of_getElem? (i := 202) (by rfl)) (by rfl)
set_option maxRecDepth 5000 in
theorem cw_523 : (.instanceMethod ⟨"AlikeSteps$Acts", "forget", "()V"⟩ : Cond) ∈ pj_tb := pj_t2 (List.mem_of_getElem? (i := 203) (by rfl)) (by rfl)
set_option maxRecDepth 5000 in
theorem cw_524 : (.selects "AlikeSteps$Acts" ⟨"AlikeSteps$Acts", "forget", "()V"⟩ ⟨"AlikeSteps$Acts", "forget", "()V"⟩ : Cond) ∈ pj_tb := pj_t2 (List.mem_of_getElem? (i := 204) (by rfl)) (by rfl)
set_option maxRecDepth 5000 in
theorem cw_525 : (.code ⟨"AlikeSteps$Acts", "forget", "()V"⟩ prog_2_method_3_code 1 none : Cond) ∈ pj_tb := pj_t2 (List.mem_of_getElem? (i := 205) (by rfl)) (by rfl)
set_option maxRecDepth 5000 in
theorem cw_526 : (.methodLink RX10 157 ⟨"AlikeSteps$Net", "states", "()I"⟩ : Cond) ∈ pj_tb := pj_t2 (List.mem_of_getElem? (i := 206) (by rfl)) (by rfl)
set_option maxRecDepth 5000 in
theorem cw_527 : (.instanceMethod ⟨"AlikeSteps$Net", "states", "()I"⟩ : Cond) ∈ pj_tb := pj_t2 (List.mem_of_getElem? (i := 207) (by rfl)) (by rfl)
set_option maxRecDepth 5000 in
theorem cw_528 : (.selects "AlikeSteps$Net" ⟨"AlikeSteps$Net", "states", "()I"⟩ ⟨"AlikeSteps$Net", "states", "()I"⟩ : Cond) ∈ pj_tb := pj_t2 (List.mem_of_getElem? (i := 208) (by rfl)) (by rfl)
set_option maxRecDepth 5000 in
theorem cw_529 : (.code ⟨"AlikeSteps$Net", "states", "()I"⟩ prog_6_method_2_code 1 (some .int) : Cond) ∈ pj_tb := pj_t2 (List.mem_of_getElem? (i := 209) (by rfl)) (by rfl)
set_option maxRecDepth 5000 in
theorem cw_531 : (.instanceMethod ⟨"AlikeSteps", "fault", "()I"⟩ : Cond) ∈ pj_tb := pj_t2 (List.mem_of_getElem? (i := 211) (by rfl)) (by rfl)
set_option maxRecDepth 5000 in
theorem cw_532 : (.selects "AlikeSteps" ⟨"AlikeSteps", "fault", "()I"⟩ ⟨"AlikeSteps", "fault", "()I"⟩ : Cond) ∈ pj_tb := pj_t2 (List.mem_of_getElem? (i := 212) (by rfl)) (by rfl)
set_option maxRecDepth 5000 in
theorem cw_533 : (.code ⟨"AlikeSteps", "fault", "()I"⟩ prog_1_method_8_code 1 (some .int) : Cond) ∈ pj_tb := pj_t2 (List.mem_of_getElem? (i := 213) (by rfl)) (by rfl)
set_option maxRecDepth 5000 in
theorem cw_535 : (.instanceMethod ⟨"AlikeSteps", "lay", "(III)I"⟩ : Cond) ∈ pj_tb := pj_t2 (List.mem_of_getElem? (i := 215) (by rfl)) (by rfl)
set_option maxRecDepth 5000 in
theorem cw_536 : (.selects "AlikeSteps" ⟨"AlikeSteps", "lay", "(III)I"⟩ ⟨"AlikeSteps", "lay", "(III)I"⟩ : Cond) ∈ pj_tb := pj_t2 (List.mem_of_getElem? (i := 216) (by rfl)) (by rfl)
set_option maxRecDepth 5000 in
theorem cw_537 : (.code ⟨"AlikeSteps", "lay", "(III)I"⟩ prog_1_method_9_code 4 (some .int) : Cond) ∈ pj_tb := pj_t2 (List.mem_of_getElem? (i := 217) (by rfl)) (by rfl)
set_option maxRecDepth 5000 in
theorem cw_538 : (.methodLink RX10 160 ⟨"AlikeSteps$Net", "hasState", "(I)Z"⟩ : Cond) ∈ pj_tb := pj_t2 (List.mem_of_getElem? (i := 218) (by rfl)) (by rfl)
set_option maxRecDepth 5000 in
theorem cw_539 : (.methodLink RX10 163 ⟨"AlikeSteps$Net", "arcTotal", "()I"⟩ : Cond) ∈ pj_tb := pj_t2 (List.mem_of_getElem? (i := 219) (by rfl)) (by rfl)
set_option maxRecDepth 5000 in
theorem cw_540 : (.instanceMethod ⟨"AlikeSteps$Net", "arcTotal", "()I"⟩ : Cond) ∈ pj_tb := pj_t2 (List.mem_of_getElem? (i := 220) (by rfl)) (by rfl)
set_option maxRecDepth 5000 in
theorem cw_541 : (.selects "AlikeSteps$Net" ⟨"AlikeSteps$Net", "arcTotal", "()I"⟩ ⟨"AlikeSteps$Net", "arcTotal", "()I"⟩ : Cond) ∈ pj_tb := pj_t2 (List.mem_of_getElem? (i := 221) (by rfl)) (by rfl)
set_option maxRecDepth 5000 in
theorem cw_542 : (.code ⟨"AlikeSteps$Net", "arcTotal", "()I"⟩ prog_6_method_3_code 1 (some .int) : Cond) ∈ pj_tb := pj_t2 (List.mem_of_getElem? (i := 222) (by rfl)) (by rfl)
set_option maxRecDepth 5000 in
theorem cw_543 : (.methodLink RX10 166 ⟨"AlikeSteps$Net", "addArc", "(III)V"⟩ : Cond) ∈ pj_tb := pj_t2 (List.mem_of_getElem? (i := 223) (by rfl)) (by rfl)
set_option maxRecDepth 5000 in
theorem cw_544 : (.methodLink RX10 169 ⟨"AlikeSteps$Acts", "noteLaid", "()V"⟩ : Cond) ∈ pj_tb := pj_t2 (List.mem_of_getElem? (i := 224) (by rfl)) (by rfl)
set_option maxRecDepth 5000 in
theorem cw_545 : (.instanceMethod ⟨"AlikeSteps$Acts", "noteLaid", "()V"⟩ : Cond) ∈ pj_tb := pj_t2 (List.mem_of_getElem? (i := 225) (by rfl)) (by rfl)
set_option maxRecDepth 5000 in
theorem cw_546 : (.selects "AlikeSteps$Acts" ⟨"AlikeSteps$Acts", "noteLaid", "()V"⟩ ⟨"AlikeSteps$Acts", "noteLaid", "()V"⟩ : Cond) ∈ pj_tb := pj_t2 (List.mem_of_getElem? (i := 226) (by rfl)) (by rfl)
set_option maxRecDepth 5000 in
theorem cw_547 : (.code ⟨"AlikeSteps$Acts", "noteLaid", "()V"⟩ prog_2_method_4_code 1 none : Cond) ∈ pj_tb := pj_t2 (List.mem_of_getElem? (i := 227) (by rfl)) (by rfl)
set_option maxRecDepth 5000 in
theorem cw_548 : (.methodLink RX0 17 ⟨"AlikeSteps$Acts", "note", "(IIIII)V"⟩ : Cond) ∈ pj_tb := pj_t2 (List.mem_of_getElem? (i := 228) (by rfl)) (by rfl)
set_option maxRecDepth 5000 in
theorem cw_550 : (.instanceMethod ⟨"AlikeSteps$Acts", "note", "(IIIII)V"⟩ : Cond) ∈ pj_tb := pj_t2 (List.mem_of_getElem? (i := 230) (by rfl)) (by rfl)
set_option maxRecDepth 5000 in
theorem cw_551 : (.code ⟨"AlikeSteps$Acts", "note", "(IIIII)V"⟩ prog_2_method_9_code 7 none : Cond) ∈ pj_tb := pj_t2 (List.mem_of_getElem? (i := 231) (by rfl)) (by rfl)
set_option maxRecDepth 5000 in
theorem cw_552 : (.methodLink RX0 46 ⟨"java/lang/System", "arraycopy", "(Ljava/lang/Object;ILjava/lang/Object;II)V"⟩ : Cond) ∈ pj_tb := pj_t2 (List.mem_of_getElem? (i := 232) (by rfl)) (by rfl)
set_option maxRecDepth 5000 in
theorem cw_554 : (.instanceMethod ⟨"AlikeSteps", "cut", "(I)I"⟩ : Cond) ∈ pj_tb := pj_t2 (List.mem_of_getElem? (i := 234) (by rfl)) (by rfl)
set_option maxRecDepth 5000 in
theorem cw_555 : (.selects "AlikeSteps" ⟨"AlikeSteps", "cut", "(I)I"⟩ ⟨"AlikeSteps", "cut", "(I)I"⟩ : Cond) ∈ pj_tb := pj_t2 (List.mem_of_getElem? (i := 235) (by rfl)) (by rfl)
set_option maxRecDepth 5000 in
theorem cw_556 : (.code ⟨"AlikeSteps", "cut", "(I)I"⟩ prog_1_method_10_code 2 (some .int) : Cond) ∈ pj_tb := pj_t2 (List.mem_of_getElem? (i := 236) (by rfl)) (by rfl)
set_option maxRecDepth 5000 in
theorem cw_557 : (.methodLink RX10 172 ⟨"AlikeSteps$Net", "hasArc", "(I)Z"⟩ : Cond) ∈ pj_tb := pj_t2 (List.mem_of_getElem? (i := 237) (by rfl)) (by rfl)
set_option maxRecDepth 5000 in
theorem cw_558 : (.instanceMethod ⟨"AlikeSteps$Net", "hasArc", "(I)Z"⟩ : Cond) ∈ pj_tb := pj_t2 (List.mem_of_getElem? (i := 238) (by rfl)) (by rfl)
set_option maxRecDepth 5000 in
theorem cw_559 : (.selects "AlikeSteps$Net" ⟨"AlikeSteps$Net", "hasArc", "(I)Z"⟩ ⟨"AlikeSteps$Net", "hasArc", "(I)Z"⟩ : Cond) ∈ pj_tb := pj_t2 (List.mem_of_getElem? (i := 239) (by rfl)) (by rfl)
set_option maxRecDepth 5000 in
theorem cw_560 : (.code ⟨"AlikeSteps$Net", "hasArc", "(I)Z"⟩ prog_6_method_6_code 2 (some .boolean) : Cond) ∈ pj_tb := pj_t3 (List.mem_of_getElem? (i := 0) (by rfl)) (by rfl)
set_option maxRecDepth 5000 in
theorem cw_561 : (.methodLink RX10 175 ⟨"AlikeSteps$Acts", "noteCut", "(LAlikeSteps$Net;I)V"⟩ : Cond) ∈ pj_tb := pj_t3 (List.mem_of_getElem? (i := 1) (by rfl)) (by rfl)
set_option maxRecDepth 5000 in
theorem cw_562 : (.instanceMethod ⟨"AlikeSteps$Acts", "noteCut", "(LAlikeSteps$Net;I)V"⟩ : Cond) ∈ pj_tb := pj_t3 (List.mem_of_getElem? (i := 2) (by rfl)) (by rfl)
set_option maxRecDepth 5000 in
theorem cw_563 : (.selects "AlikeSteps$Acts" ⟨"AlikeSteps$Acts", "noteCut", "(LAlikeSteps$Net;I)V"⟩ ⟨"AlikeSteps$Acts", "noteCut", "(LAlikeSteps$Net;I)V"⟩ : Cond) ∈ pj_tb := pj_t3 (List.mem_of_getElem? (i := 3) (by rfl)) (by rfl)
set_option maxRecDepth 5000 in
theorem cw_564 : (.code ⟨"AlikeSteps$Acts", "noteCut", "(LAlikeSteps$Net;I)V"⟩ prog_2_method_5_code 3 none : Cond) ∈ pj_tb := pj_t3 (List.mem_of_getElem? (i := 4) (by rfl)) (by rfl)
set_option maxRecDepth 5000 in
theorem cw_565 : (.methodLink RX0 23 ⟨"AlikeSteps$Net", "arcPart", "(II)I"⟩ : Cond) ∈ pj_tb := pj_t3 (List.mem_of_getElem? (i := 5) (by rfl)) (by rfl)
set_option maxRecDepth 5000 in
theorem cw_566 : (.instanceMethod ⟨"AlikeSteps$Net", "arcPart", "(II)I"⟩ : Cond) ∈ pj_tb := pj_t3 (List.mem_of_getElem? (i := 6) (by rfl)) (by rfl)
set_option maxRecDepth 5000 in
theorem cw_567 : (.selects "AlikeSteps$Net" ⟨"AlikeSteps$Net", "arcPart", "(II)I"⟩ ⟨"AlikeSteps$Net", "arcPart", "(II)I"⟩ : Cond) ∈ pj_tb := pj_t3 (List.mem_of_getElem? (i := 7) (by rfl)) (by rfl)
set_option maxRecDepth 5000 in
theorem cw_568 : (.code ⟨"AlikeSteps$Net", "arcPart", "(II)I"⟩ prog_6_method_8_code 3 (some .int) : Cond) ∈ pj_tb := pj_t3 (List.mem_of_getElem? (i := 8) (by rfl)) (by rfl)
set_option maxRecDepth 5000 in
theorem cw_569 : (.methodLink RX10 179 ⟨"AlikeSteps$Net", "removeArc", "(I)V"⟩ : Cond) ∈ pj_tb := pj_t3 (List.mem_of_getElem? (i := 9) (by rfl)) (by rfl)
set_option maxRecDepth 5000 in
theorem cw_570 : (.instanceMethod ⟨"AlikeSteps$Net", "removeArc", "(I)V"⟩ : Cond) ∈ pj_tb := pj_t3 (List.mem_of_getElem? (i := 10) (by rfl)) (by rfl)
set_option maxRecDepth 5000 in
theorem cw_571 : (.selects "AlikeSteps$Net" ⟨"AlikeSteps$Net", "removeArc", "(I)V"⟩ ⟨"AlikeSteps$Net", "removeArc", "(I)V"⟩ : Cond) ∈ pj_tb := pj_t3 (List.mem_of_getElem? (i := 11) (by rfl)) (by rfl)
set_option maxRecDepth 5000 in
theorem cw_572 : (.code ⟨"AlikeSteps$Net", "removeArc", "(I)V"⟩ prog_6_method_17_code 2 none : Cond) ∈ pj_tb := pj_t3 (List.mem_of_getElem? (i := 12) (by rfl)) (by rfl)
set_option maxRecDepth 5000 in
theorem cw_573 : (.methodLink RX4 45 ⟨"AlikeSteps$Net", "hasArc", "(I)Z"⟩ : Cond) ∈ pj_tb := pj_t3 (List.mem_of_getElem? (i := 13) (by rfl)) (by rfl)
set_option maxRecDepth 5000 in
theorem cw_575 : (.instanceMethod ⟨"AlikeSteps", "turn", "(I)I"⟩ : Cond) ∈ pj_tb := pj_t3 (List.mem_of_getElem? (i := 15) (by rfl)) (by rfl)
set_option maxRecDepth 5000 in
theorem cw_576 : (.selects "AlikeSteps" ⟨"AlikeSteps", "turn", "(I)I"⟩ ⟨"AlikeSteps", "turn", "(I)I"⟩ : Cond) ∈ pj_tb := pj_t3 (List.mem_of_getElem? (i := 16) (by rfl)) (by rfl)
set_option maxRecDepth 5000 in
theorem cw_577 : (.code ⟨"AlikeSteps", "turn", "(I)I"⟩ prog_1_method_11_code 2 (some .int) : Cond) ∈ pj_tb := pj_t3 (List.mem_of_getElem? (i := 17) (by rfl)) (by rfl)
set_option maxRecDepth 5000 in
theorem cw_578 : (.methodLink RX10 182 ⟨"AlikeSteps$Net", "turnArc", "(I)V"⟩ : Cond) ∈ pj_tb := pj_t3 (List.mem_of_getElem? (i := 18) (by rfl)) (by rfl)
set_option maxRecDepth 5000 in
theorem cw_579 : (.instanceMethod ⟨"AlikeSteps$Net", "turnArc", "(I)V"⟩ : Cond) ∈ pj_tb := pj_t3 (List.mem_of_getElem? (i := 19) (by rfl)) (by rfl)
set_option maxRecDepth 5000 in
theorem cw_580 : (.selects "AlikeSteps$Net" ⟨"AlikeSteps$Net", "turnArc", "(I)V"⟩ ⟨"AlikeSteps$Net", "turnArc", "(I)V"⟩ : Cond) ∈ pj_tb := pj_t3 (List.mem_of_getElem? (i := 20) (by rfl)) (by rfl)
set_option maxRecDepth 5000 in
theorem cw_581 : (.code ⟨"AlikeSteps$Net", "turnArc", "(I)V"⟩ prog_6_method_18_code 3 none : Cond) ∈ pj_tb := pj_t3 (List.mem_of_getElem? (i := 21) (by rfl)) (by rfl)
set_option maxRecDepth 5000 in
theorem cw_582 : (.methodLink RX4 49 ⟨"AlikeSteps$Net", "arcPart", "(II)I"⟩ : Cond) ∈ pj_tb := pj_t3 (List.mem_of_getElem? (i := 22) (by rfl)) (by rfl)
set_option maxRecDepth 5000 in
theorem cw_583 : (.methodLink RX10 185 ⟨"AlikeSteps$Acts", "noteTurned", "(I)V"⟩ : Cond) ∈ pj_tb := pj_t3 (List.mem_of_getElem? (i := 23) (by rfl)) (by rfl)
set_option maxRecDepth 5000 in
theorem cw_584 : (.instanceMethod ⟨"AlikeSteps$Acts", "noteTurned", "(I)V"⟩ : Cond) ∈ pj_tb := pj_t3 (List.mem_of_getElem? (i := 24) (by rfl)) (by rfl)
set_option maxRecDepth 5000 in
theorem cw_585 : (.selects "AlikeSteps$Acts" ⟨"AlikeSteps$Acts", "noteTurned", "(I)V"⟩ ⟨"AlikeSteps$Acts", "noteTurned", "(I)V"⟩ : Cond) ∈ pj_tb := pj_t3 (List.mem_of_getElem? (i := 25) (by rfl)) (by rfl)
set_option maxRecDepth 5000 in
theorem cw_586 : (.code ⟨"AlikeSteps$Acts", "noteTurned", "(I)V"⟩ prog_2_method_6_code 2 none : Cond) ∈ pj_tb := pj_t3 (List.mem_of_getElem? (i := 26) (by rfl)) (by rfl)
set_option maxRecDepth 5000 in
theorem cw_587 : (.methodLink RX10 188 ⟨"AlikeSteps$Net", "arcPart", "(II)I"⟩ : Cond) ∈ pj_tb := pj_t3 (List.mem_of_getElem? (i := 27) (by rfl)) (by rfl)
set_option maxRecDepth 5000 in
theorem cw_589 : (.instanceMethod ⟨"AlikeSteps", "become", "(II)I"⟩ : Cond) ∈ pj_tb := pj_t3 (List.mem_of_getElem? (i := 29) (by rfl)) (by rfl)
set_option maxRecDepth 5000 in
theorem cw_590 : (.selects "AlikeSteps" ⟨"AlikeSteps", "become", "(II)I"⟩ ⟨"AlikeSteps", "become", "(II)I"⟩ : Cond) ∈ pj_tb := pj_t3 (List.mem_of_getElem? (i := 30) (by rfl)) (by rfl)
set_option maxRecDepth 5000 in
theorem cw_591 : (.code ⟨"AlikeSteps", "become", "(II)I"⟩ prog_1_method_12_code 4 (some .int) : Cond) ∈ pj_tb := pj_t3 (List.mem_of_getElem? (i := 31) (by rfl)) (by rfl)
set_option maxRecDepth 5000 in
theorem cw_592 : (.methodLink RX10 192 ⟨"AlikeSteps$Net", "kindOf", "(I)I"⟩ : Cond) ∈ pj_tb := pj_t3 (List.mem_of_getElem? (i := 32) (by rfl)) (by rfl)
set_option maxRecDepth 5000 in
theorem cw_593 : (.instanceMethod ⟨"AlikeSteps$Net", "kindOf", "(I)I"⟩ : Cond) ∈ pj_tb := pj_t3 (List.mem_of_getElem? (i := 33) (by rfl)) (by rfl)
set_option maxRecDepth 5000 in
theorem cw_594 : (.selects "AlikeSteps$Net" ⟨"AlikeSteps$Net", "kindOf", "(I)I"⟩ ⟨"AlikeSteps$Net", "kindOf", "(I)I"⟩ : Cond) ∈ pj_tb := pj_t3 (List.mem_of_getElem? (i := 34) (by rfl)) (by rfl)
set_option maxRecDepth 5000 in
theorem cw_595 : (.code ⟨"AlikeSteps$Net", "kindOf", "(I)I"⟩ prog_6_method_7_code 2 (some .int) : Cond) ∈ pj_tb := pj_t3 (List.mem_of_getElem? (i := 35) (by rfl)) (by rfl)
set_option maxRecDepth 5000 in
theorem cw_596 : (.constant RX10 195 (-1000002) : Cond) ∈ pj_tb := pj_t3 (List.mem_of_getElem? (i := 36) (by rfl)) (by rfl)
set_option maxRecDepth 5000 in
theorem cw_597 : (.methodLink RX10 196 ⟨"AlikeSteps$Net", "setKind", "(II)V"⟩ : Cond) ∈ pj_tb := pj_t3 (List.mem_of_getElem? (i := 37) (by rfl)) (by rfl)
set_option maxRecDepth 5000 in
theorem cw_598 : (.instanceMethod ⟨"AlikeSteps$Net", "setKind", "(II)V"⟩ : Cond) ∈ pj_tb := pj_t3 (List.mem_of_getElem? (i := 38) (by rfl)) (by rfl)
set_option maxRecDepth 5000 in
theorem cw_599 : (.selects "AlikeSteps$Net" ⟨"AlikeSteps$Net", "setKind", "(II)V"⟩ ⟨"AlikeSteps$Net", "setKind", "(II)V"⟩ : Cond) ∈ pj_tb := pj_t3 (List.mem_of_getElem? (i := 39) (by rfl)) (by rfl)
set_option maxRecDepth 5000 in
theorem cw_600 : (.code ⟨"AlikeSteps$Net", "setKind", "(II)V"⟩ prog_6_method_14_code 3 none : Cond) ∈ pj_tb := pj_t3 (List.mem_of_getElem? (i := 40) (by rfl)) (by rfl)
set_option maxRecDepth 5000 in
theorem cw_601 : (.methodLink RX10 200 ⟨"AlikeSteps$Acts", "noteKind", "(II)V"⟩ : Cond) ∈ pj_tb := pj_t3 (List.mem_of_getElem? (i := 41) (by rfl)) (by rfl)
set_option maxRecDepth 5000 in
theorem cw_602 : (.instanceMethod ⟨"AlikeSteps$Acts", "noteKind", "(II)V"⟩ : Cond) ∈ pj_tb := pj_t3 (List.mem_of_getElem? (i := 42) (by rfl)) (by rfl)
set_option maxRecDepth 5000 in
theorem cw_603 : (.selects "AlikeSteps$Acts" ⟨"AlikeSteps$Acts", "noteKind", "(II)V"⟩ ⟨"AlikeSteps$Acts", "noteKind", "(II)V"⟩ : Cond) ∈ pj_tb := pj_t3 (List.mem_of_getElem? (i := 43) (by rfl)) (by rfl)
set_option maxRecDepth 5000 in
theorem cw_604 : (.code ⟨"AlikeSteps$Acts", "noteKind", "(II)V"⟩ prog_2_method_7_code 3 none : Cond) ∈ pj_tb := pj_t3 (List.mem_of_getElem? (i := 44) (by rfl)) (by rfl)
set_option maxRecDepth 5000 in
theorem cw_606 : (.instanceMethod ⟨"AlikeSteps", "undo", "()I"⟩ : Cond) ∈ pj_tb := pj_t3 (List.mem_of_getElem? (i := 46) (by rfl)) (by rfl)
set_option maxRecDepth 5000 in
theorem cw_607 : (.selects "AlikeSteps" ⟨"AlikeSteps", "undo", "()I"⟩ ⟨"AlikeSteps", "undo", "()I"⟩ : Cond) ∈ pj_tb := pj_t3 (List.mem_of_getElem? (i := 47) (by rfl)) (by rfl)
set_option maxRecDepth 5000 in
theorem cw_608 : (.code ⟨"AlikeSteps", "undo", "()I"⟩ prog_1_method_13_code 1 (some .int) : Cond) ∈ pj_tb := pj_t3 (List.mem_of_getElem? (i := 48) (by rfl)) (by rfl)
set_option maxRecDepth 5000 in
theorem cw_609 : (.methodLink RX10 203 ⟨"AlikeSteps$Acts", "size", "()I"⟩ : Cond) ∈ pj_tb := pj_t3 (List.mem_of_getElem? (i := 49) (by rfl)) (by rfl)
set_option maxRecDepth 5000 in
theorem cw_610 : (.instanceMethod ⟨"AlikeSteps$Acts", "size", "()I"⟩ : Cond) ∈ pj_tb := pj_t3 (List.mem_of_getElem? (i := 50) (by rfl)) (by rfl)
set_option maxRecDepth 5000 in
theorem cw_611 : (.selects "AlikeSteps$Acts" ⟨"AlikeSteps$Acts", "size", "()I"⟩ ⟨"AlikeSteps$Acts", "size", "()I"⟩ : Cond) ∈ pj_tb := pj_t3 (List.mem_of_getElem? (i := 51) (by rfl)) (by rfl)
set_option maxRecDepth 5000 in
theorem cw_612 : (.code ⟨"AlikeSteps$Acts", "size", "()I"⟩ prog_2_method_2_code 1 (some .int) : Cond) ∈ pj_tb := pj_t3 (List.mem_of_getElem? (i := 52) (by rfl)) (by rfl)
set_option maxRecDepth 5000 in
theorem cw_613 : (.methodLink RX10 206 ⟨"AlikeSteps$Acts", "undoLatest", "(LAlikeSteps$Net;)V"⟩ : Cond) ∈ pj_tb := pj_t3 (List.mem_of_getElem? (i := 53) (by rfl)) (by rfl)
set_option maxRecDepth 5000 in
theorem cw_614 : (.instanceMethod ⟨"AlikeSteps$Acts", "undoLatest", "(LAlikeSteps$Net;)V"⟩ : Cond) ∈ pj_tb := pj_t3 (List.mem_of_getElem? (i := 54) (by rfl)) (by rfl)
set_option maxRecDepth 5000 in
theorem cw_615 : (.selects "AlikeSteps$Acts" ⟨"AlikeSteps$Acts", "undoLatest", "(LAlikeSteps$Net;)V"⟩ ⟨"AlikeSteps$Acts", "undoLatest", "(LAlikeSteps$Net;)V"⟩ : Cond) ∈ pj_tb := pj_t3 (List.mem_of_getElem? (i := 55) (by rfl)) (by rfl)
set_option maxRecDepth 5000 in
theorem cw_616 : (.code ⟨"AlikeSteps$Acts", "undoLatest", "(LAlikeSteps$Net;)V"⟩ prog_2_method_8_code 3 none : Cond) ∈ pj_tb := pj_t3 (List.mem_of_getElem? (i := 56) (by rfl)) (by rfl)
set_option maxRecDepth 5000 in
theorem cw_617 : (.methodLink RX0 27 ⟨"AlikeSteps$Net", "arcTotal", "()I"⟩ : Cond) ∈ pj_tb := pj_t3 (List.mem_of_getElem? (i := 57) (by rfl)) (by rfl)
set_option maxRecDepth 5000 in
theorem cw_618 : (.methodLink RX0 31 ⟨"AlikeSteps$Net", "removeArc", "(I)V"⟩ : Cond) ∈ pj_tb := pj_t3 (List.mem_of_getElem? (i := 58) (by rfl)) (by rfl)
set_option maxRecDepth 5000 in
theorem cw_619 : (.methodLink RX0 35 ⟨"AlikeSteps$Net", "insertArc", "(IIII)V"⟩ : Cond) ∈ pj_tb := pj_t3 (List.mem_of_getElem? (i := 59) (by rfl)) (by rfl)
set_option maxRecDepth 5000 in
theorem cw_620 : (.methodLink RX0 39 ⟨"AlikeSteps$Net", "turnArc", "(I)V"⟩ : Cond) ∈ pj_tb := pj_t3 (List.mem_of_getElem? (i := 60) (by rfl)) (by rfl)
set_option maxRecDepth 5000 in
theorem cw_621 : (.methodLink RX0 42 ⟨"AlikeSteps$Net", "setKind", "(II)V"⟩ : Cond) ∈ pj_tb := pj_t3 (List.mem_of_getElem? (i := 61) (by rfl)) (by rfl)
set_option maxRecDepth 5000 in
theorem cw_623 : (.instanceMethod ⟨"AlikeSteps", "arc", "(II)I"⟩ : Cond) ∈ pj_tb := pj_t3 (List.mem_of_getElem? (i := 63) (by rfl)) (by rfl)
set_option maxRecDepth 5000 in
theorem cw_624 : (.selects "AlikeSteps" ⟨"AlikeSteps", "arc", "(II)I"⟩ ⟨"AlikeSteps", "arc", "(II)I"⟩ : Cond) ∈ pj_tb := pj_t3 (List.mem_of_getElem? (i := 64) (by rfl)) (by rfl)
set_option maxRecDepth 5000 in
theorem cw_625 : (.code ⟨"AlikeSteps", "arc", "(II)I"⟩ prog_1_method_14_code 3 (some .int) : Cond) ∈ pj_tb := pj_t3 (List.mem_of_getElem? (i := 65) (by rfl)) (by rfl)
set_option maxRecDepth 5000 in
theorem cw_627 : (.instanceMethod ⟨"AlikeSteps", "moves", "(III)I"⟩ : Cond) ∈ pj_tb := pj_t3 (List.mem_of_getElem? (i := 67) (by rfl)) (by rfl)
set_option maxRecDepth 5000 in
theorem cw_628 : (.selects "AlikeSteps" ⟨"AlikeSteps", "moves", "(III)I"⟩ ⟨"AlikeSteps", "moves", "(III)I"⟩ : Cond) ∈ pj_tb := pj_t3 (List.mem_of_getElem? (i := 68) (by rfl)) (by rfl)
set_option maxRecDepth 5000 in
theorem cw_629 : (.code ⟨"AlikeSteps", "moves", "(III)I"⟩ prog_1_method_15_code 4 (some .int) : Cond) ∈ pj_tb := pj_t3 (List.mem_of_getElem? (i := 69) (by rfl)) (by rfl)
set_option maxRecDepth 5000 in
theorem cw_630 : (.methodLink RX10 209 ⟨"AlikeSteps$Alike", "steps", "(LAlikeSteps$Net;)LAlikeSteps$Steps;"⟩ : Cond) ∈ pj_tb := pj_t3 (List.mem_of_getElem? (i := 70) (by rfl)) (by rfl)
set_option maxRecDepth 5000 in
theorem cw_631 : (.instanceMethod ⟨"AlikeSteps$Alike", "steps", "(LAlikeSteps$Net;)LAlikeSteps$Steps;"⟩ : Cond) ∈ pj_tb := pj_t3 (List.mem_of_getElem? (i := 71) (by rfl)) (by rfl)
set_option maxRecDepth 5000 in
theorem cw_632 : (.selects "AlikeSteps$Alike" ⟨"AlikeSteps$Alike", "steps", "(LAlikeSteps$Net;)LAlikeSteps$Steps;"⟩ ⟨"AlikeSteps$Alike", "steps", "(LAlikeSteps$Net;)LAlikeSteps$Steps;"⟩ : Cond) ∈ pj_tb := pj_t3 (List.mem_of_getElem? (i := 72) (by rfl)) (by rfl)
set_option maxRecDepth 5000 in
theorem cw_633 : (.code ⟨"AlikeSteps$Alike", "steps", "(LAlikeSteps$Net;)LAlikeSteps$Steps;"⟩ prog_3_method_2_code 2 (some (.object "AlikeSteps$Steps")) : Cond) ∈ pj_tb := pj_t3 (List.mem_of_getElem? (i := 73) (by rfl)) (by rfl)
set_option maxRecDepth 5000 in
theorem cw_634 : (.methodLink RX1 25 ⟨"AlikeSteps$Steps", "follow", "(LAlikeSteps$Net;)V"⟩ : Cond) ∈ pj_tb := pj_t3 (List.mem_of_getElem? (i := 74) (by rfl)) (by rfl)
set_option maxRecDepth 5000 in
theorem cw_635 : (.instanceMethod ⟨"AlikeSteps$Steps", "follow", "(LAlikeSteps$Net;)V"⟩ : Cond) ∈ pj_tb := pj_t3 (List.mem_of_getElem? (i := 75) (by rfl)) (by rfl)
set_option maxRecDepth 5000 in
theorem cw_636 : (.selects "AlikeSteps$Steps" ⟨"AlikeSteps$Steps", "follow", "(LAlikeSteps$Net;)V"⟩ ⟨"AlikeSteps$Steps", "follow", "(LAlikeSteps$Net;)V"⟩ : Cond) ∈ pj_tb := pj_t3 (List.mem_of_getElem? (i := 76) (by rfl)) (by rfl)
set_option maxRecDepth 5000 in
theorem cw_637 : (.code ⟨"AlikeSteps$Steps", "follow", "(LAlikeSteps$Net;)V"⟩ prog_9_method_2_code 3 none : Cond) ∈ pj_tb := pj_t3 (List.mem_of_getElem? (i := 77) (by rfl)) (by rfl)
set_option maxRecDepth 5000 in
theorem cw_638 : (.methodLink RX7 22 ⟨"AlikeSteps$Net", "version", "()I"⟩ : Cond) ∈ pj_tb := pj_t3 (List.mem_of_getElem? (i := 78) (by rfl)) (by rfl)
set_option maxRecDepth 5000 in
theorem cw_639 : (.instanceMethod ⟨"AlikeSteps$Net", "version", "()I"⟩ : Cond) ∈ pj_tb := pj_t3 (List.mem_of_getElem? (i := 79) (by rfl)) (by rfl)
set_option maxRecDepth 5000 in
theorem cw_640 : (.selects "AlikeSteps$Net" ⟨"AlikeSteps$Net", "version", "()I"⟩ ⟨"AlikeSteps$Net", "version", "()I"⟩ : Cond) ∈ pj_tb := pj_t3 (List.mem_of_getElem? (i := 80) (by rfl)) (by rfl)
set_option maxRecDepth 5000 in
theorem cw_641 : (.code ⟨"AlikeSteps$Net", "version", "()I"⟩ prog_6_method_4_code 1 (some .int) : Cond) ∈ pj_tb := pj_t3 (List.mem_of_getElem? (i := 81) (by rfl)) (by rfl)
set_option maxRecDepth 5000 in
theorem cw_642 : (.methodLink RX7 28 ⟨"AlikeSteps$Net", "arcTotal", "()I"⟩ : Cond) ∈ pj_tb := pj_t3 (List.mem_of_getElem? (i := 82) (by rfl)) (by rfl)
set_option maxRecDepth 5000 in
theorem cw_643 : (.methodLink RX7 31 ⟨"AlikeSteps$Steps", "openArc", "(LAlikeSteps$Net;I)V"⟩ : Cond) ∈ pj_tb := pj_t3 (List.mem_of_getElem? (i := 83) (by rfl)) (by rfl)
set_option maxRecDepth 5000 in
theorem cw_645 : (.instanceMethod ⟨"AlikeSteps$Steps", "openArc", "(LAlikeSteps$Net;I)V"⟩ : Cond) ∈ pj_tb := pj_t3 (List.mem_of_getElem? (i := 85) (by rfl)) (by rfl)
set_option maxRecDepth 5000 in
theorem cw_646 : (.code ⟨"AlikeSteps$Steps", "openArc", "(LAlikeSteps$Net;I)V"⟩ prog_9_method_12_code 6 none : Cond) ∈ pj_tb := pj_t3 (List.mem_of_getElem? (i := 86) (by rfl)) (by rfl)
set_option maxRecDepth 5000 in
theorem cw_647 : (.methodLink RX7 75 ⟨"AlikeSteps$Net", "arcPart", "(II)I"⟩ : Cond) ∈ pj_tb := pj_t3 (List.mem_of_getElem? (i := 87) (by rfl)) (by rfl)
set_option maxRecDepth 5000 in
theorem cw_648 : (.methodLink RX7 78 ⟨"AlikeSteps$Net", "kindOf", "(I)I"⟩ : Cond) ∈ pj_tb := pj_t3 (List.mem_of_getElem? (i := 88) (by rfl)) (by rfl)
set_option maxRecDepth 5000 in
theorem cw_650 : (.static ⟨"AlikeSteps", "isA", "(II)Z"⟩ : Cond) ∈ pj_tb := pj_t3 (List.mem_of_getElem? (i := 90) (by rfl)) (by rfl)
set_option maxRecDepth 5000 in
theorem cw_651 : (.code ⟨"AlikeSteps", "isA", "(II)Z"⟩ prog_1_method_41_code 2 (some .boolean) : Cond) ∈ pj_tb := pj_t3 (List.mem_of_getElem? (i := 91) (by rfl)) (by rfl)
set_option maxRecDepth 5000 in
theorem cw_652 : (.methodLink RX10 328 ⟨"AlikeSteps", "nextKind", "(I)I"⟩ : Cond) ∈ pj_tb := pj_t3 (List.mem_of_getElem? (i := 92) (by rfl)) (by rfl)
set_option maxRecDepth 5000 in
theorem cw_653 : (.static ⟨"AlikeSteps", "nextKind", "(I)I"⟩ : Cond) ∈ pj_tb := pj_t3 (List.mem_of_getElem? (i := 93) (by rfl)) (by rfl)
set_option maxRecDepth 5000 in
theorem cw_654 : (.code ⟨"AlikeSteps", "nextKind", "(I)I"⟩ prog_1_method_42_code 1 (some .int) : Cond) ∈ pj_tb := pj_t3 (List.mem_of_getElem? (i := 94) (by rfl)) (by rfl)
set_option maxRecDepth 5000 in
theorem cw_655 : (.methodLink RX7 35 ⟨"AlikeSteps$Steps", "closeSilent", "()V"⟩ : Cond) ∈ pj_tb := pj_t3 (List.mem_of_getElem? (i := 95) (by rfl)) (by rfl)
set_option maxRecDepth 5000 in
theorem cw_657 : (.instanceMethod ⟨"AlikeSteps$Steps", "closeSilent", "()V"⟩ : Cond) ∈ pj_tb := pj_t3 (List.mem_of_getElem? (i := 97) (by rfl)) (by rfl)
set_option maxRecDepth 5000 in
theorem cw_658 : (.code ⟨"AlikeSteps$Steps", "closeSilent", "()V"⟩ prog_9_method_13_code 2 none : Cond) ∈ pj_tb := pj_t3 (List.mem_of_getElem? (i := 98) (by rfl)) (by rfl)
set_option maxRecDepth 5000 in
theorem cw_659 : (.methodLink RX7 85 ⟨"AlikeSteps$Steps", "silentlyWithin", "(II)I"⟩ : Cond) ∈ pj_tb := pj_t3 (List.mem_of_getElem? (i := 99) (by rfl)) (by rfl)
set_option maxRecDepth 5000 in
theorem cw_660 : (.instanceMethod ⟨"AlikeSteps$Steps", "silentlyWithin", "(II)I"⟩ : Cond) ∈ pj_tb := pj_t3 (List.mem_of_getElem? (i := 100) (by rfl)) (by rfl)
set_option maxRecDepth 5000 in
theorem cw_661 : (.selects "AlikeSteps$Steps" ⟨"AlikeSteps$Steps", "silentlyWithin", "(II)I"⟩ ⟨"AlikeSteps$Steps", "silentlyWithin", "(II)I"⟩ : Cond) ∈ pj_tb := pj_t3 (List.mem_of_getElem? (i := 101) (by rfl)) (by rfl)
set_option maxRecDepth 5000 in
theorem cw_662 : (.code ⟨"AlikeSteps$Steps", "silentlyWithin", "(II)I"⟩ prog_9_method_6_code 6 (some .int) : Cond) ∈ pj_tb := pj_t3 (List.mem_of_getElem? (i := 102) (by rfl)) (by rfl)
set_option maxRecDepth 5000 in
theorem cw_663 : (.methodLink RX7 49 ⟨"AlikeSteps$Steps", "goneFrom", "(II)I"⟩ : Cond) ∈ pj_tb := pj_t3 (List.mem_of_getElem? (i := 103) (by rfl)) (by rfl)
set_option maxRecDepth 5000 in
theorem cw_664 : (.instanceMethod ⟨"AlikeSteps$Steps", "goneFrom", "(II)I"⟩ : Cond) ∈ pj_tb := pj_t3 (List.mem_of_getElem? (i := 104) (by rfl)) (by rfl)
set_option maxRecDepth 5000 in
theorem cw_665 : (.selects "AlikeSteps$Steps" ⟨"AlikeSteps$Steps", "goneFrom", "(II)I"⟩ ⟨"AlikeSteps$Steps", "goneFrom", "(II)I"⟩ : Cond) ∈ pj_tb := pj_t3 (List.mem_of_getElem? (i := 105) (by rfl)) (by rfl)
set_option maxRecDepth 5000 in
theorem cw_666 : (.code ⟨"AlikeSteps$Steps", "goneFrom", "(II)I"⟩ prog_9_method_5_code 3 (some .int) : Cond) ∈ pj_tb := pj_t3 (List.mem_of_getElem? (i := 106) (by rfl)) (by rfl)
set_option maxRecDepth 5000 in
theorem cw_667 : (.methodLink RX7 45 ⟨"AlikeSteps$Steps", "union", "([III)I"⟩ : Cond) ∈ pj_tb := pj_t3 (List.mem_of_getElem? (i := 107) (by rfl)) (by rfl)
set_option maxRecDepth 5000 in
theorem cw_668 : (.static ⟨"AlikeSteps$Steps", "union", "([III)I"⟩ : Cond) ∈ pj_tb := pj_t3 (List.mem_of_getElem? (i := 108) (by rfl)) (by rfl)
set_option maxRecDepth 5000 in
theorem cw_669 : (.code ⟨"AlikeSteps$Steps", "union", "([III)I"⟩ prog_9_method_16_code 5 (some .int) : Cond) ∈ pj_tb := pj_t3 (List.mem_of_getElem? (i := 109) (by rfl)) (by rfl)
set_option maxRecDepth 5000 in
theorem cw_670 : (.methodLink RX7 38 ⟨"AlikeSteps$Steps", "closeLetters", "()V"⟩ : Cond) ∈ pj_tb := pj_t3 (List.mem_of_getElem? (i := 110) (by rfl)) (by rfl)
set_option maxRecDepth 5000 in
theorem cw_672 : (.instanceMethod ⟨"AlikeSteps$Steps", "closeLetters", "()V"⟩ : Cond) ∈ pj_tb := pj_t3 (List.mem_of_getElem? (i := 112) (by rfl)) (by rfl)
set_option maxRecDepth 5000 in
theorem cw_673 : (.code ⟨"AlikeSteps$Steps", "closeLetters", "()V"⟩ prog_9_method_14_code 4 none : Cond) ∈ pj_tb := pj_t3 (List.mem_of_getElem? (i := 113) (by rfl)) (by rfl)
set_option maxRecDepth 5000 in
theorem cw_674 : (.methodLink RX10 213 ⟨"AlikeSteps$Steps", "moved", "(III)I"⟩ : Cond) ∈ pj_tb := pj_t3 (List.mem_of_getElem? (i := 114) (by rfl)) (by rfl)
set_option maxRecDepth 5000 in
theorem cw_675 : (.instanceMethod ⟨"AlikeSteps$Steps", "moved", "(III)I"⟩ : Cond) ∈ pj_tb := pj_t3 (List.mem_of_getElem? (i := 115) (by rfl)) (by rfl)
set_option maxRecDepth 5000 in
theorem cw_676 : (.selects "AlikeSteps$Steps" ⟨"AlikeSteps$Steps", "moved", "(III)I"⟩ ⟨"AlikeSteps$Steps", "moved", "(III)I"⟩ : Cond) ∈ pj_tb := pj_t3 (List.mem_of_getElem? (i := 116) (by rfl)) (by rfl)
set_option maxRecDepth 5000 in
theorem cw_677 : (.code ⟨"AlikeSteps$Steps", "moved", "(III)I"⟩ prog_9_method_3_code 4 (some .int) : Cond) ∈ pj_tb := pj_t3 (List.mem_of_getElem? (i := 117) (by rfl)) (by rfl)
set_option maxRecDepth 5000 in
theorem cw_678 : (.methodLink RX7 41 ⟨"AlikeSteps$Steps", "gone", "(II)I"⟩ : Cond) ∈ pj_tb := pj_t3 (List.mem_of_getElem? (i := 118) (by rfl)) (by rfl)
set_option maxRecDepth 5000 in
theorem cw_679 : (.instanceMethod ⟨"AlikeSteps$Steps", "gone", "(II)I"⟩ : Cond) ∈ pj_tb := pj_t3 (List.mem_of_getElem? (i := 119) (by rfl)) (by rfl)
set_option maxRecDepth 5000 in
theorem cw_680 : (.selects "AlikeSteps$Steps" ⟨"AlikeSteps$Steps", "gone", "(II)I"⟩ ⟨"AlikeSteps$Steps", "gone", "(II)I"⟩ : Cond) ∈ pj_tb := pj_t3 (List.mem_of_getElem? (i := 120) (by rfl)) (by rfl)
set_option maxRecDepth 5000 in
theorem cw_681 : (.code ⟨"AlikeSteps$Steps", "gone", "(II)I"⟩ prog_9_method_4_code 3 (some .int) : Cond) ∈ pj_tb := pj_t3 (List.mem_of_getElem? (i := 121) (by rfl)) (by rfl)
set_option maxRecDepth 5000 in
theorem cw_683 : (.instanceMethod ⟨"AlikeSteps", "block", "(II)I"⟩ : Cond) ∈ pj_tb := pj_t3 (List.mem_of_getElem? (i := 123) (by rfl)) (by rfl)
set_option maxRecDepth 5000 in
theorem cw_684 : (.selects "AlikeSteps" ⟨"AlikeSteps", "block", "(II)I"⟩ ⟨"AlikeSteps", "block", "(II)I"⟩ : Cond) ∈ pj_tb := pj_t3 (List.mem_of_getElem? (i := 124) (by rfl)) (by rfl)
set_option maxRecDepth 5000 in
theorem cw_685 : (.code ⟨"AlikeSteps", "block", "(II)I"⟩ prog_1_method_16_code 3 (some .int) : Cond) ∈ pj_tb := pj_t3 (List.mem_of_getElem? (i := 125) (by rfl)) (by rfl)
set_option maxRecDepth 5000 in
theorem cw_686 : (.methodLink RX10 218 ⟨"AlikeSteps$Alike", "parting", "(LAlikeSteps$Net;I)LAlikeSteps$Parting;"⟩ : Cond) ∈ pj_tb := pj_t3 (List.mem_of_getElem? (i := 126) (by rfl)) (by rfl)
set_option maxRecDepth 5000 in
theorem cw_687 : (.instanceMethod ⟨"AlikeSteps$Alike", "parting", "(LAlikeSteps$Net;I)LAlikeSteps$Parting;"⟩ : Cond) ∈ pj_tb := pj_t3 (List.mem_of_getElem? (i := 127) (by rfl)) (by rfl)
set_option maxRecDepth 5000 in
theorem cw_688 : (.selects "AlikeSteps$Alike" ⟨"AlikeSteps$Alike", "parting", "(LAlikeSteps$Net;I)LAlikeSteps$Parting;"⟩ ⟨"AlikeSteps$Alike", "parting", "(LAlikeSteps$Net;I)LAlikeSteps$Parting;"⟩ : Cond) ∈ pj_tb := pj_t3 (List.mem_of_getElem? (i := 128) (by rfl)) (by rfl)
set_option maxRecDepth 5000 in
theorem cw_689 : (.code ⟨"AlikeSteps$Alike", "parting", "(LAlikeSteps$Net;I)LAlikeSteps$Parting;"⟩ prog_3_method_3_code 3 (some (.object "AlikeSteps$Parting")) : Cond) ∈ pj_tb := pj_t3 (List.mem_of_getElem? (i := 129) (by rfl)) (by rfl)
set_option maxRecDepth 5000 in
theorem cw_690 : (.methodLink RX1 29 ⟨"AlikeSteps$Parting", "follow", "(LAlikeSteps$Net;LAlikeSteps$Steps;)V"⟩ : Cond) ∈ pj_tb := pj_t3 (List.mem_of_getElem? (i := 130) (by rfl)) (by rfl)
set_option maxRecDepth 5000 in
theorem cw_691 : (.instanceMethod ⟨"AlikeSteps$Parting", "follow", "(LAlikeSteps$Net;LAlikeSteps$Steps;)V"⟩ : Cond) ∈ pj_tb := pj_t3 (List.mem_of_getElem? (i := 131) (by rfl)) (by rfl)
set_option maxRecDepth 5000 in
theorem cw_692 : (.selects "AlikeSteps$Parting" ⟨"AlikeSteps$Parting", "follow", "(LAlikeSteps$Net;LAlikeSteps$Steps;)V"⟩ ⟨"AlikeSteps$Parting", "follow", "(LAlikeSteps$Net;LAlikeSteps$Steps;)V"⟩ : Cond) ∈ pj_tb := pj_t3 (List.mem_of_getElem? (i := 132) (by rfl)) (by rfl)
set_option maxRecDepth 5000 in
theorem cw_693 : (.code ⟨"AlikeSteps$Parting", "follow", "(LAlikeSteps$Net;LAlikeSteps$Steps;)V"⟩ prog_7_method_2_code 5 none : Cond) ∈ pj_tb := pj_t3 (List.mem_of_getElem? (i := 133) (by rfl)) (by rfl)
set_option maxRecDepth 5000 in
theorem cw_694 : (.methodLink RX5 35 ⟨"AlikeSteps$Net", "version", "()I"⟩ : Cond) ∈ pj_tb := pj_t3 (List.mem_of_getElem? (i := 134) (by rfl)) (by rfl)
set_option maxRecDepth 5000 in
theorem cw_695 : (.methodLink RX5 41 ⟨"AlikeSteps$Net", "states", "()I"⟩ : Cond) ∈ pj_tb := pj_t3 (List.mem_of_getElem? (i := 135) (by rfl)) (by rfl)
set_option maxRecDepth 5000 in
theorem cw_696 : (.methodLink RX5 43 ⟨"AlikeSteps$Net", "marked", "()I"⟩ : Cond) ∈ pj_tb := pj_t3 (List.mem_of_getElem? (i := 136) (by rfl)) (by rfl)
set_option maxRecDepth 5000 in
theorem cw_697 : (.instanceMethod ⟨"AlikeSteps$Net", "marked", "()I"⟩ : Cond) ∈ pj_tb := pj_t3 (List.mem_of_getElem? (i := 137) (by rfl)) (by rfl)
set_option maxRecDepth 5000 in
theorem cw_698 : (.selects "AlikeSteps$Net" ⟨"AlikeSteps$Net", "marked", "()I"⟩ ⟨"AlikeSteps$Net", "marked", "()I"⟩ : Cond) ∈ pj_tb := pj_t3 (List.mem_of_getElem? (i := 138) (by rfl)) (by rfl)
set_option maxRecDepth 5000 in
theorem cw_699 : (.code ⟨"AlikeSteps$Net", "marked", "()I"⟩ prog_6_method_10_code 3 (some .int) : Cond) ∈ pj_tb := pj_t3 (List.mem_of_getElem? (i := 139) (by rfl)) (by rfl)
set_option maxRecDepth 5000 in
theorem cw_700 : (.methodLink RX5 46 ⟨"AlikeSteps$Parting", "numberBlocks", "(I)I"⟩ : Cond) ∈ pj_tb := pj_t3 (List.mem_of_getElem? (i := 140) (by rfl)) (by rfl)
set_option maxRecDepth 5000 in
theorem cw_702 : (.instanceMethod ⟨"AlikeSteps$Parting", "numberBlocks", "(I)I"⟩ : Cond) ∈ pj_tb := pj_t3 (List.mem_of_getElem? (i := 142) (by rfl)) (by rfl)
set_option maxRecDepth 5000 in
theorem cw_703 : (.code ⟨"AlikeSteps$Parting", "numberBlocks", "(I)I"⟩ prog_7_method_15_code 6 (some .int) : Cond) ∈ pj_tb := pj_t3 (List.mem_of_getElem? (i := 143) (by rfl)) (by rfl)
set_option maxRecDepth 5000 in
theorem cw_704 : (.methodLink RX5 92 ⟨"AlikeSteps$Parting", "firstLike", "(II)I"⟩ : Cond) ∈ pj_tb := pj_t3 (List.mem_of_getElem? (i := 144) (by rfl)) (by rfl)
set_option maxRecDepth 5000 in
theorem cw_706 : (.instanceMethod ⟨"AlikeSteps$Parting", "firstLike", "(II)I"⟩ : Cond) ∈ pj_tb := pj_t3 (List.mem_of_getElem? (i := 146) (by rfl)) (by rfl)
set_option maxRecDepth 5000 in
theorem cw_707 : (.code ⟨"AlikeSteps$Parting", "firstLike", "(II)I"⟩ prog_7_method_16_code 5 (some .int) : Cond) ∈ pj_tb := pj_t3 (List.mem_of_getElem? (i := 147) (by rfl)) (by rfl)
set_option maxRecDepth 5000 in
theorem cw_708 : (.methodLink RX5 54 ⟨"AlikeSteps$Parting", "blockBehind", "(II)I"⟩ : Cond) ∈ pj_tb := pj_t3 (List.mem_of_getElem? (i := 148) (by rfl)) (by rfl)
set_option maxRecDepth 5000 in
theorem cw_709 : (.instanceMethod ⟨"AlikeSteps$Parting", "blockBehind", "(II)I"⟩ : Cond) ∈ pj_tb := pj_t3 (List.mem_of_getElem? (i := 149) (by rfl)) (by rfl)
set_option maxRecDepth 5000 in
theorem cw_710 : (.selects "AlikeSteps$Parting" ⟨"AlikeSteps$Parting", "blockBehind", "(II)I"⟩ ⟨"AlikeSteps$Parting", "blockBehind", "(II)I"⟩ : Cond) ∈ pj_tb := pj_t3 (List.mem_of_getElem? (i := 150) (by rfl)) (by rfl)
set_option maxRecDepth 5000 in
theorem cw_711 : (.code ⟨"AlikeSteps$Parting", "blockBehind", "(II)I"⟩ prog_7_method_5_code 3 (some .int) : Cond) ∈ pj_tb := pj_t3 (List.mem_of_getElem? (i := 151) (by rfl)) (by rfl)
set_option maxRecDepth 5000 in
theorem cw_712 : (.methodLink RX5 95 ⟨"java/lang/Math", "max", "(II)I"⟩ : Cond) ∈ pj_tb := pj_t3 (List.mem_of_getElem? (i := 152) (by rfl)) (by rfl)
set_option maxRecDepth 5000 in
theorem cw_713 : (.static ⟨"java/lang/Math", "max", "(II)I"⟩ : Cond) ∈ pj_tb := pj_t3 (List.mem_of_getElem? (i := 153) (by rfl)) (by rfl)
set_option maxRecDepth 5000 in
theorem cw_715 : (.methodLink RX5 50 ⟨"AlikeSteps$Parting", "partOn", "(LAlikeSteps$Steps;)V"⟩ : Cond) ∈ pj_tb := pj_t3 (List.mem_of_getElem? (i := 155) (by rfl)) (by rfl)
set_option maxRecDepth 5000 in
theorem cw_717 : (.instanceMethod ⟨"AlikeSteps$Parting", "partOn", "(LAlikeSteps$Steps;)V"⟩ : Cond) ∈ pj_tb := pj_t3 (List.mem_of_getElem? (i := 157) (by rfl)) (by rfl)
set_option maxRecDepth 5000 in
theorem cw_718 : (.code ⟨"AlikeSteps$Parting", "partOn", "(LAlikeSteps$Steps;)V"⟩ prog_7_method_12_code 4 none : Cond) ∈ pj_tb := pj_t3 (List.mem_of_getElem? (i := 158) (by rfl)) (by rfl)
set_option maxRecDepth 5000 in
theorem cw_719 : (.methodLink RX5 79 ⟨"AlikeSteps$Parting", "signsBy", "(LAlikeSteps$Steps;II)J"⟩ : Cond) ∈ pj_tb := pj_t3 (List.mem_of_getElem? (i := 159) (by rfl)) (by rfl)
set_option maxRecDepth 5000 in
theorem cw_721 : (.instanceMethod ⟨"AlikeSteps$Parting", "signsBy", "(LAlikeSteps$Steps;II)J"⟩ : Cond) ∈ pj_tb := pj_t3 (List.mem_of_getElem? (i := 161) (by rfl)) (by rfl)
set_option maxRecDepth 5000 in
theorem cw_722 : (.code ⟨"AlikeSteps$Parting", "signsBy", "(LAlikeSteps$Steps;II)J"⟩ prog_7_method_13_code 10 (some .long) : Cond) ∈ pj_tb := pj_t3 (List.mem_of_getElem? (i := 162) (by rfl)) (by rfl)
set_option maxRecDepth 5000 in
theorem cw_723 : (.methodLink RX5 59 ⟨"AlikeSteps$Parting", "statesOf", "(II)I"⟩ : Cond) ∈ pj_tb := pj_t3 (List.mem_of_getElem? (i := 163) (by rfl)) (by rfl)
set_option maxRecDepth 5000 in
theorem cw_725 : (.instanceMethod ⟨"AlikeSteps$Parting", "statesOf", "(II)I"⟩ : Cond) ∈ pj_tb := pj_t3 (List.mem_of_getElem? (i := 165) (by rfl)) (by rfl)
set_option maxRecDepth 5000 in
theorem cw_726 : (.code ⟨"AlikeSteps$Parting", "statesOf", "(II)I"⟩ prog_7_method_14_code 5 (some .int) : Cond) ∈ pj_tb := pj_t3 (List.mem_of_getElem? (i := 166) (by rfl)) (by rfl)
set_option maxRecDepth 5000 in
theorem cw_727 : (.methodLink RX5 83 ⟨"AlikeSteps$Steps", "silentlyWithin", "(II)I"⟩ : Cond) ∈ pj_tb := pj_t3 (List.mem_of_getElem? (i := 167) (by rfl)) (by rfl)
set_option maxRecDepth 5000 in
theorem cw_728 : (.methodLink RX5 62 ⟨"AlikeSteps$Steps", "goneFrom", "(II)I"⟩ : Cond) ∈ pj_tb := pj_t3 (List.mem_of_getElem? (i := 168) (by rfl)) (by rfl)
set_option maxRecDepth 5000 in
theorem cw_729 : (.methodLink RX5 86 ⟨"AlikeSteps$Steps", "moved", "(III)I"⟩ : Cond) ∈ pj_tb := pj_t3 (List.mem_of_getElem? (i := 169) (by rfl)) (by rfl)
set_option maxRecDepth 5000 in
theorem cw_730 : (.methodLink RX5 67 ⟨"AlikeSteps$Parting", "blocksOf", "(II)I"⟩ : Cond) ∈ pj_tb := pj_t3 (List.mem_of_getElem? (i := 170) (by rfl)) (by rfl)
set_option maxRecDepth 5000 in
theorem cw_731 : (.instanceMethod ⟨"AlikeSteps$Parting", "blocksOf", "(II)I"⟩ : Cond) ∈ pj_tb := pj_t3 (List.mem_of_getElem? (i := 171) (by rfl)) (by rfl)
set_option maxRecDepth 5000 in
theorem cw_732 : (.selects "AlikeSteps$Parting" ⟨"AlikeSteps$Parting", "blocksOf", "(II)I"⟩ ⟨"AlikeSteps$Parting", "blocksOf", "(II)I"⟩ : Cond) ∈ pj_tb := pj_t3 (List.mem_of_getElem? (i := 172) (by rfl)) (by rfl)
set_option maxRecDepth 5000 in
theorem cw_733 : (.code ⟨"AlikeSteps$Parting", "blocksOf", "(II)I"⟩ prog_7_method_9_code 5 (some .int) : Cond) ∈ pj_tb := pj_t3 (List.mem_of_getElem? (i := 173) (by rfl)) (by rfl)
set_option maxRecDepth 5000 in
theorem cw_734 : (.constantLong RX5 90 (-1) : Cond) ∈ pj_tb := pj_t3 (List.mem_of_getElem? (i := 174) (by rfl)) (by rfl)
set_option maxRecDepth 5000 in
theorem cw_735 : (.methodLink RX10 222 ⟨"AlikeSteps$Parting", "lastBlock", "(I)I"⟩ : Cond) ∈ pj_tb := pj_t3 (List.mem_of_getElem? (i := 175) (by rfl)) (by rfl)
set_option maxRecDepth 5000 in
theorem cw_736 : (.instanceMethod ⟨"AlikeSteps$Parting", "lastBlock", "(I)I"⟩ : Cond) ∈ pj_tb := pj_t3 (List.mem_of_getElem? (i := 176) (by rfl)) (by rfl)
set_option maxRecDepth 5000 in
theorem cw_737 : (.selects "AlikeSteps$Parting" ⟨"AlikeSteps$Parting", "lastBlock", "(I)I"⟩ ⟨"AlikeSteps$Parting", "lastBlock", "(I)I"⟩ : Cond) ∈ pj_tb := pj_t3 (List.mem_of_getElem? (i := 177) (by rfl)) (by rfl)
set_option maxRecDepth 5000 in
theorem cw_738 : (.code ⟨"AlikeSteps$Parting", "lastBlock", "(I)I"⟩ prog_7_method_6_code 2 (some .int) : Cond) ∈ pj_tb := pj_t3 (List.mem_of_getElem? (i := 178) (by rfl)) (by rfl)
set_option maxRecDepth 5000 in
theorem cw_740 : (.instanceMethod ⟨"AlikeSteps", "parts", "(II)I"⟩ : Cond) ∈ pj_tb := pj_t3 (List.mem_of_getElem? (i := 180) (by rfl)) (by rfl)
set_option maxRecDepth 5000 in
theorem cw_741 : (.selects "AlikeSteps" ⟨"AlikeSteps", "parts", "(II)I"⟩ ⟨"AlikeSteps", "parts", "(II)I"⟩ : Cond) ∈ pj_tb := pj_t3 (List.mem_of_getElem? (i := 181) (by rfl)) (by rfl)
set_option maxRecDepth 5000 in
theorem cw_742 : (.code ⟨"AlikeSteps", "parts", "(II)I"⟩ prog_1_method_17_code 4 (some .int) : Cond) ∈ pj_tb := pj_t3 (List.mem_of_getElem? (i := 182) (by rfl)) (by rfl)
set_option maxRecDepth 5000 in
theorem cw_743 : (.methodLink RX10 227 ⟨"AlikeSteps$Parting", "size", "()I"⟩ : Cond) ∈ pj_tb := pj_t3 (List.mem_of_getElem? (i := 183) (by rfl)) (by rfl)
set_option maxRecDepth 5000 in
theorem cw_744 : (.instanceMethod ⟨"AlikeSteps$Parting", "size", "()I"⟩ : Cond) ∈ pj_tb := pj_t3 (List.mem_of_getElem? (i := 184) (by rfl)) (by rfl)
set_option maxRecDepth 5000 in
theorem cw_745 : (.selects "AlikeSteps$Parting" ⟨"AlikeSteps$Parting", "size", "()I"⟩ ⟨"AlikeSteps$Parting", "size", "()I"⟩ : Cond) ∈ pj_tb := pj_t3 (List.mem_of_getElem? (i := 185) (by rfl)) (by rfl)
set_option maxRecDepth 5000 in
theorem cw_746 : (.code ⟨"AlikeSteps$Parting", "size", "()I"⟩ prog_7_method_3_code 1 (some .int) : Cond) ∈ pj_tb := pj_t3 (List.mem_of_getElem? (i := 186) (by rfl)) (by rfl)
set_option maxRecDepth 5000 in
theorem cw_747 : (.methodLink RX10 228 ⟨"AlikeSteps$Parting", "rounds", "()I"⟩ : Cond) ∈ pj_tb := pj_t3 (List.mem_of_getElem? (i := 187) (by rfl)) (by rfl)
set_option maxRecDepth 5000 in
theorem cw_748 : (.instanceMethod ⟨"AlikeSteps$Parting", "rounds", "()I"⟩ : Cond) ∈ pj_tb := pj_t3 (List.mem_of_getElem? (i := 188) (by rfl)) (by rfl)
set_option maxRecDepth 5000 in
theorem cw_749 : (.selects "AlikeSteps$Parting" ⟨"AlikeSteps$Parting", "rounds", "()I"⟩ ⟨"AlikeSteps$Parting", "rounds", "()I"⟩ : Cond) ∈ pj_tb := pj_t3 (List.mem_of_getElem? (i := 189) (by rfl)) (by rfl)
set_option maxRecDepth 5000 in
theorem cw_750 : (.code ⟨"AlikeSteps$Parting", "rounds", "()I"⟩ prog_7_method_4_code 1 (some .int) : Cond) ∈ pj_tb := pj_t3 (List.mem_of_getElem? (i := 190) (by rfl)) (by rfl)
set_option maxRecDepth 5000 in
theorem cw_752 : (.instanceMethod ⟨"AlikeSteps", "behind", "(III)I"⟩ : Cond) ∈ pj_tb := pj_t3 (List.mem_of_getElem? (i := 192) (by rfl)) (by rfl)
set_option maxRecDepth 5000 in
theorem cw_753 : (.selects "AlikeSteps" ⟨"AlikeSteps", "behind", "(III)I"⟩ ⟨"AlikeSteps", "behind", "(III)I"⟩ : Cond) ∈ pj_tb := pj_t3 (List.mem_of_getElem? (i := 193) (by rfl)) (by rfl)
set_option maxRecDepth 5000 in
theorem cw_754 : (.code ⟨"AlikeSteps", "behind", "(III)I"⟩ prog_1_method_18_code 5 (some .int) : Cond) ∈ pj_tb := pj_t3 (List.mem_of_getElem? (i := 194) (by rfl)) (by rfl)
set_option maxRecDepth 5000 in
theorem cw_755 : (.methodLink RX10 231 ⟨"java/lang/Math", "min", "(II)I"⟩ : Cond) ∈ pj_tb := pj_t3 (List.mem_of_getElem? (i := 195) (by rfl)) (by rfl)
set_option maxRecDepth 5000 in
theorem cw_756 : (.static ⟨"java/lang/Math", "min", "(II)I"⟩ : Cond) ∈ pj_tb := pj_t3 (List.mem_of_getElem? (i := 196) (by rfl)) (by rfl)
set_option maxRecDepth 5000 in
theorem cw_758 : (.methodLink RX10 236 ⟨"AlikeSteps$Parting", "blockBehind", "(II)I"⟩ : Cond) ∈ pj_tb := pj_t3 (List.mem_of_getElem? (i := 198) (by rfl)) (by rfl)
set_option maxRecDepth 5000 in
theorem cw_760 : (.instanceMethod ⟨"AlikeSteps", "signs", "(II)J"⟩ : Cond) ∈ pj_tb := pj_t3 (List.mem_of_getElem? (i := 200) (by rfl)) (by rfl)
set_option maxRecDepth 5000 in
theorem cw_761 : (.selects "AlikeSteps" ⟨"AlikeSteps", "signs", "(II)J"⟩ ⟨"AlikeSteps", "signs", "(II)J"⟩ : Cond) ∈ pj_tb := pj_t3 (List.mem_of_getElem? (i := 201) (by rfl)) (by rfl)
set_option maxRecDepth 5000 in
theorem cw_762 : (.code ⟨"AlikeSteps", "signs", "(II)J"⟩ prog_1_method_19_code 3 (some .long) : Cond) ∈ pj_tb := pj_t3 (List.mem_of_getElem? (i := 202) (by rfl)) (by rfl)
set_option maxRecDepth 5000 in
theorem cw_763 : (.constantLong RX10 239 (-1000001) : Cond) ∈ pj_tb := pj_t3 (List.mem_of_getElem? (i := 203) (by rfl)) (by rfl)
set_option maxRecDepth 5000 in
theorem cw_764 : (.methodLink RX10 241 ⟨"AlikeSteps$Parting", "lastSigns", "(I)J"⟩ : Cond) ∈ pj_tb := pj_t3 (List.mem_of_getElem? (i := 204) (by rfl)) (by rfl)
set_option maxRecDepth 5000 in
theorem cw_765 : (.instanceMethod ⟨"AlikeSteps$Parting", "lastSigns", "(I)J"⟩ : Cond) ∈ pj_tb := pj_t3 (List.mem_of_getElem? (i := 205) (by rfl)) (by rfl)
set_option maxRecDepth 5000 in
theorem cw_766 : (.selects "AlikeSteps$Parting" ⟨"AlikeSteps$Parting", "lastSigns", "(I)J"⟩ ⟨"AlikeSteps$Parting", "lastSigns", "(I)J"⟩ : Cond) ∈ pj_tb := pj_t3 (List.mem_of_getElem? (i := 206) (by rfl)) (by rfl)
set_option maxRecDepth 5000 in
theorem cw_767 : (.code ⟨"AlikeSteps$Parting", "lastSigns", "(I)J"⟩ prog_7_method_7_code 2 (some .long) : Cond) ∈ pj_tb := pj_t3 (List.mem_of_getElem? (i := 207) (by rfl)) (by rfl)
set_option maxRecDepth 5000 in
theorem cw_769 : (.instanceMethod ⟨"AlikeSteps", "parted", "(III)I"⟩ : Cond) ∈ pj_tb := pj_t3 (List.mem_of_getElem? (i := 209) (by rfl)) (by rfl)
set_option maxRecDepth 5000 in
theorem cw_770 : (.selects "AlikeSteps" ⟨"AlikeSteps", "parted", "(III)I"⟩ ⟨"AlikeSteps", "parted", "(III)I"⟩ : Cond) ∈ pj_tb := pj_t3 (List.mem_of_getElem? (i := 210) (by rfl)) (by rfl)
set_option maxRecDepth 5000 in
theorem cw_771 : (.code ⟨"AlikeSteps", "parted", "(III)I"⟩ prog_1_method_20_code 4 (some .int) : Cond) ∈ pj_tb := pj_t3 (List.mem_of_getElem? (i := 211) (by rfl)) (by rfl)
set_option maxRecDepth 5000 in
theorem cw_772 : (.methodLink RX10 245 ⟨"AlikeSteps$Parting", "roundOf", "(II)I"⟩ : Cond) ∈ pj_tb := pj_t3 (List.mem_of_getElem? (i := 212) (by rfl)) (by rfl)
set_option maxRecDepth 5000 in
theorem cw_773 : (.instanceMethod ⟨"AlikeSteps$Parting", "roundOf", "(II)I"⟩ : Cond) ∈ pj_tb := pj_t3 (List.mem_of_getElem? (i := 213) (by rfl)) (by rfl)
set_option maxRecDepth 5000 in
theorem cw_774 : (.selects "AlikeSteps$Parting" ⟨"AlikeSteps$Parting", "roundOf", "(II)I"⟩ ⟨"AlikeSteps$Parting", "roundOf", "(II)I"⟩ : Cond) ∈ pj_tb := pj_t3 (List.mem_of_getElem? (i := 214) (by rfl)) (by rfl)
set_option maxRecDepth 5000 in
theorem cw_775 : (.code ⟨"AlikeSteps$Parting", "roundOf", "(II)I"⟩ prog_7_method_8_code 4 (some .int) : Cond) ∈ pj_tb := pj_t3 (List.mem_of_getElem? (i := 215) (by rfl)) (by rfl)
set_option maxRecDepth 5000 in
theorem cw_776 : (.constant RX5 58 (-1000000) : Cond) ∈ pj_tb := pj_t3 (List.mem_of_getElem? (i := 216) (by rfl)) (by rfl)
set_option maxRecDepth 5000 in
theorem cw_778 : (.instanceMethod ⟨"AlikeSteps", "tells", "(IIII)I"⟩ : Cond) ∈ pj_tb := pj_t3 (List.mem_of_getElem? (i := 218) (by rfl)) (by rfl)
set_option maxRecDepth 5000 in
theorem cw_779 : (.selects "AlikeSteps" ⟨"AlikeSteps", "tells", "(IIII)I"⟩ ⟨"AlikeSteps", "tells", "(IIII)I"⟩ : Cond) ∈ pj_tb := pj_t3 (List.mem_of_getElem? (i := 219) (by rfl)) (by rfl)
set_option maxRecDepth 5000 in
theorem cw_780 : (.code ⟨"AlikeSteps", "tells", "(IIII)I"⟩ prog_1_method_21_code 8 (some .int) : Cond) ∈ pj_tb := pj_t3 (List.mem_of_getElem? (i := 220) (by rfl)) (by rfl)
set_option maxRecDepth 5000 in
theorem cw_781 : (.constant RX10 248 (-1000000) : Cond) ∈ pj_tb := pj_t3 (List.mem_of_getElem? (i := 221) (by rfl)) (by rfl)
set_option maxRecDepth 5000 in
theorem cw_782 : (.methodLink RX10 249 ⟨"AlikeSteps$Teller", "follow", "(LAlikeSteps$Net;LAlikeSteps$Steps;LAlikeSteps$Parting;)V"⟩ : Cond) ∈ pj_tb := pj_t3 (List.mem_of_getElem? (i := 222) (by rfl)) (by rfl)
set_option maxRecDepth 5000 in
theorem cw_783 : (.instanceMethod ⟨"AlikeSteps$Teller", "follow", "(LAlikeSteps$Net;LAlikeSteps$Steps;LAlikeSteps$Parting;)V"⟩ : Cond) ∈ pj_tb := pj_t3 (List.mem_of_getElem? (i := 223) (by rfl)) (by rfl)
set_option maxRecDepth 5000 in
theorem cw_784 : (.selects "AlikeSteps$Teller" ⟨"AlikeSteps$Teller", "follow", "(LAlikeSteps$Net;LAlikeSteps$Steps;LAlikeSteps$Parting;)V"⟩ ⟨"AlikeSteps$Teller", "follow", "(LAlikeSteps$Net;LAlikeSteps$Steps;LAlikeSteps$Parting;)V"⟩ : Cond) ∈ pj_tb := pj_t3 (List.mem_of_getElem? (i := 224) (by rfl)) (by rfl)
set_option maxRecDepth 5000 in
theorem cw_785 : (.code ⟨"AlikeSteps$Teller", "follow", "(LAlikeSteps$Net;LAlikeSteps$Steps;LAlikeSteps$Parting;)V"⟩ prog_11_method_2_code 8 none : Cond) ∈ pj_tb := pj_t3 (List.mem_of_getElem? (i := 225) (by rfl)) (by rfl)
set_option maxRecDepth 5000 in
theorem cw_786 : (.methodLink RX9 29 ⟨"AlikeSteps$Net", "version", "()I"⟩ : Cond) ∈ pj_tb := pj_t3 (List.mem_of_getElem? (i := 226) (by rfl)) (by rfl)
set_option maxRecDepth 5000 in
theorem cw_787 : (.methodLink RX9 35 ⟨"AlikeSteps$Net", "states", "()I"⟩ : Cond) ∈ pj_tb := pj_t3 (List.mem_of_getElem? (i := 227) (by rfl)) (by rfl)
set_option maxRecDepth 5000 in
theorem cw_788 : (.methodLink RX9 38 ⟨"AlikeSteps$Net", "marked", "()I"⟩ : Cond) ∈ pj_tb := pj_t3 (List.mem_of_getElem? (i := 228) (by rfl)) (by rfl)
set_option maxRecDepth 5000 in
theorem cw_789 : (.methodLink RX9 41 ⟨"AlikeSteps$Parting", "roundOf", "(II)I"⟩ : Cond) ∈ pj_tb := pj_t3 (List.mem_of_getElem? (i := 229) (by rfl)) (by rfl)
set_option maxRecDepth 5000 in
theorem cw_790 : (.methodLink RX9 47 ⟨"AlikeSteps$Teller", "findLead", "(LAlikeSteps$Steps;LAlikeSteps$Parting;II)I"⟩ : Cond) ∈ pj_tb := pj_t3 (List.mem_of_getElem? (i := 230) (by rfl)) (by rfl)
set_option maxRecDepth 5000 in
theorem cw_792 : (.instanceMethod ⟨"AlikeSteps$Teller", "findLead", "(LAlikeSteps$Steps;LAlikeSteps$Parting;II)I"⟩ : Cond) ∈ pj_tb := pj_t3 (List.mem_of_getElem? (i := 232) (by rfl)) (by rfl)
set_option maxRecDepth 5000 in
theorem cw_793 : (.code ⟨"AlikeSteps$Teller", "findLead", "(LAlikeSteps$Steps;LAlikeSteps$Parting;II)I"⟩ prog_11_method_5_code 10 (some .int) : Cond) ∈ pj_tb := pj_t3 (List.mem_of_getElem? (i := 233) (by rfl)) (by rfl)
set_option maxRecDepth 5000 in
theorem cw_794 : (.methodLink RX9 58 ⟨"AlikeSteps$Steps", "moved", "(III)I"⟩ : Cond) ∈ pj_tb := pj_t3 (List.mem_of_getElem? (i := 234) (by rfl)) (by rfl)
set_option maxRecDepth 5000 in
theorem cw_795 : (.methodLink RX9 81 ⟨"AlikeSteps$Parting", "blocksOf", "(II)I"⟩ : Cond) ∈ pj_tb := pj_t3 (List.mem_of_getElem? (i := 235) (by rfl)) (by rfl)
set_option maxRecDepth 5000 in
theorem cw_796 : (.methodLink RX9 84 ⟨"AlikeSteps$Parting", "blockBehind", "(II)I"⟩ : Cond) ∈ pj_tb := pj_t3 (List.mem_of_getElem? (i := 236) (by rfl)) (by rfl)
set_option maxRecDepth 5000 in
theorem cw_797 : (.methodLink RX9 51 ⟨"AlikeSteps$Parting", "rounds", "()I"⟩ : Cond) ∈ pj_tb := pj_t3 (List.mem_of_getElem? (i := 237) (by rfl)) (by rfl)
set_option maxRecDepth 5000 in
theorem cw_798 : (.methodLink RX9 54 ⟨"AlikeSteps$Teller", "weighAll", "(ILAlikeSteps$Steps;IZ)V"⟩ : Cond) ∈ pj_tb := pj_t3 (List.mem_of_getElem? (i := 238) (by rfl)) (by rfl)
set_option maxRecDepth 5000 in
theorem cw_800 : (.instanceMethod ⟨"AlikeSteps$Teller", "weighAll", "(ILAlikeSteps$Steps;IZ)V"⟩ : Cond) ∈ pj_tb := pj_t4 (List.mem_of_getElem? (i := 0) (by rfl)) (by rfl)
set_option maxRecDepth 5000 in
theorem cw_801 : (.code ⟨"AlikeSteps$Teller", "weighAll", "(ILAlikeSteps$Steps;IZ)V"⟩ prog_11_method_6_code 8 none : Cond) ∈ pj_tb := pj_t4 (List.mem_of_getElem? (i := 1) (by rfl)) (by rfl)
set_option maxRecDepth 5000 in
theorem cw_802 : (.methodLink RX9 87 ⟨"AlikeSteps$Teller", "weigh", "(LAlikeSteps$Steps;II)J"⟩ : Cond) ∈ pj_tb := pj_t4 (List.mem_of_getElem? (i := 2) (by rfl)) (by rfl)
set_option maxRecDepth 5000 in
theorem cw_804 : (.instanceMethod ⟨"AlikeSteps$Teller", "weigh", "(LAlikeSteps$Steps;II)J"⟩ : Cond) ∈ pj_tb := pj_t4 (List.mem_of_getElem? (i := 4) (by rfl)) (by rfl)
set_option maxRecDepth 5000 in
theorem cw_805 : (.code ⟨"AlikeSteps$Teller", "weigh", "(LAlikeSteps$Steps;II)J"⟩ prog_11_method_7_code 6 (some .long) : Cond) ∈ pj_tb := pj_t4 (List.mem_of_getElem? (i := 5) (by rfl)) (by rfl)
set_option maxRecDepth 5000 in
theorem cw_806 : (.constantLong RX9 64 (2) : Cond) ∈ pj_tb := pj_t4 (List.mem_of_getElem? (i := 6) (by rfl)) (by rfl)
set_option maxRecDepth 5000 in
theorem cw_807 : (.methodLink RX9 91 ⟨"AlikeSteps$Teller", "sizeOf", "(II)J"⟩ : Cond) ∈ pj_tb := pj_t4 (List.mem_of_getElem? (i := 7) (by rfl)) (by rfl)
set_option maxRecDepth 5000 in
theorem cw_808 : (.instanceMethod ⟨"AlikeSteps$Teller", "sizeOf", "(II)J"⟩ : Cond) ∈ pj_tb := pj_t4 (List.mem_of_getElem? (i := 8) (by rfl)) (by rfl)
set_option maxRecDepth 5000 in
theorem cw_809 : (.selects "AlikeSteps$Teller" ⟨"AlikeSteps$Teller", "sizeOf", "(II)J"⟩ ⟨"AlikeSteps$Teller", "sizeOf", "(II)J"⟩ : Cond) ∈ pj_tb := pj_t4 (List.mem_of_getElem? (i := 9) (by rfl)) (by rfl)
set_option maxRecDepth 5000 in
theorem cw_810 : (.code ⟨"AlikeSteps$Teller", "sizeOf", "(II)J"⟩ prog_11_method_3_code 3 (some .long) : Cond) ∈ pj_tb := pj_t4 (List.mem_of_getElem? (i := 10) (by rfl)) (by rfl)
set_option maxRecDepth 5000 in
theorem cw_811 : (.methodLink RX9 76 ⟨"AlikeSteps$Teller", "sizeUpTo", "(III)J"⟩ : Cond) ∈ pj_tb := pj_t4 (List.mem_of_getElem? (i := 11) (by rfl)) (by rfl)
set_option maxRecDepth 5000 in
theorem cw_813 : (.instanceMethod ⟨"AlikeSteps$Teller", "sizeUpTo", "(III)J"⟩ : Cond) ∈ pj_tb := pj_t4 (List.mem_of_getElem? (i := 13) (by rfl)) (by rfl)
set_option maxRecDepth 5000 in
theorem cw_814 : (.code ⟨"AlikeSteps$Teller", "sizeUpTo", "(III)J"⟩ prog_11_method_8_code 7 (some .long) : Cond) ∈ pj_tb := pj_t4 (List.mem_of_getElem? (i := 14) (by rfl)) (by rfl)
set_option maxRecDepth 5000 in
theorem cw_815 : (.methodLink RX10 253 ⟨"AlikeSteps$Teller", "sizeOf", "(II)J"⟩ : Cond) ∈ pj_tb := pj_t4 (List.mem_of_getElem? (i := 15) (by rfl)) (by rfl)
set_option maxRecDepth 5000 in
theorem cw_816 : (.constantLong RX10 257 (9999) : Cond) ∈ pj_tb := pj_t4 (List.mem_of_getElem? (i := 16) (by rfl)) (by rfl)
set_option maxRecDepth 5000 in
theorem cw_817 : (.methodLink RX10 259 ⟨"java/lang/Math", "min", "(JJ)J"⟩ : Cond) ∈ pj_tb := pj_t4 (List.mem_of_getElem? (i := 17) (by rfl)) (by rfl)
set_option maxRecDepth 5000 in
theorem cw_818 : (.static ⟨"java/lang/Math", "min", "(JJ)J"⟩ : Cond) ∈ pj_tb := pj_t4 (List.mem_of_getElem? (i := 18) (by rfl)) (by rfl)
set_option maxRecDepth 5000 in
theorem cw_820 : (.methodLink RX10 262 ⟨"AlikeSteps$Teller", "codeAt", "(LAlikeSteps$Steps;III)I"⟩ : Cond) ∈ pj_tb := pj_t4 (List.mem_of_getElem? (i := 20) (by rfl)) (by rfl)
set_option maxRecDepth 5000 in
theorem cw_821 : (.instanceMethod ⟨"AlikeSteps$Teller", "codeAt", "(LAlikeSteps$Steps;III)I"⟩ : Cond) ∈ pj_tb := pj_t4 (List.mem_of_getElem? (i := 21) (by rfl)) (by rfl)
set_option maxRecDepth 5000 in
theorem cw_822 : (.selects "AlikeSteps$Teller" ⟨"AlikeSteps$Teller", "codeAt", "(LAlikeSteps$Steps;III)I"⟩ ⟨"AlikeSteps$Teller", "codeAt", "(LAlikeSteps$Steps;III)I"⟩ : Cond) ∈ pj_tb := pj_t4 (List.mem_of_getElem? (i := 22) (by rfl)) (by rfl)
set_option maxRecDepth 5000 in
theorem cw_823 : (.code ⟨"AlikeSteps$Teller", "codeAt", "(LAlikeSteps$Steps;III)I"⟩ prog_11_method_4_code 13 (some .int) : Cond) ∈ pj_tb := pj_t4 (List.mem_of_getElem? (i := 23) (by rfl)) (by rfl)
set_option maxRecDepth 5000 in
theorem cw_824 : (.methodLink RX9 66 ⟨"java/lang/Integer", "bitCount", "(I)I"⟩ : Cond) ∈ pj_tb := pj_t4 (List.mem_of_getElem? (i := 24) (by rfl)) (by rfl)
set_option maxRecDepth 5000 in
theorem cw_825 : (.static ⟨"java/lang/Integer", "bitCount", "(I)I"⟩ : Cond) ∈ pj_tb := pj_t4 (List.mem_of_getElem? (i := 25) (by rfl)) (by rfl)
set_option maxRecDepth 5000 in
theorem cw_826 : (.code ⟨"java/lang/Integer", "bitCount", "(I)I"⟩ prog_14_method_49_code 1 (some .int) : Cond) ∈ pj_tb := pj_t4 (List.mem_of_getElem? (i := 26) (by rfl)) (by rfl)
set_option maxRecDepth 5000 in
theorem cw_827 : (.constant RJ6 265 (1431655765) : Cond) ∈ pj_tb := pj_t4 (List.mem_of_getElem? (i := 27) (by rfl)) (by rfl)
set_option maxRecDepth 5000 in
theorem cw_828 : (.constant RJ6 266 (858993459) : Cond) ∈ pj_tb := pj_t4 (List.mem_of_getElem? (i := 28) (by rfl)) (by rfl)
set_option maxRecDepth 5000 in
theorem cw_829 : (.constant RJ6 267 (252645135) : Cond) ∈ pj_tb := pj_t4 (List.mem_of_getElem? (i := 29) (by rfl)) (by rfl)
set_option maxRecDepth 5000 in
theorem cw_830 : (.methodLink RX9 72 ⟨"AlikeSteps$Teller", "memberAt", "(IIJ)I"⟩ : Cond) ∈ pj_tb := pj_t4 (List.mem_of_getElem? (i := 30) (by rfl)) (by rfl)
set_option maxRecDepth 5000 in
theorem cw_832 : (.instanceMethod ⟨"AlikeSteps$Teller", "memberAt", "(IIJ)I"⟩ : Cond) ∈ pj_tb := pj_t4 (List.mem_of_getElem? (i := 32) (by rfl)) (by rfl)
set_option maxRecDepth 5000 in
theorem cw_833 : (.code ⟨"AlikeSteps$Teller", "memberAt", "(IIJ)I"⟩ prog_11_method_9_code 7 (some .int) : Cond) ∈ pj_tb := pj_t4 (List.mem_of_getElem? (i := 33) (by rfl)) (by rfl)
set_option maxRecDepth 5000 in
theorem cw_834 : (.constant RX9 80 (-1000000) : Cond) ∈ pj_tb := pj_t4 (List.mem_of_getElem? (i := 34) (by rfl)) (by rfl)
set_option maxRecDepth 5000 in
theorem cw_836 : (.instanceMethod ⟨"AlikeSteps", "depth", "(III)I"⟩ : Cond) ∈ pj_tb := pj_t4 (List.mem_of_getElem? (i := 36) (by rfl)) (by rfl)
set_option maxRecDepth 5000 in
theorem cw_837 : (.selects "AlikeSteps" ⟨"AlikeSteps", "depth", "(III)I"⟩ ⟨"AlikeSteps", "depth", "(III)I"⟩ : Cond) ∈ pj_tb := pj_t4 (List.mem_of_getElem? (i := 37) (by rfl)) (by rfl)
set_option maxRecDepth 5000 in
theorem cw_838 : (.code ⟨"AlikeSteps", "depth", "(III)I"⟩ prog_1_method_22_code 4 (some .int) : Cond) ∈ pj_tb := pj_t4 (List.mem_of_getElem? (i := 38) (by rfl)) (by rfl)
set_option maxRecDepth 5000 in
theorem cw_840 : (.instanceMethod ⟨"AlikeSteps", "holds", "(IIII)I"⟩ : Cond) ∈ pj_tb := pj_t4 (List.mem_of_getElem? (i := 40) (by rfl)) (by rfl)
set_option maxRecDepth 5000 in
theorem cw_841 : (.selects "AlikeSteps" ⟨"AlikeSteps", "holds", "(IIII)I"⟩ ⟨"AlikeSteps", "holds", "(IIII)I"⟩ : Cond) ∈ pj_tb := pj_t4 (List.mem_of_getElem? (i := 41) (by rfl)) (by rfl)
set_option maxRecDepth 5000 in
theorem cw_842 : (.code ⟨"AlikeSteps", "holds", "(IIII)I"⟩ prog_1_method_23_code 7 (some .int) : Cond) ∈ pj_tb := pj_t4 (List.mem_of_getElem? (i := 42) (by rfl)) (by rfl)
set_option maxRecDepth 5000 in
theorem cw_843 : (.methodLink RX10 266 ⟨"AlikeSteps$Net", "all", "()I"⟩ : Cond) ∈ pj_tb := pj_t4 (List.mem_of_getElem? (i := 43) (by rfl)) (by rfl)
set_option maxRecDepth 5000 in
theorem cw_844 : (.instanceMethod ⟨"AlikeSteps$Net", "all", "()I"⟩ : Cond) ∈ pj_tb := pj_t4 (List.mem_of_getElem? (i := 44) (by rfl)) (by rfl)
set_option maxRecDepth 5000 in
theorem cw_845 : (.selects "AlikeSteps$Net" ⟨"AlikeSteps$Net", "all", "()I"⟩ ⟨"AlikeSteps$Net", "all", "()I"⟩ : Cond) ∈ pj_tb := pj_t4 (List.mem_of_getElem? (i := 45) (by rfl)) (by rfl)
set_option maxRecDepth 5000 in
theorem cw_846 : (.code ⟨"AlikeSteps$Net", "all", "()I"⟩ prog_6_method_9_code 1 (some .int) : Cond) ∈ pj_tb := pj_t4 (List.mem_of_getElem? (i := 46) (by rfl)) (by rfl)
set_option maxRecDepth 5000 in
theorem cw_847 : (.methodLink RX10 269 ⟨"AlikeSteps$Net", "marked", "()I"⟩ : Cond) ∈ pj_tb := pj_t4 (List.mem_of_getElem? (i := 47) (by rfl)) (by rfl)
set_option maxRecDepth 5000 in
theorem cw_848 : (.methodLink RX10 272 ⟨"AlikeSteps$Formula", "begin", "(III)V"⟩ : Cond) ∈ pj_tb := pj_t4 (List.mem_of_getElem? (i := 48) (by rfl)) (by rfl)
set_option maxRecDepth 5000 in
theorem cw_849 : (.instanceMethod ⟨"AlikeSteps$Formula", "begin", "(III)V"⟩ : Cond) ∈ pj_tb := pj_t4 (List.mem_of_getElem? (i := 49) (by rfl)) (by rfl)
set_option maxRecDepth 5000 in
theorem cw_850 : (.selects "AlikeSteps$Formula" ⟨"AlikeSteps$Formula", "begin", "(III)V"⟩ ⟨"AlikeSteps$Formula", "begin", "(III)V"⟩ : Cond) ∈ pj_tb := pj_t4 (List.mem_of_getElem? (i := 50) (by rfl)) (by rfl)
set_option maxRecDepth 5000 in
theorem cw_851 : (.code ⟨"AlikeSteps$Formula", "begin", "(III)V"⟩ prog_5_method_2_code 4 none : Cond) ∈ pj_tb := pj_t4 (List.mem_of_getElem? (i := 51) (by rfl)) (by rfl)
set_option maxRecDepth 5000 in
theorem cw_852 : (.methodLink RX10 275 ⟨"AlikeSteps$Rows", "item", "(II)I"⟩ : Cond) ∈ pj_tb := pj_t4 (List.mem_of_getElem? (i := 52) (by rfl)) (by rfl)
set_option maxRecDepth 5000 in
theorem cw_853 : (.instanceMethod ⟨"AlikeSteps$Rows", "item", "(II)I"⟩ : Cond) ∈ pj_tb := pj_t4 (List.mem_of_getElem? (i := 53) (by rfl)) (by rfl)
set_option maxRecDepth 5000 in
theorem cw_854 : (.selects "AlikeSteps$Rows" ⟨"AlikeSteps$Rows", "item", "(II)I"⟩ ⟨"AlikeSteps$Rows", "item", "(II)I"⟩ : Cond) ∈ pj_tb := pj_t4 (List.mem_of_getElem? (i := 54) (by rfl)) (by rfl)
set_option maxRecDepth 5000 in
theorem cw_855 : (.code ⟨"AlikeSteps$Rows", "item", "(II)I"⟩ prog_8_method_6_code 3 (some .int) : Cond) ∈ pj_tb := pj_t4 (List.mem_of_getElem? (i := 55) (by rfl)) (by rfl)
set_option maxRecDepth 5000 in
theorem cw_856 : (.methodLink RX10 278 ⟨"AlikeSteps$Formula", "takeBackwards", "(ILAlikeSteps$Steps;)V"⟩ : Cond) ∈ pj_tb := pj_t4 (List.mem_of_getElem? (i := 56) (by rfl)) (by rfl)
set_option maxRecDepth 5000 in
theorem cw_857 : (.instanceMethod ⟨"AlikeSteps$Formula", "takeBackwards", "(ILAlikeSteps$Steps;)V"⟩ : Cond) ∈ pj_tb := pj_t4 (List.mem_of_getElem? (i := 57) (by rfl)) (by rfl)
set_option maxRecDepth 5000 in
theorem cw_858 : (.selects "AlikeSteps$Formula" ⟨"AlikeSteps$Formula", "takeBackwards", "(ILAlikeSteps$Steps;)V"⟩ ⟨"AlikeSteps$Formula", "takeBackwards", "(ILAlikeSteps$Steps;)V"⟩ : Cond) ∈ pj_tb := pj_t4 (List.mem_of_getElem? (i := 58) (by rfl)) (by rfl)
set_option maxRecDepth 5000 in
theorem cw_859 : (.code ⟨"AlikeSteps$Formula", "takeBackwards", "(ILAlikeSteps$Steps;)V"⟩ prog_5_method_3_code 4 none : Cond) ∈ pj_tb := pj_t4 (List.mem_of_getElem? (i := 59) (by rfl)) (by rfl)
set_option maxRecDepth 5000 in
theorem cw_860 : (.methodLink RX3 38 ⟨"AlikeSteps$Steps", "movingTo", "(III)I"⟩ : Cond) ∈ pj_tb := pj_t4 (List.mem_of_getElem? (i := 60) (by rfl)) (by rfl)
set_option maxRecDepth 5000 in
theorem cw_861 : (.instanceMethod ⟨"AlikeSteps$Steps", "movingTo", "(III)I"⟩ : Cond) ∈ pj_tb := pj_t4 (List.mem_of_getElem? (i := 61) (by rfl)) (by rfl)
set_option maxRecDepth 5000 in
theorem cw_862 : (.selects "AlikeSteps$Steps" ⟨"AlikeSteps$Steps", "movingTo", "(III)I"⟩ ⟨"AlikeSteps$Steps", "movingTo", "(III)I"⟩ : Cond) ∈ pj_tb := pj_t4 (List.mem_of_getElem? (i := 62) (by rfl)) (by rfl)
set_option maxRecDepth 5000 in
theorem cw_863 : (.code ⟨"AlikeSteps$Steps", "movingTo", "(III)I"⟩ prog_9_method_7_code 6 (some .int) : Cond) ∈ pj_tb := pj_t4 (List.mem_of_getElem? (i := 63) (by rfl)) (by rfl)
set_option maxRecDepth 5000 in
theorem cw_864 : (.methodLink RX7 52 ⟨"AlikeSteps$Steps", "moved", "(III)I"⟩ : Cond) ∈ pj_tb := pj_t4 (List.mem_of_getElem? (i := 64) (by rfl)) (by rfl)
set_option maxRecDepth 5000 in
theorem cw_865 : (.methodLink RX3 44 ⟨"AlikeSteps$Formula", "push", "(I)V"⟩ : Cond) ∈ pj_tb := pj_t4 (List.mem_of_getElem? (i := 65) (by rfl)) (by rfl)
set_option maxRecDepth 5000 in
theorem cw_867 : (.instanceMethod ⟨"AlikeSteps$Formula", "push", "(I)V"⟩ : Cond) ∈ pj_tb := pj_t4 (List.mem_of_getElem? (i := 67) (by rfl)) (by rfl)
set_option maxRecDepth 5000 in
theorem cw_868 : (.code ⟨"AlikeSteps$Formula", "push", "(I)V"⟩ prog_5_method_6_code 2 none : Cond) ∈ pj_tb := pj_t4 (List.mem_of_getElem? (i := 68) (by rfl)) (by rfl)
set_option maxRecDepth 5000 in
theorem cw_869 : (.methodLink RX3 48 ⟨"AlikeSteps$Formula", "takeList", "(I)V"⟩ : Cond) ∈ pj_tb := pj_t4 (List.mem_of_getElem? (i := 69) (by rfl)) (by rfl)
set_option maxRecDepth 5000 in
theorem cw_871 : (.instanceMethod ⟨"AlikeSteps$Formula", "takeList", "(I)V"⟩ : Cond) ∈ pj_tb := pj_t4 (List.mem_of_getElem? (i := 71) (by rfl)) (by rfl)
set_option maxRecDepth 5000 in
theorem cw_872 : (.code ⟨"AlikeSteps$Formula", "takeList", "(I)V"⟩ prog_5_method_7_code 3 none : Cond) ∈ pj_tb := pj_t4 (List.mem_of_getElem? (i := 72) (by rfl)) (by rfl)
set_option maxRecDepth 5000 in
theorem cw_873 : (.methodLink RX10 282 ⟨"AlikeSteps$Formula", "isOne", "()Z"⟩ : Cond) ∈ pj_tb := pj_t4 (List.mem_of_getElem? (i := 73) (by rfl)) (by rfl)
set_option maxRecDepth 5000 in
theorem cw_874 : (.instanceMethod ⟨"AlikeSteps$Formula", "isOne", "()Z"⟩ : Cond) ∈ pj_tb := pj_t4 (List.mem_of_getElem? (i := 74) (by rfl)) (by rfl)
set_option maxRecDepth 5000 in
theorem cw_875 : (.selects "AlikeSteps$Formula" ⟨"AlikeSteps$Formula", "isOne", "()Z"⟩ ⟨"AlikeSteps$Formula", "isOne", "()Z"⟩ : Cond) ∈ pj_tb := pj_t4 (List.mem_of_getElem? (i := 75) (by rfl)) (by rfl)
set_option maxRecDepth 5000 in
theorem cw_876 : (.code ⟨"AlikeSteps$Formula", "isOne", "()Z"⟩ prog_5_method_4_code 1 (some .boolean) : Cond) ∈ pj_tb := pj_t4 (List.mem_of_getElem? (i := 76) (by rfl)) (by rfl)
set_option maxRecDepth 5000 in
theorem cw_877 : (.methodLink RX10 285 ⟨"AlikeSteps$Formula", "answer", "()I"⟩ : Cond) ∈ pj_tb := pj_t4 (List.mem_of_getElem? (i := 77) (by rfl)) (by rfl)
set_option maxRecDepth 5000 in
theorem cw_878 : (.instanceMethod ⟨"AlikeSteps$Formula", "answer", "()I"⟩ : Cond) ∈ pj_tb := pj_t4 (List.mem_of_getElem? (i := 78) (by rfl)) (by rfl)
set_option maxRecDepth 5000 in
theorem cw_879 : (.selects "AlikeSteps$Formula" ⟨"AlikeSteps$Formula", "answer", "()I"⟩ ⟨"AlikeSteps$Formula", "answer", "()I"⟩ : Cond) ∈ pj_tb := pj_t4 (List.mem_of_getElem? (i := 79) (by rfl)) (by rfl)
set_option maxRecDepth 5000 in
theorem cw_880 : (.code ⟨"AlikeSteps$Formula", "answer", "()I"⟩ prog_5_method_5_code 1 (some .int) : Cond) ∈ pj_tb := pj_t4 (List.mem_of_getElem? (i := 80) (by rfl)) (by rfl)
set_option maxRecDepth 5000 in
theorem cw_882 : (.instanceMethod ⟨"AlikeSteps", "small", "(III)I"⟩ : Cond) ∈ pj_tb := pj_t4 (List.mem_of_getElem? (i := 82) (by rfl)) (by rfl)
set_option maxRecDepth 5000 in
theorem cw_883 : (.selects "AlikeSteps" ⟨"AlikeSteps", "small", "(III)I"⟩ ⟨"AlikeSteps", "small", "(III)I"⟩ : Cond) ∈ pj_tb := pj_t4 (List.mem_of_getElem? (i := 83) (by rfl)) (by rfl)
set_option maxRecDepth 5000 in
theorem cw_884 : (.code ⟨"AlikeSteps", "small", "(III)I"⟩ prog_1_method_24_code 4 (some .int) : Cond) ∈ pj_tb := pj_t4 (List.mem_of_getElem? (i := 84) (by rfl)) (by rfl)
set_option maxRecDepth 5000 in
theorem cw_885 : (.methodLink RX10 288 ⟨"AlikeSteps$Parting", "smallOf", "(LAlikeSteps$Steps;II)I"⟩ : Cond) ∈ pj_tb := pj_t4 (List.mem_of_getElem? (i := 85) (by rfl)) (by rfl)
set_option maxRecDepth 5000 in
theorem cw_886 : (.instanceMethod ⟨"AlikeSteps$Parting", "smallOf", "(LAlikeSteps$Steps;II)I"⟩ : Cond) ∈ pj_tb := pj_t4 (List.mem_of_getElem? (i := 86) (by rfl)) (by rfl)
set_option maxRecDepth 5000 in
theorem cw_887 : (.selects "AlikeSteps$Parting" ⟨"AlikeSteps$Parting", "smallOf", "(LAlikeSteps$Steps;II)I"⟩ ⟨"AlikeSteps$Parting", "smallOf", "(LAlikeSteps$Steps;II)I"⟩ : Cond) ∈ pj_tb := pj_t4 (List.mem_of_getElem? (i := 87) (by rfl)) (by rfl)
set_option maxRecDepth 5000 in
theorem cw_888 : (.code ⟨"AlikeSteps$Parting", "smallOf", "(LAlikeSteps$Steps;II)I"⟩ prog_7_method_10_code 6 (some .int) : Cond) ∈ pj_tb := pj_t4 (List.mem_of_getElem? (i := 88) (by rfl)) (by rfl)
set_option maxRecDepth 5000 in
theorem cw_890 : (.instanceMethod ⟨"AlikeSteps", "arcs", "(I)I"⟩ : Cond) ∈ pj_tb := pj_t4 (List.mem_of_getElem? (i := 90) (by rfl)) (by rfl)
set_option maxRecDepth 5000 in
theorem cw_891 : (.selects "AlikeSteps" ⟨"AlikeSteps", "arcs", "(I)I"⟩ ⟨"AlikeSteps", "arcs", "(I)I"⟩ : Cond) ∈ pj_tb := pj_t4 (List.mem_of_getElem? (i := 91) (by rfl)) (by rfl)
set_option maxRecDepth 5000 in
theorem cw_892 : (.code ⟨"AlikeSteps", "arcs", "(I)I"⟩ prog_1_method_25_code 2 (some .int) : Cond) ∈ pj_tb := pj_t4 (List.mem_of_getElem? (i := 92) (by rfl)) (by rfl)
set_option maxRecDepth 5000 in
theorem cw_893 : (.methodLink RX10 292 ⟨"AlikeSteps$Parting", "smallArcs", "(LAlikeSteps$Steps;)I"⟩ : Cond) ∈ pj_tb := pj_t4 (List.mem_of_getElem? (i := 93) (by rfl)) (by rfl)
set_option maxRecDepth 5000 in
theorem cw_894 : (.instanceMethod ⟨"AlikeSteps$Parting", "smallArcs", "(LAlikeSteps$Steps;)I"⟩ : Cond) ∈ pj_tb := pj_t4 (List.mem_of_getElem? (i := 94) (by rfl)) (by rfl)
set_option maxRecDepth 5000 in
theorem cw_895 : (.selects "AlikeSteps$Parting" ⟨"AlikeSteps$Parting", "smallArcs", "(LAlikeSteps$Steps;)I"⟩ ⟨"AlikeSteps$Parting", "smallArcs", "(LAlikeSteps$Steps;)I"⟩ : Cond) ∈ pj_tb := pj_t4 (List.mem_of_getElem? (i := 95) (by rfl)) (by rfl)
set_option maxRecDepth 5000 in
theorem cw_896 : (.code ⟨"AlikeSteps$Parting", "smallArcs", "(LAlikeSteps$Steps;)I"⟩ prog_7_method_11_code 5 (some .int) : Cond) ∈ pj_tb := pj_t4 (List.mem_of_getElem? (i := 96) (by rfl)) (by rfl)
set_option maxRecDepth 5000 in
theorem cw_897 : (.methodLink RX5 70 ⟨"AlikeSteps$Parting", "smallOf", "(LAlikeSteps$Steps;II)I"⟩ : Cond) ∈ pj_tb := pj_t4 (List.mem_of_getElem? (i := 97) (by rfl)) (by rfl)
set_option maxRecDepth 5000 in
theorem cw_898 : (.methodLink RX5 74 ⟨"java/lang/Integer", "bitCount", "(I)I"⟩ : Cond) ∈ pj_tb := pj_t4 (List.mem_of_getElem? (i := 98) (by rfl)) (by rfl)
set_option maxRecDepth 5000 in
theorem cw_900 : (.instanceMethod ⟨"AlikeSteps", "words", "(II)I"⟩ : Cond) ∈ pj_tb := pj_t4 (List.mem_of_getElem? (i := 100) (by rfl)) (by rfl)
set_option maxRecDepth 5000 in
theorem cw_901 : (.selects "AlikeSteps" ⟨"AlikeSteps", "words", "(II)I"⟩ ⟨"AlikeSteps", "words", "(II)I"⟩ : Cond) ∈ pj_tb := pj_t4 (List.mem_of_getElem? (i := 101) (by rfl)) (by rfl)
set_option maxRecDepth 5000 in
theorem cw_902 : (.code ⟨"AlikeSteps", "words", "(II)I"⟩ prog_1_method_26_code 3 (some .int) : Cond) ∈ pj_tb := pj_t4 (List.mem_of_getElem? (i := 102) (by rfl)) (by rfl)
set_option maxRecDepth 5000 in
theorem cw_903 : (.methodLink RX10 296 ⟨"AlikeSteps$Steps", "wordsFrom", "(II)I"⟩ : Cond) ∈ pj_tb := pj_t4 (List.mem_of_getElem? (i := 103) (by rfl)) (by rfl)
set_option maxRecDepth 5000 in
theorem cw_904 : (.instanceMethod ⟨"AlikeSteps$Steps", "wordsFrom", "(II)I"⟩ : Cond) ∈ pj_tb := pj_t4 (List.mem_of_getElem? (i := 104) (by rfl)) (by rfl)
set_option maxRecDepth 5000 in
theorem cw_905 : (.selects "AlikeSteps$Steps" ⟨"AlikeSteps$Steps", "wordsFrom", "(II)I"⟩ ⟨"AlikeSteps$Steps", "wordsFrom", "(II)I"⟩ : Cond) ∈ pj_tb := pj_t4 (List.mem_of_getElem? (i := 105) (by rfl)) (by rfl)
set_option maxRecDepth 5000 in
theorem cw_906 : (.code ⟨"AlikeSteps$Steps", "wordsFrom", "(II)I"⟩ prog_9_method_8_code 3 (some .int) : Cond) ∈ pj_tb := pj_t4 (List.mem_of_getElem? (i := 106) (by rfl)) (by rfl)
set_option maxRecDepth 5000 in
theorem cw_907 : (.methodLink RX7 56 ⟨"AlikeSteps$Steps", "spelt", "([III)I"⟩ : Cond) ∈ pj_tb := pj_t4 (List.mem_of_getElem? (i := 107) (by rfl)) (by rfl)
set_option maxRecDepth 5000 in
theorem cw_908 : (.static ⟨"AlikeSteps$Steps", "spelt", "([III)I"⟩ : Cond) ∈ pj_tb := pj_t4 (List.mem_of_getElem? (i := 108) (by rfl)) (by rfl)
set_option maxRecDepth 5000 in
theorem cw_909 : (.code ⟨"AlikeSteps$Steps", "spelt", "([III)I"⟩ prog_9_method_15_code 5 (some .int) : Cond) ∈ pj_tb := pj_t4 (List.mem_of_getElem? (i := 109) (by rfl)) (by rfl)
set_option maxRecDepth 5000 in
theorem cw_911 : (.instanceMethod ⟨"AlikeSteps", "walk", "(III)I"⟩ : Cond) ∈ pj_tb := pj_t4 (List.mem_of_getElem? (i := 111) (by rfl)) (by rfl)
set_option maxRecDepth 5000 in
theorem cw_912 : (.selects "AlikeSteps" ⟨"AlikeSteps", "walk", "(III)I"⟩ ⟨"AlikeSteps", "walk", "(III)I"⟩ : Cond) ∈ pj_tb := pj_t4 (List.mem_of_getElem? (i := 112) (by rfl)) (by rfl)
set_option maxRecDepth 5000 in
theorem cw_913 : (.code ⟨"AlikeSteps", "walk", "(III)I"⟩ prog_1_method_27_code 4 (some .int) : Cond) ∈ pj_tb := pj_t4 (List.mem_of_getElem? (i := 113) (by rfl)) (by rfl)
set_option maxRecDepth 5000 in
theorem cw_914 : (.constant RX10 299 (999999) : Cond) ∈ pj_tb := pj_t4 (List.mem_of_getElem? (i := 114) (by rfl)) (by rfl)
set_option maxRecDepth 5000 in
theorem cw_915 : (.methodLink RX10 300 ⟨"AlikeSteps$Steps", "endOfWalk", "(III)I"⟩ : Cond) ∈ pj_tb := pj_t4 (List.mem_of_getElem? (i := 115) (by rfl)) (by rfl)
set_option maxRecDepth 5000 in
theorem cw_916 : (.instanceMethod ⟨"AlikeSteps$Steps", "endOfWalk", "(III)I"⟩ : Cond) ∈ pj_tb := pj_t4 (List.mem_of_getElem? (i := 116) (by rfl)) (by rfl)
set_option maxRecDepth 5000 in
theorem cw_917 : (.selects "AlikeSteps$Steps" ⟨"AlikeSteps$Steps", "endOfWalk", "(III)I"⟩ ⟨"AlikeSteps$Steps", "endOfWalk", "(III)I"⟩ : Cond) ∈ pj_tb := pj_t4 (List.mem_of_getElem? (i := 117) (by rfl)) (by rfl)
set_option maxRecDepth 5000 in
theorem cw_918 : (.code ⟨"AlikeSteps$Steps", "endOfWalk", "(III)I"⟩ prog_9_method_9_code 9 (some .int) : Cond) ∈ pj_tb := pj_t4 (List.mem_of_getElem? (i := 118) (by rfl)) (by rfl)
set_option maxRecDepth 5000 in
theorem cw_919 : (.constantLong RX7 59 (16807) : Cond) ∈ pj_tb := pj_t4 (List.mem_of_getElem? (i := 119) (by rfl)) (by rfl)
set_option maxRecDepth 5000 in
theorem cw_920 : (.constantLong RX7 61 (2147483647) : Cond) ∈ pj_tb := pj_t4 (List.mem_of_getElem? (i := 120) (by rfl)) (by rfl)
set_option maxRecDepth 5000 in
theorem cw_921 : (.methodLink RX7 63 ⟨"AlikeSteps$Steps", "ways", "(I)I"⟩ : Cond) ∈ pj_tb := pj_t4 (List.mem_of_getElem? (i := 121) (by rfl)) (by rfl)
set_option maxRecDepth 5000 in
theorem cw_922 : (.instanceMethod ⟨"AlikeSteps$Steps", "ways", "(I)I"⟩ : Cond) ∈ pj_tb := pj_t4 (List.mem_of_getElem? (i := 122) (by rfl)) (by rfl)
set_option maxRecDepth 5000 in
theorem cw_923 : (.selects "AlikeSteps$Steps" ⟨"AlikeSteps$Steps", "ways", "(I)I"⟩ ⟨"AlikeSteps$Steps", "ways", "(I)I"⟩ : Cond) ∈ pj_tb := pj_t4 (List.mem_of_getElem? (i := 123) (by rfl)) (by rfl)
set_option maxRecDepth 5000 in
theorem cw_924 : (.code ⟨"AlikeSteps$Steps", "ways", "(I)I"⟩ prog_9_method_10_code 4 (some .int) : Cond) ∈ pj_tb := pj_t4 (List.mem_of_getElem? (i := 124) (by rfl)) (by rfl)
set_option maxRecDepth 5000 in
theorem cw_925 : (.methodLink RX7 70 ⟨"java/lang/Integer", "bitCount", "(I)I"⟩ : Cond) ∈ pj_tb := pj_t4 (List.mem_of_getElem? (i := 125) (by rfl)) (by rfl)
set_option maxRecDepth 5000 in
theorem cw_926 : (.methodLink RX7 67 ⟨"AlikeSteps$Steps", "way", "(II)I"⟩ : Cond) ∈ pj_tb := pj_t4 (List.mem_of_getElem? (i := 126) (by rfl)) (by rfl)
set_option maxRecDepth 5000 in
theorem cw_928 : (.instanceMethod ⟨"AlikeSteps$Steps", "way", "(II)I"⟩ : Cond) ∈ pj_tb := pj_t4 (List.mem_of_getElem? (i := 128) (by rfl)) (by rfl)
set_option maxRecDepth 5000 in
theorem cw_929 : (.code ⟨"AlikeSteps$Steps", "way", "(II)I"⟩ prog_9_method_11_code 6 (some .int) : Cond) ∈ pj_tb := pj_t4 (List.mem_of_getElem? (i := 129) (by rfl)) (by rfl)
set_option maxRecDepth 5000 in
theorem cw_931 : (.instanceMethod ⟨"AlikeSteps", "fits", "(IIII)I"⟩ : Cond) ∈ pj_tb := pj_t4 (List.mem_of_getElem? (i := 131) (by rfl)) (by rfl)
set_option maxRecDepth 5000 in
theorem cw_932 : (.selects "AlikeSteps" ⟨"AlikeSteps", "fits", "(IIII)I"⟩ ⟨"AlikeSteps", "fits", "(IIII)I"⟩ : Cond) ∈ pj_tb := pj_t4 (List.mem_of_getElem? (i := 132) (by rfl)) (by rfl)
set_option maxRecDepth 5000 in
theorem cw_933 : (.code ⟨"AlikeSteps", "fits", "(IIII)I"⟩ prog_1_method_28_code 8 (some .int) : Cond) ∈ pj_tb := pj_t4 (List.mem_of_getElem? (i := 133) (by rfl)) (by rfl)
set_option maxRecDepth 5000 in
theorem cw_934 : (.methodLink RX10 303 ⟨"AlikeSteps$Net", "setArcPart", "(III)V"⟩ : Cond) ∈ pj_tb := pj_t4 (List.mem_of_getElem? (i := 134) (by rfl)) (by rfl)
set_option maxRecDepth 5000 in
theorem cw_935 : (.methodLink RX10 306 ⟨"AlikeSteps", "tellsBlocks", "(ILAlikeSteps$Parting;)Z"⟩ : Cond) ∈ pj_tb := pj_t4 (List.mem_of_getElem? (i := 135) (by rfl)) (by rfl)
set_option maxRecDepth 5000 in
theorem cw_937 : (.instanceMethod ⟨"AlikeSteps", "tellsBlocks", "(ILAlikeSteps$Parting;)Z"⟩ : Cond) ∈ pj_tb := pj_t4 (List.mem_of_getElem? (i := 137) (by rfl)) (by rfl)
set_option maxRecDepth 5000 in
theorem cw_938 : (.code ⟨"AlikeSteps", "tellsBlocks", "(ILAlikeSteps$Parting;)Z"⟩ prog_1_method_39_code 4 (some .boolean) : Cond) ∈ pj_tb := pj_t4 (List.mem_of_getElem? (i := 138) (by rfl)) (by rfl)
set_option maxRecDepth 5000 in
theorem cw_940 : (.instanceMethod ⟨"AlikeSteps", "image", "(I)I"⟩ : Cond) ∈ pj_tb := pj_t4 (List.mem_of_getElem? (i := 140) (by rfl)) (by rfl)
set_option maxRecDepth 5000 in
theorem cw_941 : (.selects "AlikeSteps" ⟨"AlikeSteps", "image", "(I)I"⟩ ⟨"AlikeSteps", "image", "(I)I"⟩ : Cond) ∈ pj_tb := pj_t4 (List.mem_of_getElem? (i := 141) (by rfl)) (by rfl)
set_option maxRecDepth 5000 in
theorem cw_942 : (.code ⟨"AlikeSteps", "image", "(I)I"⟩ prog_1_method_29_code 2 (some .int) : Cond) ∈ pj_tb := pj_t4 (List.mem_of_getElem? (i := 142) (by rfl)) (by rfl)
set_option maxRecDepth 5000 in
theorem cw_944 : (.instanceMethod ⟨"AlikeSteps", "restore", "(I)I"⟩ : Cond) ∈ pj_tb := pj_t4 (List.mem_of_getElem? (i := 144) (by rfl)) (by rfl)
set_option maxRecDepth 5000 in
theorem cw_945 : (.selects "AlikeSteps" ⟨"AlikeSteps", "restore", "(I)I"⟩ ⟨"AlikeSteps", "restore", "(I)I"⟩ : Cond) ∈ pj_tb := pj_t4 (List.mem_of_getElem? (i := 145) (by rfl)) (by rfl)
set_option maxRecDepth 5000 in
theorem cw_946 : (.code ⟨"AlikeSteps", "restore", "(I)I"⟩ prog_1_method_30_code 2 (some .int) : Cond) ∈ pj_tb := pj_t4 (List.mem_of_getElem? (i := 146) (by rfl)) (by rfl)
set_option maxRecDepth 5000 in
theorem cw_948 : (.instanceMethod ⟨"AlikeSteps", "kind", "(I)I"⟩ : Cond) ∈ pj_tb := pj_t4 (List.mem_of_getElem? (i := 148) (by rfl)) (by rfl)
set_option maxRecDepth 5000 in
theorem cw_949 : (.selects "AlikeSteps" ⟨"AlikeSteps", "kind", "(I)I"⟩ ⟨"AlikeSteps", "kind", "(I)I"⟩ : Cond) ∈ pj_tb := pj_t4 (List.mem_of_getElem? (i := 149) (by rfl)) (by rfl)
set_option maxRecDepth 5000 in
theorem cw_950 : (.code ⟨"AlikeSteps", "kind", "(I)I"⟩ prog_1_method_31_code 2 (some .int) : Cond) ∈ pj_tb := pj_t4 (List.mem_of_getElem? (i := 150) (by rfl)) (by rfl)
set_option maxRecDepth 5000 in
theorem cw_952 : (.instanceMethod ⟨"AlikeSteps", "as", "(II)I"⟩ : Cond) ∈ pj_tb := pj_t4 (List.mem_of_getElem? (i := 152) (by rfl)) (by rfl)
set_option maxRecDepth 5000 in
theorem cw_953 : (.selects "AlikeSteps" ⟨"AlikeSteps", "as", "(II)I"⟩ ⟨"AlikeSteps", "as", "(II)I"⟩ : Cond) ∈ pj_tb := pj_t4 (List.mem_of_getElem? (i := 153) (by rfl)) (by rfl)
set_option maxRecDepth 5000 in
theorem cw_954 : (.code ⟨"AlikeSteps", "as", "(II)I"⟩ prog_1_method_32_code 3 (some .int) : Cond) ∈ pj_tb := pj_t4 (List.mem_of_getElem? (i := 154) (by rfl)) (by rfl)
set_option maxRecDepth 5000 in
theorem cw_955 : (.methodLink RX10 310 ⟨"AlikeSteps", "isA", "(II)Z"⟩ : Cond) ∈ pj_tb := pj_t4 (List.mem_of_getElem? (i := 155) (by rfl)) (by rfl)
set_option maxRecDepth 5000 in
theorem cw_957 : (.instanceMethod ⟨"AlikeSteps", "ask", "(II)I"⟩ : Cond) ∈ pj_tb := pj_t4 (List.mem_of_getElem? (i := 157) (by rfl)) (by rfl)
set_option maxRecDepth 5000 in
theorem cw_958 : (.selects "AlikeSteps" ⟨"AlikeSteps", "ask", "(II)I"⟩ ⟨"AlikeSteps", "ask", "(II)I"⟩ : Cond) ∈ pj_tb := pj_t4 (List.mem_of_getElem? (i := 158) (by rfl)) (by rfl)
set_option maxRecDepth 5000 in
theorem cw_959 : (.code ⟨"AlikeSteps", "ask", "(II)I"⟩ prog_1_method_33_code 3 (some .int) : Cond) ∈ pj_tb := pj_t4 (List.mem_of_getElem? (i := 159) (by rfl)) (by rfl)
set_option maxRecDepth 5000 in
theorem cw_960 : (.methodLink RX10 314 ⟨"AlikeSteps$Steps", "ways", "(I)I"⟩ : Cond) ∈ pj_tb := pj_t4 (List.mem_of_getElem? (i := 160) (by rfl)) (by rfl)
set_option maxRecDepth 5000 in
theorem cw_961 : (.methodLink RX10 317 ⟨"AlikeSteps$Asker", "begin", "(IIII)V"⟩ : Cond) ∈ pj_tb := pj_t4 (List.mem_of_getElem? (i := 161) (by rfl)) (by rfl)
set_option maxRecDepth 5000 in
theorem cw_962 : (.instanceMethod ⟨"AlikeSteps$Asker", "begin", "(IIII)V"⟩ : Cond) ∈ pj_tb := pj_t4 (List.mem_of_getElem? (i := 162) (by rfl)) (by rfl)
set_option maxRecDepth 5000 in
theorem cw_963 : (.selects "AlikeSteps$Asker" ⟨"AlikeSteps$Asker", "begin", "(IIII)V"⟩ ⟨"AlikeSteps$Asker", "begin", "(IIII)V"⟩ : Cond) ∈ pj_tb := pj_t4 (List.mem_of_getElem? (i := 163) (by rfl)) (by rfl)
set_option maxRecDepth 5000 in
theorem cw_964 : (.code ⟨"AlikeSteps$Asker", "begin", "(IIII)V"⟩ prog_4_method_2_code 5 none : Cond) ∈ pj_tb := pj_t4 (List.mem_of_getElem? (i := 164) (by rfl)) (by rfl)
set_option maxRecDepth 5000 in
theorem cw_965 : (.methodLink RX10 320 ⟨"AlikeSteps$Asker", "answer", "(I)I"⟩ : Cond) ∈ pj_tb := pj_t4 (List.mem_of_getElem? (i := 165) (by rfl)) (by rfl)
set_option maxRecDepth 5000 in
theorem cw_966 : (.instanceMethod ⟨"AlikeSteps$Asker", "answer", "(I)I"⟩ : Cond) ∈ pj_tb := pj_t4 (List.mem_of_getElem? (i := 166) (by rfl)) (by rfl)
set_option maxRecDepth 5000 in
theorem cw_967 : (.selects "AlikeSteps$Asker" ⟨"AlikeSteps$Asker", "answer", "(I)I"⟩ ⟨"AlikeSteps$Asker", "answer", "(I)I"⟩ : Cond) ∈ pj_tb := pj_t4 (List.mem_of_getElem? (i := 167) (by rfl)) (by rfl)
set_option maxRecDepth 5000 in
theorem cw_968 : (.code ⟨"AlikeSteps$Asker", "answer", "(I)I"⟩ prog_4_method_3_code 2 (some .int) : Cond) ∈ pj_tb := pj_t4 (List.mem_of_getElem? (i := 168) (by rfl)) (by rfl)
set_option maxRecDepth 5000 in
theorem cw_969 : (.methodLink RX2 31 ⟨"AlikeSteps$Asker", "sizeBody", "()I"⟩ : Cond) ∈ pj_tb := pj_t4 (List.mem_of_getElem? (i := 169) (by rfl)) (by rfl)
set_option maxRecDepth 5000 in
theorem cw_971 : (.instanceMethod ⟨"AlikeSteps$Asker", "sizeBody", "()I"⟩ : Cond) ∈ pj_tb := pj_t4 (List.mem_of_getElem? (i := 171) (by rfl)) (by rfl)
set_option maxRecDepth 5000 in
theorem cw_972 : (.code ⟨"AlikeSteps$Asker", "sizeBody", "()I"⟩ prog_4_method_5_code 1 (some .int) : Cond) ∈ pj_tb := pj_t4 (List.mem_of_getElem? (i := 172) (by rfl)) (by rfl)
set_option maxRecDepth 5000 in
theorem cw_973 : (.methodLink RX2 35 ⟨"AlikeSteps$Asker", "markBody", "()I"⟩ : Cond) ∈ pj_tb := pj_t4 (List.mem_of_getElem? (i := 173) (by rfl)) (by rfl)
set_option maxRecDepth 5000 in
theorem cw_975 : (.instanceMethod ⟨"AlikeSteps$Asker", "markBody", "()I"⟩ : Cond) ∈ pj_tb := pj_t4 (List.mem_of_getElem? (i := 175) (by rfl)) (by rfl)
set_option maxRecDepth 5000 in
theorem cw_976 : (.code ⟨"AlikeSteps$Asker", "markBody", "()I"⟩ prog_4_method_6_code 1 (some .int) : Cond) ∈ pj_tb := pj_t4 (List.mem_of_getElem? (i := 176) (by rfl)) (by rfl)
set_option maxRecDepth 5000 in
theorem cw_977 : (.methodLink RX2 38 ⟨"AlikeSteps$Asker", "body", "(II)I"⟩ : Cond) ∈ pj_tb := pj_t4 (List.mem_of_getElem? (i := 177) (by rfl)) (by rfl)
set_option maxRecDepth 5000 in
theorem cw_979 : (.instanceMethod ⟨"AlikeSteps$Asker", "body", "(II)I"⟩ : Cond) ∈ pj_tb := pj_t4 (List.mem_of_getElem? (i := 179) (by rfl)) (by rfl)
set_option maxRecDepth 5000 in
theorem cw_980 : (.code ⟨"AlikeSteps$Asker", "body", "(II)I"⟩ prog_4_method_7_code 4 (some .int) : Cond) ∈ pj_tb := pj_t4 (List.mem_of_getElem? (i := 180) (by rfl)) (by rfl)
set_option maxRecDepth 5000 in
theorem cw_981 : (.methodLink RX2 43 ⟨"AlikeSteps$Asker", "leave", "(I)V"⟩ : Cond) ∈ pj_tb := pj_t4 (List.mem_of_getElem? (i := 181) (by rfl)) (by rfl)
set_option maxRecDepth 5000 in
theorem cw_983 : (.instanceMethod ⟨"AlikeSteps$Asker", "leave", "(I)V"⟩ : Cond) ∈ pj_tb := pj_t4 (List.mem_of_getElem? (i := 183) (by rfl)) (by rfl)
set_option maxRecDepth 5000 in
theorem cw_984 : (.code ⟨"AlikeSteps$Asker", "leave", "(I)V"⟩ prog_4_method_8_code 2 none : Cond) ∈ pj_tb := pj_t4 (List.mem_of_getElem? (i := 184) (by rfl)) (by rfl)
set_option maxRecDepth 5000 in
theorem cw_986 : (.instanceMethod ⟨"AlikeSteps", "trace", "(I)I"⟩ : Cond) ∈ pj_tb := pj_t4 (List.mem_of_getElem? (i := 186) (by rfl)) (by rfl)
set_option maxRecDepth 5000 in
theorem cw_987 : (.selects "AlikeSteps" ⟨"AlikeSteps", "trace", "(I)I"⟩ ⟨"AlikeSteps", "trace", "(I)I"⟩ : Cond) ∈ pj_tb := pj_t4 (List.mem_of_getElem? (i := 187) (by rfl)) (by rfl)
set_option maxRecDepth 5000 in
theorem cw_988 : (.code ⟨"AlikeSteps", "trace", "(I)I"⟩ prog_1_method_34_code 2 (some .int) : Cond) ∈ pj_tb := pj_t4 (List.mem_of_getElem? (i := 188) (by rfl)) (by rfl)
set_option maxRecDepth 5000 in
theorem cw_989 : (.methodLink RX10 322 ⟨"AlikeSteps$Asker", "traceAt", "(I)I"⟩ : Cond) ∈ pj_tb := pj_t4 (List.mem_of_getElem? (i := 189) (by rfl)) (by rfl)
set_option maxRecDepth 5000 in
theorem cw_990 : (.instanceMethod ⟨"AlikeSteps$Asker", "traceAt", "(I)I"⟩ : Cond) ∈ pj_tb := pj_t4 (List.mem_of_getElem? (i := 190) (by rfl)) (by rfl)
set_option maxRecDepth 5000 in
theorem cw_991 : (.selects "AlikeSteps$Asker" ⟨"AlikeSteps$Asker", "traceAt", "(I)I"⟩ ⟨"AlikeSteps$Asker", "traceAt", "(I)I"⟩ : Cond) ∈ pj_tb := pj_t4 (List.mem_of_getElem? (i := 191) (by rfl)) (by rfl)
set_option maxRecDepth 5000 in
theorem cw_992 : (.code ⟨"AlikeSteps$Asker", "traceAt", "(I)I"⟩ prog_4_method_4_code 2 (some .int) : Cond) ∈ pj_tb := pj_t4 (List.mem_of_getElem? (i := 192) (by rfl)) (by rfl)
set_option maxRecDepth 5000 in
theorem cw_993 : (.constant RX2 42 (-1000000) : Cond) ∈ pj_tb := pj_t4 (List.mem_of_getElem? (i := 193) (by rfl)) (by rfl)
set_option maxRecDepth 5000 in
theorem cw_995 : (.instanceMethod ⟨"AlikeSteps", "count", "(I)I"⟩ : Cond) ∈ pj_tb := pj_t4 (List.mem_of_getElem? (i := 195) (by rfl)) (by rfl)
set_option maxRecDepth 5000 in
theorem cw_996 : (.selects "AlikeSteps" ⟨"AlikeSteps", "count", "(I)I"⟩ ⟨"AlikeSteps", "count", "(I)I"⟩ : Cond) ∈ pj_tb := pj_t4 (List.mem_of_getElem? (i := 196) (by rfl)) (by rfl)
set_option maxRecDepth 5000 in
theorem cw_997 : (.code ⟨"AlikeSteps", "count", "(I)I"⟩ prog_1_method_35_code 2 (some .int) : Cond) ∈ pj_tb := pj_t4 (List.mem_of_getElem? (i := 197) (by rfl)) (by rfl)
set_option maxRecDepth 5000 in
theorem cw_998 : (.methodLink RX10 325 ⟨"AlikeSteps$Rows", "size", "()I"⟩ : Cond) ∈ pj_tb := pj_t4 (List.mem_of_getElem? (i := 198) (by rfl)) (by rfl)
set_option maxRecDepth 5000 in
theorem cw_999 : (.instanceMethod ⟨"AlikeSteps$Rows", "size", "()I"⟩ : Cond) ∈ pj_tb := pj_t4 (List.mem_of_getElem? (i := 199) (by rfl)) (by rfl)
set_option maxRecDepth 5000 in
theorem cw_1000 : (.selects "AlikeSteps$Rows" ⟨"AlikeSteps$Rows", "size", "()I"⟩ ⟨"AlikeSteps$Rows", "size", "()I"⟩ : Cond) ∈ pj_tb := pj_t4 (List.mem_of_getElem? (i := 200) (by rfl)) (by rfl)
set_option maxRecDepth 5000 in
theorem cw_1001 : (.code ⟨"AlikeSteps$Rows", "size", "()I"⟩ prog_8_method_7_code 3 (some .int) : Cond) ∈ pj_tb := pj_t4 (List.mem_of_getElem? (i := 201) (by rfl)) (by rfl)
set_option maxRecDepth 5000 in
theorem cw_1002 : (.methodLink RX6 19 ⟨"AlikeSteps$Rows", "isMissing", "(I)Z"⟩ : Cond) ∈ pj_tb := pj_t4 (List.mem_of_getElem? (i := 202) (by rfl)) (by rfl)
set_option maxRecDepth 5000 in
theorem cw_1003 : (.methodLink RX10 326 ⟨"AlikeSteps$Tape", "size", "()I"⟩ : Cond) ∈ pj_tb := pj_t4 (List.mem_of_getElem? (i := 203) (by rfl)) (by rfl)
set_option maxRecDepth 5000 in
theorem cw_1004 : (.instanceMethod ⟨"AlikeSteps$Tape", "size", "()I"⟩ : Cond) ∈ pj_tb := pj_t4 (List.mem_of_getElem? (i := 204) (by rfl)) (by rfl)
set_option maxRecDepth 5000 in
theorem cw_1005 : (.selects "AlikeSteps$Tape" ⟨"AlikeSteps$Tape", "size", "()I"⟩ ⟨"AlikeSteps$Tape", "size", "()I"⟩ : Cond) ∈ pj_tb := pj_t4 (List.mem_of_getElem? (i := 205) (by rfl)) (by rfl)
set_option maxRecDepth 5000 in
theorem cw_1006 : (.code ⟨"AlikeSteps$Tape", "size", "()I"⟩ prog_10_method_3_code 1 (some .int) : Cond) ∈ pj_tb := pj_t4 (List.mem_of_getElem? (i := 206) (by rfl)) (by rfl)
set_option maxRecDepth 5000 in
theorem cw_1008 : (.instanceMethod ⟨"AlikeSteps", "status", "()I"⟩ : Cond) ∈ pj_tb := pj_t4 (List.mem_of_getElem? (i := 208) (by rfl)) (by rfl)
set_option maxRecDepth 5000 in
theorem cw_1009 : (.selects "AlikeSteps" ⟨"AlikeSteps", "status", "()I"⟩ ⟨"AlikeSteps", "status", "()I"⟩ : Cond) ∈ pj_tb := pj_t4 (List.mem_of_getElem? (i := 209) (by rfl)) (by rfl)
set_option maxRecDepth 5000 in
theorem cw_1010 : (.code ⟨"AlikeSteps", "status", "()I"⟩ prog_1_method_36_code 1 (some .int) : Cond) ∈ pj_tb := pj_t4 (List.mem_of_getElem? (i := 210) (by rfl)) (by rfl)
set_option maxRecDepth 5000 in
theorem cw_1017 : (.constant RX11 78 (-1000000) : Cond) ∈ pj_tb := pj_t4 (List.mem_of_getElem? (i := 217) (by rfl)) (by rfl)
set_option maxRecDepth 5000 in
theorem cw_1018 : (.fieldLink RX11 7 "AlikeStepsModel" "lane" "[I" : Cond) ∈ pj_tb := pj_t4 (List.mem_of_getElem? (i := 218) (by rfl)) (by rfl)
set_option maxRecDepth 5000 in
theorem cw_1019 : (.fieldLink RX11 13 "AlikeStepsModel" "many" "[I" : Cond) ∈ pj_tb := pj_t4 (List.mem_of_getElem? (i := 219) (by rfl)) (by rfl)
set_option maxRecDepth 5000 in
theorem cw_1020 : (.fieldLink RX11 16 "AlikeStepsModel" "items" "[I" : Cond) ∈ pj_tb := pj_t4 (List.mem_of_getElem? (i := 220) (by rfl)) (by rfl)
set_option maxRecDepth 5000 in
theorem cw_1021 : (.fieldLink RX11 19 "AlikeStepsModel" "spare" "[I" : Cond) ∈ pj_tb := pj_t4 (List.mem_of_getElem? (i := 221) (by rfl)) (by rfl)
set_option maxRecDepth 5000 in
theorem cw_1022 : (.fieldLink RX11 79 "AlikeStepsModel" "status" "I" : Cond) ∈ pj_tb := pj_t4 (List.mem_of_getElem? (i := 222) (by rfl)) (by rfl)
set_option maxRecDepth 5000 in
theorem cw_1023 : (.fieldLink RX11 22 "AlikeStepsModel" "tape" "[I" : Cond) ∈ pj_tb := pj_t4 (List.mem_of_getElem? (i := 223) (by rfl)) (by rfl)
set_option maxRecDepth 5000 in
theorem cw_1024 : (.fieldLink RX11 110 "AlikeStepsModel" "taped" "I" : Cond) ∈ pj_tb := pj_t4 (List.mem_of_getElem? (i := 224) (by rfl)) (by rfl)
set_option maxRecDepth 5000 in
theorem cw_1025 : (.fieldLink RX11 136 "AlikeStepsModel" "faultKind" "I" : Cond) ∈ pj_tb := pj_t4 (List.mem_of_getElem? (i := 225) (by rfl)) (by rfl)
set_option maxRecDepth 5000 in
theorem cw_1026 : (.fieldLink RX11 129 "AlikeStepsModel" "faultPlace" "I" : Cond) ∈ pj_tb := pj_t4 (List.mem_of_getElem? (i := 226) (by rfl)) (by rfl)
set_option maxRecDepth 5000 in
theorem cw_1027 : (.fieldLink RX11 114 "AlikeStepsModel" "at" "I" : Cond) ∈ pj_tb := pj_t4 (List.mem_of_getElem? (i := 227) (by rfl)) (by rfl)
set_option maxRecDepth 5000 in
theorem cw_1028 : (.fieldLink RX11 117 "AlikeStepsModel" "start" "I" : Cond) ∈ pj_tb := pj_t4 (List.mem_of_getElem? (i := 228) (by rfl)) (by rfl)
set_option maxRecDepth 5000 in
theorem cw_1029 : (.fieldLink RX11 126 "AlikeStepsModel" "token" "I" : Cond) ∈ pj_tb := pj_t4 (List.mem_of_getElem? (i := 229) (by rfl)) (by rfl)
set_option maxRecDepth 5000 in
theorem cw_1030 : (.fieldLink RX11 123 "AlikeStepsModel" "value" "I" : Cond) ∈ pj_tb := pj_t4 (List.mem_of_getElem? (i := 230) (by rfl)) (by rfl)
set_option maxRecDepth 5000 in
theorem cw_1031 : (.fieldLink RX11 25 "AlikeStepsModel" "now" "[I" : Cond) ∈ pj_tb := pj_t4 (List.mem_of_getElem? (i := 231) (by rfl)) (by rfl)
set_option maxRecDepth 5000 in
theorem cw_1032 : (.fieldLink RX11 28 "AlikeStepsModel" "draft" "[I" : Cond) ∈ pj_tb := pj_t4 (List.mem_of_getElem? (i := 232) (by rfl)) (by rfl)
set_option maxRecDepth 5000 in
theorem cw_1033 : (.fieldLink RX11 31 "AlikeStepsModel" "past" "[I" : Cond) ∈ pj_tb := pj_t4 (List.mem_of_getElem? (i := 233) (by rfl)) (by rfl)
set_option maxRecDepth 5000 in
theorem cw_1034 : (.fieldLink RX11 170 "AlikeStepsModel" "acts" "I" : Cond) ∈ pj_tb := pj_t4 (List.mem_of_getElem? (i := 234) (by rfl)) (by rfl)
set_option maxRecDepth 5000 in
theorem cw_1035 : (.fieldLink RX11 34 "AlikeStepsModel" "images" "[I" : Cond) ∈ pj_tb := pj_t4 (List.mem_of_getElem? (i := 235) (by rfl)) (by rfl)
set_option maxRecDepth 5000 in
theorem cw_1036 : (.fieldLink RX11 37 "AlikeStepsModel" "kept" "[Z" : Cond) ∈ pj_tb := pj_t4 (List.mem_of_getElem? (i := 236) (by rfl)) (by rfl)
set_option maxRecDepth 5000 in
theorem cw_1037 : (.fieldLink RX11 41 "AlikeStepsModel" "system" "[I" : Cond) ∈ pj_tb := pj_t4 (List.mem_of_getElem? (i := 237) (by rfl)) (by rfl)
set_option maxRecDepth 5000 in
theorem cw_1038 : (.fieldLink RX11 44 "AlikeStepsModel" "goes" "[I" : Cond) ∈ pj_tb := pj_t4 (List.mem_of_getElem? (i := 238) (by rfl)) (by rfl)
set_option maxRecDepth 5000 in
theorem cw_1039 : (.fieldLink RX11 47 "AlikeStepsModel" "silent" "[I" : Cond) ∈ pj_tb := pj_t4 (List.mem_of_getElem? (i := 239) (by rfl)) (by rfl)
set_option maxRecDepth 5000 in
theorem cw_1040 : (.fieldLink RX11 50 "AlikeStepsModel" "blocks" "[I" : Cond) ∈ pj_tb := pj_t5 (List.mem_of_getElem? (i := 0) (by rfl)) (by rfl)
set_option maxRecDepth 5000 in
theorem cw_1041 : (.fieldLink RX11 216 "AlikeStepsModel" "rounds" "I" : Cond) ∈ pj_tb := pj_t5 (List.mem_of_getElem? (i := 1) (by rfl)) (by rfl)
set_option maxRecDepth 5000 in
theorem cw_1042 : (.fieldLink RX11 53 "AlikeStepsModel" "signs" "[J" : Cond) ∈ pj_tb := pj_t5 (List.mem_of_getElem? (i := 2) (by rfl)) (by rfl)
set_option maxRecDepth 5000 in
theorem cw_1043 : (.fieldLink RX11 57 "AlikeStepsModel" "codes" "[I" : Cond) ∈ pj_tb := pj_t5 (List.mem_of_getElem? (i := 3) (by rfl)) (by rfl)
set_option maxRecDepth 5000 in
theorem cw_1044 : (.fieldLink RX11 60 "AlikeStepsModel" "depths" "[I" : Cond) ∈ pj_tb := pj_t5 (List.mem_of_getElem? (i := 4) (by rfl)) (by rfl)
set_option maxRecDepth 5000 in
theorem cw_1045 : (.fieldLink RX11 63 "AlikeStepsModel" "letters" "[I" : Cond) ∈ pj_tb := pj_t5 (List.mem_of_getElem? (i := 5) (by rfl)) (by rfl)
set_option maxRecDepth 5000 in
theorem cw_1046 : (.fieldLink RX11 66 "AlikeStepsModel" "ones" "[I" : Cond) ∈ pj_tb := pj_t5 (List.mem_of_getElem? (i := 6) (by rfl)) (by rfl)
set_option maxRecDepth 5000 in
theorem cw_1047 : (.fieldLink RX11 69 "AlikeStepsModel" "sets" "[I" : Cond) ∈ pj_tb := pj_t5 (List.mem_of_getElem? (i := 7) (by rfl)) (by rfl)
set_option maxRecDepth 5000 in
theorem cw_1048 : (.fieldLink RX11 72 "AlikeStepsModel" "isList" "[Z" : Cond) ∈ pj_tb := pj_t5 (List.mem_of_getElem? (i := 8) (by rfl)) (by rfl)
set_option maxRecDepth 5000 in
theorem cw_1049 : (.fieldLink RX11 75 "AlikeStepsModel" "trace" "[I" : Cond) ∈ pj_tb := pj_t5 (List.mem_of_getElem? (i := 9) (by rfl)) (by rfl)
set_option maxRecDepth 5000 in
theorem cw_1050 : (.fieldLink RX11 294 "AlikeStepsModel" "traced" "I" : Cond) ∈ pj_tb := pj_t5 (List.mem_of_getElem? (i := 10) (by rfl)) (by rfl)
set_option maxRecDepth 5000 in
theorem cw_1120 : (.instanceMethod ⟨"AlikeStepsModel", "row", "(III)I"⟩ : Cond) ∈ pj_tb := pj_t5 (List.mem_of_getElem? (i := 80) (by rfl)) (by rfl)
set_option maxRecDepth 5000 in
theorem cw_1121 : (.selects "AlikeStepsModel" ⟨"AlikeStepsModel", "row", "(III)I"⟩ ⟨"AlikeStepsModel", "row", "(III)I"⟩ : Cond) ∈ pj_tb := pj_t5 (List.mem_of_getElem? (i := 81) (by rfl)) (by rfl)
set_option maxRecDepth 5000 in
theorem cw_1122 : (.code ⟨"AlikeStepsModel", "row", "(III)I"⟩ prog_13_method_12_code 5 (some .int) : Cond) ∈ pj_tb := pj_t5 (List.mem_of_getElem? (i := 82) (by rfl)) (by rfl)
set_option maxRecDepth 5000 in
theorem cw_1123 : (.methodLink RX11 88 ⟨"AlikeStepsModel", "isRow", "(I)Z"⟩ : Cond) ∈ pj_tb := pj_t5 (List.mem_of_getElem? (i := 83) (by rfl)) (by rfl)
set_option maxRecDepth 5000 in
theorem cw_1124 : (.static ⟨"AlikeStepsModel", "isRow", "(I)Z"⟩ : Cond) ∈ pj_tb := pj_t5 (List.mem_of_getElem? (i := 84) (by rfl)) (by rfl)
set_option maxRecDepth 5000 in
theorem cw_1125 : (.code ⟨"AlikeStepsModel", "isRow", "(I)Z"⟩ prog_13_method_9_code 1 (some .boolean) : Cond) ∈ pj_tb := pj_t5 (List.mem_of_getElem? (i := 85) (by rfl)) (by rfl)
set_option maxRecDepth 5000 in
theorem cw_1126 : (.methodLink RX11 84 ⟨"AlikeStepsModel", "in", "(III)Z"⟩ : Cond) ∈ pj_tb := pj_t5 (List.mem_of_getElem? (i := 86) (by rfl)) (by rfl)
set_option maxRecDepth 5000 in
theorem cw_1127 : (.static ⟨"AlikeStepsModel", "in", "(III)Z"⟩ : Cond) ∈ pj_tb := pj_t5 (List.mem_of_getElem? (i := 87) (by rfl)) (by rfl)
set_option maxRecDepth 5000 in
theorem cw_1128 : (.code ⟨"AlikeStepsModel", "in", "(III)Z"⟩ prog_13_method_3_code 3 (some .boolean) : Cond) ∈ pj_tb := pj_t5 (List.mem_of_getElem? (i := 88) (by rfl)) (by rfl)
set_option maxRecDepth 5000 in
theorem cw_1129 : (.constant RX11 92 (-1000001) : Cond) ∈ pj_tb := pj_t5 (List.mem_of_getElem? (i := 89) (by rfl)) (by rfl)
set_option maxRecDepth 5000 in
theorem cw_1130 : (.methodLink RX11 93 ⟨"AlikeStepsModel", "found", "(I)I"⟩ : Cond) ∈ pj_tb := pj_t5 (List.mem_of_getElem? (i := 90) (by rfl)) (by rfl)
set_option maxRecDepth 5000 in
theorem cw_1132 : (.instanceMethod ⟨"AlikeStepsModel", "found", "(I)I"⟩ : Cond) ∈ pj_tb := pj_t5 (List.mem_of_getElem? (i := 92) (by rfl)) (by rfl)
set_option maxRecDepth 5000 in
theorem cw_1133 : (.code ⟨"AlikeStepsModel", "found", "(I)I"⟩ prog_13_method_6_code 2 (some .int) : Cond) ∈ pj_tb := pj_t5 (List.mem_of_getElem? (i := 93) (by rfl)) (by rfl)
set_option maxRecDepth 5000 in
theorem cw_1134 : (.constant RX11 83 (-1000010) : Cond) ∈ pj_tb := pj_t5 (List.mem_of_getElem? (i := 94) (by rfl)) (by rfl)
set_option maxRecDepth 5000 in
theorem cw_1135 : (.methodLink RX11 97 ⟨"AlikeStepsModel", "well", "(I)I"⟩ : Cond) ∈ pj_tb := pj_t5 (List.mem_of_getElem? (i := 95) (by rfl)) (by rfl)
set_option maxRecDepth 5000 in
theorem cw_1137 : (.instanceMethod ⟨"AlikeStepsModel", "well", "(I)I"⟩ : Cond) ∈ pj_tb := pj_t5 (List.mem_of_getElem? (i := 97) (by rfl)) (by rfl)
set_option maxRecDepth 5000 in
theorem cw_1138 : (.code ⟨"AlikeStepsModel", "well", "(I)I"⟩ prog_13_method_7_code 2 (some .int) : Cond) ∈ pj_tb := pj_t5 (List.mem_of_getElem? (i := 98) (by rfl)) (by rfl)
set_option maxRecDepth 5000 in
theorem cw_1140 : (.instanceMethod ⟨"AlikeStepsModel", "set", "(III)I"⟩ : Cond) ∈ pj_tb := pj_t5 (List.mem_of_getElem? (i := 100) (by rfl)) (by rfl)
set_option maxRecDepth 5000 in
theorem cw_1141 : (.selects "AlikeStepsModel" ⟨"AlikeStepsModel", "set", "(III)I"⟩ ⟨"AlikeStepsModel", "set", "(III)I"⟩ : Cond) ∈ pj_tb := pj_t5 (List.mem_of_getElem? (i := 101) (by rfl)) (by rfl)
set_option maxRecDepth 5000 in
theorem cw_1142 : (.code ⟨"AlikeStepsModel", "set", "(III)I"⟩ prog_13_method_13_code 4 (some .int) : Cond) ∈ pj_tb := pj_t5 (List.mem_of_getElem? (i := 102) (by rfl)) (by rfl)
set_option maxRecDepth 5000 in
theorem cw_1143 : (.methodLink RX11 100 ⟨"AlikeStepsModel", "isMissing", "(I)Z"⟩ : Cond) ∈ pj_tb := pj_t5 (List.mem_of_getElem? (i := 103) (by rfl)) (by rfl)
set_option maxRecDepth 5000 in
theorem cw_1145 : (.instanceMethod ⟨"AlikeStepsModel", "isMissing", "(I)Z"⟩ : Cond) ∈ pj_tb := pj_t5 (List.mem_of_getElem? (i := 105) (by rfl)) (by rfl)
set_option maxRecDepth 5000 in
theorem cw_1146 : (.code ⟨"AlikeStepsModel", "isMissing", "(I)Z"⟩ prog_13_method_10_code 2 (some .boolean) : Cond) ∈ pj_tb := pj_t5 (List.mem_of_getElem? (i := 106) (by rfl)) (by rfl)
set_option maxRecDepth 5000 in
theorem cw_1147 : (.methodLink RX11 103 ⟨"AlikeStepsModel", "lowest", "(II)I"⟩ : Cond) ∈ pj_tb := pj_t5 (List.mem_of_getElem? (i := 107) (by rfl)) (by rfl)
set_option maxRecDepth 5000 in
theorem cw_1148 : (.static ⟨"AlikeStepsModel", "lowest", "(II)I"⟩ : Cond) ∈ pj_tb := pj_t5 (List.mem_of_getElem? (i := 108) (by rfl)) (by rfl)
set_option maxRecDepth 5000 in
theorem cw_1149 : (.code ⟨"AlikeStepsModel", "lowest", "(II)I"⟩ prog_13_method_11_code 2 (some .int) : Cond) ∈ pj_tb := pj_t5 (List.mem_of_getElem? (i := 109) (by rfl)) (by rfl)
set_option maxRecDepth 5000 in
theorem cw_1151 : (.instanceMethod ⟨"AlikeStepsModel", "copy", "(IIIII)I"⟩ : Cond) ∈ pj_tb := pj_t5 (List.mem_of_getElem? (i := 111) (by rfl)) (by rfl)
set_option maxRecDepth 5000 in
theorem cw_1152 : (.selects "AlikeStepsModel" ⟨"AlikeStepsModel", "copy", "(IIIII)I"⟩ ⟨"AlikeStepsModel", "copy", "(IIIII)I"⟩ : Cond) ∈ pj_tb := pj_t5 (List.mem_of_getElem? (i := 112) (by rfl)) (by rfl)
set_option maxRecDepth 5000 in
theorem cw_1153 : (.code ⟨"AlikeStepsModel", "copy", "(IIIII)I"⟩ prog_13_method_15_code 7 (some .int) : Cond) ∈ pj_tb := pj_t5 (List.mem_of_getElem? (i := 113) (by rfl)) (by rfl)
set_option maxRecDepth 5000 in
theorem cw_1154 : (.methodLink RX11 107 ⟨"AlikeStepsModel", "isPart", "(III)Z"⟩ : Cond) ∈ pj_tb := pj_t5 (List.mem_of_getElem? (i := 114) (by rfl)) (by rfl)
set_option maxRecDepth 5000 in
theorem cw_1156 : (.instanceMethod ⟨"AlikeStepsModel", "isPart", "(III)Z"⟩ : Cond) ∈ pj_tb := pj_t5 (List.mem_of_getElem? (i := 116) (by rfl)) (by rfl)
set_option maxRecDepth 5000 in
theorem cw_1157 : (.code ⟨"AlikeStepsModel", "isPart", "(III)Z"⟩ prog_13_method_14_code 4 (some .boolean) : Cond) ∈ pj_tb := pj_t5 (List.mem_of_getElem? (i := 117) (by rfl)) (by rfl)
set_option maxRecDepth 5000 in
theorem cw_1159 : (.instanceMethod ⟨"AlikeStepsModel", "drop", "(I)I"⟩ : Cond) ∈ pj_tb := pj_t5 (List.mem_of_getElem? (i := 119) (by rfl)) (by rfl)
set_option maxRecDepth 5000 in
theorem cw_1160 : (.selects "AlikeStepsModel" ⟨"AlikeStepsModel", "drop", "(I)I"⟩ ⟨"AlikeStepsModel", "drop", "(I)I"⟩ : Cond) ∈ pj_tb := pj_t5 (List.mem_of_getElem? (i := 120) (by rfl)) (by rfl)
set_option maxRecDepth 5000 in
theorem cw_1161 : (.code ⟨"AlikeStepsModel", "drop", "(I)I"⟩ prog_13_method_16_code 2 (some .int) : Cond) ∈ pj_tb := pj_t5 (List.mem_of_getElem? (i := 121) (by rfl)) (by rfl)
set_option maxRecDepth 5000 in
theorem cw_1163 : (.instanceMethod ⟨"AlikeStepsModel", "feed", "(I)I"⟩ : Cond) ∈ pj_tb := pj_t5 (List.mem_of_getElem? (i := 123) (by rfl)) (by rfl)
set_option maxRecDepth 5000 in
theorem cw_1164 : (.selects "AlikeStepsModel" ⟨"AlikeStepsModel", "feed", "(I)I"⟩ ⟨"AlikeStepsModel", "feed", "(I)I"⟩ : Cond) ∈ pj_tb := pj_t5 (List.mem_of_getElem? (i := 124) (by rfl)) (by rfl)
set_option maxRecDepth 5000 in
theorem cw_1165 : (.code ⟨"AlikeStepsModel", "feed", "(I)I"⟩ prog_13_method_17_code 2 (some .int) : Cond) ∈ pj_tb := pj_t5 (List.mem_of_getElem? (i := 125) (by rfl)) (by rfl)
set_option maxRecDepth 5000 in
theorem cw_1166 : (.constant RX11 113 (-1000003) : Cond) ∈ pj_tb := pj_t5 (List.mem_of_getElem? (i := 126) (by rfl)) (by rfl)
set_option maxRecDepth 5000 in
theorem cw_1168 : (.instanceMethod ⟨"AlikeStepsModel", "system", "()I"⟩ : Cond) ∈ pj_tb := pj_t5 (List.mem_of_getElem? (i := 128) (by rfl)) (by rfl)
set_option maxRecDepth 5000 in
theorem cw_1169 : (.selects "AlikeStepsModel" ⟨"AlikeStepsModel", "system", "()I"⟩ ⟨"AlikeStepsModel", "system", "()I"⟩ : Cond) ∈ pj_tb := pj_t5 (List.mem_of_getElem? (i := 129) (by rfl)) (by rfl)
set_option maxRecDepth 5000 in
theorem cw_1170 : (.code ⟨"AlikeStepsModel", "system", "()I"⟩ prog_13_method_28_code 2 (some .int) : Cond) ∈ pj_tb := pj_t5 (List.mem_of_getElem? (i := 130) (by rfl)) (by rfl)
set_option maxRecDepth 5000 in
theorem cw_1171 : (.methodLink RX11 139 ⟨"AlikeStepsModel", "advances", "()V"⟩ : Cond) ∈ pj_tb := pj_t5 (List.mem_of_getElem? (i := 131) (by rfl)) (by rfl)
set_option maxRecDepth 5000 in
theorem cw_1173 : (.instanceMethod ⟨"AlikeStepsModel", "advances", "()V"⟩ : Cond) ∈ pj_tb := pj_t5 (List.mem_of_getElem? (i := 133) (by rfl)) (by rfl)
set_option maxRecDepth 5000 in
theorem cw_1174 : (.code ⟨"AlikeStepsModel", "advances", "()V"⟩ prog_13_method_19_code 2 none : Cond) ∈ pj_tb := pj_t5 (List.mem_of_getElem? (i := 134) (by rfl)) (by rfl)
set_option maxRecDepth 5000 in
theorem cw_1175 : (.methodLink RX11 120 ⟨"AlikeStepsModel", "byteAt", "(I)I"⟩ : Cond) ∈ pj_tb := pj_t5 (List.mem_of_getElem? (i := 135) (by rfl)) (by rfl)
set_option maxRecDepth 5000 in
theorem cw_1177 : (.instanceMethod ⟨"AlikeStepsModel", "byteAt", "(I)I"⟩ : Cond) ∈ pj_tb := pj_t5 (List.mem_of_getElem? (i := 137) (by rfl)) (by rfl)
set_option maxRecDepth 5000 in
theorem cw_1178 : (.code ⟨"AlikeStepsModel", "byteAt", "(I)I"⟩ prog_13_method_18_code 2 (some .int) : Cond) ∈ pj_tb := pj_t5 (List.mem_of_getElem? (i := 138) (by rfl)) (by rfl)
set_option maxRecDepth 5000 in
theorem cw_1179 : (.methodLink RX11 132 ⟨"AlikeStepsModel", "isWell", "()Z"⟩ : Cond) ∈ pj_tb := pj_t5 (List.mem_of_getElem? (i := 139) (by rfl)) (by rfl)
set_option maxRecDepth 5000 in
theorem cw_1181 : (.instanceMethod ⟨"AlikeStepsModel", "isWell", "()Z"⟩ : Cond) ∈ pj_tb := pj_t5 (List.mem_of_getElem? (i := 141) (by rfl)) (by rfl)
set_option maxRecDepth 5000 in
theorem cw_1182 : (.code ⟨"AlikeStepsModel", "isWell", "()Z"⟩ prog_13_method_20_code 1 (some .boolean) : Cond) ∈ pj_tb := pj_t5 (List.mem_of_getElem? (i := 142) (by rfl)) (by rfl)
set_option maxRecDepth 5000 in
theorem cw_1183 : (.methodLink RX11 146 ⟨"AlikeStepsModel", "kindOf", "(I)I"⟩ : Cond) ∈ pj_tb := pj_t5 (List.mem_of_getElem? (i := 143) (by rfl)) (by rfl)
set_option maxRecDepth 5000 in
theorem cw_1184 : (.static ⟨"AlikeStepsModel", "kindOf", "(I)I"⟩ : Cond) ∈ pj_tb := pj_t5 (List.mem_of_getElem? (i := 144) (by rfl)) (by rfl)
set_option maxRecDepth 5000 in
theorem cw_1185 : (.code ⟨"AlikeStepsModel", "kindOf", "(I)I"⟩ prog_13_method_23_code 1 (some .int) : Cond) ∈ pj_tb := pj_t5 (List.mem_of_getElem? (i := 145) (by rfl)) (by rfl)
set_option maxRecDepth 5000 in
theorem cw_1186 : (.methodLink RX11 155 ⟨"AlikeStepsModel", "readsState", "()V"⟩ : Cond) ∈ pj_tb := pj_t5 (List.mem_of_getElem? (i := 146) (by rfl)) (by rfl)
set_option maxRecDepth 5000 in
theorem cw_1188 : (.instanceMethod ⟨"AlikeStepsModel", "readsState", "()V"⟩ : Cond) ∈ pj_tb := pj_t5 (List.mem_of_getElem? (i := 148) (by rfl)) (by rfl)
set_option maxRecDepth 5000 in
theorem cw_1189 : (.code ⟨"AlikeStepsModel", "readsState", "()V"⟩ prog_13_method_26_code 2 none : Cond) ∈ pj_tb := pj_t5 (List.mem_of_getElem? (i := 149) (by rfl)) (by rfl)
set_option maxRecDepth 5000 in
theorem cw_1190 : (.methodLink RX11 142 ⟨"AlikeStepsModel", "takes", "(ZI)I"⟩ : Cond) ∈ pj_tb := pj_t5 (List.mem_of_getElem? (i := 150) (by rfl)) (by rfl)
set_option maxRecDepth 5000 in
theorem cw_1192 : (.instanceMethod ⟨"AlikeStepsModel", "takes", "(ZI)I"⟩ : Cond) ∈ pj_tb := pj_t5 (List.mem_of_getElem? (i := 152) (by rfl)) (by rfl)
set_option maxRecDepth 5000 in
theorem cw_1193 : (.code ⟨"AlikeStepsModel", "takes", "(ZI)I"⟩ prog_13_method_21_code 4 (some .int) : Cond) ∈ pj_tb := pj_t5 (List.mem_of_getElem? (i := 153) (by rfl)) (by rfl)
set_option maxRecDepth 5000 in
theorem cw_1194 : (.methodLink RX11 158 ⟨"AlikeStepsModel", "must", "(Z)V"⟩ : Cond) ∈ pj_tb := pj_t5 (List.mem_of_getElem? (i := 154) (by rfl)) (by rfl)
set_option maxRecDepth 5000 in
theorem cw_1196 : (.instanceMethod ⟨"AlikeStepsModel", "must", "(Z)V"⟩ : Cond) ∈ pj_tb := pj_t5 (List.mem_of_getElem? (i := 156) (by rfl)) (by rfl)
set_option maxRecDepth 5000 in
theorem cw_1197 : (.code ⟨"AlikeStepsModel", "must", "(Z)V"⟩ prog_13_method_25_code 2 none : Cond) ∈ pj_tb := pj_t5 (List.mem_of_getElem? (i := 157) (by rfl)) (by rfl)
set_option maxRecDepth 5000 in
theorem cw_1198 : (.methodLink RX11 149 ⟨"AlikeStepsModel", "letterOf", "(I)I"⟩ : Cond) ∈ pj_tb := pj_t5 (List.mem_of_getElem? (i := 158) (by rfl)) (by rfl)
set_option maxRecDepth 5000 in
theorem cw_1199 : (.static ⟨"AlikeStepsModel", "letterOf", "(I)I"⟩ : Cond) ∈ pj_tb := pj_t5 (List.mem_of_getElem? (i := 159) (by rfl)) (by rfl)
set_option maxRecDepth 5000 in
theorem cw_1200 : (.code ⟨"AlikeStepsModel", "letterOf", "(I)I"⟩ prog_13_method_24_code 1 (some .int) : Cond) ∈ pj_tb := pj_t5 (List.mem_of_getElem? (i := 160) (by rfl)) (by rfl)
set_option maxRecDepth 5000 in
theorem cw_1201 : (.methodLink RX11 162 ⟨"AlikeStepsModel", "readsArc", "()V"⟩ : Cond) ∈ pj_tb := pj_t5 (List.mem_of_getElem? (i := 161) (by rfl)) (by rfl)
set_option maxRecDepth 5000 in
theorem cw_1203 : (.instanceMethod ⟨"AlikeStepsModel", "readsArc", "()V"⟩ : Cond) ∈ pj_tb := pj_t5 (List.mem_of_getElem? (i := 163) (by rfl)) (by rfl)
set_option maxRecDepth 5000 in
theorem cw_1204 : (.code ⟨"AlikeStepsModel", "readsArc", "()V"⟩ prog_13_method_27_code 5 none : Cond) ∈ pj_tb := pj_t5 (List.mem_of_getElem? (i := 164) (by rfl)) (by rfl)
set_option maxRecDepth 5000 in
theorem cw_1205 : (.methodLink RX11 152 ⟨"AlikeStepsModel", "figure", "(II)I"⟩ : Cond) ∈ pj_tb := pj_t5 (List.mem_of_getElem? (i := 165) (by rfl)) (by rfl)
set_option maxRecDepth 5000 in
theorem cw_1207 : (.instanceMethod ⟨"AlikeStepsModel", "figure", "(II)I"⟩ : Cond) ∈ pj_tb := pj_t5 (List.mem_of_getElem? (i := 167) (by rfl)) (by rfl)
set_option maxRecDepth 5000 in
theorem cw_1208 : (.code ⟨"AlikeStepsModel", "figure", "(II)I"⟩ prog_13_method_22_code 3 (some .int) : Cond) ∈ pj_tb := pj_t5 (List.mem_of_getElem? (i := 168) (by rfl)) (by rfl)
set_option maxRecDepth 5000 in
theorem cw_1209 : (.constant RX11 165 (-1000100) : Cond) ∈ pj_tb := pj_t5 (List.mem_of_getElem? (i := 169) (by rfl)) (by rfl)
set_option maxRecDepth 5000 in
theorem cw_1210 : (.methodLink RX11 166 ⟨"AlikeStepsModel", "copies", "([II[II)V"⟩ : Cond) ∈ pj_tb := pj_t5 (List.mem_of_getElem? (i := 170) (by rfl)) (by rfl)
set_option maxRecDepth 5000 in
theorem cw_1211 : (.static ⟨"AlikeStepsModel", "copies", "([II[II)V"⟩ : Cond) ∈ pj_tb := pj_t5 (List.mem_of_getElem? (i := 171) (by rfl)) (by rfl)
set_option maxRecDepth 5000 in
theorem cw_1212 : (.code ⟨"AlikeStepsModel", "copies", "([II[II)V"⟩ prog_13_method_8_code 5 none : Cond) ∈ pj_tb := pj_t5 (List.mem_of_getElem? (i := 172) (by rfl)) (by rfl)
set_option maxRecDepth 5000 in
theorem cw_1214 : (.instanceMethod ⟨"AlikeStepsModel", "fault", "()I"⟩ : Cond) ∈ pj_tb := pj_t5 (List.mem_of_getElem? (i := 174) (by rfl)) (by rfl)
set_option maxRecDepth 5000 in
theorem cw_1215 : (.selects "AlikeStepsModel" ⟨"AlikeStepsModel", "fault", "()I"⟩ ⟨"AlikeStepsModel", "fault", "()I"⟩ : Cond) ∈ pj_tb := pj_t5 (List.mem_of_getElem? (i := 175) (by rfl)) (by rfl)
set_option maxRecDepth 5000 in
theorem cw_1216 : (.code ⟨"AlikeStepsModel", "fault", "()I"⟩ prog_13_method_29_code 1 (some .int) : Cond) ∈ pj_tb := pj_t5 (List.mem_of_getElem? (i := 176) (by rfl)) (by rfl)
set_option maxRecDepth 5000 in
theorem cw_1218 : (.instanceMethod ⟨"AlikeStepsModel", "lay", "(III)I"⟩ : Cond) ∈ pj_tb := pj_t5 (List.mem_of_getElem? (i := 178) (by rfl)) (by rfl)
set_option maxRecDepth 5000 in
theorem cw_1219 : (.selects "AlikeStepsModel" ⟨"AlikeStepsModel", "lay", "(III)I"⟩ ⟨"AlikeStepsModel", "lay", "(III)I"⟩ : Cond) ∈ pj_tb := pj_t5 (List.mem_of_getElem? (i := 179) (by rfl)) (by rfl)
set_option maxRecDepth 5000 in
theorem cw_1220 : (.code ⟨"AlikeStepsModel", "lay", "(III)I"⟩ prog_13_method_50_code 5 (some .int) : Cond) ∈ pj_tb := pj_t5 (List.mem_of_getElem? (i := 180) (by rfl)) (by rfl)
set_option maxRecDepth 5000 in
theorem cw_1221 : (.methodLink RX11 222 ⟨"AlikeStepsModel", "isLetter", "(I)Z"⟩ : Cond) ∈ pj_tb := pj_t5 (List.mem_of_getElem? (i := 181) (by rfl)) (by rfl)
set_option maxRecDepth 5000 in
theorem cw_1222 : (.static ⟨"AlikeStepsModel", "isLetter", "(I)Z"⟩ : Cond) ∈ pj_tb := pj_t5 (List.mem_of_getElem? (i := 182) (by rfl)) (by rfl)
set_option maxRecDepth 5000 in
theorem cw_1223 : (.code ⟨"AlikeStepsModel", "isLetter", "(I)Z"⟩ prog_13_method_33_code 1 (some .boolean) : Cond) ∈ pj_tb := pj_t5 (List.mem_of_getElem? (i := 183) (by rfl)) (by rfl)
set_option maxRecDepth 5000 in
theorem cw_1224 : (.methodLink RX11 225 ⟨"AlikeStepsModel", "isState", "(I)Z"⟩ : Cond) ∈ pj_tb := pj_t5 (List.mem_of_getElem? (i := 184) (by rfl)) (by rfl)
set_option maxRecDepth 5000 in
theorem cw_1226 : (.instanceMethod ⟨"AlikeStepsModel", "isState", "(I)Z"⟩ : Cond) ∈ pj_tb := pj_t5 (List.mem_of_getElem? (i := 186) (by rfl)) (by rfl)
set_option maxRecDepth 5000 in
theorem cw_1227 : (.code ⟨"AlikeStepsModel", "isState", "(I)Z"⟩ prog_13_method_31_code 2 (some .boolean) : Cond) ∈ pj_tb := pj_t5 (List.mem_of_getElem? (i := 187) (by rfl)) (by rfl)
set_option maxRecDepth 5000 in
theorem cw_1228 : (.methodLink RX11 228 ⟨"AlikeStepsModel", "notes", "()V"⟩ : Cond) ∈ pj_tb := pj_t5 (List.mem_of_getElem? (i := 188) (by rfl)) (by rfl)
set_option maxRecDepth 5000 in
theorem cw_1230 : (.instanceMethod ⟨"AlikeStepsModel", "notes", "()V"⟩ : Cond) ∈ pj_tb := pj_t5 (List.mem_of_getElem? (i := 190) (by rfl)) (by rfl)
set_option maxRecDepth 5000 in
theorem cw_1231 : (.code ⟨"AlikeStepsModel", "notes", "()V"⟩ prog_13_method_49_code 2 none : Cond) ∈ pj_tb := pj_t5 (List.mem_of_getElem? (i := 191) (by rfl)) (by rfl)
set_option maxRecDepth 5000 in
theorem cw_1233 : (.instanceMethod ⟨"AlikeStepsModel", "cut", "(I)I"⟩ : Cond) ∈ pj_tb := pj_t5 (List.mem_of_getElem? (i := 193) (by rfl)) (by rfl)
set_option maxRecDepth 5000 in
theorem cw_1234 : (.selects "AlikeStepsModel" ⟨"AlikeStepsModel", "cut", "(I)I"⟩ ⟨"AlikeStepsModel", "cut", "(I)I"⟩ : Cond) ∈ pj_tb := pj_t5 (List.mem_of_getElem? (i := 194) (by rfl)) (by rfl)
set_option maxRecDepth 5000 in
theorem cw_1235 : (.code ⟨"AlikeStepsModel", "cut", "(I)I"⟩ prog_13_method_51_code 3 (some .int) : Cond) ∈ pj_tb := pj_t5 (List.mem_of_getElem? (i := 195) (by rfl)) (by rfl)
set_option maxRecDepth 5000 in
theorem cw_1236 : (.methodLink RX11 231 ⟨"AlikeStepsModel", "isArc", "(I)Z"⟩ : Cond) ∈ pj_tb := pj_t5 (List.mem_of_getElem? (i := 196) (by rfl)) (by rfl)
set_option maxRecDepth 5000 in
theorem cw_1238 : (.instanceMethod ⟨"AlikeStepsModel", "isArc", "(I)Z"⟩ : Cond) ∈ pj_tb := pj_t5 (List.mem_of_getElem? (i := 198) (by rfl)) (by rfl)
set_option maxRecDepth 5000 in
theorem cw_1239 : (.code ⟨"AlikeStepsModel", "isArc", "(I)Z"⟩ prog_13_method_32_code 2 (some .boolean) : Cond) ∈ pj_tb := pj_t5 (List.mem_of_getElem? (i := 199) (by rfl)) (by rfl)
set_option maxRecDepth 5000 in
theorem cw_1241 : (.instanceMethod ⟨"AlikeStepsModel", "turn", "(I)I"⟩ : Cond) ∈ pj_tb := pj_t5 (List.mem_of_getElem? (i := 201) (by rfl)) (by rfl)
set_option maxRecDepth 5000 in
theorem cw_1242 : (.selects "AlikeStepsModel" ⟨"AlikeStepsModel", "turn", "(I)I"⟩ ⟨"AlikeStepsModel", "turn", "(I)I"⟩ : Cond) ∈ pj_tb := pj_t5 (List.mem_of_getElem? (i := 202) (by rfl)) (by rfl)
set_option maxRecDepth 5000 in
theorem cw_1243 : (.code ⟨"AlikeStepsModel", "turn", "(I)I"⟩ prog_13_method_52_code 4 (some .int) : Cond) ∈ pj_tb := pj_t5 (List.mem_of_getElem? (i := 203) (by rfl)) (by rfl)
set_option maxRecDepth 5000 in
theorem cw_1245 : (.instanceMethod ⟨"AlikeStepsModel", "become", "(II)I"⟩ : Cond) ∈ pj_tb := pj_t5 (List.mem_of_getElem? (i := 205) (by rfl)) (by rfl)
set_option maxRecDepth 5000 in
theorem cw_1246 : (.selects "AlikeStepsModel" ⟨"AlikeStepsModel", "become", "(II)I"⟩ ⟨"AlikeStepsModel", "become", "(II)I"⟩ : Cond) ∈ pj_tb := pj_t5 (List.mem_of_getElem? (i := 206) (by rfl)) (by rfl)
set_option maxRecDepth 5000 in
theorem cw_1247 : (.code ⟨"AlikeStepsModel", "become", "(II)I"⟩ prog_13_method_53_code 4 (some .int) : Cond) ∈ pj_tb := pj_t5 (List.mem_of_getElem? (i := 207) (by rfl)) (by rfl)
set_option maxRecDepth 5000 in
theorem cw_1248 : (.constant RX11 234 (-1000002) : Cond) ∈ pj_tb := pj_t5 (List.mem_of_getElem? (i := 208) (by rfl)) (by rfl)
set_option maxRecDepth 5000 in
theorem cw_1250 : (.instanceMethod ⟨"AlikeStepsModel", "undo", "()I"⟩ : Cond) ∈ pj_tb := pj_t5 (List.mem_of_getElem? (i := 210) (by rfl)) (by rfl)
set_option maxRecDepth 5000 in
theorem cw_1251 : (.selects "AlikeStepsModel" ⟨"AlikeStepsModel", "undo", "()I"⟩ ⟨"AlikeStepsModel", "undo", "()I"⟩ : Cond) ∈ pj_tb := pj_t5 (List.mem_of_getElem? (i := 211) (by rfl)) (by rfl)
set_option maxRecDepth 5000 in
theorem cw_1252 : (.code ⟨"AlikeStepsModel", "undo", "()I"⟩ prog_13_method_54_code 1 (some .int) : Cond) ∈ pj_tb := pj_t5 (List.mem_of_getElem? (i := 212) (by rfl)) (by rfl)
set_option maxRecDepth 5000 in
theorem cw_1254 : (.instanceMethod ⟨"AlikeStepsModel", "arc", "(II)I"⟩ : Cond) ∈ pj_tb := pj_t5 (List.mem_of_getElem? (i := 214) (by rfl)) (by rfl)
set_option maxRecDepth 5000 in
theorem cw_1255 : (.selects "AlikeStepsModel" ⟨"AlikeStepsModel", "arc", "(II)I"⟩ ⟨"AlikeStepsModel", "arc", "(II)I"⟩ : Cond) ∈ pj_tb := pj_t5 (List.mem_of_getElem? (i := 215) (by rfl)) (by rfl)
set_option maxRecDepth 5000 in
theorem cw_1256 : (.code ⟨"AlikeStepsModel", "arc", "(II)I"⟩ prog_13_method_55_code 3 (some .int) : Cond) ∈ pj_tb := pj_t5 (List.mem_of_getElem? (i := 216) (by rfl)) (by rfl)
set_option maxRecDepth 5000 in
theorem cw_1258 : (.instanceMethod ⟨"AlikeStepsModel", "moves", "(III)I"⟩ : Cond) ∈ pj_tb := pj_t5 (List.mem_of_getElem? (i := 218) (by rfl)) (by rfl)
set_option maxRecDepth 5000 in
theorem cw_1259 : (.selects "AlikeStepsModel" ⟨"AlikeStepsModel", "moves", "(III)I"⟩ ⟨"AlikeStepsModel", "moves", "(III)I"⟩ : Cond) ∈ pj_tb := pj_t5 (List.mem_of_getElem? (i := 219) (by rfl)) (by rfl)
set_option maxRecDepth 5000 in
theorem cw_1260 : (.code ⟨"AlikeStepsModel", "moves", "(III)I"⟩ prog_13_method_56_code 4 (some .int) : Cond) ∈ pj_tb := pj_t5 (List.mem_of_getElem? (i := 220) (by rfl)) (by rfl)
set_option maxRecDepth 5000 in
theorem cw_1261 : (.methodLink RX11 235 ⟨"AlikeStepsModel", "looks", "([II)V"⟩ : Cond) ∈ pj_tb := pj_t5 (List.mem_of_getElem? (i := 221) (by rfl)) (by rfl)
set_option maxRecDepth 5000 in
theorem cw_1263 : (.instanceMethod ⟨"AlikeStepsModel", "looks", "([II)V"⟩ : Cond) ∈ pj_tb := pj_t5 (List.mem_of_getElem? (i := 223) (by rfl)) (by rfl)
set_option maxRecDepth 5000 in
theorem cw_1264 : (.code ⟨"AlikeStepsModel", "looks", "([II)V"⟩ prog_13_method_37_code 7 none : Cond) ∈ pj_tb := pj_t5 (List.mem_of_getElem? (i := 224) (by rfl)) (by rfl)
set_option maxRecDepth 5000 in
theorem cw_1265 : (.methodLink RX11 173 ⟨"AlikeStepsModel", "goesFrom", "(III)V"⟩ : Cond) ∈ pj_tb := pj_t5 (List.mem_of_getElem? (i := 225) (by rfl)) (by rfl)
set_option maxRecDepth 5000 in
theorem cw_1267 : (.instanceMethod ⟨"AlikeStepsModel", "goesFrom", "(III)V"⟩ : Cond) ∈ pj_tb := pj_t5 (List.mem_of_getElem? (i := 227) (by rfl)) (by rfl)
set_option maxRecDepth 5000 in
theorem cw_1268 : (.code ⟨"AlikeStepsModel", "goesFrom", "(III)V"⟩ prog_13_method_36_code 4 none : Cond) ∈ pj_tb := pj_t5 (List.mem_of_getElem? (i := 228) (by rfl)) (by rfl)
set_option maxRecDepth 5000 in
theorem cw_1269 : (.methodLink RX11 177 ⟨"AlikeStepsModel", "states", "()I"⟩ : Cond) ∈ pj_tb := pj_t5 (List.mem_of_getElem? (i := 229) (by rfl)) (by rfl)
set_option maxRecDepth 5000 in
theorem cw_1271 : (.instanceMethod ⟨"AlikeStepsModel", "states", "()I"⟩ : Cond) ∈ pj_tb := pj_t5 (List.mem_of_getElem? (i := 231) (by rfl)) (by rfl)
set_option maxRecDepth 5000 in
theorem cw_1272 : (.code ⟨"AlikeStepsModel", "states", "()I"⟩ prog_13_method_34_code 1 (some .int) : Cond) ∈ pj_tb := pj_t5 (List.mem_of_getElem? (i := 232) (by rfl)) (by rfl)
set_option maxRecDepth 5000 in
theorem cw_1273 : (.methodLink RX11 181 ⟨"AlikeStepsModel", "reaches", "(II)I"⟩ : Cond) ∈ pj_tb := pj_t5 (List.mem_of_getElem? (i := 233) (by rfl)) (by rfl)
set_option maxRecDepth 5000 in
theorem cw_1275 : (.instanceMethod ⟨"AlikeStepsModel", "reaches", "(II)I"⟩ : Cond) ∈ pj_tb := pj_t5 (List.mem_of_getElem? (i := 235) (by rfl)) (by rfl)
set_option maxRecDepth 5000 in
theorem cw_1276 : (.code ⟨"AlikeStepsModel", "reaches", "(II)I"⟩ prog_13_method_38_code 6 (some .int) : Cond) ∈ pj_tb := pj_t5 (List.mem_of_getElem? (i := 236) (by rfl)) (by rfl)
set_option maxRecDepth 5000 in
theorem cw_1277 : (.methodLink RX11 184 ⟨"AlikeStepsModel", "to", "(II)I"⟩ : Cond) ∈ pj_tb := pj_t5 (List.mem_of_getElem? (i := 237) (by rfl)) (by rfl)
set_option maxRecDepth 5000 in
theorem cw_1279 : (.instanceMethod ⟨"AlikeStepsModel", "to", "(II)I"⟩ : Cond) ∈ pj_tb := pj_t5 (List.mem_of_getElem? (i := 239) (by rfl)) (by rfl)
set_option maxRecDepth 5000 in
theorem cw_1280 : (.code ⟨"AlikeStepsModel", "to", "(II)I"⟩ prog_13_method_39_code 5 (some .int) : Cond) ∈ pj_tb := pj_t6 (List.mem_of_getElem? (i := 0) (by rfl)) (by rfl)
set_option maxRecDepth 5000 in
theorem cw_1281 : (.methodLink RX11 187 ⟨"AlikeStepsModel", "has", "(II)Z"⟩ : Cond) ∈ pj_tb := pj_t6 (List.mem_of_getElem? (i := 1) (by rfl)) (by rfl)
set_option maxRecDepth 5000 in
theorem cw_1282 : (.static ⟨"AlikeStepsModel", "has", "(II)Z"⟩ : Cond) ∈ pj_tb := pj_t6 (List.mem_of_getElem? (i := 2) (by rfl)) (by rfl)
set_option maxRecDepth 5000 in
theorem cw_1283 : (.code ⟨"AlikeStepsModel", "has", "(II)Z"⟩ prog_13_method_4_code 2 (some .boolean) : Cond) ∈ pj_tb := pj_t6 (List.mem_of_getElem? (i := 3) (by rfl)) (by rfl)
set_option maxRecDepth 5000 in
theorem cw_1284 : (.methodLink RX11 200 ⟨"AlikeStepsModel", "moving", "(III)I"⟩ : Cond) ∈ pj_tb := pj_t6 (List.mem_of_getElem? (i := 4) (by rfl)) (by rfl)
set_option maxRecDepth 5000 in
theorem cw_1286 : (.instanceMethod ⟨"AlikeStepsModel", "moving", "(III)I"⟩ : Cond) ∈ pj_tb := pj_t6 (List.mem_of_getElem? (i := 6) (by rfl)) (by rfl)
set_option maxRecDepth 5000 in
theorem cw_1287 : (.code ⟨"AlikeStepsModel", "moving", "(III)I"⟩ prog_13_method_41_code 4 (some .int) : Cond) ∈ pj_tb := pj_t6 (List.mem_of_getElem? (i := 7) (by rfl)) (by rfl)
set_option maxRecDepth 5000 in
theorem cw_1288 : (.methodLink RX11 191 ⟨"AlikeStepsModel", "close", "(I)I"⟩ : Cond) ∈ pj_tb := pj_t6 (List.mem_of_getElem? (i := 8) (by rfl)) (by rfl)
set_option maxRecDepth 5000 in
theorem cw_1290 : (.instanceMethod ⟨"AlikeStepsModel", "close", "(I)I"⟩ : Cond) ∈ pj_tb := pj_t6 (List.mem_of_getElem? (i := 10) (by rfl)) (by rfl)
set_option maxRecDepth 5000 in
theorem cw_1291 : (.code ⟨"AlikeStepsModel", "close", "(I)I"⟩ prog_13_method_40_code 4 (some .int) : Cond) ∈ pj_tb := pj_t6 (List.mem_of_getElem? (i := 11) (by rfl)) (by rfl)
set_option maxRecDepth 5000 in
theorem cw_1293 : (.instanceMethod ⟨"AlikeStepsModel", "block", "(II)I"⟩ : Cond) ∈ pj_tb := pj_t6 (List.mem_of_getElem? (i := 13) (by rfl)) (by rfl)
set_option maxRecDepth 5000 in
theorem cw_1294 : (.selects "AlikeStepsModel" ⟨"AlikeStepsModel", "block", "(II)I"⟩ ⟨"AlikeStepsModel", "block", "(II)I"⟩ : Cond) ∈ pj_tb := pj_t6 (List.mem_of_getElem? (i := 14) (by rfl)) (by rfl)
set_option maxRecDepth 5000 in
theorem cw_1295 : (.code ⟨"AlikeStepsModel", "block", "(II)I"⟩ prog_13_method_58_code 3 (some .int) : Cond) ∈ pj_tb := pj_t6 (List.mem_of_getElem? (i := 15) (by rfl)) (by rfl)
set_option maxRecDepth 5000 in
theorem cw_1296 : (.methodLink RX11 242 ⟨"AlikeStepsModel", "blockOf", "(II)I"⟩ : Cond) ∈ pj_tb := pj_t6 (List.mem_of_getElem? (i := 16) (by rfl)) (by rfl)
set_option maxRecDepth 5000 in
theorem cw_1298 : (.instanceMethod ⟨"AlikeStepsModel", "blockOf", "(II)I"⟩ : Cond) ∈ pj_tb := pj_t6 (List.mem_of_getElem? (i := 18) (by rfl)) (by rfl)
set_option maxRecDepth 5000 in
theorem cw_1299 : (.code ⟨"AlikeStepsModel", "blockOf", "(II)I"⟩ prog_13_method_57_code 3 (some .int) : Cond) ∈ pj_tb := pj_t6 (List.mem_of_getElem? (i := 19) (by rfl)) (by rfl)
set_option maxRecDepth 5000 in
theorem cw_1300 : (.methodLink RX11 239 ⟨"AlikeStepsModel", "partsBy", "(I)I"⟩ : Cond) ∈ pj_tb := pj_t6 (List.mem_of_getElem? (i := 20) (by rfl)) (by rfl)
set_option maxRecDepth 5000 in
theorem cw_1302 : (.instanceMethod ⟨"AlikeStepsModel", "partsBy", "(I)I"⟩ : Cond) ∈ pj_tb := pj_t6 (List.mem_of_getElem? (i := 22) (by rfl)) (by rfl)
set_option maxRecDepth 5000 in
theorem cw_1303 : (.code ⟨"AlikeStepsModel", "partsBy", "(I)I"⟩ prog_13_method_47_code 5 (some .int) : Cond) ∈ pj_tb := pj_t6 (List.mem_of_getElem? (i := 23) (by rfl)) (by rfl)
set_option maxRecDepth 5000 in
theorem cw_1304 : (.methodLink RX11 210 ⟨"AlikeStepsModel", "isMarked", "(I)Z"⟩ : Cond) ∈ pj_tb := pj_t6 (List.mem_of_getElem? (i := 24) (by rfl)) (by rfl)
set_option maxRecDepth 5000 in
theorem cw_1306 : (.instanceMethod ⟨"AlikeStepsModel", "isMarked", "(I)Z"⟩ : Cond) ∈ pj_tb := pj_t6 (List.mem_of_getElem? (i := 26) (by rfl)) (by rfl)
set_option maxRecDepth 5000 in
theorem cw_1307 : (.code ⟨"AlikeStepsModel", "isMarked", "(I)Z"⟩ prog_13_method_35_code 2 (some .boolean) : Cond) ∈ pj_tb := pj_t6 (List.mem_of_getElem? (i := 27) (by rfl)) (by rfl)
set_option maxRecDepth 5000 in
theorem cw_1308 : (.methodLink RX11 213 ⟨"AlikeStepsModel", "numbers", "(I)I"⟩ : Cond) ∈ pj_tb := pj_t6 (List.mem_of_getElem? (i := 28) (by rfl)) (by rfl)
set_option maxRecDepth 5000 in
theorem cw_1310 : (.instanceMethod ⟨"AlikeStepsModel", "numbers", "(I)I"⟩ : Cond) ∈ pj_tb := pj_t6 (List.mem_of_getElem? (i := 30) (by rfl)) (by rfl)
set_option maxRecDepth 5000 in
theorem cw_1311 : (.code ⟨"AlikeStepsModel", "numbers", "(I)I"⟩ prog_13_method_46_code 7 (some .int) : Cond) ∈ pj_tb := pj_t6 (List.mem_of_getElem? (i := 31) (by rfl)) (by rfl)
set_option maxRecDepth 5000 in
theorem cw_1312 : (.methodLink RX11 194 ⟨"AlikeStepsModel", "blockIn", "(II)I"⟩ : Cond) ∈ pj_tb := pj_t6 (List.mem_of_getElem? (i := 32) (by rfl)) (by rfl)
set_option maxRecDepth 5000 in
theorem cw_1314 : (.instanceMethod ⟨"AlikeStepsModel", "blockIn", "(II)I"⟩ : Cond) ∈ pj_tb := pj_t6 (List.mem_of_getElem? (i := 34) (by rfl)) (by rfl)
set_option maxRecDepth 5000 in
theorem cw_1315 : (.code ⟨"AlikeStepsModel", "blockIn", "(II)I"⟩ prog_13_method_42_code 3 (some .int) : Cond) ∈ pj_tb := pj_t6 (List.mem_of_getElem? (i := 35) (by rfl)) (by rfl)
set_option maxRecDepth 5000 in
theorem cw_1316 : (.methodLink RX11 219 ⟨"AlikeStepsModel", "signsOf", "(III)J"⟩ : Cond) ∈ pj_tb := pj_t6 (List.mem_of_getElem? (i := 36) (by rfl)) (by rfl)
set_option maxRecDepth 5000 in
theorem cw_1318 : (.instanceMethod ⟨"AlikeStepsModel", "signsOf", "(III)J"⟩ : Cond) ∈ pj_tb := pj_t6 (List.mem_of_getElem? (i := 38) (by rfl)) (by rfl)
set_option maxRecDepth 5000 in
theorem cw_1319 : (.code ⟨"AlikeStepsModel", "signsOf", "(III)J"⟩ prog_13_method_45_code 8 (some .long) : Cond) ∈ pj_tb := pj_t6 (List.mem_of_getElem? (i := 39) (by rfl)) (by rfl)
set_option maxRecDepth 5000 in
theorem cw_1320 : (.methodLink RX11 197 ⟨"AlikeStepsModel", "alikeIn", "(II)I"⟩ : Cond) ∈ pj_tb := pj_t6 (List.mem_of_getElem? (i := 40) (by rfl)) (by rfl)
set_option maxRecDepth 5000 in
theorem cw_1322 : (.instanceMethod ⟨"AlikeStepsModel", "alikeIn", "(II)I"⟩ : Cond) ∈ pj_tb := pj_t6 (List.mem_of_getElem? (i := 42) (by rfl)) (by rfl)
set_option maxRecDepth 5000 in
theorem cw_1323 : (.code ⟨"AlikeStepsModel", "alikeIn", "(II)I"⟩ prog_13_method_44_code 5 (some .int) : Cond) ∈ pj_tb := pj_t6 (List.mem_of_getElem? (i := 43) (by rfl)) (by rfl)
set_option maxRecDepth 5000 in
theorem cw_1324 : (.methodLink RX11 204 ⟨"AlikeStepsModel", "bitsOf", "(III)J"⟩ : Cond) ∈ pj_tb := pj_t6 (List.mem_of_getElem? (i := 44) (by rfl)) (by rfl)
set_option maxRecDepth 5000 in
theorem cw_1326 : (.instanceMethod ⟨"AlikeStepsModel", "bitsOf", "(III)J"⟩ : Cond) ∈ pj_tb := pj_t6 (List.mem_of_getElem? (i := 46) (by rfl)) (by rfl)
set_option maxRecDepth 5000 in
theorem cw_1327 : (.code ⟨"AlikeStepsModel", "bitsOf", "(III)J"⟩ prog_13_method_43_code 7 (some .long) : Cond) ∈ pj_tb := pj_t6 (List.mem_of_getElem? (i := 47) (by rfl)) (by rfl)
set_option maxRecDepth 5000 in
theorem cw_1328 : (.constantLong RX11 208 (-1) : Cond) ∈ pj_tb := pj_t6 (List.mem_of_getElem? (i := 48) (by rfl)) (by rfl)
set_option maxRecDepth 5000 in
theorem cw_1330 : (.instanceMethod ⟨"AlikeStepsModel", "parts", "(II)I"⟩ : Cond) ∈ pj_tb := pj_t6 (List.mem_of_getElem? (i := 50) (by rfl)) (by rfl)
set_option maxRecDepth 5000 in
theorem cw_1331 : (.selects "AlikeStepsModel" ⟨"AlikeStepsModel", "parts", "(II)I"⟩ ⟨"AlikeStepsModel", "parts", "(II)I"⟩ : Cond) ∈ pj_tb := pj_t6 (List.mem_of_getElem? (i := 51) (by rfl)) (by rfl)
set_option maxRecDepth 5000 in
theorem cw_1332 : (.code ⟨"AlikeStepsModel", "parts", "(II)I"⟩ prog_13_method_59_code 4 (some .int) : Cond) ∈ pj_tb := pj_t6 (List.mem_of_getElem? (i := 52) (by rfl)) (by rfl)
set_option maxRecDepth 5000 in
theorem cw_1333 : (.methodLink RX11 245 ⟨"AlikeStepsModel", "isSystem", "()Z"⟩ : Cond) ∈ pj_tb := pj_t6 (List.mem_of_getElem? (i := 53) (by rfl)) (by rfl)
set_option maxRecDepth 5000 in
theorem cw_1335 : (.instanceMethod ⟨"AlikeStepsModel", "isSystem", "()Z"⟩ : Cond) ∈ pj_tb := pj_t6 (List.mem_of_getElem? (i := 55) (by rfl)) (by rfl)
set_option maxRecDepth 5000 in
theorem cw_1336 : (.code ⟨"AlikeStepsModel", "isSystem", "()Z"⟩ prog_13_method_30_code 1 (some .boolean) : Cond) ∈ pj_tb := pj_t6 (List.mem_of_getElem? (i := 56) (by rfl)) (by rfl)
set_option maxRecDepth 5000 in
theorem cw_1338 : (.instanceMethod ⟨"AlikeStepsModel", "behind", "(III)I"⟩ : Cond) ∈ pj_tb := pj_t6 (List.mem_of_getElem? (i := 58) (by rfl)) (by rfl)
set_option maxRecDepth 5000 in
theorem cw_1339 : (.selects "AlikeStepsModel" ⟨"AlikeStepsModel", "behind", "(III)I"⟩ ⟨"AlikeStepsModel", "behind", "(III)I"⟩ : Cond) ∈ pj_tb := pj_t6 (List.mem_of_getElem? (i := 59) (by rfl)) (by rfl)
set_option maxRecDepth 5000 in
theorem cw_1340 : (.code ⟨"AlikeStepsModel", "behind", "(III)I"⟩ prog_13_method_60_code 4 (some .int) : Cond) ∈ pj_tb := pj_t6 (List.mem_of_getElem? (i := 60) (by rfl)) (by rfl)
set_option maxRecDepth 5000 in
theorem cw_1342 : (.instanceMethod ⟨"AlikeStepsModel", "signs", "(II)J"⟩ : Cond) ∈ pj_tb := pj_t6 (List.mem_of_getElem? (i := 62) (by rfl)) (by rfl)
set_option maxRecDepth 5000 in
theorem cw_1343 : (.selects "AlikeStepsModel" ⟨"AlikeStepsModel", "signs", "(II)J"⟩ ⟨"AlikeStepsModel", "signs", "(II)J"⟩ : Cond) ∈ pj_tb := pj_t6 (List.mem_of_getElem? (i := 63) (by rfl)) (by rfl)
set_option maxRecDepth 5000 in
theorem cw_1344 : (.code ⟨"AlikeStepsModel", "signs", "(II)J"⟩ prog_13_method_61_code 3 (some .long) : Cond) ∈ pj_tb := pj_t6 (List.mem_of_getElem? (i := 64) (by rfl)) (by rfl)
set_option maxRecDepth 5000 in
theorem cw_1345 : (.constantLong RX11 248 (-1000001) : Cond) ∈ pj_tb := pj_t6 (List.mem_of_getElem? (i := 65) (by rfl)) (by rfl)
set_option maxRecDepth 5000 in
theorem cw_1347 : (.instanceMethod ⟨"AlikeStepsModel", "parted", "(III)I"⟩ : Cond) ∈ pj_tb := pj_t6 (List.mem_of_getElem? (i := 67) (by rfl)) (by rfl)
set_option maxRecDepth 5000 in
theorem cw_1348 : (.selects "AlikeStepsModel" ⟨"AlikeStepsModel", "parted", "(III)I"⟩ ⟨"AlikeStepsModel", "parted", "(III)I"⟩ : Cond) ∈ pj_tb := pj_t6 (List.mem_of_getElem? (i := 68) (by rfl)) (by rfl)
set_option maxRecDepth 5000 in
theorem cw_1349 : (.code ⟨"AlikeStepsModel", "parted", "(III)I"⟩ prog_13_method_62_code 4 (some .int) : Cond) ∈ pj_tb := pj_t6 (List.mem_of_getElem? (i := 69) (by rfl)) (by rfl)
set_option maxRecDepth 5000 in
theorem cw_1350 : (.methodLink RX11 250 ⟨"AlikeStepsModel", "partedIn", "(II)I"⟩ : Cond) ∈ pj_tb := pj_t6 (List.mem_of_getElem? (i := 70) (by rfl)) (by rfl)
set_option maxRecDepth 5000 in
theorem cw_1352 : (.instanceMethod ⟨"AlikeStepsModel", "partedIn", "(II)I"⟩ : Cond) ∈ pj_tb := pj_t6 (List.mem_of_getElem? (i := 72) (by rfl)) (by rfl)
set_option maxRecDepth 5000 in
theorem cw_1353 : (.code ⟨"AlikeStepsModel", "partedIn", "(II)I"⟩ prog_13_method_48_code 4 (some .int) : Cond) ∈ pj_tb := pj_t6 (List.mem_of_getElem? (i := 73) (by rfl)) (by rfl)
set_option maxRecDepth 5000 in
theorem cw_1355 : (.instanceMethod ⟨"AlikeStepsModel", "tells", "(IIII)I"⟩ : Cond) ∈ pj_tb := pj_t6 (List.mem_of_getElem? (i := 75) (by rfl)) (by rfl)
set_option maxRecDepth 5000 in
theorem cw_1356 : (.selects "AlikeStepsModel" ⟨"AlikeStepsModel", "tells", "(IIII)I"⟩ ⟨"AlikeStepsModel", "tells", "(IIII)I"⟩ : Cond) ∈ pj_tb := pj_t6 (List.mem_of_getElem? (i := 76) (by rfl)) (by rfl)
set_option maxRecDepth 5000 in
theorem cw_1357 : (.code ⟨"AlikeStepsModel", "tells", "(IIII)I"⟩ prog_13_method_68_code 6 (some .int) : Cond) ∈ pj_tb := pj_t6 (List.mem_of_getElem? (i := 77) (by rfl)) (by rfl)
set_option maxRecDepth 5000 in
theorem cw_1358 : (.methodLink RX11 263 ⟨"AlikeStepsModel", "isAsked", "(III)Z"⟩ : Cond) ∈ pj_tb := pj_t6 (List.mem_of_getElem? (i := 78) (by rfl)) (by rfl)
set_option maxRecDepth 5000 in
theorem cw_1360 : (.instanceMethod ⟨"AlikeStepsModel", "isAsked", "(III)Z"⟩ : Cond) ∈ pj_tb := pj_t6 (List.mem_of_getElem? (i := 80) (by rfl)) (by rfl)
set_option maxRecDepth 5000 in
theorem cw_1361 : (.code ⟨"AlikeStepsModel", "isAsked", "(III)Z"⟩ prog_13_method_67_code 4 (some .boolean) : Cond) ∈ pj_tb := pj_t6 (List.mem_of_getElem? (i := 81) (by rfl)) (by rfl)
set_option maxRecDepth 5000 in
theorem cw_1362 : (.methodLink RX11 266 ⟨"AlikeStepsModel", "tellsAll", "(I)V"⟩ : Cond) ∈ pj_tb := pj_t6 (List.mem_of_getElem? (i := 82) (by rfl)) (by rfl)
set_option maxRecDepth 5000 in
theorem cw_1364 : (.instanceMethod ⟨"AlikeStepsModel", "tellsAll", "(I)V"⟩ : Cond) ∈ pj_tb := pj_t6 (List.mem_of_getElem? (i := 84) (by rfl)) (by rfl)
set_option maxRecDepth 5000 in
theorem cw_1365 : (.code ⟨"AlikeStepsModel", "tellsAll", "(I)V"⟩ prog_13_method_65_code 7 none : Cond) ∈ pj_tb := pj_t6 (List.mem_of_getElem? (i := 85) (by rfl)) (by rfl)
set_option maxRecDepth 5000 in
theorem cw_1366 : (.methodLink RX11 253 ⟨"AlikeStepsModel", "opens", "(IIII)V"⟩ : Cond) ∈ pj_tb := pj_t6 (List.mem_of_getElem? (i := 86) (by rfl)) (by rfl)
set_option maxRecDepth 5000 in
theorem cw_1368 : (.instanceMethod ⟨"AlikeStepsModel", "opens", "(IIII)V"⟩ : Cond) ∈ pj_tb := pj_t6 (List.mem_of_getElem? (i := 88) (by rfl)) (by rfl)
set_option maxRecDepth 5000 in
theorem cw_1369 : (.code ⟨"AlikeStepsModel", "opens", "(IIII)V"⟩ prog_13_method_63_code 13 none : Cond) ∈ pj_tb := pj_t6 (List.mem_of_getElem? (i := 89) (by rfl)) (by rfl)
set_option maxRecDepth 5000 in
theorem cw_1370 : (.methodLink RX11 257 ⟨"AlikeStepsModel", "sums", "(III)V"⟩ : Cond) ∈ pj_tb := pj_t6 (List.mem_of_getElem? (i := 90) (by rfl)) (by rfl)
set_option maxRecDepth 5000 in
theorem cw_1372 : (.instanceMethod ⟨"AlikeStepsModel", "sums", "(III)V"⟩ : Cond) ∈ pj_tb := pj_t6 (List.mem_of_getElem? (i := 92) (by rfl)) (by rfl)
set_option maxRecDepth 5000 in
theorem cw_1373 : (.code ⟨"AlikeStepsModel", "sums", "(III)V"⟩ prog_13_method_64_code 10 none : Cond) ∈ pj_tb := pj_t6 (List.mem_of_getElem? (i := 93) (by rfl)) (by rfl)
set_option maxRecDepth 5000 in
theorem cw_1374 : (.methodLink RX11 270 ⟨"AlikeStepsModel", "codeAt", "(IIII)I"⟩ : Cond) ∈ pj_tb := pj_t6 (List.mem_of_getElem? (i := 94) (by rfl)) (by rfl)
set_option maxRecDepth 5000 in
theorem cw_1376 : (.instanceMethod ⟨"AlikeStepsModel", "codeAt", "(IIII)I"⟩ : Cond) ∈ pj_tb := pj_t6 (List.mem_of_getElem? (i := 96) (by rfl)) (by rfl)
set_option maxRecDepth 5000 in
theorem cw_1377 : (.code ⟨"AlikeStepsModel", "codeAt", "(IIII)I"⟩ prog_13_method_66_code 11 (some .int) : Cond) ∈ pj_tb := pj_t6 (List.mem_of_getElem? (i := 97) (by rfl)) (by rfl)
set_option maxRecDepth 5000 in
theorem cw_1378 : (.methodLink RX11 260 ⟨"AlikeStepsModel", "sizeOf", "(I)I"⟩ : Cond) ∈ pj_tb := pj_t6 (List.mem_of_getElem? (i := 98) (by rfl)) (by rfl)
set_option maxRecDepth 5000 in
theorem cw_1379 : (.static ⟨"AlikeStepsModel", "sizeOf", "(I)I"⟩ : Cond) ∈ pj_tb := pj_t6 (List.mem_of_getElem? (i := 99) (by rfl)) (by rfl)
set_option maxRecDepth 5000 in
theorem cw_1380 : (.code ⟨"AlikeStepsModel", "sizeOf", "(I)I"⟩ prog_13_method_5_code 3 (some .int) : Cond) ∈ pj_tb := pj_t6 (List.mem_of_getElem? (i := 100) (by rfl)) (by rfl)
set_option maxRecDepth 5000 in
theorem cw_1382 : (.instanceMethod ⟨"AlikeStepsModel", "depth", "(III)I"⟩ : Cond) ∈ pj_tb := pj_t6 (List.mem_of_getElem? (i := 102) (by rfl)) (by rfl)
set_option maxRecDepth 5000 in
theorem cw_1383 : (.selects "AlikeStepsModel" ⟨"AlikeStepsModel", "depth", "(III)I"⟩ ⟨"AlikeStepsModel", "depth", "(III)I"⟩ : Cond) ∈ pj_tb := pj_t6 (List.mem_of_getElem? (i := 103) (by rfl)) (by rfl)
set_option maxRecDepth 5000 in
theorem cw_1384 : (.code ⟨"AlikeStepsModel", "depth", "(III)I"⟩ prog_13_method_69_code 4 (some .int) : Cond) ∈ pj_tb := pj_t6 (List.mem_of_getElem? (i := 104) (by rfl)) (by rfl)
set_option maxRecDepth 5000 in
theorem cw_1386 : (.instanceMethod ⟨"AlikeStepsModel", "holds", "(IIII)I"⟩ : Cond) ∈ pj_tb := pj_t6 (List.mem_of_getElem? (i := 106) (by rfl)) (by rfl)
set_option maxRecDepth 5000 in
theorem cw_1387 : (.selects "AlikeStepsModel" ⟨"AlikeStepsModel", "holds", "(IIII)I"⟩ ⟨"AlikeStepsModel", "holds", "(IIII)I"⟩ : Cond) ∈ pj_tb := pj_t6 (List.mem_of_getElem? (i := 107) (by rfl)) (by rfl)
set_option maxRecDepth 5000 in
theorem cw_1388 : (.code ⟨"AlikeStepsModel", "holds", "(IIII)I"⟩ prog_13_method_71_code 12 (some .int) : Cond) ∈ pj_tb := pj_t6 (List.mem_of_getElem? (i := 108) (by rfl)) (by rfl)
set_option maxRecDepth 5000 in
theorem cw_1389 : (.methodLink RX11 274 ⟨"AlikeStepsModel", "movingInto", "(III)I"⟩ : Cond) ∈ pj_tb := pj_t6 (List.mem_of_getElem? (i := 109) (by rfl)) (by rfl)
set_option maxRecDepth 5000 in
theorem cw_1391 : (.instanceMethod ⟨"AlikeStepsModel", "movingInto", "(III)I"⟩ : Cond) ∈ pj_tb := pj_t6 (List.mem_of_getElem? (i := 111) (by rfl)) (by rfl)
set_option maxRecDepth 5000 in
theorem cw_1392 : (.code ⟨"AlikeStepsModel", "movingInto", "(III)I"⟩ prog_13_method_70_code 6 (some .int) : Cond) ∈ pj_tb := pj_t6 (List.mem_of_getElem? (i := 112) (by rfl)) (by rfl)
set_option maxRecDepth 5000 in
theorem cw_1394 : (.instanceMethod ⟨"AlikeStepsModel", "small", "(III)I"⟩ : Cond) ∈ pj_tb := pj_t6 (List.mem_of_getElem? (i := 114) (by rfl)) (by rfl)
set_option maxRecDepth 5000 in
theorem cw_1395 : (.selects "AlikeStepsModel" ⟨"AlikeStepsModel", "small", "(III)I"⟩ ⟨"AlikeStepsModel", "small", "(III)I"⟩ : Cond) ∈ pj_tb := pj_t6 (List.mem_of_getElem? (i := 115) (by rfl)) (by rfl)
set_option maxRecDepth 5000 in
theorem cw_1396 : (.code ⟨"AlikeStepsModel", "small", "(III)I"⟩ prog_13_method_73_code 5 (some .int) : Cond) ∈ pj_tb := pj_t6 (List.mem_of_getElem? (i := 116) (by rfl)) (by rfl)
set_option maxRecDepth 5000 in
theorem cw_1397 : (.methodLink RX11 277 ⟨"AlikeStepsModel", "smallOf", "(III)I"⟩ : Cond) ∈ pj_tb := pj_t6 (List.mem_of_getElem? (i := 117) (by rfl)) (by rfl)
set_option maxRecDepth 5000 in
theorem cw_1399 : (.instanceMethod ⟨"AlikeStepsModel", "smallOf", "(III)I"⟩ : Cond) ∈ pj_tb := pj_t6 (List.mem_of_getElem? (i := 119) (by rfl)) (by rfl)
set_option maxRecDepth 5000 in
theorem cw_1400 : (.code ⟨"AlikeStepsModel", "smallOf", "(III)I"⟩ prog_13_method_72_code 9 (some .int) : Cond) ∈ pj_tb := pj_t6 (List.mem_of_getElem? (i := 120) (by rfl)) (by rfl)
set_option maxRecDepth 5000 in
theorem cw_1402 : (.instanceMethod ⟨"AlikeStepsModel", "arcs", "(I)I"⟩ : Cond) ∈ pj_tb := pj_t6 (List.mem_of_getElem? (i := 122) (by rfl)) (by rfl)
set_option maxRecDepth 5000 in
theorem cw_1403 : (.selects "AlikeStepsModel" ⟨"AlikeStepsModel", "arcs", "(I)I"⟩ ⟨"AlikeStepsModel", "arcs", "(I)I"⟩ : Cond) ∈ pj_tb := pj_t6 (List.mem_of_getElem? (i := 123) (by rfl)) (by rfl)
set_option maxRecDepth 5000 in
theorem cw_1404 : (.code ⟨"AlikeStepsModel", "arcs", "(I)I"⟩ prog_13_method_74_code 6 (some .int) : Cond) ∈ pj_tb := pj_t6 (List.mem_of_getElem? (i := 124) (by rfl)) (by rfl)
set_option maxRecDepth 5000 in
theorem cw_1406 : (.instanceMethod ⟨"AlikeStepsModel", "words", "(II)I"⟩ : Cond) ∈ pj_tb := pj_t6 (List.mem_of_getElem? (i := 126) (by rfl)) (by rfl)
set_option maxRecDepth 5000 in
theorem cw_1407 : (.selects "AlikeStepsModel" ⟨"AlikeStepsModel", "words", "(II)I"⟩ ⟨"AlikeStepsModel", "words", "(II)I"⟩ : Cond) ∈ pj_tb := pj_t6 (List.mem_of_getElem? (i := 127) (by rfl)) (by rfl)
set_option maxRecDepth 5000 in
theorem cw_1408 : (.code ⟨"AlikeStepsModel", "words", "(II)I"⟩ prog_13_method_75_code 9 (some .int) : Cond) ∈ pj_tb := pj_t6 (List.mem_of_getElem? (i := 128) (by rfl)) (by rfl)
set_option maxRecDepth 5000 in
theorem cw_1410 : (.instanceMethod ⟨"AlikeStepsModel", "walk", "(III)I"⟩ : Cond) ∈ pj_tb := pj_t6 (List.mem_of_getElem? (i := 130) (by rfl)) (by rfl)
set_option maxRecDepth 5000 in
theorem cw_1411 : (.selects "AlikeStepsModel" ⟨"AlikeStepsModel", "walk", "(III)I"⟩ ⟨"AlikeStepsModel", "walk", "(III)I"⟩ : Cond) ∈ pj_tb := pj_t6 (List.mem_of_getElem? (i := 131) (by rfl)) (by rfl)
set_option maxRecDepth 5000 in
theorem cw_1412 : (.code ⟨"AlikeStepsModel", "walk", "(III)I"⟩ prog_13_method_79_code 9 (some .int) : Cond) ∈ pj_tb := pj_t6 (List.mem_of_getElem? (i := 132) (by rfl)) (by rfl)
set_option maxRecDepth 5000 in
theorem cw_1413 : (.constant RX11 283 (999999) : Cond) ∈ pj_tb := pj_t6 (List.mem_of_getElem? (i := 133) (by rfl)) (by rfl)
set_option maxRecDepth 5000 in
theorem cw_1414 : (.constantLong RX11 284 (16807) : Cond) ∈ pj_tb := pj_t6 (List.mem_of_getElem? (i := 134) (by rfl)) (by rfl)
set_option maxRecDepth 5000 in
theorem cw_1415 : (.constantLong RX11 286 (2147483647) : Cond) ∈ pj_tb := pj_t6 (List.mem_of_getElem? (i := 135) (by rfl)) (by rfl)
set_option maxRecDepth 5000 in
theorem cw_1416 : (.methodLink RX11 280 ⟨"AlikeStepsModel", "pairsOf", "(I)I"⟩ : Cond) ∈ pj_tb := pj_t6 (List.mem_of_getElem? (i := 136) (by rfl)) (by rfl)
set_option maxRecDepth 5000 in
theorem cw_1418 : (.instanceMethod ⟨"AlikeStepsModel", "pairsOf", "(I)I"⟩ : Cond) ∈ pj_tb := pj_t6 (List.mem_of_getElem? (i := 138) (by rfl)) (by rfl)
set_option maxRecDepth 5000 in
theorem cw_1419 : (.code ⟨"AlikeStepsModel", "pairsOf", "(I)I"⟩ prog_13_method_77_code 4 (some .int) : Cond) ∈ pj_tb := pj_t6 (List.mem_of_getElem? (i := 139) (by rfl)) (by rfl)
set_option maxRecDepth 5000 in
theorem cw_1420 : (.methodLink RX11 288 ⟨"AlikeStepsModel", "pairAt", "(II)I"⟩ : Cond) ∈ pj_tb := pj_t6 (List.mem_of_getElem? (i := 140) (by rfl)) (by rfl)
set_option maxRecDepth 5000 in
theorem cw_1422 : (.instanceMethod ⟨"AlikeStepsModel", "pairAt", "(II)I"⟩ : Cond) ∈ pj_tb := pj_t6 (List.mem_of_getElem? (i := 142) (by rfl)) (by rfl)
set_option maxRecDepth 5000 in
theorem cw_1423 : (.code ⟨"AlikeStepsModel", "pairAt", "(II)I"⟩ prog_13_method_78_code 6 (some .int) : Cond) ∈ pj_tb := pj_t6 (List.mem_of_getElem? (i := 143) (by rfl)) (by rfl)
set_option maxRecDepth 5000 in
theorem cw_1425 : (.instanceMethod ⟨"AlikeStepsModel", "fits", "(IIII)I"⟩ : Cond) ∈ pj_tb := pj_t6 (List.mem_of_getElem? (i := 145) (by rfl)) (by rfl)
set_option maxRecDepth 5000 in
theorem cw_1426 : (.selects "AlikeStepsModel" ⟨"AlikeStepsModel", "fits", "(IIII)I"⟩ ⟨"AlikeStepsModel", "fits", "(IIII)I"⟩ : Cond) ∈ pj_tb := pj_t6 (List.mem_of_getElem? (i := 146) (by rfl)) (by rfl)
set_option maxRecDepth 5000 in
theorem cw_1427 : (.code ⟨"AlikeStepsModel", "fits", "(IIII)I"⟩ prog_13_method_80_code 9 (some .int) : Cond) ∈ pj_tb := pj_t6 (List.mem_of_getElem? (i := 147) (by rfl)) (by rfl)
set_option maxRecDepth 5000 in
theorem cw_1429 : (.instanceMethod ⟨"AlikeStepsModel", "image", "(I)I"⟩ : Cond) ∈ pj_tb := pj_t6 (List.mem_of_getElem? (i := 149) (by rfl)) (by rfl)
set_option maxRecDepth 5000 in
theorem cw_1430 : (.selects "AlikeStepsModel" ⟨"AlikeStepsModel", "image", "(I)I"⟩ ⟨"AlikeStepsModel", "image", "(I)I"⟩ : Cond) ∈ pj_tb := pj_t6 (List.mem_of_getElem? (i := 150) (by rfl)) (by rfl)
set_option maxRecDepth 5000 in
theorem cw_1431 : (.code ⟨"AlikeStepsModel", "image", "(I)I"⟩ prog_13_method_81_code 2 (some .int) : Cond) ∈ pj_tb := pj_t6 (List.mem_of_getElem? (i := 151) (by rfl)) (by rfl)
set_option maxRecDepth 5000 in
theorem cw_1433 : (.instanceMethod ⟨"AlikeStepsModel", "restore", "(I)I"⟩ : Cond) ∈ pj_tb := pj_t6 (List.mem_of_getElem? (i := 153) (by rfl)) (by rfl)
set_option maxRecDepth 5000 in
theorem cw_1434 : (.selects "AlikeStepsModel" ⟨"AlikeStepsModel", "restore", "(I)I"⟩ ⟨"AlikeStepsModel", "restore", "(I)I"⟩ : Cond) ∈ pj_tb := pj_t6 (List.mem_of_getElem? (i := 154) (by rfl)) (by rfl)
set_option maxRecDepth 5000 in
theorem cw_1435 : (.code ⟨"AlikeStepsModel", "restore", "(I)I"⟩ prog_13_method_82_code 2 (some .int) : Cond) ∈ pj_tb := pj_t6 (List.mem_of_getElem? (i := 155) (by rfl)) (by rfl)
set_option maxRecDepth 5000 in
theorem cw_1437 : (.instanceMethod ⟨"AlikeStepsModel", "kind", "(I)I"⟩ : Cond) ∈ pj_tb := pj_t6 (List.mem_of_getElem? (i := 157) (by rfl)) (by rfl)
set_option maxRecDepth 5000 in
theorem cw_1438 : (.selects "AlikeStepsModel" ⟨"AlikeStepsModel", "kind", "(I)I"⟩ ⟨"AlikeStepsModel", "kind", "(I)I"⟩ : Cond) ∈ pj_tb := pj_t6 (List.mem_of_getElem? (i := 158) (by rfl)) (by rfl)
set_option maxRecDepth 5000 in
theorem cw_1439 : (.code ⟨"AlikeStepsModel", "kind", "(I)I"⟩ prog_13_method_84_code 2 (some .int) : Cond) ∈ pj_tb := pj_t6 (List.mem_of_getElem? (i := 159) (by rfl)) (by rfl)
set_option maxRecDepth 5000 in
theorem cw_1440 : (.methodLink RX11 291 ⟨"AlikeStepsModel", "kindIn", "(I)I"⟩ : Cond) ∈ pj_tb := pj_t6 (List.mem_of_getElem? (i := 160) (by rfl)) (by rfl)
set_option maxRecDepth 5000 in
theorem cw_1442 : (.instanceMethod ⟨"AlikeStepsModel", "kindIn", "(I)I"⟩ : Cond) ∈ pj_tb := pj_t6 (List.mem_of_getElem? (i := 162) (by rfl)) (by rfl)
set_option maxRecDepth 5000 in
theorem cw_1443 : (.code ⟨"AlikeStepsModel", "kindIn", "(I)I"⟩ prog_13_method_83_code 2 (some .int) : Cond) ∈ pj_tb := pj_t6 (List.mem_of_getElem? (i := 163) (by rfl)) (by rfl)
set_option maxRecDepth 5000 in
theorem cw_1445 : (.instanceMethod ⟨"AlikeStepsModel", "as", "(II)I"⟩ : Cond) ∈ pj_tb := pj_t6 (List.mem_of_getElem? (i := 165) (by rfl)) (by rfl)
set_option maxRecDepth 5000 in
theorem cw_1446 : (.selects "AlikeStepsModel" ⟨"AlikeStepsModel", "as", "(II)I"⟩ ⟨"AlikeStepsModel", "as", "(II)I"⟩ : Cond) ∈ pj_tb := pj_t6 (List.mem_of_getElem? (i := 166) (by rfl)) (by rfl)
set_option maxRecDepth 5000 in
theorem cw_1447 : (.code ⟨"AlikeStepsModel", "as", "(II)I"⟩ prog_13_method_85_code 5 (some .int) : Cond) ∈ pj_tb := pj_t6 (List.mem_of_getElem? (i := 167) (by rfl)) (by rfl)
set_option maxRecDepth 5000 in
theorem cw_1449 : (.instanceMethod ⟨"AlikeStepsModel", "ask", "(II)I"⟩ : Cond) ∈ pj_tb := pj_t6 (List.mem_of_getElem? (i := 169) (by rfl)) (by rfl)
set_option maxRecDepth 5000 in
theorem cw_1450 : (.selects "AlikeStepsModel" ⟨"AlikeStepsModel", "ask", "(II)I"⟩ ⟨"AlikeStepsModel", "ask", "(II)I"⟩ : Cond) ∈ pj_tb := pj_t6 (List.mem_of_getElem? (i := 170) (by rfl)) (by rfl)
set_option maxRecDepth 5000 in
theorem cw_1451 : (.code ⟨"AlikeStepsModel", "ask", "(II)I"⟩ prog_13_method_91_code 4 (some .int) : Cond) ∈ pj_tb := pj_t6 (List.mem_of_getElem? (i := 171) (by rfl)) (by rfl)
set_option maxRecDepth 5000 in
theorem cw_1452 : (.methodLink RX11 306 ⟨"AlikeStepsModel", "doorSize", "(I)I"⟩ : Cond) ∈ pj_tb := pj_t6 (List.mem_of_getElem? (i := 172) (by rfl)) (by rfl)
set_option maxRecDepth 5000 in
theorem cw_1454 : (.instanceMethod ⟨"AlikeStepsModel", "doorSize", "(I)I"⟩ : Cond) ∈ pj_tb := pj_t6 (List.mem_of_getElem? (i := 174) (by rfl)) (by rfl)
set_option maxRecDepth 5000 in
theorem cw_1455 : (.code ⟨"AlikeStepsModel", "doorSize", "(I)I"⟩ prog_13_method_88_code 4 (some .int) : Cond) ∈ pj_tb := pj_t6 (List.mem_of_getElem? (i := 175) (by rfl)) (by rfl)
set_option maxRecDepth 5000 in
theorem cw_1456 : (.methodLink RX11 297 ⟨"AlikeStepsModel", "traces", "(I)V"⟩ : Cond) ∈ pj_tb := pj_t6 (List.mem_of_getElem? (i := 176) (by rfl)) (by rfl)
set_option maxRecDepth 5000 in
theorem cw_1458 : (.instanceMethod ⟨"AlikeStepsModel", "traces", "(I)V"⟩ : Cond) ∈ pj_tb := pj_t6 (List.mem_of_getElem? (i := 178) (by rfl)) (by rfl)
set_option maxRecDepth 5000 in
theorem cw_1459 : (.code ⟨"AlikeStepsModel", "traces", "(I)V"⟩ prog_13_method_86_code 2 none : Cond) ∈ pj_tb := pj_t6 (List.mem_of_getElem? (i := 179) (by rfl)) (by rfl)
set_option maxRecDepth 5000 in
theorem cw_1460 : (.methodLink RX11 300 ⟨"AlikeStepsModel", "pairs", "(I)I"⟩ : Cond) ∈ pj_tb := pj_t6 (List.mem_of_getElem? (i := 180) (by rfl)) (by rfl)
set_option maxRecDepth 5000 in
theorem cw_1462 : (.instanceMethod ⟨"AlikeStepsModel", "pairs", "(I)I"⟩ : Cond) ∈ pj_tb := pj_t6 (List.mem_of_getElem? (i := 182) (by rfl)) (by rfl)
set_option maxRecDepth 5000 in
theorem cw_1463 : (.code ⟨"AlikeStepsModel", "pairs", "(I)I"⟩ prog_13_method_76_code 2 (some .int) : Cond) ∈ pj_tb := pj_t6 (List.mem_of_getElem? (i := 183) (by rfl)) (by rfl)
set_option maxRecDepth 5000 in
theorem cw_1464 : (.methodLink RX11 309 ⟨"AlikeStepsModel", "placeSize", "(I)I"⟩ : Cond) ∈ pj_tb := pj_t6 (List.mem_of_getElem? (i := 184) (by rfl)) (by rfl)
set_option maxRecDepth 5000 in
theorem cw_1466 : (.instanceMethod ⟨"AlikeStepsModel", "placeSize", "(I)I"⟩ : Cond) ∈ pj_tb := pj_t6 (List.mem_of_getElem? (i := 186) (by rfl)) (by rfl)
set_option maxRecDepth 5000 in
theorem cw_1467 : (.code ⟨"AlikeStepsModel", "placeSize", "(I)I"⟩ prog_13_method_89_code 4 (some .int) : Cond) ∈ pj_tb := pj_t6 (List.mem_of_getElem? (i := 187) (by rfl)) (by rfl)
set_option maxRecDepth 5000 in
theorem cw_1468 : (.methodLink RX11 303 ⟨"AlikeStepsModel", "placeMark", "(I)I"⟩ : Cond) ∈ pj_tb := pj_t6 (List.mem_of_getElem? (i := 188) (by rfl)) (by rfl)
set_option maxRecDepth 5000 in
theorem cw_1470 : (.instanceMethod ⟨"AlikeStepsModel", "placeMark", "(I)I"⟩ : Cond) ∈ pj_tb := pj_t6 (List.mem_of_getElem? (i := 190) (by rfl)) (by rfl)
set_option maxRecDepth 5000 in
theorem cw_1471 : (.code ⟨"AlikeStepsModel", "placeMark", "(I)I"⟩ prog_13_method_87_code 4 (some .int) : Cond) ∈ pj_tb := pj_t6 (List.mem_of_getElem? (i := 191) (by rfl)) (by rfl)
set_option maxRecDepth 5000 in
theorem cw_1472 : (.methodLink RX11 312 ⟨"AlikeStepsModel", "doorMark", "(I)I"⟩ : Cond) ∈ pj_tb := pj_t6 (List.mem_of_getElem? (i := 192) (by rfl)) (by rfl)
set_option maxRecDepth 5000 in
theorem cw_1474 : (.instanceMethod ⟨"AlikeStepsModel", "doorMark", "(I)I"⟩ : Cond) ∈ pj_tb := pj_t6 (List.mem_of_getElem? (i := 194) (by rfl)) (by rfl)
set_option maxRecDepth 5000 in
theorem cw_1475 : (.code ⟨"AlikeStepsModel", "doorMark", "(I)I"⟩ prog_13_method_90_code 2 (some .int) : Cond) ∈ pj_tb := pj_t6 (List.mem_of_getElem? (i := 195) (by rfl)) (by rfl)
set_option maxRecDepth 5000 in
theorem cw_1477 : (.instanceMethod ⟨"AlikeStepsModel", "trace", "(I)I"⟩ : Cond) ∈ pj_tb := pj_t6 (List.mem_of_getElem? (i := 197) (by rfl)) (by rfl)
set_option maxRecDepth 5000 in
theorem cw_1478 : (.selects "AlikeStepsModel" ⟨"AlikeStepsModel", "trace", "(I)I"⟩ ⟨"AlikeStepsModel", "trace", "(I)I"⟩ : Cond) ∈ pj_tb := pj_t6 (List.mem_of_getElem? (i := 198) (by rfl)) (by rfl)
set_option maxRecDepth 5000 in
theorem cw_1479 : (.code ⟨"AlikeStepsModel", "trace", "(I)I"⟩ prog_13_method_92_code 2 (some .int) : Cond) ∈ pj_tb := pj_t6 (List.mem_of_getElem? (i := 199) (by rfl)) (by rfl)
set_option maxRecDepth 5000 in
theorem cw_1481 : (.instanceMethod ⟨"AlikeStepsModel", "count", "(I)I"⟩ : Cond) ∈ pj_tb := pj_t6 (List.mem_of_getElem? (i := 201) (by rfl)) (by rfl)
set_option maxRecDepth 5000 in
theorem cw_1482 : (.selects "AlikeStepsModel" ⟨"AlikeStepsModel", "count", "(I)I"⟩ ⟨"AlikeStepsModel", "count", "(I)I"⟩ : Cond) ∈ pj_tb := pj_t6 (List.mem_of_getElem? (i := 202) (by rfl)) (by rfl)
set_option maxRecDepth 5000 in
theorem cw_1483 : (.code ⟨"AlikeStepsModel", "count", "(I)I"⟩ prog_13_method_93_code 4 (some .int) : Cond) ∈ pj_tb := pj_t6 (List.mem_of_getElem? (i := 203) (by rfl)) (by rfl)
set_option maxRecDepth 5000 in
theorem cw_1485 : (.instanceMethod ⟨"AlikeStepsModel", "status", "()I"⟩ : Cond) ∈ pj_tb := pj_t6 (List.mem_of_getElem? (i := 205) (by rfl)) (by rfl)
set_option maxRecDepth 5000 in
theorem cw_1486 : (.selects "AlikeStepsModel" ⟨"AlikeStepsModel", "status", "()I"⟩ ⟨"AlikeStepsModel", "status", "()I"⟩ : Cond) ∈ pj_tb := pj_t6 (List.mem_of_getElem? (i := 206) (by rfl)) (by rfl)
set_option maxRecDepth 5000 in
theorem cw_1487 : (.code ⟨"AlikeStepsModel", "status", "()I"⟩ prog_13_method_94_code 1 (some .int) : Cond) ∈ pj_tb := pj_t6 (List.mem_of_getElem? (i := 207) (by rfl)) (by rfl)
theorem vcX0 : vwCl[0]? = some (RX0, TX0, 2) := rfl
theorem vcX1 : vwCl[1]? = some (RX1, TX1, 2) := rfl
theorem vcX2 : vwCl[2]? = some (RX2, TX2, 6) := rfl
theorem vcX3 : vwCl[3]? = some (RX3, TX3, 8) := rfl
theorem vcX4 : vwCl[4]? = some (RX4, TX4, 5) := rfl
theorem vcX5 : vwCl[5]? = some (RX5, TX5, 7) := rfl
theorem vcX6 : vwCl[6]? = some (RX6, TX6, 3) := rfl
theorem vcX7 : vwCl[7]? = some (RX7, TX7, 3) := rfl
theorem vcX8 : vwCl[8]? = some (RX8, TX8, 3) := rfl
theorem vcX9 : vwCl[9]? = some (RX9, TX9, 5) := rfl
theorem vcX10 : vwCl[10]? = some (RX10, TX10, 14) := rfl
theorem vcX11 : vwCl[11]? = some (RX11, TX11, 33) := rfl
abbrev pj_P : Type := Program × Launch × Env × Room
abbrev pj_U : Type := State × MethodId × Array Value × List Frame × Method × Code
abbrev pj_Z : Type := Nat × Nat × (State → Prop)
theorem cwm_max : Cond.code Lib.Math.max.name Lib.Math.max.code 2 (some .int) ∈ pj_tb := pj_mem 714 (by decide +kernel) rfl
theorem cwm_min : Cond.code Lib.Math.min.name Lib.Math.min.code 2 (some .int) ∈ pj_tb := pj_mem 757 (by decide +kernel) rfl
theorem cwm_lmin : Cond.code Lib.MathLoose.min_long.x Lib.MathLoose.min_long.code 4 (some .long) ∈ pj_tb := pj_mem 819 (by decide +kernel) rfl
end
