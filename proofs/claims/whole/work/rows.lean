section
-- ===== PART A: goes FIRST, ahead of the names: the tables' words, and 'selects' of the private methods out of them =====
/-- a private method of a class that the tables say can be made, by its rows of tables_1 -/
def lw_okq (q : MethodName × Nat) : Prop := (q.1.cls ≠ "java/lang/invoke/MethodHandle" ∧ q.1.cls ≠ "java/lang/invoke/VarHandle") ∧ Cond.instantiable q.1.cls q.2 ∈ tables_1 ∧ Cond.privateMethod q.1 ∈ tables_1 ∧ Cond.instanceMethod q.1 ∈ tables_1
theorem lw_p0 : lw_okq (⟨"AlikeSteps", "found", "(I)I"⟩, 14) := ⟨⟨by decide +kernel, by decide +kernel⟩, List.mem_of_getElem? (i := 17) (by decide +kernel), List.mem_of_getElem? (i := 286) (by decide +kernel), List.mem_of_getElem? (i := 287) (by decide +kernel)⟩
theorem lw_p1 : lw_okq (⟨"AlikeSteps", "fine", "(I)I"⟩, 14) := ⟨⟨by decide +kernel, by decide +kernel⟩, List.mem_of_getElem? (i := 17) (by decide +kernel), List.mem_of_getElem? (i := 295) (by decide +kernel), List.mem_of_getElem? (i := 296) (by decide +kernel)⟩
theorem lw_p2 : lw_okq (⟨"AlikeSteps$Tape", "readStates", "(LAlikeSteps$Net;)I"⟩, 3) := ⟨⟨by decide +kernel, by decide +kernel⟩, List.mem_of_getElem? (i := 42) (by decide +kernel), List.mem_of_getElem? (i := 371) (by decide +kernel), List.mem_of_getElem? (i := 372) (by decide +kernel)⟩
theorem lw_p3 : lw_okq (⟨"AlikeSteps$Tape", "next", "()I"⟩, 3) := ⟨⟨by decide +kernel, by decide +kernel⟩, List.mem_of_getElem? (i := 42) (by decide +kernel), List.mem_of_getElem? (i := 375) (by decide +kernel), List.mem_of_getElem? (i := 376) (by decide +kernel)⟩
theorem lw_p4 : lw_okq (⟨"AlikeSteps$Tape", "passes", "(C)Z"⟩, 3) := ⟨⟨by decide +kernel, by decide +kernel⟩, List.mem_of_getElem? (i := 42) (by decide +kernel), List.mem_of_getElem? (i := 382) (by decide +kernel), List.mem_of_getElem? (i := 383) (by decide +kernel)⟩
theorem lw_p5 : lw_okq (⟨"AlikeSteps$Tape", "readArcs", "(LAlikeSteps$Net;)I"⟩, 3) := ⟨⟨by decide +kernel, by decide +kernel⟩, List.mem_of_getElem? (i := 42) (by decide +kernel), List.mem_of_getElem? (i := 390) (by decide +kernel), List.mem_of_getElem? (i := 391) (by decide +kernel)⟩
theorem lw_p6 : lw_okq (⟨"AlikeSteps$Tape", "readEnds", "(LAlikeSteps$Net;I)I"⟩, 3) := ⟨⟨by decide +kernel, by decide +kernel⟩, List.mem_of_getElem? (i := 42) (by decide +kernel), List.mem_of_getElem? (i := 397) (by decide +kernel), List.mem_of_getElem? (i := 398) (by decide +kernel)⟩
theorem lw_p7 : lw_okq (⟨"AlikeSteps$Tape", "readNumber", "(LAlikeSteps$Net;)I"⟩, 3) := ⟨⟨by decide +kernel, by decide +kernel⟩, List.mem_of_getElem? (i := 42) (by decide +kernel), List.mem_of_getElem? (i := 401) (by decide +kernel), List.mem_of_getElem? (i := 402) (by decide +kernel)⟩
theorem lw_p8 : lw_okq (⟨"AlikeSteps$Tape", "isFigure", "(I)Z"⟩, 3) := ⟨⟨by decide +kernel, by decide +kernel⟩, List.mem_of_getElem? (i := 42) (by decide +kernel), List.mem_of_getElem? (i := 405) (by decide +kernel), List.mem_of_getElem? (i := 406) (by decide +kernel)⟩
theorem lw_p9 : lw_okq (⟨"AlikeSteps$Net", "shiftArcs", "(III)V"⟩, 5) := ⟨⟨by decide +kernel, by decide +kernel⟩, List.mem_of_getElem? (i := 58) (by decide +kernel), List.mem_of_getElem? (i := 421) (by decide +kernel), List.mem_of_getElem? (i := 422) (by decide +kernel)⟩
theorem lw_p10 : lw_okq (⟨"AlikeSteps$Acts", "note", "(IIIII)V"⟩, 2) := ⟨⟨by decide +kernel, by decide +kernel⟩, List.mem_of_getElem? (i := 81) (by decide +kernel), List.mem_of_getElem? (i := 469) (by decide +kernel), List.mem_of_getElem? (i := 470) (by decide +kernel)⟩
theorem lw_p11 : lw_okq (⟨"AlikeSteps$Steps", "openArc", "(LAlikeSteps$Net;I)V"⟩, 3) := ⟨⟨by decide +kernel, by decide +kernel⟩, List.mem_of_getElem? (i := 100) (by decide +kernel), List.mem_of_getElem? (i := 564) (by decide +kernel), List.mem_of_getElem? (i := 565) (by decide +kernel)⟩
theorem lw_p12 : lw_okq (⟨"AlikeSteps$Steps", "closeSilent", "()V"⟩, 3) := ⟨⟨by decide +kernel, by decide +kernel⟩, List.mem_of_getElem? (i := 100) (by decide +kernel), List.mem_of_getElem? (i := 576) (by decide +kernel), List.mem_of_getElem? (i := 577) (by decide +kernel)⟩
theorem lw_p13 : lw_okq (⟨"AlikeSteps$Steps", "closeLetters", "()V"⟩, 3) := ⟨⟨by decide +kernel, by decide +kernel⟩, List.mem_of_getElem? (i := 100) (by decide +kernel), List.mem_of_getElem? (i := 591) (by decide +kernel), List.mem_of_getElem? (i := 592) (by decide +kernel)⟩
theorem lw_p14 : lw_okq (⟨"AlikeSteps$Parting", "numberBlocks", "(I)I"⟩, 7) := ⟨⟨by decide +kernel, by decide +kernel⟩, List.mem_of_getElem? (i := 117) (by decide +kernel), List.mem_of_getElem? (i := 621) (by decide +kernel), List.mem_of_getElem? (i := 622) (by decide +kernel)⟩
theorem lw_p15 : lw_okq (⟨"AlikeSteps$Parting", "firstLike", "(II)I"⟩, 7) := ⟨⟨by decide +kernel, by decide +kernel⟩, List.mem_of_getElem? (i := 117) (by decide +kernel), List.mem_of_getElem? (i := 625) (by decide +kernel), List.mem_of_getElem? (i := 626) (by decide +kernel)⟩
def lw_privs_1 : List (MethodName × Nat) := [(⟨"AlikeSteps", "found", "(I)I"⟩, 14), (⟨"AlikeSteps", "fine", "(I)I"⟩, 14), (⟨"AlikeSteps$Tape", "readStates", "(LAlikeSteps$Net;)I"⟩, 3), (⟨"AlikeSteps$Tape", "next", "()I"⟩, 3), (⟨"AlikeSteps$Tape", "passes", "(C)Z"⟩, 3), (⟨"AlikeSteps$Tape", "readArcs", "(LAlikeSteps$Net;)I"⟩, 3), (⟨"AlikeSteps$Tape", "readEnds", "(LAlikeSteps$Net;I)I"⟩, 3), (⟨"AlikeSteps$Tape", "readNumber", "(LAlikeSteps$Net;)I"⟩, 3), (⟨"AlikeSteps$Tape", "isFigure", "(I)Z"⟩, 3), (⟨"AlikeSteps$Net", "shiftArcs", "(III)V"⟩, 5), (⟨"AlikeSteps$Acts", "note", "(IIIII)V"⟩, 2), (⟨"AlikeSteps$Steps", "openArc", "(LAlikeSteps$Net;I)V"⟩, 3), (⟨"AlikeSteps$Steps", "closeSilent", "()V"⟩, 3), (⟨"AlikeSteps$Steps", "closeLetters", "()V"⟩, 3), (⟨"AlikeSteps$Parting", "numberBlocks", "(I)I"⟩, 7), (⟨"AlikeSteps$Parting", "firstLike", "(II)I"⟩, 7)]
theorem lw_r1 : ∀ q ∈ lw_privs_1, lw_okq q := List.forall_mem_cons.mpr ⟨lw_p0, List.forall_mem_cons.mpr ⟨lw_p1, List.forall_mem_cons.mpr ⟨lw_p2, List.forall_mem_cons.mpr ⟨lw_p3, List.forall_mem_cons.mpr ⟨lw_p4, List.forall_mem_cons.mpr ⟨lw_p5, List.forall_mem_cons.mpr ⟨lw_p6, List.forall_mem_cons.mpr ⟨lw_p7, List.forall_mem_cons.mpr ⟨lw_p8, List.forall_mem_cons.mpr ⟨lw_p9, List.forall_mem_cons.mpr ⟨lw_p10, List.forall_mem_cons.mpr ⟨lw_p11, List.forall_mem_cons.mpr ⟨lw_p12, List.forall_mem_cons.mpr ⟨lw_p13, List.forall_mem_cons.mpr ⟨lw_p14, List.forall_mem_cons.mpr ⟨lw_p15, fun _ h => absurd h List.not_mem_nil⟩⟩⟩⟩⟩⟩⟩⟩⟩⟩⟩⟩⟩⟩⟩⟩
theorem lw_p16 : lw_okq (⟨"AlikeSteps$Parting", "partOn", "(LAlikeSteps$Steps;)V"⟩, 7) := ⟨⟨by decide +kernel, by decide +kernel⟩, List.mem_of_getElem? (i := 117) (by decide +kernel), List.mem_of_getElem? (i := 636) (by decide +kernel), List.mem_of_getElem? (i := 637) (by decide +kernel)⟩
theorem lw_p17 : lw_okq (⟨"AlikeSteps$Parting", "signsBy", "(LAlikeSteps$Steps;II)J"⟩, 7) := ⟨⟨by decide +kernel, by decide +kernel⟩, List.mem_of_getElem? (i := 117) (by decide +kernel), List.mem_of_getElem? (i := 640) (by decide +kernel), List.mem_of_getElem? (i := 641) (by decide +kernel)⟩
theorem lw_p18 : lw_okq (⟨"AlikeSteps$Parting", "statesOf", "(II)I"⟩, 7) := ⟨⟨by decide +kernel, by decide +kernel⟩, List.mem_of_getElem? (i := 117) (by decide +kernel), List.mem_of_getElem? (i := 644) (by decide +kernel), List.mem_of_getElem? (i := 645) (by decide +kernel)⟩
theorem lw_p19 : lw_okq (⟨"AlikeSteps$Teller", "findLead", "(LAlikeSteps$Steps;LAlikeSteps$Parting;II)I"⟩, 5) := ⟨⟨by decide +kernel, by decide +kernel⟩, List.mem_of_getElem? (i := 210) (by decide +kernel), List.mem_of_getElem? (i := 711) (by decide +kernel), List.mem_of_getElem? (i := 712) (by decide +kernel)⟩
theorem lw_p20 : lw_okq (⟨"AlikeSteps$Teller", "weighAll", "(ILAlikeSteps$Steps;IZ)V"⟩, 5) := ⟨⟨by decide +kernel, by decide +kernel⟩, List.mem_of_getElem? (i := 210) (by decide +kernel), List.mem_of_getElem? (i := 719) (by decide +kernel), List.mem_of_getElem? (i := 720) (by decide +kernel)⟩
theorem lw_p21 : lw_okq (⟨"AlikeSteps$Teller", "weigh", "(LAlikeSteps$Steps;II)J"⟩, 5) := ⟨⟨by decide +kernel, by decide +kernel⟩, List.mem_of_getElem? (i := 210) (by decide +kernel), List.mem_of_getElem? (i := 723) (by decide +kernel), List.mem_of_getElem? (i := 724) (by decide +kernel)⟩
theorem lw_p22 : lw_okq (⟨"AlikeSteps$Teller", "sizeUpTo", "(III)J"⟩, 5) := ⟨⟨by decide +kernel, by decide +kernel⟩, List.mem_of_getElem? (i := 210) (by decide +kernel), List.mem_of_getElem? (i := 732) (by decide +kernel), List.mem_of_getElem? (i := 733) (by decide +kernel)⟩
theorem lw_p23 : lw_okq (⟨"AlikeSteps$Teller", "memberAt", "(IIJ)I"⟩, 5) := ⟨⟨by decide +kernel, by decide +kernel⟩, List.mem_of_getElem? (i := 210) (by decide +kernel), List.mem_of_getElem? (i := 751) (by decide +kernel), List.mem_of_getElem? (i := 752) (by decide +kernel)⟩
theorem lw_p24 : lw_okq (⟨"AlikeSteps$Formula", "push", "(I)V"⟩, 8) := ⟨⟨by decide +kernel, by decide +kernel⟩, List.mem_of_getElem? (i := 155) (by decide +kernel), List.mem_of_getElem? (i := 786) (by decide +kernel), List.mem_of_getElem? (i := 787) (by decide +kernel)⟩
theorem lw_p25 : lw_okq (⟨"AlikeSteps$Formula", "takeList", "(I)V"⟩, 8) := ⟨⟨by decide +kernel, by decide +kernel⟩, List.mem_of_getElem? (i := 155) (by decide +kernel), List.mem_of_getElem? (i := 790) (by decide +kernel), List.mem_of_getElem? (i := 791) (by decide +kernel)⟩
theorem lw_p26 : lw_okq (⟨"AlikeSteps$Steps", "way", "(II)I"⟩, 3) := ⟨⟨by decide +kernel, by decide +kernel⟩, List.mem_of_getElem? (i := 100) (by decide +kernel), List.mem_of_getElem? (i := 847) (by decide +kernel), List.mem_of_getElem? (i := 848) (by decide +kernel)⟩
theorem lw_p27 : lw_okq (⟨"AlikeSteps", "tellsBlocks", "(ILAlikeSteps$Parting;)Z"⟩, 14) := ⟨⟨by decide +kernel, by decide +kernel⟩, List.mem_of_getElem? (i := 17) (by decide +kernel), List.mem_of_getElem? (i := 856) (by decide +kernel), List.mem_of_getElem? (i := 857) (by decide +kernel)⟩
theorem lw_p28 : lw_okq (⟨"AlikeSteps$Asker", "sizeBody", "()I"⟩, 6) := ⟨⟨by decide +kernel, by decide +kernel⟩, List.mem_of_getElem? (i := 186) (by decide +kernel), List.mem_of_getElem? (i := 890) (by decide +kernel), List.mem_of_getElem? (i := 891) (by decide +kernel)⟩
theorem lw_p29 : lw_okq (⟨"AlikeSteps$Asker", "markBody", "()I"⟩, 6) := ⟨⟨by decide +kernel, by decide +kernel⟩, List.mem_of_getElem? (i := 186) (by decide +kernel), List.mem_of_getElem? (i := 894) (by decide +kernel), List.mem_of_getElem? (i := 895) (by decide +kernel)⟩
theorem lw_p30 : lw_okq (⟨"AlikeSteps$Asker", "body", "(II)I"⟩, 6) := ⟨⟨by decide +kernel, by decide +kernel⟩, List.mem_of_getElem? (i := 186) (by decide +kernel), List.mem_of_getElem? (i := 898) (by decide +kernel), List.mem_of_getElem? (i := 899) (by decide +kernel)⟩
theorem lw_p31 : lw_okq (⟨"AlikeSteps$Asker", "leave", "(I)V"⟩, 6) := ⟨⟨by decide +kernel, by decide +kernel⟩, List.mem_of_getElem? (i := 186) (by decide +kernel), List.mem_of_getElem? (i := 902) (by decide +kernel), List.mem_of_getElem? (i := 903) (by decide +kernel)⟩
def lw_privs_2 : List (MethodName × Nat) := [(⟨"AlikeSteps$Parting", "partOn", "(LAlikeSteps$Steps;)V"⟩, 7), (⟨"AlikeSteps$Parting", "signsBy", "(LAlikeSteps$Steps;II)J"⟩, 7), (⟨"AlikeSteps$Parting", "statesOf", "(II)I"⟩, 7), (⟨"AlikeSteps$Teller", "findLead", "(LAlikeSteps$Steps;LAlikeSteps$Parting;II)I"⟩, 5), (⟨"AlikeSteps$Teller", "weighAll", "(ILAlikeSteps$Steps;IZ)V"⟩, 5), (⟨"AlikeSteps$Teller", "weigh", "(LAlikeSteps$Steps;II)J"⟩, 5), (⟨"AlikeSteps$Teller", "sizeUpTo", "(III)J"⟩, 5), (⟨"AlikeSteps$Teller", "memberAt", "(IIJ)I"⟩, 5), (⟨"AlikeSteps$Formula", "push", "(I)V"⟩, 8), (⟨"AlikeSteps$Formula", "takeList", "(I)V"⟩, 8), (⟨"AlikeSteps$Steps", "way", "(II)I"⟩, 3), (⟨"AlikeSteps", "tellsBlocks", "(ILAlikeSteps$Parting;)Z"⟩, 14), (⟨"AlikeSteps$Asker", "sizeBody", "()I"⟩, 6), (⟨"AlikeSteps$Asker", "markBody", "()I"⟩, 6), (⟨"AlikeSteps$Asker", "body", "(II)I"⟩, 6), (⟨"AlikeSteps$Asker", "leave", "(I)V"⟩, 6)]
theorem lw_r2 : ∀ q ∈ lw_privs_2, lw_okq q := List.forall_mem_cons.mpr ⟨lw_p16, List.forall_mem_cons.mpr ⟨lw_p17, List.forall_mem_cons.mpr ⟨lw_p18, List.forall_mem_cons.mpr ⟨lw_p19, List.forall_mem_cons.mpr ⟨lw_p20, List.forall_mem_cons.mpr ⟨lw_p21, List.forall_mem_cons.mpr ⟨lw_p22, List.forall_mem_cons.mpr ⟨lw_p23, List.forall_mem_cons.mpr ⟨lw_p24, List.forall_mem_cons.mpr ⟨lw_p25, List.forall_mem_cons.mpr ⟨lw_p26, List.forall_mem_cons.mpr ⟨lw_p27, List.forall_mem_cons.mpr ⟨lw_p28, List.forall_mem_cons.mpr ⟨lw_p29, List.forall_mem_cons.mpr ⟨lw_p30, List.forall_mem_cons.mpr ⟨lw_p31, fun _ h => absurd h List.not_mem_nil⟩⟩⟩⟩⟩⟩⟩⟩⟩⟩⟩⟩⟩⟩⟩⟩
theorem lw_p32 : lw_okq (⟨"AlikeStepsModel", "found", "(I)I"⟩, 33) := ⟨⟨by decide +kernel, by decide +kernel⟩, List.mem_of_getElem? (i := 932) (by decide +kernel), List.mem_of_getElem? (i := 1051) (by decide +kernel), List.mem_of_getElem? (i := 1052) (by decide +kernel)⟩
theorem lw_p33 : lw_okq (⟨"AlikeStepsModel", "well", "(I)I"⟩, 33) := ⟨⟨by decide +kernel, by decide +kernel⟩, List.mem_of_getElem? (i := 932) (by decide +kernel), List.mem_of_getElem? (i := 1056) (by decide +kernel), List.mem_of_getElem? (i := 1057) (by decide +kernel)⟩
theorem lw_p34 : lw_okq (⟨"AlikeStepsModel", "isMissing", "(I)Z"⟩, 33) := ⟨⟨by decide +kernel, by decide +kernel⟩, List.mem_of_getElem? (i := 932) (by decide +kernel), List.mem_of_getElem? (i := 1064) (by decide +kernel), List.mem_of_getElem? (i := 1065) (by decide +kernel)⟩
theorem lw_p35 : lw_okq (⟨"AlikeStepsModel", "isPart", "(III)Z"⟩, 33) := ⟨⟨by decide +kernel, by decide +kernel⟩, List.mem_of_getElem? (i := 932) (by decide +kernel), List.mem_of_getElem? (i := 1075) (by decide +kernel), List.mem_of_getElem? (i := 1076) (by decide +kernel)⟩
theorem lw_p36 : lw_okq (⟨"AlikeStepsModel", "advances", "()V"⟩, 33) := ⟨⟨by decide +kernel, by decide +kernel⟩, List.mem_of_getElem? (i := 932) (by decide +kernel), List.mem_of_getElem? (i := 1092) (by decide +kernel), List.mem_of_getElem? (i := 1093) (by decide +kernel)⟩
theorem lw_p37 : lw_okq (⟨"AlikeStepsModel", "byteAt", "(I)I"⟩, 33) := ⟨⟨by decide +kernel, by decide +kernel⟩, List.mem_of_getElem? (i := 932) (by decide +kernel), List.mem_of_getElem? (i := 1096) (by decide +kernel), List.mem_of_getElem? (i := 1097) (by decide +kernel)⟩
theorem lw_p38 : lw_okq (⟨"AlikeStepsModel", "isWell", "()Z"⟩, 33) := ⟨⟨by decide +kernel, by decide +kernel⟩, List.mem_of_getElem? (i := 932) (by decide +kernel), List.mem_of_getElem? (i := 1100) (by decide +kernel), List.mem_of_getElem? (i := 1101) (by decide +kernel)⟩
theorem lw_p39 : lw_okq (⟨"AlikeStepsModel", "readsState", "()V"⟩, 33) := ⟨⟨by decide +kernel, by decide +kernel⟩, List.mem_of_getElem? (i := 932) (by decide +kernel), List.mem_of_getElem? (i := 1107) (by decide +kernel), List.mem_of_getElem? (i := 1108) (by decide +kernel)⟩
theorem lw_p40 : lw_okq (⟨"AlikeStepsModel", "takes", "(ZI)I"⟩, 33) := ⟨⟨by decide +kernel, by decide +kernel⟩, List.mem_of_getElem? (i := 932) (by decide +kernel), List.mem_of_getElem? (i := 1111) (by decide +kernel), List.mem_of_getElem? (i := 1112) (by decide +kernel)⟩
theorem lw_p41 : lw_okq (⟨"AlikeStepsModel", "must", "(Z)V"⟩, 33) := ⟨⟨by decide +kernel, by decide +kernel⟩, List.mem_of_getElem? (i := 932) (by decide +kernel), List.mem_of_getElem? (i := 1115) (by decide +kernel), List.mem_of_getElem? (i := 1116) (by decide +kernel)⟩
theorem lw_p42 : lw_okq (⟨"AlikeStepsModel", "readsArc", "()V"⟩, 33) := ⟨⟨by decide +kernel, by decide +kernel⟩, List.mem_of_getElem? (i := 932) (by decide +kernel), List.mem_of_getElem? (i := 1122) (by decide +kernel), List.mem_of_getElem? (i := 1123) (by decide +kernel)⟩
theorem lw_p43 : lw_okq (⟨"AlikeStepsModel", "figure", "(II)I"⟩, 33) := ⟨⟨by decide +kernel, by decide +kernel⟩, List.mem_of_getElem? (i := 932) (by decide +kernel), List.mem_of_getElem? (i := 1126) (by decide +kernel), List.mem_of_getElem? (i := 1127) (by decide +kernel)⟩
theorem lw_p44 : lw_okq (⟨"AlikeStepsModel", "isState", "(I)Z"⟩, 33) := ⟨⟨by decide +kernel, by decide +kernel⟩, List.mem_of_getElem? (i := 932) (by decide +kernel), List.mem_of_getElem? (i := 1145) (by decide +kernel), List.mem_of_getElem? (i := 1146) (by decide +kernel)⟩
theorem lw_p45 : lw_okq (⟨"AlikeStepsModel", "notes", "()V"⟩, 33) := ⟨⟨by decide +kernel, by decide +kernel⟩, List.mem_of_getElem? (i := 932) (by decide +kernel), List.mem_of_getElem? (i := 1149) (by decide +kernel), List.mem_of_getElem? (i := 1150) (by decide +kernel)⟩
theorem lw_p46 : lw_okq (⟨"AlikeStepsModel", "isArc", "(I)Z"⟩, 33) := ⟨⟨by decide +kernel, by decide +kernel⟩, List.mem_of_getElem? (i := 932) (by decide +kernel), List.mem_of_getElem? (i := 1157) (by decide +kernel), List.mem_of_getElem? (i := 1158) (by decide +kernel)⟩
theorem lw_p47 : lw_okq (⟨"AlikeStepsModel", "looks", "([II)V"⟩, 33) := ⟨⟨by decide +kernel, by decide +kernel⟩, List.mem_of_getElem? (i := 932) (by decide +kernel), List.mem_of_getElem? (i := 1182) (by decide +kernel), List.mem_of_getElem? (i := 1183) (by decide +kernel)⟩
def lw_privs_3 : List (MethodName × Nat) := [(⟨"AlikeStepsModel", "found", "(I)I"⟩, 33), (⟨"AlikeStepsModel", "well", "(I)I"⟩, 33), (⟨"AlikeStepsModel", "isMissing", "(I)Z"⟩, 33), (⟨"AlikeStepsModel", "isPart", "(III)Z"⟩, 33), (⟨"AlikeStepsModel", "advances", "()V"⟩, 33), (⟨"AlikeStepsModel", "byteAt", "(I)I"⟩, 33), (⟨"AlikeStepsModel", "isWell", "()Z"⟩, 33), (⟨"AlikeStepsModel", "readsState", "()V"⟩, 33), (⟨"AlikeStepsModel", "takes", "(ZI)I"⟩, 33), (⟨"AlikeStepsModel", "must", "(Z)V"⟩, 33), (⟨"AlikeStepsModel", "readsArc", "()V"⟩, 33), (⟨"AlikeStepsModel", "figure", "(II)I"⟩, 33), (⟨"AlikeStepsModel", "isState", "(I)Z"⟩, 33), (⟨"AlikeStepsModel", "notes", "()V"⟩, 33), (⟨"AlikeStepsModel", "isArc", "(I)Z"⟩, 33), (⟨"AlikeStepsModel", "looks", "([II)V"⟩, 33)]
theorem lw_r3 : ∀ q ∈ lw_privs_3, lw_okq q := List.forall_mem_cons.mpr ⟨lw_p32, List.forall_mem_cons.mpr ⟨lw_p33, List.forall_mem_cons.mpr ⟨lw_p34, List.forall_mem_cons.mpr ⟨lw_p35, List.forall_mem_cons.mpr ⟨lw_p36, List.forall_mem_cons.mpr ⟨lw_p37, List.forall_mem_cons.mpr ⟨lw_p38, List.forall_mem_cons.mpr ⟨lw_p39, List.forall_mem_cons.mpr ⟨lw_p40, List.forall_mem_cons.mpr ⟨lw_p41, List.forall_mem_cons.mpr ⟨lw_p42, List.forall_mem_cons.mpr ⟨lw_p43, List.forall_mem_cons.mpr ⟨lw_p44, List.forall_mem_cons.mpr ⟨lw_p45, List.forall_mem_cons.mpr ⟨lw_p46, List.forall_mem_cons.mpr ⟨lw_p47, fun _ h => absurd h List.not_mem_nil⟩⟩⟩⟩⟩⟩⟩⟩⟩⟩⟩⟩⟩⟩⟩⟩
theorem lw_p48 : lw_okq (⟨"AlikeStepsModel", "goesFrom", "(III)V"⟩, 33) := ⟨⟨by decide +kernel, by decide +kernel⟩, List.mem_of_getElem? (i := 932) (by decide +kernel), List.mem_of_getElem? (i := 1186) (by decide +kernel), List.mem_of_getElem? (i := 1187) (by decide +kernel)⟩
theorem lw_p49 : lw_okq (⟨"AlikeStepsModel", "states", "()I"⟩, 33) := ⟨⟨by decide +kernel, by decide +kernel⟩, List.mem_of_getElem? (i := 932) (by decide +kernel), List.mem_of_getElem? (i := 1190) (by decide +kernel), List.mem_of_getElem? (i := 1191) (by decide +kernel)⟩
theorem lw_p50 : lw_okq (⟨"AlikeStepsModel", "reaches", "(II)I"⟩, 33) := ⟨⟨by decide +kernel, by decide +kernel⟩, List.mem_of_getElem? (i := 932) (by decide +kernel), List.mem_of_getElem? (i := 1194) (by decide +kernel), List.mem_of_getElem? (i := 1195) (by decide +kernel)⟩
theorem lw_p51 : lw_okq (⟨"AlikeStepsModel", "to", "(II)I"⟩, 33) := ⟨⟨by decide +kernel, by decide +kernel⟩, List.mem_of_getElem? (i := 932) (by decide +kernel), List.mem_of_getElem? (i := 1198) (by decide +kernel), List.mem_of_getElem? (i := 1199) (by decide +kernel)⟩
theorem lw_p52 : lw_okq (⟨"AlikeStepsModel", "moving", "(III)I"⟩, 33) := ⟨⟨by decide +kernel, by decide +kernel⟩, List.mem_of_getElem? (i := 932) (by decide +kernel), List.mem_of_getElem? (i := 1205) (by decide +kernel), List.mem_of_getElem? (i := 1206) (by decide +kernel)⟩
theorem lw_p53 : lw_okq (⟨"AlikeStepsModel", "close", "(I)I"⟩, 33) := ⟨⟨by decide +kernel, by decide +kernel⟩, List.mem_of_getElem? (i := 932) (by decide +kernel), List.mem_of_getElem? (i := 1209) (by decide +kernel), List.mem_of_getElem? (i := 1210) (by decide +kernel)⟩
theorem lw_p54 : lw_okq (⟨"AlikeStepsModel", "blockOf", "(II)I"⟩, 33) := ⟨⟨by decide +kernel, by decide +kernel⟩, List.mem_of_getElem? (i := 932) (by decide +kernel), List.mem_of_getElem? (i := 1217) (by decide +kernel), List.mem_of_getElem? (i := 1218) (by decide +kernel)⟩
theorem lw_p55 : lw_okq (⟨"AlikeStepsModel", "partsBy", "(I)I"⟩, 33) := ⟨⟨by decide +kernel, by decide +kernel⟩, List.mem_of_getElem? (i := 932) (by decide +kernel), List.mem_of_getElem? (i := 1221) (by decide +kernel), List.mem_of_getElem? (i := 1222) (by decide +kernel)⟩
theorem lw_p56 : lw_okq (⟨"AlikeStepsModel", "isMarked", "(I)Z"⟩, 33) := ⟨⟨by decide +kernel, by decide +kernel⟩, List.mem_of_getElem? (i := 932) (by decide +kernel), List.mem_of_getElem? (i := 1225) (by decide +kernel), List.mem_of_getElem? (i := 1226) (by decide +kernel)⟩
theorem lw_p57 : lw_okq (⟨"AlikeStepsModel", "numbers", "(I)I"⟩, 33) := ⟨⟨by decide +kernel, by decide +kernel⟩, List.mem_of_getElem? (i := 932) (by decide +kernel), List.mem_of_getElem? (i := 1229) (by decide +kernel), List.mem_of_getElem? (i := 1230) (by decide +kernel)⟩
theorem lw_p58 : lw_okq (⟨"AlikeStepsModel", "blockIn", "(II)I"⟩, 33) := ⟨⟨by decide +kernel, by decide +kernel⟩, List.mem_of_getElem? (i := 932) (by decide +kernel), List.mem_of_getElem? (i := 1233) (by decide +kernel), List.mem_of_getElem? (i := 1234) (by decide +kernel)⟩
theorem lw_p59 : lw_okq (⟨"AlikeStepsModel", "signsOf", "(III)J"⟩, 33) := ⟨⟨by decide +kernel, by decide +kernel⟩, List.mem_of_getElem? (i := 932) (by decide +kernel), List.mem_of_getElem? (i := 1237) (by decide +kernel), List.mem_of_getElem? (i := 1238) (by decide +kernel)⟩
theorem lw_p60 : lw_okq (⟨"AlikeStepsModel", "alikeIn", "(II)I"⟩, 33) := ⟨⟨by decide +kernel, by decide +kernel⟩, List.mem_of_getElem? (i := 932) (by decide +kernel), List.mem_of_getElem? (i := 1241) (by decide +kernel), List.mem_of_getElem? (i := 1242) (by decide +kernel)⟩
theorem lw_p61 : lw_okq (⟨"AlikeStepsModel", "bitsOf", "(III)J"⟩, 33) := ⟨⟨by decide +kernel, by decide +kernel⟩, List.mem_of_getElem? (i := 932) (by decide +kernel), List.mem_of_getElem? (i := 1245) (by decide +kernel), List.mem_of_getElem? (i := 1246) (by decide +kernel)⟩
theorem lw_p62 : lw_okq (⟨"AlikeStepsModel", "isSystem", "()Z"⟩, 33) := ⟨⟨by decide +kernel, by decide +kernel⟩, List.mem_of_getElem? (i := 932) (by decide +kernel), List.mem_of_getElem? (i := 1254) (by decide +kernel), List.mem_of_getElem? (i := 1255) (by decide +kernel)⟩
theorem lw_p63 : lw_okq (⟨"AlikeStepsModel", "partedIn", "(II)I"⟩, 33) := ⟨⟨by decide +kernel, by decide +kernel⟩, List.mem_of_getElem? (i := 932) (by decide +kernel), List.mem_of_getElem? (i := 1271) (by decide +kernel), List.mem_of_getElem? (i := 1272) (by decide +kernel)⟩
def lw_privs_4 : List (MethodName × Nat) := [(⟨"AlikeStepsModel", "goesFrom", "(III)V"⟩, 33), (⟨"AlikeStepsModel", "states", "()I"⟩, 33), (⟨"AlikeStepsModel", "reaches", "(II)I"⟩, 33), (⟨"AlikeStepsModel", "to", "(II)I"⟩, 33), (⟨"AlikeStepsModel", "moving", "(III)I"⟩, 33), (⟨"AlikeStepsModel", "close", "(I)I"⟩, 33), (⟨"AlikeStepsModel", "blockOf", "(II)I"⟩, 33), (⟨"AlikeStepsModel", "partsBy", "(I)I"⟩, 33), (⟨"AlikeStepsModel", "isMarked", "(I)Z"⟩, 33), (⟨"AlikeStepsModel", "numbers", "(I)I"⟩, 33), (⟨"AlikeStepsModel", "blockIn", "(II)I"⟩, 33), (⟨"AlikeStepsModel", "signsOf", "(III)J"⟩, 33), (⟨"AlikeStepsModel", "alikeIn", "(II)I"⟩, 33), (⟨"AlikeStepsModel", "bitsOf", "(III)J"⟩, 33), (⟨"AlikeStepsModel", "isSystem", "()Z"⟩, 33), (⟨"AlikeStepsModel", "partedIn", "(II)I"⟩, 33)]
theorem lw_r4 : ∀ q ∈ lw_privs_4, lw_okq q := List.forall_mem_cons.mpr ⟨lw_p48, List.forall_mem_cons.mpr ⟨lw_p49, List.forall_mem_cons.mpr ⟨lw_p50, List.forall_mem_cons.mpr ⟨lw_p51, List.forall_mem_cons.mpr ⟨lw_p52, List.forall_mem_cons.mpr ⟨lw_p53, List.forall_mem_cons.mpr ⟨lw_p54, List.forall_mem_cons.mpr ⟨lw_p55, List.forall_mem_cons.mpr ⟨lw_p56, List.forall_mem_cons.mpr ⟨lw_p57, List.forall_mem_cons.mpr ⟨lw_p58, List.forall_mem_cons.mpr ⟨lw_p59, List.forall_mem_cons.mpr ⟨lw_p60, List.forall_mem_cons.mpr ⟨lw_p61, List.forall_mem_cons.mpr ⟨lw_p62, List.forall_mem_cons.mpr ⟨lw_p63, fun _ h => absurd h List.not_mem_nil⟩⟩⟩⟩⟩⟩⟩⟩⟩⟩⟩⟩⟩⟩⟩⟩
theorem lw_p64 : lw_okq (⟨"AlikeStepsModel", "isAsked", "(III)Z"⟩, 33) := ⟨⟨by decide +kernel, by decide +kernel⟩, List.mem_of_getElem? (i := 932) (by decide +kernel), List.mem_of_getElem? (i := 1279) (by decide +kernel), List.mem_of_getElem? (i := 1280) (by decide +kernel)⟩
theorem lw_p65 : lw_okq (⟨"AlikeStepsModel", "tellsAll", "(I)V"⟩, 33) := ⟨⟨by decide +kernel, by decide +kernel⟩, List.mem_of_getElem? (i := 932) (by decide +kernel), List.mem_of_getElem? (i := 1283) (by decide +kernel), List.mem_of_getElem? (i := 1284) (by decide +kernel)⟩
theorem lw_p66 : lw_okq (⟨"AlikeStepsModel", "opens", "(IIII)V"⟩, 33) := ⟨⟨by decide +kernel, by decide +kernel⟩, List.mem_of_getElem? (i := 932) (by decide +kernel), List.mem_of_getElem? (i := 1287) (by decide +kernel), List.mem_of_getElem? (i := 1288) (by decide +kernel)⟩
theorem lw_p67 : lw_okq (⟨"AlikeStepsModel", "sums", "(III)V"⟩, 33) := ⟨⟨by decide +kernel, by decide +kernel⟩, List.mem_of_getElem? (i := 932) (by decide +kernel), List.mem_of_getElem? (i := 1291) (by decide +kernel), List.mem_of_getElem? (i := 1292) (by decide +kernel)⟩
theorem lw_p68 : lw_okq (⟨"AlikeStepsModel", "codeAt", "(IIII)I"⟩, 33) := ⟨⟨by decide +kernel, by decide +kernel⟩, List.mem_of_getElem? (i := 932) (by decide +kernel), List.mem_of_getElem? (i := 1295) (by decide +kernel), List.mem_of_getElem? (i := 1296) (by decide +kernel)⟩
theorem lw_p69 : lw_okq (⟨"AlikeStepsModel", "movingInto", "(III)I"⟩, 33) := ⟨⟨by decide +kernel, by decide +kernel⟩, List.mem_of_getElem? (i := 932) (by decide +kernel), List.mem_of_getElem? (i := 1310) (by decide +kernel), List.mem_of_getElem? (i := 1311) (by decide +kernel)⟩
theorem lw_p70 : lw_okq (⟨"AlikeStepsModel", "smallOf", "(III)I"⟩, 33) := ⟨⟨by decide +kernel, by decide +kernel⟩, List.mem_of_getElem? (i := 932) (by decide +kernel), List.mem_of_getElem? (i := 1318) (by decide +kernel), List.mem_of_getElem? (i := 1319) (by decide +kernel)⟩
theorem lw_p71 : lw_okq (⟨"AlikeStepsModel", "pairsOf", "(I)I"⟩, 33) := ⟨⟨by decide +kernel, by decide +kernel⟩, List.mem_of_getElem? (i := 932) (by decide +kernel), List.mem_of_getElem? (i := 1337) (by decide +kernel), List.mem_of_getElem? (i := 1338) (by decide +kernel)⟩
theorem lw_p72 : lw_okq (⟨"AlikeStepsModel", "pairAt", "(II)I"⟩, 33) := ⟨⟨by decide +kernel, by decide +kernel⟩, List.mem_of_getElem? (i := 932) (by decide +kernel), List.mem_of_getElem? (i := 1341) (by decide +kernel), List.mem_of_getElem? (i := 1342) (by decide +kernel)⟩
theorem lw_p73 : lw_okq (⟨"AlikeStepsModel", "kindIn", "(I)I"⟩, 33) := ⟨⟨by decide +kernel, by decide +kernel⟩, List.mem_of_getElem? (i := 932) (by decide +kernel), List.mem_of_getElem? (i := 1361) (by decide +kernel), List.mem_of_getElem? (i := 1362) (by decide +kernel)⟩
theorem lw_p74 : lw_okq (⟨"AlikeStepsModel", "doorSize", "(I)I"⟩, 33) := ⟨⟨by decide +kernel, by decide +kernel⟩, List.mem_of_getElem? (i := 932) (by decide +kernel), List.mem_of_getElem? (i := 1373) (by decide +kernel), List.mem_of_getElem? (i := 1374) (by decide +kernel)⟩
theorem lw_p75 : lw_okq (⟨"AlikeStepsModel", "traces", "(I)V"⟩, 33) := ⟨⟨by decide +kernel, by decide +kernel⟩, List.mem_of_getElem? (i := 932) (by decide +kernel), List.mem_of_getElem? (i := 1377) (by decide +kernel), List.mem_of_getElem? (i := 1378) (by decide +kernel)⟩
theorem lw_p76 : lw_okq (⟨"AlikeStepsModel", "pairs", "(I)I"⟩, 33) := ⟨⟨by decide +kernel, by decide +kernel⟩, List.mem_of_getElem? (i := 932) (by decide +kernel), List.mem_of_getElem? (i := 1381) (by decide +kernel), List.mem_of_getElem? (i := 1382) (by decide +kernel)⟩
theorem lw_p77 : lw_okq (⟨"AlikeStepsModel", "placeSize", "(I)I"⟩, 33) := ⟨⟨by decide +kernel, by decide +kernel⟩, List.mem_of_getElem? (i := 932) (by decide +kernel), List.mem_of_getElem? (i := 1385) (by decide +kernel), List.mem_of_getElem? (i := 1386) (by decide +kernel)⟩
theorem lw_p78 : lw_okq (⟨"AlikeStepsModel", "placeMark", "(I)I"⟩, 33) := ⟨⟨by decide +kernel, by decide +kernel⟩, List.mem_of_getElem? (i := 932) (by decide +kernel), List.mem_of_getElem? (i := 1389) (by decide +kernel), List.mem_of_getElem? (i := 1390) (by decide +kernel)⟩
theorem lw_p79 : lw_okq (⟨"AlikeStepsModel", "doorMark", "(I)I"⟩, 33) := ⟨⟨by decide +kernel, by decide +kernel⟩, List.mem_of_getElem? (i := 932) (by decide +kernel), List.mem_of_getElem? (i := 1393) (by decide +kernel), List.mem_of_getElem? (i := 1394) (by decide +kernel)⟩
def lw_privs_5 : List (MethodName × Nat) := [(⟨"AlikeStepsModel", "isAsked", "(III)Z"⟩, 33), (⟨"AlikeStepsModel", "tellsAll", "(I)V"⟩, 33), (⟨"AlikeStepsModel", "opens", "(IIII)V"⟩, 33), (⟨"AlikeStepsModel", "sums", "(III)V"⟩, 33), (⟨"AlikeStepsModel", "codeAt", "(IIII)I"⟩, 33), (⟨"AlikeStepsModel", "movingInto", "(III)I"⟩, 33), (⟨"AlikeStepsModel", "smallOf", "(III)I"⟩, 33), (⟨"AlikeStepsModel", "pairsOf", "(I)I"⟩, 33), (⟨"AlikeStepsModel", "pairAt", "(II)I"⟩, 33), (⟨"AlikeStepsModel", "kindIn", "(I)I"⟩, 33), (⟨"AlikeStepsModel", "doorSize", "(I)I"⟩, 33), (⟨"AlikeStepsModel", "traces", "(I)V"⟩, 33), (⟨"AlikeStepsModel", "pairs", "(I)I"⟩, 33), (⟨"AlikeStepsModel", "placeSize", "(I)I"⟩, 33), (⟨"AlikeStepsModel", "placeMark", "(I)I"⟩, 33), (⟨"AlikeStepsModel", "doorMark", "(I)I"⟩, 33)]
theorem lw_r5 : ∀ q ∈ lw_privs_5, lw_okq q := List.forall_mem_cons.mpr ⟨lw_p64, List.forall_mem_cons.mpr ⟨lw_p65, List.forall_mem_cons.mpr ⟨lw_p66, List.forall_mem_cons.mpr ⟨lw_p67, List.forall_mem_cons.mpr ⟨lw_p68, List.forall_mem_cons.mpr ⟨lw_p69, List.forall_mem_cons.mpr ⟨lw_p70, List.forall_mem_cons.mpr ⟨lw_p71, List.forall_mem_cons.mpr ⟨lw_p72, List.forall_mem_cons.mpr ⟨lw_p73, List.forall_mem_cons.mpr ⟨lw_p74, List.forall_mem_cons.mpr ⟨lw_p75, List.forall_mem_cons.mpr ⟨lw_p76, List.forall_mem_cons.mpr ⟨lw_p77, List.forall_mem_cons.mpr ⟨lw_p78, List.forall_mem_cons.mpr ⟨lw_p79, fun _ h => absurd h List.not_mem_nil⟩⟩⟩⟩⟩⟩⟩⟩⟩⟩⟩⟩⟩⟩⟩⟩
def lw_privs : List (MethodName × Nat) := lw_privs_1 ++ (lw_privs_2 ++ (lw_privs_3 ++ (lw_privs_4 ++ (lw_privs_5))))
def lw_tbl : List Cond := k2_sels lw_privs ++ tables_1
theorem lw_privs_ok : ∀ q ∈ lw_privs, lw_okq q := by
  show ∀ q ∈ lw_privs_1 ++ (lw_privs_2 ++ (lw_privs_3 ++ (lw_privs_4 ++ (lw_privs_5)))), lw_okq q
  exact List.forall_mem_append.mpr ⟨lw_r1, List.forall_mem_append.mpr ⟨lw_r2, List.forall_mem_append.mpr ⟨lw_r3, List.forall_mem_append.mpr ⟨lw_r4, lw_r5⟩⟩⟩⟩
-- ===== end of PART A; then your names; then what follows =====
end
section
/-! PART 02: the classes (rows of NAMES), the layout of the cells that the two constructors make, the good words of the tables -/
def RX0 : String := "AlikeSteps$Acts"
def TX0 : u_T := fun k => match k with
  | 0 => ("AlikeSteps$Acts", "log", "[I", true)
  | _ => ("AlikeSteps$Acts", "kept", "I", false)
def tyX0 : Nat → FieldType := fun k => match k with
  | 0 => .array .int
  | _ => .int
theorem nmX0 : ∀ a, a < 2 → ∀ b, b < 2 → a ≠ b → (TX0 a).2.1 ≠ (TX0 b).2.1 := by decide +kernel
theorem tyX0_ok : ∀ k, k < 2 → parseFieldDescriptor (TX0 k).2.2.1 = some (tyX0 k) := by decide +kernel
def RX1 : String := "AlikeSteps$Alike"
def TX1 : u_T := fun k => match k with
  | 0 => ("AlikeSteps$Alike", "steps", "LAlikeSteps$Steps;", true)
  | _ => ("AlikeSteps$Alike", "partings", "[LAlikeSteps$Parting;", true)
def tyX1 : Nat → FieldType := fun k => match k with
  | 0 => .object "AlikeSteps$Steps"
  | _ => .array (.object "AlikeSteps$Parting")
theorem nmX1 : ∀ a, a < 2 → ∀ b, b < 2 → a ≠ b → (TX1 a).2.1 ≠ (TX1 b).2.1 := by decide +kernel
theorem tyX1_ok : ∀ k, k < 2 → parseFieldDescriptor (TX1 k).2.2.1 = some (tyX1 k) := by decide +kernel
def RX2 : String := "AlikeSteps$Asker"
def TX2 : u_T := fun k => match k with
  | 0 => ("AlikeSteps$Asker", "trail", "[I", true)
  | 1 => ("AlikeSteps$Asker", "traced", "I", false)
  | 2 => ("AlikeSteps$Asker", "state", "I", false)
  | 3 => ("AlikeSteps$Asker", "kind", "I", false)
  | 4 => ("AlikeSteps$Asker", "pairs", "I", false)
  | _ => ("AlikeSteps$Asker", "block", "I", false)
def tyX2 : Nat → FieldType := fun k => match k with
  | 0 => .array .int
  | 1 => .int
  | 2 => .int
  | 3 => .int
  | 4 => .int
  | _ => .int
theorem nmX2 : ∀ a, a < 6 → ∀ b, b < 6 → a ≠ b → (TX2 a).2.1 ≠ (TX2 b).2.1 := by decide +kernel
theorem tyX2_ok : ∀ k, k < 6 → parseFieldDescriptor (TX2 k).2.2.1 = some (tyX2 k) := by decide +kernel
def RX3 : String := "AlikeSteps$Formula"
def TX3 : u_T := fun k => match k with
  | 0 => ("AlikeSteps$Formula", "sets", "[I", true)
  | 1 => ("AlikeSteps$Formula", "rule", "I", false)
  | 2 => ("AlikeSteps$Formula", "all", "I", false)
  | 3 => ("AlikeSteps$Formula", "marked", "I", false)
  | 4 => ("AlikeSteps$Formula", "height", "I", false)
  | 5 => ("AlikeSteps$Formula", "list", "I", false)
  | 6 => ("AlikeSteps$Formula", "listOpen", "Z", false)
  | _ => ("AlikeSteps$Formula", "wrong", "Z", false)
def tyX3 : Nat → FieldType := fun k => match k with
  | 0 => .array .int
  | 1 => .int
  | 2 => .int
  | 3 => .int
  | 4 => .int
  | 5 => .int
  | 6 => .boolean
  | _ => .boolean
theorem nmX3 : ∀ a, a < 8 → ∀ b, b < 8 → a ≠ b → (TX3 a).2.1 ≠ (TX3 b).2.1 := by decide +kernel
theorem tyX3_ok : ∀ k, k < 8 → parseFieldDescriptor (TX3 k).2.2.1 = some (tyX3 k) := by decide +kernel
def RX4 : String := "AlikeSteps$Net"
def TX4 : u_T := fun k => match k with
  | 0 => ("AlikeSteps$Net", "kinds", "[I", true)
  | 1 => ("AlikeSteps$Net", "arcParts", "[I", true)
  | 2 => ("AlikeSteps$Net", "states", "I", false)
  | 3 => ("AlikeSteps$Net", "arcs", "I", false)
  | _ => ("AlikeSteps$Net", "version", "I", false)
def tyX4 : Nat → FieldType := fun k => match k with
  | 0 => .array .int
  | 1 => .array .int
  | 2 => .int
  | 3 => .int
  | _ => .int
theorem nmX4 : ∀ a, a < 5 → ∀ b, b < 5 → a ≠ b → (TX4 a).2.1 ≠ (TX4 b).2.1 := by decide +kernel
theorem tyX4_ok : ∀ k, k < 5 → parseFieldDescriptor (TX4 k).2.2.1 = some (tyX4 k) := by decide +kernel
def RX5 : String := "AlikeSteps$Parting"
def TX5 : u_T := fun k => match k with
  | 0 => ("AlikeSteps$Parting", "rule", "I", true)
  | 1 => ("AlikeSteps$Parting", "blocks", "[I", true)
  | 2 => ("AlikeSteps$Parting", "signs", "[J", true)
  | 3 => ("AlikeSteps$Parting", "states", "I", false)
  | 4 => ("AlikeSteps$Parting", "rounds", "I", false)
  | 5 => ("AlikeSteps$Parting", "parts", "I", false)
  | _ => ("AlikeSteps$Parting", "seen", "I", false)
def tyX5 : Nat → FieldType := fun k => match k with
  | 0 => .int
  | 1 => .array .int
  | 2 => .array .long
  | 3 => .int
  | 4 => .int
  | 5 => .int
  | _ => .int
theorem nmX5 : ∀ a, a < 7 → ∀ b, b < 7 → a ≠ b → (TX5 a).2.1 ≠ (TX5 b).2.1 := by decide +kernel
theorem tyX5_ok : ∀ k, k < 7 → parseFieldDescriptor (TX5 k).2.2.1 = some (tyX5 k) := by decide +kernel
def RX6 : String := "AlikeSteps$Rows"
def TX6 : u_T := fun k => match k with
  | 0 => ("AlikeSteps$Rows", "lanes", "[I", true)
  | 1 => ("AlikeSteps$Rows", "lengths", "[I", true)
  | _ => ("AlikeSteps$Rows", "items", "[I", true)
def tyX6 : Nat → FieldType := fun k => match k with
  | 0 => .array .int
  | 1 => .array .int
  | _ => .array .int
theorem nmX6 : ∀ a, a < 3 → ∀ b, b < 3 → a ≠ b → (TX6 a).2.1 ≠ (TX6 b).2.1 := by decide +kernel
theorem tyX6_ok : ∀ k, k < 3 → parseFieldDescriptor (TX6 k).2.2.1 = some (tyX6 k) := by decide +kernel
def RX7 : String := "AlikeSteps$Steps"
def TX7 : u_T := fun k => match k with
  | 0 => ("AlikeSteps$Steps", "goes", "[I", true)
  | 1 => ("AlikeSteps$Steps", "closed", "[I", true)
  | _ => ("AlikeSteps$Steps", "seen", "I", false)
def tyX7 : Nat → FieldType := fun k => match k with
  | 0 => .array .int
  | 1 => .array .int
  | _ => .int
theorem nmX7 : ∀ a, a < 3 → ∀ b, b < 3 → a ≠ b → (TX7 a).2.1 ≠ (TX7 b).2.1 := by decide +kernel
theorem tyX7_ok : ∀ k, k < 3 → parseFieldDescriptor (TX7 k).2.2.1 = some (tyX7 k) := by decide +kernel
def RX8 : String := "AlikeSteps$Tape"
def TX8 : u_T := fun k => match k with
  | 0 => ("AlikeSteps$Tape", "bytes", "[I", true)
  | 1 => ("AlikeSteps$Tape", "length", "I", false)
  | _ => ("AlikeSteps$Tape", "at", "I", false)
def tyX8 : Nat → FieldType := fun k => match k with
  | 0 => .array .int
  | 1 => .int
  | _ => .int
theorem nmX8 : ∀ a, a < 3 → ∀ b, b < 3 → a ≠ b → (TX8 a).2.1 ≠ (TX8 b).2.1 := by decide +kernel
theorem tyX8_ok : ∀ k, k < 3 → parseFieldDescriptor (TX8 k).2.2.1 = some (tyX8 k) := by decide +kernel
def RX9 : String := "AlikeSteps$Teller"
def TX9 : u_T := fun k => match k with
  | 0 => ("AlikeSteps$Teller", "rule", "I", true)
  | 1 => ("AlikeSteps$Teller", "partedIn", "[I", true)
  | 2 => ("AlikeSteps$Teller", "leads", "[I", true)
  | 3 => ("AlikeSteps$Teller", "sizes", "[J", true)
  | _ => ("AlikeSteps$Teller", "seen", "I", false)
def tyX9 : Nat → FieldType := fun k => match k with
  | 0 => .int
  | 1 => .array .int
  | 2 => .array .int
  | 3 => .array .long
  | _ => .int
theorem nmX9 : ∀ a, a < 5 → ∀ b, b < 5 → a ≠ b → (TX9 a).2.1 ≠ (TX9 b).2.1 := by decide +kernel
theorem tyX9_ok : ∀ k, k < 5 → parseFieldDescriptor (TX9 k).2.2.1 = some (tyX9 k) := by decide +kernel
def RX10 : String := "AlikeSteps"
def TX10 : u_T := fun k => match k with
  | 0 => ("AlikeSteps", "rows", "LAlikeSteps$Rows;", true)
  | 1 => ("AlikeSteps", "tape", "LAlikeSteps$Tape;", true)
  | 2 => ("AlikeSteps", "net", "LAlikeSteps$Net;", true)
  | 3 => ("AlikeSteps", "draft", "LAlikeSteps$Net;", true)
  | 4 => ("AlikeSteps", "trial", "LAlikeSteps$Net;", true)
  | 5 => ("AlikeSteps", "images", "[LAlikeSteps$Net;", true)
  | 6 => ("AlikeSteps", "acts", "LAlikeSteps$Acts;", true)
  | 7 => ("AlikeSteps", "alike", "LAlikeSteps$Alike;", true)
  | 8 => ("AlikeSteps", "alikeInTrial", "LAlikeSteps$Alike;", true)
  | 9 => ("AlikeSteps", "tellers", "[LAlikeSteps$Teller;", true)
  | 10 => ("AlikeSteps", "formula", "LAlikeSteps$Formula;", true)
  | 11 => ("AlikeSteps", "asker", "LAlikeSteps$Asker;", true)
  | 12 => ("AlikeSteps", "latestFault", "I", false)
  | _ => ("AlikeSteps", "latestFinding", "I", false)
def tyX10 : Nat → FieldType := fun k => match k with
  | 0 => .object "AlikeSteps$Rows"
  | 1 => .object "AlikeSteps$Tape"
  | 2 => .object "AlikeSteps$Net"
  | 3 => .object "AlikeSteps$Net"
  | 4 => .object "AlikeSteps$Net"
  | 5 => .array (.object "AlikeSteps$Net")
  | 6 => .object "AlikeSteps$Acts"
  | 7 => .object "AlikeSteps$Alike"
  | 8 => .object "AlikeSteps$Alike"
  | 9 => .array (.object "AlikeSteps$Teller")
  | 10 => .object "AlikeSteps$Formula"
  | 11 => .object "AlikeSteps$Asker"
  | 12 => .int
  | _ => .int
theorem nmX10 : ∀ a, a < 14 → ∀ b, b < 14 → a ≠ b → (TX10 a).2.1 ≠ (TX10 b).2.1 := by decide +kernel
theorem tyX10_ok : ∀ k, k < 14 → parseFieldDescriptor (TX10 k).2.2.1 = some (tyX10 k) := by decide +kernel
def RX11 : String := "AlikeStepsModel"
def TX11 : u_T := fun k => match k with
  | 0 => ("AlikeStepsModel", "lane", "[I", true)
  | 1 => ("AlikeStepsModel", "many", "[I", true)
  | 2 => ("AlikeStepsModel", "items", "[I", true)
  | 3 => ("AlikeStepsModel", "spare", "[I", true)
  | 4 => ("AlikeStepsModel", "status", "I", false)
  | 5 => ("AlikeStepsModel", "tape", "[I", true)
  | 6 => ("AlikeStepsModel", "taped", "I", false)
  | 7 => ("AlikeStepsModel", "faultKind", "I", false)
  | 8 => ("AlikeStepsModel", "faultPlace", "I", false)
  | 9 => ("AlikeStepsModel", "at", "I", false)
  | 10 => ("AlikeStepsModel", "start", "I", false)
  | 11 => ("AlikeStepsModel", "token", "I", false)
  | 12 => ("AlikeStepsModel", "value", "I", false)
  | 13 => ("AlikeStepsModel", "now", "[I", true)
  | 14 => ("AlikeStepsModel", "draft", "[I", true)
  | 15 => ("AlikeStepsModel", "past", "[I", true)
  | 16 => ("AlikeStepsModel", "acts", "I", false)
  | 17 => ("AlikeStepsModel", "images", "[I", true)
  | 18 => ("AlikeStepsModel", "kept", "[Z", true)
  | 19 => ("AlikeStepsModel", "system", "[I", true)
  | 20 => ("AlikeStepsModel", "goes", "[I", true)
  | 21 => ("AlikeStepsModel", "silent", "[I", true)
  | 22 => ("AlikeStepsModel", "blocks", "[I", true)
  | 23 => ("AlikeStepsModel", "rounds", "I", false)
  | 24 => ("AlikeStepsModel", "signs", "[J", true)
  | 25 => ("AlikeStepsModel", "codes", "[I", true)
  | 26 => ("AlikeStepsModel", "depths", "[I", true)
  | 27 => ("AlikeStepsModel", "letters", "[I", true)
  | 28 => ("AlikeStepsModel", "ones", "[I", true)
  | 29 => ("AlikeStepsModel", "sets", "[I", true)
  | 30 => ("AlikeStepsModel", "isList", "[Z", true)
  | 31 => ("AlikeStepsModel", "trace", "[I", true)
  | _ => ("AlikeStepsModel", "traced", "I", false)
def tyX11 : Nat → FieldType := fun k => match k with
  | 0 => .array .int
  | 1 => .array .int
  | 2 => .array .int
  | 3 => .array .int
  | 4 => .int
  | 5 => .array .int
  | 6 => .int
  | 7 => .int
  | 8 => .int
  | 9 => .int
  | 10 => .int
  | 11 => .int
  | 12 => .int
  | 13 => .array .int
  | 14 => .array .int
  | 15 => .array .int
  | 16 => .int
  | 17 => .array .int
  | 18 => .array .boolean
  | 19 => .array .int
  | 20 => .array .int
  | 21 => .array .int
  | 22 => .array .int
  | 23 => .int
  | 24 => .array .long
  | 25 => .array .int
  | 26 => .array .int
  | 27 => .array .int
  | 28 => .array .int
  | 29 => .array .int
  | 30 => .array .boolean
  | 31 => .array .int
  | _ => .int
theorem nmX11 : ∀ a, a < 33 → ∀ b, b < 33 → a ≠ b → (TX11 a).2.1 ≠ (TX11 b).2.1 := by decide +kernel
theorem tyX11_ok : ∀ k, k < 33 → parseFieldDescriptor (TX11 k).2.2.1 = some (tyX11 k) := by decide +kernel
def RJ6 : String := "java/lang/Integer"
def RJ9 : String := "java/lang/Math"
def RJ10 : String := "java/lang/System"
def RL : String := "AlikeStepsLaw"
abbrev vwCl : List vw_C := [(RX0, TX0, 2), (RX1, TX1, 2), (RX2, TX2, 6), (RX3, TX3, 8), (RX4, TX4, 5), (RX5, TX5, 7), (RX6, TX6, 3), (RX7, TX7, 3), (RX8, TX8, 3), (RX9, TX9, 5), (RX10, TX10, 14), (RX11, TX11, 33)]
def pj_tb : List Cond := lw_tbl.filter goodWord
theorem pj_mem (i : Nat) {c : Cond} (h : lw_tbl[i]? = some c) (hg : goodWord c = true) : c ∈ pj_tb := List.mem_filter.mpr ⟨List.mem_of_getElem? h, hg⟩
theorem pj_memL {ws : List Cond} (is : List Nat) (h : ws = is.filterMap (fun i => lw_tbl[i]?)) (hg : ws.all goodWord = true) : ∀ c ∈ ws, c ∈ pj_tb := by
  intro c hc
  have h1 := List.all_eq_true.mp hg c hc
  rw [h] at hc
  obtain ⟨i, -, hi⟩ := List.mem_filterMap.mp hc
  exact pj_mem i hi h1
theorem pj_goodIn : GoodIn pj_tb pj_tb := fun c hc => ⟨hc, good_of_word (List.mem_filter.mp hc).2⟩
theorem wiX0 : ∀ c ∈ u_ws RX0 TX0 2, c ∈ pj_tb := pj_memL [168, 170] (by decide +kernel) (by decide +kernel)
theorem wiX1 : ∀ c ∈ u_ws RX1 TX1 2, c ∈ pj_tb := pj_memL [227, 229] (by decide +kernel) (by decide +kernel)
theorem wiX2 : ∀ c ∈ u_ws RX2 TX2 6, c ∈ pj_tb := pj_memL [277, 279, 281, 283, 285, 287] (by decide +kernel) (by decide +kernel)
theorem wiX3 : ∀ c ∈ u_ws RX3 TX3 8, c ∈ pj_tb := pj_memL [248, 250, 252, 254, 256, 258, 260, 262] (by decide +kernel) (by decide +kernel)
theorem wiX4 : ∀ c ∈ u_ws RX4 TX4 5, c ∈ pj_tb := pj_memL [148, 150, 152, 154, 156] (by decide +kernel) (by decide +kernel)
theorem wiX5 : ∀ c ∈ u_ws RX5 TX5 7, c ∈ pj_tb := pj_memL [209, 211, 213, 215, 217, 219, 221] (by decide +kernel) (by decide +kernel)
theorem wiX6 : ∀ c ∈ u_ws RX6 TX6 3, c ∈ pj_tb := pj_memL [113, 115, 117] (by decide +kernel) (by decide +kernel)
theorem wiX7 : ∀ c ∈ u_ws RX7 TX7 3, c ∈ pj_tb := pj_memL [188, 190, 192] (by decide +kernel) (by decide +kernel)
theorem wiX8 : ∀ c ∈ u_ws RX8 TX8 3, c ∈ pj_tb := pj_memL [130, 132, 134] (by decide +kernel) (by decide +kernel)
theorem wiX9 : ∀ c ∈ u_ws RX9 TX9 5, c ∈ pj_tb := pj_memL [300, 302, 304, 306, 308] (by decide +kernel) (by decide +kernel)
theorem wiX10 : ∀ c ∈ u_ws RX10 TX10 14, c ∈ pj_tb := pj_memL [325, 327, 329, 331, 333, 335, 337, 339, 341, 343, 345, 347, 349, 351] (by decide +kernel) (by decide +kernel)
theorem wiX11 : ∀ c ∈ u_ws RX11 TX11 33, c ∈ pj_tb := pj_memL [1051, 1053, 1055, 1057, 1059, 1061, 1063, 1065, 1067, 1069, 1071, 1073, 1075, 1077, 1079, 1081, 1083, 1085, 1087, 1089, 1091, 1093, 1095, 1097, 1099, 1101, 1103, 1105, 1107, 1109, 1111, 1113, 1115] (by decide +kernel) (by decide +kernel)
/-- of a class: a field that is a number, or (kind, what, how far away) of the cell that it holds -/
def pj_ct : Nat → List (Option (Nat × Nat × Nat)) := fun c => match c with
  | 0 => [some (1, 100, 1), none]
  | 1 => [some (0, 7, 1), some (4, 5, 4)]
  | 2 => [some (1, 16, 1), none, none, none, none, none]
  | 3 => [some (1, 30, 1), none, none, none, none, none, none, none]
  | 4 => [some (1, 10, 1), some (1, 60, 2), none, none, none]
  | 5 => [none, some (1, 110, 1), some (2, 10, 2), none, none, none, none]
  | 6 => [some (1, 8, 1), some (1, 8, 2), some (1, 320, 3)]
  | 7 => [some (1, 40, 1), some (1, 40, 2), none]
  | 8 => [some (1, 140, 1), none, none]
  | 9 => [none, some (1, 100, 1), some (1, 100, 2), some (2, 100, 3), none]
  | 10 => [some (0, 6, 1), some (0, 8, 5), some (0, 4, 7), some (0, 4, 10), some (0, 4, 13), some (4, 4, 16), some (0, 0, 17), some (0, 1, 19), some (0, 1, 36), some (4, 9, 53), some (0, 3, 54), some (0, 2, 56), none, none]
  | _ => [some (1, 8, 1), some (1, 8, 2), some (1, 320, 3), some (1, 40, 4), none, some (1, 140, 5), none, none, none, none, none, none, none, some (1, 72, 6), some (1, 72, 7), some (1, 1440, 8), none, some (1, 144, 9), some (3, 2, 10), some (1, 72, 11), some (1, 40, 12), some (1, 10, 13), some (1, 220, 14), none, some (2, 10, 15), some (1, 100, 16), some (1, 100, 17), some (1, 100, 18), some (1, 100, 19), some (1, 30, 20), some (3, 30, 21), some (1, 16, 22), none]
def pj_rlen : Nat → Nat := fun c => match c with
  | 4 => 2
  | 5 => 4
  | 9 => 2
  | _ => 0
def pj_roff : Nat → Nat := fun c => match c with
  | 4 => 42
  | 5 => 1
  | 9 => 11
  | _ => 0
def pj_rstr : Nat → Nat := fun c => match c with
  | 4 => 3
  | 5 => 3
  | 9 => 4
  | _ => 0
/-- the cells, in the order in which they are made: (0, class), (1, length) ints, (2, length) longs, (3, length) booleans, (4, class) references -/
def pj_lay : List (Nat × Nat) := [(0, 10), (0, 6), (1, 8), (1, 8), (1, 320), (0, 8), (1, 140), (0, 4), (1, 10), (1, 60), (0, 4), (1, 10), (1, 60), (0, 4), (1, 10), (1, 60), (4, 4), (0, 0), (1, 100), (0, 1), (0, 7), (1, 40), (1, 40), (4, 5), (0, 5), (1, 110), (2, 10), (0, 5), (1, 110), (2, 10), (0, 5), (1, 110), (2, 10), (0, 5), (1, 110), (2, 10), (0, 1), (0, 7), (1, 40), (1, 40), (4, 5), (0, 5), (1, 110), (2, 10), (0, 5), (1, 110), (2, 10), (0, 5), (1, 110), (2, 10), (0, 5), (1, 110), (2, 10), (4, 9), (0, 3), (1, 30), (0, 2), (1, 16), (0, 4), (1, 10), (1, 60), (0, 4), (1, 10), (1, 60), (0, 9), (1, 100), (1, 100), (2, 100), (0, 9), (1, 100), (1, 100), (2, 100), (0, 11), (1, 8), (1, 8), (1, 320), (1, 40), (1, 140), (1, 72), (1, 72), (1, 1440), (1, 144), (3, 2), (1, 72), (1, 40), (1, 10), (1, 220), (2, 10), (1, 100), (1, 100), (1, 100), (1, 100), (1, 30), (3, 30), (1, 16)]
theorem pj_lay_len : pj_lay.length = 95 := by decide +kernel
abbrev pj_nw : Cond := .methodLinkNest RX7 81 ⟨RX10, "isA", "(II)Z"⟩ "AlikeSteps"
end
section
/-! PART 03: A PURE MACHINE over the fixed layout: a memory of numbers (ints, longs) by cell and place; values; what an instruction does, in continuation form; and that each such step is what the machine does (pj_S). -/
abbrev pj_M : Type := (Nat → Nat → Int32) × (Nat → Nat → Int64)
abbrev pj_V : Type := Int32 ⊕ (Int64 ⊕ (Nat × Nat × Nat))
/-- the world's unknowns: classes' numbers and slots, addresses of cells, array classes, the script -/
abbrev pj_E : Type := va_G × (Nat → Nat) × (ClassId × ClassId × ClassId × (Nat → ClassId)) × (Nat × Nat × (Nat → Int32))
def pj_tys (G : pj_E) : List (ClassId × FieldType) := [(G.2.2.1.1, .int), (G.2.2.1.2.1, .long), (G.2.2.1.2.2.1, .boolean), (G.2.2.1.2.2.2 4, .object "AlikeSteps$Net"), (G.2.2.1.2.2.2 5, .object "AlikeSteps$Parting"), (G.2.2.1.2.2.2 9, .object "AlikeSteps$Teller")]
def pj_tr (G : pj_E) (v : pj_V) : Value := match v with
  | .inl x => .int x
  | .inr (.inl y) => .long y
  | .inr (.inr (t, _, a)) => if t = 5 then .ref G.2.2.2.1 else .ref (G.2.1 a)
def pj_okv (v : pj_V) : Prop := match v with
  | .inr (.inr (t, x, a)) => t = 5 ∨ pj_lay[a]? = some (t, x)
  | _ => True
def pj_fv (G : pj_E) (m : pj_M) (a k : Nat) (f : Option (Nat × Nat × Nat)) : Value := match f with
  | none => .int (m.1 a k)
  | some q => .ref (G.2.1 (a + q.2.2))
def pj_ent (G : pj_E) (m : pj_M) (a : Nat) (q : Nat × Nat) : va_E := match q with
  | (0, x) => .inr (x, (pj_ct x).mapIdx (fun k f => pj_fv G m a k f))
  | (1, x) => .inl (G.2.2.1.1, (x, .inl (m.1 a)))
  | (2, x) => .inl (G.2.2.1.2.1, (x, .inr (.inl (m.2 a))))
  | (3, x) => .inl (G.2.2.1.2.2.1, (x, .inl (m.1 a)))
  | (_, x) => .inl (G.2.2.1.2.2.2 x, (pj_rlen x, .inr (.inr (.inr (.inr (fun i => some (G.2.1 (a + pj_roff x + pj_rstr x * i))))))))
def pj_ws (G : pj_E) (m : pj_M) : va_W := pj_lay.mapIdx (fun a q => (G.2.1 a, pj_ent G m a q))
theorem pj_ws_at {G : pj_E} {m : pj_M} {a : Nat} {q : Nat × Nat} (h : pj_lay[a]? = some q) : (pj_ws G m)[a]? = some (G.2.1 a, pj_ent G m a q) := by
  simp [pj_ws, h]
theorem pj_ws_of {G : pj_E} {m : pj_M} {a : Nat} {q : Nat × va_E} (h : (pj_ws G m)[a]? = some q) : ∃ t, pj_lay[a]? = some t ∧ q = (G.2.1 a, pj_ent G m a t) := by
  simp only [pj_ws, List.getElem?_mapIdx, Option.map_eq_some_iff] at h
  obtain ⟨t, h1, h2⟩ := h
  exact ⟨t, h1, h2.symm⟩
theorem pj_ent_congr {G : pj_E} {m m' : pj_M} {a : Nat} {q : Nat × Nat} (h1 : m'.1 a = m.1 a) (h2 : m'.2 a = m.2 a) : pj_ent G m' a q = pj_ent G m a q := by
  have hf : ∀ k f, pj_fv G m' a k f = pj_fv G m a k f := by
    intro k f
    cases f with
    | none => simp [pj_fv, h1]
    | some _ => rfl
  unfold pj_ent
  split <;> simp [h1, h2, hf]
theorem pj_ws_set {G : pj_E} {m m' : pj_M} {a : Nat} {q : Nat × Nat} (h : pj_lay[a]? = some q) (h1 : ∀ j, j ≠ a → m'.1 j = m.1 j) (h2 : ∀ j, j ≠ a → m'.2 j = m.2 j) : (pj_ws G m).set a (G.2.1 a, pj_ent G m' a q) = pj_ws G m' := by
  apply List.ext_getElem?
  intro j
  by_cases hj : j = a
  · subst hj
    rw [pj_ws_at h, List.getElem?_set]
    have hl : j < (pj_ws G m).length := by
      have := (List.getElem?_eq_some_iff.mp h).1
      simpa [pj_ws] using this
    simp [hl]
  · rw [List.getElem?_set_ne (by omega)]
    simp only [pj_ws, List.getElem?_mapIdx]
    cases hq : pj_lay[j]? with
    | none => rfl
    | some t => simp [pj_ent_congr (G := G) (q := t) (h1 j hj) (h2 j hj)]
theorem pj_D_irr {G : pj_E} {A : Nat → Prop} {m m' : pj_M} (h : va_D A (pj_ws G m)) : va_D A (pj_ws G m') := by
  refine ⟨fun i j p q hp hq hpq => ?_, fun k q hk => ?_⟩
  · obtain ⟨t1, h1, rfl⟩ := pj_ws_of hp
    obtain ⟨t2, h2, rfl⟩ := pj_ws_of hq
    exact h.1 i j _ _ (pj_ws_at h1) (pj_ws_at h2) hpq
  · obtain ⟨t1, h1, rfl⟩ := pj_ws_of hk
    exact h.2 k (G.2.1 k, pj_ent G m k t1) (pj_ws_at h1)
/-- a number is written; a stretch of ints is copied -/
def pj_wr (m : pj_M) (a k : Nat) (v : Int32) : pj_M := (fun j => if j = a then upd (m.1 a) k v else m.1 j, m.2)
def pj_wl (m : pj_M) (a k : Nat) (v : Int64) : pj_M := (m.1, fun j => if j = a then vp_updL (m.2 a) k v else m.2 j)
def pj_cp (m : pj_M) (a0 sp a1 dp n : Nat) : pj_M := (fun j => if j = a1 then va_cpy (m.1 a0) (m.1 a1) sp dp n else m.1 j, m.2)
/-- locals -/
def pj_inv (L : List (Option pj_V)) (i : Nat) : List (Option pj_V) := match i with
  | 0 => L
  | j + 1 => match L[j]? with
    | some (some (.inr (.inl _))) => L.set j none
    | _ => L
def pj_st1 (L : List (Option pj_V)) (i : Nat) (v : pj_V) : List (Option pj_V) := (pj_inv L i).set i (some v)
def pj_st2 (L : List (Option pj_V)) (i : Nat) (v : pj_V) : List (Option pj_V) := ((pj_inv L i).set i (some v)).set (i + 1) none
def pj_isl (v : pj_V) : Bool := match v with
  | .inr (.inl _) => true
  | _ => false
def pj_cat (st : List pj_V) : Nat := match st with
  | [] => 0
  | v :: st => (match v with
    | .inr (.inl _) => 2
    | _ => 1) + pj_cat st
def pj_l0 (as : List pj_V) : List (Option pj_V) := match as with
  | [] => []
  | .inr (.inl y) :: as => some (.inr (.inl y)) :: none :: pj_l0 as
  | .inl x :: as => some (.inl x) :: pj_l0 as
  | .inr (.inr r) :: as => some (.inr (.inr r)) :: pj_l0 as
theorem pj_tr_cat (G : pj_E) (v : pj_V) : (pj_tr G v).category = 2 ↔ pj_isl v = true := by
  rcases v with x | y | ⟨t, x, a⟩
  · simp [pj_tr, pj_isl, Value.category]
  · simp [pj_tr, pj_isl, Value.category]
  · simp only [pj_tr, pj_isl]
    split <;> simp [Value.category]
theorem pj_cat_eq (G : pj_E) (st : List pj_V) : ((st.map (pj_tr G)).map fun v => v.category).sum = pj_cat st := by
  induction st with
  | nil => rfl
  | cons v st ih =>
    simp only [List.map_cons, List.sum_cons, pj_cat, ih]
    congr 1
    rcases v with x | y | ⟨t, x, a⟩
    · rfl
    · rfl
    · simp only [pj_tr]
      split <;> rfl
def pj_F (G : pj_E) (nL : Nat) (L : List (Option pj_V)) (st : List pj_V) (ls : Array Slot) : Prop :=
  ls.size = nL ∧ lv_wf ls ∧ L.length = nL ∧ (∀ (i : Nat) (v : pj_V), L[i]? = some (some v) → ls[i]? = some (Slot.val (pj_tr G v)) ∧ pj_okv v) ∧ ∀ v ∈ st, pj_okv v
def pj_lv (G : pj_E) (L : List (Option pj_V)) : List (Nat × Value) := (List.range L.length).filterMap (fun i => match L[i]? with
  | some (some v) => some (i, pj_tr G v)
  | _ => none)
theorem pj_lv_mem {G : pj_E} {L : List (Option pj_V)} {q : Nat × Value} : q ∈ pj_lv G L ↔ ∃ v, L[q.1]? = some (some v) ∧ q.2 = pj_tr G v := by
  unfold pj_lv
  rw [List.mem_filterMap]
  constructor
  · rintro ⟨i, hi, h⟩
    split at h
    · rename_i v hv
      cases h
      exact ⟨v, hv, rfl⟩
    · cases h
  · rintro ⟨v, hv, h2⟩
    refine ⟨q.1, List.mem_range.mpr (List.getElem?_eq_some_iff.mp hv).1, ?_⟩
    rw [hv]
    show some (q.1, pj_tr G v) = some q
    rw [← h2]
theorem pj_F.has {G : pj_E} {nL : Nat} {L : List (Option pj_V)} {st : List pj_V} {ls : Array Slot} (h : pj_F G nL L st ls) : lv_has ls nL (pj_lv G L) := by
  refine ⟨h.1, h.2.1, fun q hq => ?_⟩
  obtain ⟨v, hv, h2⟩ := pj_lv_mem.mp hq
  rw [h2]
  exact (h.2.2.2.1 _ _ hv).1
theorem pj_inv_len (L : List (Option pj_V)) (i : Nat) : (pj_inv L i).length = L.length := by
  unfold pj_inv
  split
  · rfl
  · split <;> simp
theorem pj_inv_at {L : List (Option pj_V)} {i j : Nat} {v : pj_V} (h : (pj_inv L i)[j]? = some (some v)) : L[j]? = some (some v) ∧ ¬ (j + 1 = i ∧ pj_isl v = true) := by
  unfold pj_inv at h
  split at h
  · exact ⟨h, fun q => by omega⟩
  · rename_i k
    split at h
    · rename_i y hy
      by_cases hj : j = k
      · subst hj
        rw [List.getElem?_set_self (List.getElem?_eq_some_iff.mp hy).1] at h
        cases h
      · rw [List.getElem?_set_ne (by omega)] at h
        exact ⟨h, fun q => by omega⟩
    · rename_i hn
      refine ⟨h, fun q => ?_⟩
      have hj : j = k := by omega
      subst hj
      rcases v with x | y | r
      · simp [pj_isl] at q
      · exact hn y h
      · simp [pj_isl] at q
theorem pj_F.st1 {G : pj_E} {nL i : Nat} {L : List (Option pj_V)} {st : List pj_V} {v : pj_V} {ls ls' : Array Slot} (h : pj_F G nL L (v :: st) ls)
    (h' : lv_has ls' nL ((i, pj_tr G v) :: (pj_lv G L).filter (fun q => !(q.1 == i) && !(q.1 + 1 == i && q.2.category == 2)))) : pj_F G nL (pj_st1 L i v) st ls' := by
  obtain ⟨h1, h2, h3, h4, h5⟩ := h
  refine ⟨h'.1, h'.2.1, by simp [pj_st1, pj_inv_len, h3], fun j u hu => ?_, fun u hu => h5 u (List.mem_cons_of_mem _ hu)⟩
  unfold pj_st1 at hu
  by_cases hj : j = i
  · subst hj
    have hl := (List.getElem?_eq_some_iff.mp hu).1
    rw [List.length_set] at hl
    rw [List.getElem?_set_self hl] at hu
    cases hu
    exact ⟨h'.2.2 _ List.mem_cons_self, h5 _ List.mem_cons_self⟩
  · rw [List.getElem?_set_ne (by omega)] at hu
    obtain ⟨hu1, hu2⟩ := pj_inv_at hu
    refine ⟨h'.2.2 (j, pj_tr G u) (List.mem_cons_of_mem _ (List.mem_filter.mpr ⟨pj_lv_mem.mpr ⟨u, hu1, rfl⟩, ?_⟩)), (h4 _ _ hu1).2⟩
    simp only [Bool.and_eq_true, Bool.not_eq_true', beq_eq_false_iff_ne, ne_eq, Bool.and_eq_false_imp, beq_iff_eq]
    refine ⟨hj, fun e1 => ?_⟩
    intro e2
    exact hu2 ⟨e1, (pj_tr_cat G u).mp e2⟩
theorem pj_F.st2 {G : pj_E} {nL i : Nat} {L : List (Option pj_V)} {st : List pj_V} {v : pj_V} {ls ls' : Array Slot} (h : pj_F G nL L (v :: st) ls)
    (h' : lv_has ls' nL ((i, pj_tr G v) :: (pj_lv G L).filter (fun q => !(q.1 == i) && (!(q.1 == i + 1) && !(q.1 + 1 == i && q.2.category == 2))))) : pj_F G nL (pj_st2 L i v) st ls' := by
  obtain ⟨h1, h2, h3, h4, h5⟩ := h
  refine ⟨h'.1, h'.2.1, by simp [pj_st2, pj_inv_len, h3], fun j u hu => ?_, fun u hu => h5 u (List.mem_cons_of_mem _ hu)⟩
  unfold pj_st2 at hu
  by_cases hj1 : j = i + 1
  · subst hj1
    have hl := (List.getElem?_eq_some_iff.mp hu).1
    rw [List.length_set] at hl
    rw [List.getElem?_set_self hl] at hu
    cases hu
  rw [List.getElem?_set_ne (by omega)] at hu
  by_cases hj : j = i
  · subst hj
    have hl := (List.getElem?_eq_some_iff.mp hu).1
    rw [List.length_set] at hl
    rw [List.getElem?_set_self hl] at hu
    cases hu
    exact ⟨h'.2.2 _ List.mem_cons_self, h5 _ List.mem_cons_self⟩
  · rw [List.getElem?_set_ne (by omega)] at hu
    obtain ⟨hu1, hu2⟩ := pj_inv_at hu
    refine ⟨h'.2.2 (j, pj_tr G u) (List.mem_cons_of_mem _ (List.mem_filter.mpr ⟨pj_lv_mem.mpr ⟨u, hu1, rfl⟩, ?_⟩)), (h4 _ _ hu1).2⟩
    simp only [Bool.and_eq_true, Bool.not_eq_true', beq_eq_false_iff_ne, ne_eq, Bool.and_eq_false_imp, beq_iff_eq]
    refine ⟨hj, hj1, fun e1 => ?_⟩
    intro e2
    exact hu2 ⟨e1, (pj_tr_cat G u).mp e2⟩
end
section
/-! PART 04: steps of the pure machine (qs_..), each with its row that the machine does it (qz_..). Written by wip/whole/gen/mkcore.py -/
abbrev pj_X : Type := pj_E × (Nat → Prop) × (ByteArray × String × Nat × Option FieldType × Nat) × (Program × Launch × Env × Room) × (State × MethodId × Array Value × List Frame × Method × Code) × (Nat × Nat × (State → Prop))
def pj_cc (X : pj_X) : ByteArray := X.2.2.1.1
def pj_own (X : pj_X) : String := X.2.2.1.2.1
def pj_rk (X : pj_X) : Nat := X.2.2.1.2.2.2.2
def pj_retT (X : pj_X) : Option FieldType := X.2.2.1.2.2.2.1
def pj_rm (r : Nat) : Room := { frames := r + 1, cells := 0, slots := 0, locals := 60 * (r + 1) }
/-- what stands while a method's body runs -/
def pj_C (X : pj_X) : Prop := match X with
  | (G, A, (cc, own, nL, _, rk), (p, _, _, R), (s, mi, args, _, _, c), (cells, slots, _)) =>
    p.tables.exec = Jvm.exec ∧ c.code = cc ∧ c.maxLocals = nL ∧ s.vm.findClass own = some mi.cls ∧ (∀ w ∈ pj_tb, w.before args s = true) ∧ va_K G.1 vwCl (pj_tys G) s ∧ va_Nw pj_nw s ∧
    rk + 1 ≤ R.frames ∧ 60 * (rk + 1) ≤ R.locals ∧ cells ≤ R.cells ∧ slots ≤ R.slots ∧ va_X G.2.2.2.1 G.2.2.2.2.1 G.2.2.2.2.2 s s.heap ∧ G.2.2.2.1 < s.heap.size ∧ ¬ A G.2.2.2.1
def pj_H (G : pj_E) (A : Nat → Prop) (m : pj_M) (s : State) (H : Heap) (locs : List Loc) : Prop := va_P G.1 vwCl (pj_ws G m) H ∧ va_D A (pj_ws G m) ∧ va_S A s.heap H locs
def pj_W (X : pj_X) (pc : Nat) (L : List (Option pj_V)) (st : List pj_V) (m : pj_M) : Prop := match X with
  | (G, A, (_, _, nL, _, _), (p, l, e, R), (s, mi, args, below, meth, c), (cells, slots, Q)) =>
    ∀ (ls : Array Slot) (H : Heap) (locs : List Loc), pj_F G nL L st ls → pj_H G A m s H locs → W p l e R s mi args below meth c H locs cells slots Q (F0 mi pc ls (st.map (pj_tr G)))
def pj_rd (cc : ByteArray) (ret : Option FieldType) (o : Option pj_V) (pc : Nat) : Prop := match o with
  | none => decode cc pc = .ok (.return_, 1) ∧ ret = none
  | some (.inl v) => decode cc pc = .ok (.ireturn, 1) ∧ ∃ ty, ret = some ty ∧ narrow ty (.int v) = .int v
  | some (.inr (.inl _)) => decode cc pc = .ok (.lreturn, 1) ∧ ret = some .long
  | some (.inr (.inr _)) => decode cc pc = .ok (.areturn, 1) ∧ ∃ n, ret = some (.object n)
/-- a return with an answer and a memory is good for the goal -/
def pj_R (X : pj_X) (o : Option pj_V) (m : pj_M) : Prop := match X with
  | (G, A, (cc, _, _, ret, _), (p, l, e, R), (s, mi, args, below, meth, c), (cells, slots, Q)) =>
    ∀ (pc : Nat) (ls : Array Slot) (H : Heap) (locs : List Loc), pj_rd cc ret o pc → (∀ v, o = some v → pj_okv v) → pj_H G A m s H locs → W p l e R s mi args below meth c H locs cells slots Q (F0 mi pc ls ((o.map (pj_tr G)).toList))
abbrev pj_K (ρ : Type) : Type := Nat → List (Option pj_V) → List pj_V → pj_M → Option ρ
abbrev pj_T (ρ : Type) : Type := pj_K ρ → List (Option pj_V) → List pj_V → pj_M → Option ρ
/-- the step τ at pc is the machine's: where what follows is good, it is -/
def pj_S {ρ : Type} (X : pj_X) (enc : ρ → Option pj_V × pj_M) (pc : Nat) (τ : pj_T ρ) : Prop :=
  ∀ K : pj_K ρ, (∀ pc' L st m r, K pc' L st m = some r → pj_R X (enc r).1 (enc r).2 → pj_W X pc' L st m) → ∀ L st m r, τ K L st m = some r → pj_R X (enc r).1 (enc r).2 → pj_W X pc L st m
theorem pj_F.stk {G : pj_E} {nL : Nat} {L : List (Option pj_V)} {st st' : List pj_V} {ls : Array Slot} (h : pj_F G nL L st ls) (h' : ∀ v ∈ st', pj_okv v) : pj_F G nL L st' ls := ⟨h.1, h.2.1, h.2.2.1, h.2.2.2.1, h'⟩
theorem pj_okc {a : pj_V} {st : List pj_V} (h1 : pj_okv a) (h2 : ∀ v ∈ st, pj_okv v) : ∀ v ∈ a :: st, pj_okv v := fun v hv => (List.mem_cons.mp hv).elim (fun e => e ▸ h1) (h2 v)
theorem pj_ok1 {a : pj_V} {st : List pj_V} (h : ∀ v ∈ a :: st, pj_okv v) : ∀ v ∈ st, pj_okv v := fun v hv => h v (List.mem_cons_of_mem _ hv)
theorem pj_okh {a : pj_V} {st : List pj_V} (h : ∀ v ∈ a :: st, pj_okv v) : pj_okv a := h a List.mem_cons_self
theorem pj_okd {n : Nat} {st : List pj_V} (h : ∀ v ∈ st, pj_okv v) : ∀ v ∈ st.drop n, pj_okv v := fun v hv => h v (List.mem_of_mem_drop hv)
theorem pj_okt {n : Nat} {st : List pj_V} (h : ∀ v ∈ st, pj_okv v) : ∀ v ∈ (st.take n).reverse, pj_okv v := fun v hv => h v (List.mem_of_mem_take (List.mem_reverse.mp hv))
/-! steps -/
def qs_ci {ρ : Type} (v : Int32) (nx : Nat) : pj_T ρ := fun K L st m => K nx L (.inl v :: st) m
def qs_cl {ρ : Type} (v : Int64) (nx : Nat) : pj_T ρ := fun K L st m => K nx L (.inr (.inl v) :: st) m
def qs_ldi {ρ : Type} (i nx : Nat) : pj_T ρ := fun K L st m => match L[i]? with
  | some (some (.inl x)) => K nx L (.inl x :: st) m
  | _ => none
def qs_ldl {ρ : Type} (i nx : Nat) : pj_T ρ := fun K L st m => match L[i]? with
  | some (some (.inr (.inl x))) => K nx L (.inr (.inl x) :: st) m
  | _ => none
def qs_lda {ρ : Type} (i nx : Nat) : pj_T ρ := fun K L st m => match L[i]? with
  | some (some (.inr (.inr x))) => K nx L (.inr (.inr x) :: st) m
  | _ => none
def qs_sti {ρ : Type} (i nx : Nat) : pj_T ρ := fun K L st m => match st, L[i]? with
  | .inl x :: st, some _ => K nx (pj_st1 L i (.inl x)) st m
  | _, _ => none
def qs_sta {ρ : Type} (i nx : Nat) : pj_T ρ := fun K L st m => match st, L[i]? with
  | .inr (.inr x) :: st, some _ => K nx (pj_st1 L i (.inr (.inr x))) st m
  | _, _ => none
def qs_stl {ρ : Type} (i nx : Nat) : pj_T ρ := fun K L st m => match st, L[i + 1]? with
  | .inr (.inl x) :: st, some _ => K nx (pj_st2 L i (.inr (.inl x))) st m
  | _, _ => none
def qs_inc {ρ : Type} (i : Nat) (d : Int32) (nx : Nat) : pj_T ρ := fun K L st m => match L[i]? with
  | some (some (.inl x)) => K nx (pj_st1 L i (.inl (x + d))) st m
  | _ => none
theorem qz_iconst {ρ : Type} {X : pj_X} {enc : ρ → Option pj_V × pj_M} {pc : Nat} (C : pj_C X) {n : Int} {v : Int32} (hd : decode (pj_cc X) pc = .ok (.iconst n, 1)) (hv : Int32.ofInt n = v) : pj_S X enc pc (qs_ci v (pc + 1)) := by
  intro K hK L st m r h hR
  obtain ⟨G, A, ⟨cc, own, nL, ret, rk⟩, ⟨p, l, e, R⟩, ⟨s, mi, args, below, meth, c⟩, ⟨cells, slots, Q⟩⟩ := X
  obtain ⟨hx, hb, hml, hown, hts, hk, hnw, hfr, hlo, hce, hsl, hX, hbl, hbA⟩ := C
  intro ls H locs hF hH
  exact lv_iconst hx hb hd hv (hK _ _ _ _ _ h hR ls H locs (hF.stk (pj_okc trivial hF.2.2.2.2)) hH)
theorem qz_bipush {ρ : Type} {X : pj_X} {enc : ρ → Option pj_V × pj_M} {pc : Nat} (C : pj_C X) {n : Int} {v : Int32} (hd : decode (pj_cc X) pc = .ok (.bipush n, 2)) (hv : (Int8.ofInt n).toInt32 = v) : pj_S X enc pc (qs_ci v (pc + 2)) := by
  intro K hK L st m r h hR
  obtain ⟨G, A, ⟨cc, own, nL, ret, rk⟩, ⟨p, l, e, R⟩, ⟨s, mi, args, below, meth, c⟩, ⟨cells, slots, Q⟩⟩ := X
  obtain ⟨hx, hb, hml, hown, hts, hk, hnw, hfr, hlo, hce, hsl, hX, hbl, hbA⟩ := C
  intro ls H locs hF hH
  exact lv_bipush hx hb hd hv (hK _ _ _ _ _ h hR ls H locs (hF.stk (pj_okc trivial hF.2.2.2.2)) hH)
theorem qz_sipush {ρ : Type} {X : pj_X} {enc : ρ → Option pj_V × pj_M} {pc : Nat} (C : pj_C X) {n : Int} {v : Int32} (hd : decode (pj_cc X) pc = .ok (.sipush n, 3)) (hv : (Int16.ofInt n).toInt32 = v) : pj_S X enc pc (qs_ci v (pc + 3)) := by
  intro K hK L st m r h hR
  obtain ⟨G, A, ⟨cc, own, nL, ret, rk⟩, ⟨p, l, e, R⟩, ⟨s, mi, args, below, meth, c⟩, ⟨cells, slots, Q⟩⟩ := X
  obtain ⟨hx, hb, hml, hown, hts, hk, hnw, hfr, hlo, hce, hsl, hX, hbl, hbA⟩ := C
  intro ls H locs hF hH
  exact lv_sipush hx hb hd hv (hK _ _ _ _ _ h hR ls H locs (hF.stk (pj_okc trivial hF.2.2.2.2)) hH)
theorem qz_lconst {ρ : Type} {X : pj_X} {enc : ρ → Option pj_V × pj_M} {pc : Nat} (C : pj_C X) {n : Fin 2} {v : Int64} (hd : decode (pj_cc X) pc = .ok (.lconst n, 1)) (hv : Int64.ofNat (n : Nat) = v) : pj_S X enc pc (qs_cl v (pc + 1)) := by
  intro K hK L st m r h hR
  obtain ⟨G, A, ⟨cc, own, nL, ret, rk⟩, ⟨p, l, e, R⟩, ⟨s, mi, args, below, meth, c⟩, ⟨cells, slots, Q⟩⟩ := X
  obtain ⟨hx, hb, hml, hown, hts, hk, hnw, hfr, hlo, hce, hsl, hX, hbl, hbA⟩ := C
  intro ls H locs hF hH
  exact lv_lconst hx hb hd hv (hK _ _ _ _ _ h hR ls H locs (hF.stk (pj_okc trivial hF.2.2.2.2)) hH)
theorem qz_ldc {ρ : Type} {X : pj_X} {enc : ρ → Option pj_V × pj_M} {pc : Nat} (C : pj_C X) {i : Nat} {v : Int32} (hd : decode (pj_cc X) pc = .ok (.ldc i, 2)) (hc : Cond.constant (pj_own X) i v ∈ pj_tb) : pj_S X enc pc (qs_ci v (pc + 2)) := by
  intro K hK L st m r h hR
  obtain ⟨G, A, ⟨cc, own, nL, ret, rk⟩, ⟨p, l, e, R⟩, ⟨s, mi, args, below, meth, c⟩, ⟨cells, slots, Q⟩⟩ := X
  obtain ⟨hx, hb, hml, hown, hts, hk, hnw, hfr, hlo, hce, hsl, hX, hbl, hbA⟩ := C
  intro ls H locs hF hH
  exact lv_ldc hx hb hown (hts _ hc) hd (hK _ _ _ _ _ h hR ls H locs (hF.stk (pj_okc trivial hF.2.2.2.2)) hH)
theorem qz_ldcw {ρ : Type} {X : pj_X} {enc : ρ → Option pj_V × pj_M} {pc : Nat} (C : pj_C X) {i : Nat} {v : Int32} (hd : decode (pj_cc X) pc = .ok (.ldc_w i, 3)) (hc : Cond.constant (pj_own X) i v ∈ pj_tb) : pj_S X enc pc (qs_ci v (pc + 3)) := by
  intro K hK L st m r h hR
  obtain ⟨G, A, ⟨cc, own, nL, ret, rk⟩, ⟨p, l, e, R⟩, ⟨s, mi, args, below, meth, c⟩, ⟨cells, slots, Q⟩⟩ := X
  obtain ⟨hx, hb, hml, hown, hts, hk, hnw, hfr, hlo, hce, hsl, hX, hbl, hbA⟩ := C
  intro ls H locs hF hH
  exact lv_ldcw hx hb hown (hts _ hc) hd (hK _ _ _ _ _ h hR ls H locs (hF.stk (pj_okc trivial hF.2.2.2.2)) hH)
theorem qz_ldc2 {ρ : Type} {X : pj_X} {enc : ρ → Option pj_V × pj_M} {pc : Nat} (C : pj_C X) {i : Nat} {v : Int64} (hd : decode (pj_cc X) pc = .ok (.ldc2_w i, 3)) (hc : Cond.constantLong (pj_own X) i v ∈ pj_tb) : pj_S X enc pc (qs_cl v (pc + 3)) := by
  intro K hK L st m r h hR
  obtain ⟨G, A, ⟨cc, own, nL, ret, rk⟩, ⟨p, l, e, R⟩, ⟨s, mi, args, below, meth, c⟩, ⟨cells, slots, Q⟩⟩ := X
  obtain ⟨hx, hb, hml, hown, hts, hk, hnw, hfr, hlo, hce, hsl, hX, hbl, hbA⟩ := C
  intro ls H locs hF hH
  exact lv_ldc2 hx hb hown (hts _ hc) hd (hK _ _ _ _ _ h hR ls H locs (hF.stk (pj_okc trivial hF.2.2.2.2)) hH)
theorem qz_iload_n {ρ : Type} {X : pj_X} {enc : ρ → Option pj_V × pj_M} {pc : Nat} (C : pj_C X) {k : Fin 4} {i : Nat} (hd : decode (pj_cc X) pc = .ok (.iload_n k, 1)) (hi : (k : Nat) = i) : pj_S X enc pc (qs_ldi i (pc + 1)) := by
  intro K hK L st m r h hR
  obtain ⟨G, A, ⟨cc, own, nL, ret, rk⟩, ⟨p, l, e, R⟩, ⟨s, mi, args, below, meth, c⟩, ⟨cells, slots, Q⟩⟩ := X
  obtain ⟨hx, hb, hml, hown, hts, hk, hnw, hfr, hlo, hce, hsl, hX, hbl, hbA⟩ := C
  unfold qs_ldi at h
  split at h
  · rename_i x hx1
    intro ls H locs hF hH
    exact lv_iload_n hx hb hd hi (hF.2.2.2.1 _ _ hx1).1 (hK _ _ _ _ _ h hR ls H locs (hF.stk (pj_okc trivial hF.2.2.2.2)) hH)
  · cases h
theorem qz_iload {ρ : Type} {X : pj_X} {enc : ρ → Option pj_V × pj_M} {pc : Nat} (C : pj_C X) {i : Nat} (hd : decode (pj_cc X) pc = .ok (.iload i, 2))  : pj_S X enc pc (qs_ldi i (pc + 2)) := by
  intro K hK L st m r h hR
  obtain ⟨G, A, ⟨cc, own, nL, ret, rk⟩, ⟨p, l, e, R⟩, ⟨s, mi, args, below, meth, c⟩, ⟨cells, slots, Q⟩⟩ := X
  obtain ⟨hx, hb, hml, hown, hts, hk, hnw, hfr, hlo, hce, hsl, hX, hbl, hbA⟩ := C
  unfold qs_ldi at h
  split at h
  · rename_i x hx1
    intro ls H locs hF hH
    exact lv_iload hx hb hd  (hF.2.2.2.1 _ _ hx1).1 (hK _ _ _ _ _ h hR ls H locs (hF.stk (pj_okc trivial hF.2.2.2.2)) hH)
  · cases h
theorem qz_lload_n {ρ : Type} {X : pj_X} {enc : ρ → Option pj_V × pj_M} {pc : Nat} (C : pj_C X) {k : Fin 4} {i : Nat} (hd : decode (pj_cc X) pc = .ok (.lload_n k, 1)) (hi : (k : Nat) = i) : pj_S X enc pc (qs_ldl i (pc + 1)) := by
  intro K hK L st m r h hR
  obtain ⟨G, A, ⟨cc, own, nL, ret, rk⟩, ⟨p, l, e, R⟩, ⟨s, mi, args, below, meth, c⟩, ⟨cells, slots, Q⟩⟩ := X
  obtain ⟨hx, hb, hml, hown, hts, hk, hnw, hfr, hlo, hce, hsl, hX, hbl, hbA⟩ := C
  unfold qs_ldl at h
  split at h
  · rename_i x hx1
    intro ls H locs hF hH
    exact lv_lload_n hx hb hd hi (hF.2.2.2.1 _ _ hx1).1 (hK _ _ _ _ _ h hR ls H locs (hF.stk (pj_okc trivial hF.2.2.2.2)) hH)
  · cases h
theorem qz_lload {ρ : Type} {X : pj_X} {enc : ρ → Option pj_V × pj_M} {pc : Nat} (C : pj_C X) {i : Nat} (hd : decode (pj_cc X) pc = .ok (.lload i, 2))  : pj_S X enc pc (qs_ldl i (pc + 2)) := by
  intro K hK L st m r h hR
  obtain ⟨G, A, ⟨cc, own, nL, ret, rk⟩, ⟨p, l, e, R⟩, ⟨s, mi, args, below, meth, c⟩, ⟨cells, slots, Q⟩⟩ := X
  obtain ⟨hx, hb, hml, hown, hts, hk, hnw, hfr, hlo, hce, hsl, hX, hbl, hbA⟩ := C
  unfold qs_ldl at h
  split at h
  · rename_i x hx1
    intro ls H locs hF hH
    exact lv_lload hx hb hd  (hF.2.2.2.1 _ _ hx1).1 (hK _ _ _ _ _ h hR ls H locs (hF.stk (pj_okc trivial hF.2.2.2.2)) hH)
  · cases h
theorem pj_tr_ref (G : pj_E) (r : Nat × Nat × Nat) : ∃ a, pj_tr G (.inr (.inr r)) = .ref a := by
  obtain ⟨t, x, a⟩ := r
  simp only [pj_tr]
  split
  · exact ⟨_, rfl⟩
  · exact ⟨_, rfl⟩
theorem qz_aload_n {ρ : Type} {X : pj_X} {enc : ρ → Option pj_V × pj_M} {pc : Nat} (C : pj_C X) {k : Fin 4} {i : Nat} (hd : decode (pj_cc X) pc = .ok (.aload_n k, 1)) (hi : (k : Nat) = i) : pj_S X enc pc (qs_lda i (pc + 1)) := by
  intro K hK L st m r h hR
  obtain ⟨G, A, ⟨cc, own, nL, ret, rk⟩, ⟨p, l, e, R⟩, ⟨s, mi, args, below, meth, c⟩, ⟨cells, slots, Q⟩⟩ := X
  obtain ⟨hx, hb, hml, hown, hts, hk, hnw, hfr, hlo, hce, hsl, hX, hbl, hbA⟩ := C
  unfold qs_lda at h
  split at h
  · rename_i x hx1
    intro ls H locs hF hH
    have h1 := hF.2.2.2.1 _ _ hx1
    have h2 := hK _ _ _ _ _ h hR ls H locs (hF.stk (pj_okc h1.2 hF.2.2.2.2)) hH
    obtain ⟨a, ha⟩ := pj_tr_ref G x
    rw [List.map_cons, ha] at h2
    exact lv_aload_n hx hb hd hi (by rw [← ha]; exact h1.1) h2
  · cases h
theorem qz_aload {ρ : Type} {X : pj_X} {enc : ρ → Option pj_V × pj_M} {pc : Nat} (C : pj_C X) {i : Nat} (hd : decode (pj_cc X) pc = .ok (.aload i, 2))  : pj_S X enc pc (qs_lda i (pc + 2)) := by
  intro K hK L st m r h hR
  obtain ⟨G, A, ⟨cc, own, nL, ret, rk⟩, ⟨p, l, e, R⟩, ⟨s, mi, args, below, meth, c⟩, ⟨cells, slots, Q⟩⟩ := X
  obtain ⟨hx, hb, hml, hown, hts, hk, hnw, hfr, hlo, hce, hsl, hX, hbl, hbA⟩ := C
  unfold qs_lda at h
  split at h
  · rename_i x hx1
    intro ls H locs hF hH
    have h1 := hF.2.2.2.1 _ _ hx1
    have h2 := hK _ _ _ _ _ h hR ls H locs (hF.stk (pj_okc h1.2 hF.2.2.2.2)) hH
    obtain ⟨a, ha⟩ := pj_tr_ref G x
    rw [List.map_cons, ha] at h2
    exact lv_aload hx hb hd  (by rw [← ha]; exact h1.1) h2
  · cases h
theorem qz_istore_n {ρ : Type} {X : pj_X} {enc : ρ → Option pj_V × pj_M} {pc : Nat} (C : pj_C X) {k : Fin 4} {i : Nat} (hd : decode (pj_cc X) pc = .ok (.istore_n k, 1)) (hi : (k : Nat) = i) : pj_S X enc pc (qs_sti i (pc + 1)) := by
  intro K hK L st m r h hR
  obtain ⟨G, A, ⟨cc, own, nL, ret, rk⟩, ⟨p, l, e, R⟩, ⟨s, mi, args, below, meth, c⟩, ⟨cells, slots, Q⟩⟩ := X
  obtain ⟨hx, hb, hml, hown, hts, hk, hnw, hfr, hlo, hce, hsl, hX, hbl, hbA⟩ := C
  unfold qs_sti at h
  split at h
  · rename_i x st o hx1
    intro ls H locs hF hH
    have hlt := (List.getElem?_eq_some_iff.mp hx1).1
    rw [hF.2.2.1] at hlt
    exact lv_istore_n hx hb hd hi hF.has hlt rfl (fun ls2 h2 => hK _ _ _ _ _ h hR ls2 H locs (hF.st1 h2) hH)
  · cases h
theorem qz_istore {ρ : Type} {X : pj_X} {enc : ρ → Option pj_V × pj_M} {pc : Nat} (C : pj_C X) {i : Nat} (hd : decode (pj_cc X) pc = .ok (.istore i, 2))  : pj_S X enc pc (qs_sti i (pc + 2)) := by
  intro K hK L st m r h hR
  obtain ⟨G, A, ⟨cc, own, nL, ret, rk⟩, ⟨p, l, e, R⟩, ⟨s, mi, args, below, meth, c⟩, ⟨cells, slots, Q⟩⟩ := X
  obtain ⟨hx, hb, hml, hown, hts, hk, hnw, hfr, hlo, hce, hsl, hX, hbl, hbA⟩ := C
  unfold qs_sti at h
  split at h
  · rename_i x st o hx1
    intro ls H locs hF hH
    have hlt := (List.getElem?_eq_some_iff.mp hx1).1
    rw [hF.2.2.1] at hlt
    exact lv_istore hx hb hd  hF.has hlt rfl (fun ls2 h2 => hK _ _ _ _ _ h hR ls2 H locs (hF.st1 h2) hH)
  · cases h
theorem qz_astore_n {ρ : Type} {X : pj_X} {enc : ρ → Option pj_V × pj_M} {pc : Nat} (C : pj_C X) {k : Fin 4} {i : Nat} (hd : decode (pj_cc X) pc = .ok (.astore_n k, 1)) (hi : (k : Nat) = i) : pj_S X enc pc (qs_sta i (pc + 1)) := by
  intro K hK L st m r h hR
  obtain ⟨G, A, ⟨cc, own, nL, ret, rk⟩, ⟨p, l, e, R⟩, ⟨s, mi, args, below, meth, c⟩, ⟨cells, slots, Q⟩⟩ := X
  obtain ⟨hx, hb, hml, hown, hts, hk, hnw, hfr, hlo, hce, hsl, hX, hbl, hbA⟩ := C
  unfold qs_sta at h
  split at h
  · rename_i x st o hx1
    intro ls H locs hF hH
    have hlt := (List.getElem?_eq_some_iff.mp hx1).1
    rw [hF.2.2.1] at hlt
    obtain ⟨a, ha⟩ := pj_tr_ref G x
    rw [List.map_cons, ha]
    exact lv_astore_n hx hb hd hi hF.has hlt rfl (fun ls2 h2 => hK _ _ _ _ _ h hR ls2 H locs (hF.st1 (by rw [ha]; exact h2)) hH)
  · cases h
theorem qz_astore {ρ : Type} {X : pj_X} {enc : ρ → Option pj_V × pj_M} {pc : Nat} (C : pj_C X) {i : Nat} (hd : decode (pj_cc X) pc = .ok (.astore i, 2))  : pj_S X enc pc (qs_sta i (pc + 2)) := by
  intro K hK L st m r h hR
  obtain ⟨G, A, ⟨cc, own, nL, ret, rk⟩, ⟨p, l, e, R⟩, ⟨s, mi, args, below, meth, c⟩, ⟨cells, slots, Q⟩⟩ := X
  obtain ⟨hx, hb, hml, hown, hts, hk, hnw, hfr, hlo, hce, hsl, hX, hbl, hbA⟩ := C
  unfold qs_sta at h
  split at h
  · rename_i x st o hx1
    intro ls H locs hF hH
    have hlt := (List.getElem?_eq_some_iff.mp hx1).1
    rw [hF.2.2.1] at hlt
    obtain ⟨a, ha⟩ := pj_tr_ref G x
    rw [List.map_cons, ha]
    exact lv_astore hx hb hd  hF.has hlt rfl (fun ls2 h2 => hK _ _ _ _ _ h hR ls2 H locs (hF.st1 (by rw [ha]; exact h2)) hH)
  · cases h
theorem qz_lstore_n {ρ : Type} {X : pj_X} {enc : ρ → Option pj_V × pj_M} {pc : Nat} (C : pj_C X) {k : Fin 4} {i : Nat} (hd : decode (pj_cc X) pc = .ok (.lstore_n k, 1)) (hi : (k : Nat) = i) : pj_S X enc pc (qs_stl i (pc + 1)) := by
  intro K hK L st m r h hR
  obtain ⟨G, A, ⟨cc, own, nL, ret, rk⟩, ⟨p, l, e, R⟩, ⟨s, mi, args, below, meth, c⟩, ⟨cells, slots, Q⟩⟩ := X
  obtain ⟨hx, hb, hml, hown, hts, hk, hnw, hfr, hlo, hce, hsl, hX, hbl, hbA⟩ := C
  unfold qs_stl at h
  split at h
  · rename_i x st o hx1
    intro ls H locs hF hH
    have hlt := (List.getElem?_eq_some_iff.mp hx1).1
    rw [hF.2.2.1] at hlt
    exact lv_lstore_n hx hb hd hi hF.has hlt rfl (fun ls2 h2 => hK _ _ _ _ _ h hR ls2 H locs (hF.st2 h2) hH)
  · cases h
theorem qz_lstore {ρ : Type} {X : pj_X} {enc : ρ → Option pj_V × pj_M} {pc : Nat} (C : pj_C X) {i : Nat} (hd : decode (pj_cc X) pc = .ok (.lstore i, 2))  : pj_S X enc pc (qs_stl i (pc + 2)) := by
  intro K hK L st m r h hR
  obtain ⟨G, A, ⟨cc, own, nL, ret, rk⟩, ⟨p, l, e, R⟩, ⟨s, mi, args, below, meth, c⟩, ⟨cells, slots, Q⟩⟩ := X
  obtain ⟨hx, hb, hml, hown, hts, hk, hnw, hfr, hlo, hce, hsl, hX, hbl, hbA⟩ := C
  unfold qs_stl at h
  split at h
  · rename_i x st o hx1
    intro ls H locs hF hH
    have hlt := (List.getElem?_eq_some_iff.mp hx1).1
    rw [hF.2.2.1] at hlt
    exact lv_lstore hx hb hd  hF.has hlt rfl (fun ls2 h2 => hK _ _ _ _ _ h hR ls2 H locs (hF.st2 h2) hH)
  · cases h
theorem qz_iinc {ρ : Type} {X : pj_X} {enc : ρ → Option pj_V × pj_M} {pc : Nat} (C : pj_C X) {i : Nat} {n : Int} {d : Int32} (hd : decode (pj_cc X) pc = .ok (.iinc i n, 3)) (hn : Int32.ofInt n = d) : pj_S X enc pc (qs_inc i d (pc + 3)) := by
  intro K hK L st m r h hR
  obtain ⟨G, A, ⟨cc, own, nL, ret, rk⟩, ⟨p, l, e, R⟩, ⟨s, mi, args, below, meth, c⟩, ⟨cells, slots, Q⟩⟩ := X
  obtain ⟨hx, hb, hml, hown, hts, hk, hnw, hfr, hlo, hce, hsl, hX, hbl, hbA⟩ := C
  unfold qs_inc at h
  split at h
  · rename_i x hx1
    intro ls H locs hF hH
    have hlt := (List.getElem?_eq_some_iff.mp hx1).1
    rw [hF.2.2.1] at hlt
    obtain ⟨k, hk1⟩ := List.getElem?_of_mem (pj_lv_mem (G := G) (q := (i, .int x)) |>.mpr ⟨.inl x, hx1, rfl⟩)
    refine lv_iinc hx hb hd hF.has hk1 (by rw [hn]) hlt rfl (fun ls2 h2 => hK _ _ _ _ _ h hR ls2 H locs ?_ hH)
    exact pj_F.st1 (v := .inl (x + d)) (hF.stk (pj_okc trivial hF.2.2.2.2)) h2
  · cases h
def qs_b2 {ρ : Type} (f : Int32 → Int32 → Int32) (nx : Nat) : pj_T ρ := fun K L st m => match st with
  | .inl y :: .inl x :: st => K nx L (.inl (f x y) :: st) m
  | _ => none
def qs_d2 {ρ : Type} (f : Int32 → Int32 → Int32) (nx : Nat) : pj_T ρ := fun K L st m => match st with
  | .inl y :: .inl x :: st => if y = 0 then none else K nx L (.inl (f x y) :: st) m
  | _ => none
def qs_l2 {ρ : Type} (f : Int64 → Int64 → Int64) (nx : Nat) : pj_T ρ := fun K L st m => match st with
  | .inr (.inl y) :: .inr (.inl x) :: st => K nx L (.inr (.inl (f x y)) :: st) m
  | _ => none
def qs_ld2 {ρ : Type} (f : Int64 → Int64 → Int64) (nx : Nat) : pj_T ρ := fun K L st m => match st with
  | .inr (.inl y) :: .inr (.inl x) :: st => if y = 0 then none else K nx L (.inr (.inl (f x y)) :: st) m
  | _ => none
def qs_lsh {ρ : Type} (f : Int64 → Int32 → Int64) (nx : Nat) : pj_T ρ := fun K L st m => match st with
  | .inl y :: .inr (.inl x) :: st => K nx L (.inr (.inl (f x y)) :: st) m
  | _ => none
def qs_lcmp {ρ : Type} (nx : Nat) : pj_T ρ := fun K L st m => match st with
  | .inr (.inl y) :: .inr (.inl x) :: st => K nx L (.inl (lg_cmp x y) :: st) m
  | _ => none
def qs_u1 {ρ : Type} (f : Int32 → Int32) (nx : Nat) : pj_T ρ := fun K L st m => match st with
  | .inl x :: st => K nx L (.inl (f x) :: st) m
  | _ => none
def qs_i2l {ρ : Type} (nx : Nat) : pj_T ρ := fun K L st m => match st with
  | .inl x :: st => K nx L (.inr (.inl x.toInt64) :: st) m
  | _ => none
def qs_l2i {ρ : Type} (nx : Nat) : pj_T ρ := fun K L st m => match st with
  | .inr (.inl x) :: st => K nx L (.inl x.toInt32 :: st) m
  | _ => none
theorem qz_iadd {ρ : Type} {X : pj_X} {enc : ρ → Option pj_V × pj_M} {pc : Nat} (C : pj_C X) (hd : decode (pj_cc X) pc = .ok (.iadd, 1)) : pj_S X enc pc (qs_b2 (fun x y => x + y) (pc + 1)) := by
  intro K hK L st m r h hR
  obtain ⟨G, A, ⟨cc, own, nL, ret, rk⟩, ⟨p, l, e, R⟩, ⟨s, mi, args, below, meth, c⟩, ⟨cells, slots, Q⟩⟩ := X
  obtain ⟨hx, hb, hml, hown, hts, hk, hnw, hfr, hlo, hce, hsl, hX, hbl, hbA⟩ := C
  unfold qs_b2 at h
  split at h
  · rename_i y x st
    intro ls H locs hF hH
    exact lv_iadd hx hb hd (hK _ _ _ _ _ h hR ls H locs (hF.stk (pj_okc trivial (pj_ok1 (pj_ok1 hF.2.2.2.2)))) hH)
  · cases h
theorem qz_isub {ρ : Type} {X : pj_X} {enc : ρ → Option pj_V × pj_M} {pc : Nat} (C : pj_C X) (hd : decode (pj_cc X) pc = .ok (.isub, 1)) : pj_S X enc pc (qs_b2 (fun x y => x - y) (pc + 1)) := by
  intro K hK L st m r h hR
  obtain ⟨G, A, ⟨cc, own, nL, ret, rk⟩, ⟨p, l, e, R⟩, ⟨s, mi, args, below, meth, c⟩, ⟨cells, slots, Q⟩⟩ := X
  obtain ⟨hx, hb, hml, hown, hts, hk, hnw, hfr, hlo, hce, hsl, hX, hbl, hbA⟩ := C
  unfold qs_b2 at h
  split at h
  · rename_i y x st
    intro ls H locs hF hH
    exact lv_isub hx hb hd (hK _ _ _ _ _ h hR ls H locs (hF.stk (pj_okc trivial (pj_ok1 (pj_ok1 hF.2.2.2.2)))) hH)
  · cases h
theorem qz_imul {ρ : Type} {X : pj_X} {enc : ρ → Option pj_V × pj_M} {pc : Nat} (C : pj_C X) (hd : decode (pj_cc X) pc = .ok (.imul, 1)) : pj_S X enc pc (qs_b2 (fun x y => x * y) (pc + 1)) := by
  intro K hK L st m r h hR
  obtain ⟨G, A, ⟨cc, own, nL, ret, rk⟩, ⟨p, l, e, R⟩, ⟨s, mi, args, below, meth, c⟩, ⟨cells, slots, Q⟩⟩ := X
  obtain ⟨hx, hb, hml, hown, hts, hk, hnw, hfr, hlo, hce, hsl, hX, hbl, hbA⟩ := C
  unfold qs_b2 at h
  split at h
  · rename_i y x st
    intro ls H locs hF hH
    exact lv_imul hx hb hd (hK _ _ _ _ _ h hR ls H locs (hF.stk (pj_okc trivial (pj_ok1 (pj_ok1 hF.2.2.2.2)))) hH)
  · cases h
theorem qz_iand {ρ : Type} {X : pj_X} {enc : ρ → Option pj_V × pj_M} {pc : Nat} (C : pj_C X) (hd : decode (pj_cc X) pc = .ok (.iand, 1)) : pj_S X enc pc (qs_b2 (fun x y => x &&& y) (pc + 1)) := by
  intro K hK L st m r h hR
  obtain ⟨G, A, ⟨cc, own, nL, ret, rk⟩, ⟨p, l, e, R⟩, ⟨s, mi, args, below, meth, c⟩, ⟨cells, slots, Q⟩⟩ := X
  obtain ⟨hx, hb, hml, hown, hts, hk, hnw, hfr, hlo, hce, hsl, hX, hbl, hbA⟩ := C
  unfold qs_b2 at h
  split at h
  · rename_i y x st
    intro ls H locs hF hH
    exact lv_iand hx hb hd (hK _ _ _ _ _ h hR ls H locs (hF.stk (pj_okc trivial (pj_ok1 (pj_ok1 hF.2.2.2.2)))) hH)
  · cases h
theorem qz_ior {ρ : Type} {X : pj_X} {enc : ρ → Option pj_V × pj_M} {pc : Nat} (C : pj_C X) (hd : decode (pj_cc X) pc = .ok (.ior, 1)) : pj_S X enc pc (qs_b2 (fun x y => x ||| y) (pc + 1)) := by
  intro K hK L st m r h hR
  obtain ⟨G, A, ⟨cc, own, nL, ret, rk⟩, ⟨p, l, e, R⟩, ⟨s, mi, args, below, meth, c⟩, ⟨cells, slots, Q⟩⟩ := X
  obtain ⟨hx, hb, hml, hown, hts, hk, hnw, hfr, hlo, hce, hsl, hX, hbl, hbA⟩ := C
  unfold qs_b2 at h
  split at h
  · rename_i y x st
    intro ls H locs hF hH
    exact lv_ior hx hb hd (hK _ _ _ _ _ h hR ls H locs (hF.stk (pj_okc trivial (pj_ok1 (pj_ok1 hF.2.2.2.2)))) hH)
  · cases h
theorem qz_ixor {ρ : Type} {X : pj_X} {enc : ρ → Option pj_V × pj_M} {pc : Nat} (C : pj_C X) (hd : decode (pj_cc X) pc = .ok (.ixor, 1)) : pj_S X enc pc (qs_b2 (fun x y => x ^^^ y) (pc + 1)) := by
  intro K hK L st m r h hR
  obtain ⟨G, A, ⟨cc, own, nL, ret, rk⟩, ⟨p, l, e, R⟩, ⟨s, mi, args, below, meth, c⟩, ⟨cells, slots, Q⟩⟩ := X
  obtain ⟨hx, hb, hml, hown, hts, hk, hnw, hfr, hlo, hce, hsl, hX, hbl, hbA⟩ := C
  unfold qs_b2 at h
  split at h
  · rename_i y x st
    intro ls H locs hF hH
    exact lv_ixor hx hb hd (hK _ _ _ _ _ h hR ls H locs (hF.stk (pj_okc trivial (pj_ok1 (pj_ok1 hF.2.2.2.2)))) hH)
  · cases h
theorem qz_ishl {ρ : Type} {X : pj_X} {enc : ρ → Option pj_V × pj_M} {pc : Nat} (C : pj_C X) (hd : decode (pj_cc X) pc = .ok (.ishl, 1)) : pj_S X enc pc (qs_b2 (fun x y => x <<< (y &&& 31)) (pc + 1)) := by
  intro K hK L st m r h hR
  obtain ⟨G, A, ⟨cc, own, nL, ret, rk⟩, ⟨p, l, e, R⟩, ⟨s, mi, args, below, meth, c⟩, ⟨cells, slots, Q⟩⟩ := X
  obtain ⟨hx, hb, hml, hown, hts, hk, hnw, hfr, hlo, hce, hsl, hX, hbl, hbA⟩ := C
  unfold qs_b2 at h
  split at h
  · rename_i y x st
    intro ls H locs hF hH
    exact lv_ishl hx hb hd (hK _ _ _ _ _ h hR ls H locs (hF.stk (pj_okc trivial (pj_ok1 (pj_ok1 hF.2.2.2.2)))) hH)
  · cases h
theorem qz_ishr {ρ : Type} {X : pj_X} {enc : ρ → Option pj_V × pj_M} {pc : Nat} (C : pj_C X) (hd : decode (pj_cc X) pc = .ok (.ishr, 1)) : pj_S X enc pc (qs_b2 (fun x y => x >>> (y &&& 31)) (pc + 1)) := by
  intro K hK L st m r h hR
  obtain ⟨G, A, ⟨cc, own, nL, ret, rk⟩, ⟨p, l, e, R⟩, ⟨s, mi, args, below, meth, c⟩, ⟨cells, slots, Q⟩⟩ := X
  obtain ⟨hx, hb, hml, hown, hts, hk, hnw, hfr, hlo, hce, hsl, hX, hbl, hbA⟩ := C
  unfold qs_b2 at h
  split at h
  · rename_i y x st
    intro ls H locs hF hH
    exact lv_ishr hx hb hd (hK _ _ _ _ _ h hR ls H locs (hF.stk (pj_okc trivial (pj_ok1 (pj_ok1 hF.2.2.2.2)))) hH)
  · cases h
theorem qz_iushr {ρ : Type} {X : pj_X} {enc : ρ → Option pj_V × pj_M} {pc : Nat} (C : pj_C X) (hd : decode (pj_cc X) pc = .ok (.iushr, 1)) : pj_S X enc pc (qs_b2 (fun x y => (x.toUInt32 >>> (y.toUInt32 &&& Int32.toUInt32 31)).toInt32) (pc + 1)) := by
  intro K hK L st m r h hR
  obtain ⟨G, A, ⟨cc, own, nL, ret, rk⟩, ⟨p, l, e, R⟩, ⟨s, mi, args, below, meth, c⟩, ⟨cells, slots, Q⟩⟩ := X
  obtain ⟨hx, hb, hml, hown, hts, hk, hnw, hfr, hlo, hce, hsl, hX, hbl, hbA⟩ := C
  unfold qs_b2 at h
  split at h
  · rename_i y x st
    intro ls H locs hF hH
    exact lv_iushr hx hb hd rfl (hK _ _ _ _ _ h hR ls H locs (hF.stk (pj_okc trivial (pj_ok1 (pj_ok1 hF.2.2.2.2)))) hH)
  · cases h
theorem qz_idiv {ρ : Type} {X : pj_X} {enc : ρ → Option pj_V × pj_M} {pc : Nat} (C : pj_C X) (hd : decode (pj_cc X) pc = .ok (.idiv, 1)) : pj_S X enc pc (qs_d2 (fun x y => x / y) (pc + 1)) := by
  intro K hK L st m r h hR
  obtain ⟨G, A, ⟨cc, own, nL, ret, rk⟩, ⟨p, l, e, R⟩, ⟨s, mi, args, below, meth, c⟩, ⟨cells, slots, Q⟩⟩ := X
  obtain ⟨hx, hb, hml, hown, hts, hk, hnw, hfr, hlo, hce, hsl, hX, hbl, hbA⟩ := C
  unfold qs_d2 at h
  split at h
  · rename_i y x st
    intro ls H locs hF hH
    split at h
    · cases h
    · rename_i hne
      exact lv_idiv hx hb hd hne (hK _ _ _ _ _ h hR ls H locs (hF.stk (pj_okc trivial (pj_ok1 (pj_ok1 hF.2.2.2.2)))) hH)
  · cases h
theorem qz_irem {ρ : Type} {X : pj_X} {enc : ρ → Option pj_V × pj_M} {pc : Nat} (C : pj_C X) (hd : decode (pj_cc X) pc = .ok (.irem, 1)) : pj_S X enc pc (qs_d2 (fun x y => x - x / y * y) (pc + 1)) := by
  intro K hK L st m r h hR
  obtain ⟨G, A, ⟨cc, own, nL, ret, rk⟩, ⟨p, l, e, R⟩, ⟨s, mi, args, below, meth, c⟩, ⟨cells, slots, Q⟩⟩ := X
  obtain ⟨hx, hb, hml, hown, hts, hk, hnw, hfr, hlo, hce, hsl, hX, hbl, hbA⟩ := C
  unfold qs_d2 at h
  split at h
  · rename_i y x st
    intro ls H locs hF hH
    split at h
    · cases h
    · rename_i hne
      exact lv_irem hx hb hd hne (hK _ _ _ _ _ h hR ls H locs (hF.stk (pj_okc trivial (pj_ok1 (pj_ok1 hF.2.2.2.2)))) hH)
  · cases h
theorem qz_ladd {ρ : Type} {X : pj_X} {enc : ρ → Option pj_V × pj_M} {pc : Nat} (C : pj_C X) (hd : decode (pj_cc X) pc = .ok (.ladd, 1)) : pj_S X enc pc (qs_l2 (fun x y => x + y) (pc + 1)) := by
  intro K hK L st m r h hR
  obtain ⟨G, A, ⟨cc, own, nL, ret, rk⟩, ⟨p, l, e, R⟩, ⟨s, mi, args, below, meth, c⟩, ⟨cells, slots, Q⟩⟩ := X
  obtain ⟨hx, hb, hml, hown, hts, hk, hnw, hfr, hlo, hce, hsl, hX, hbl, hbA⟩ := C
  unfold qs_l2 at h
  split at h
  · rename_i y x st
    intro ls H locs hF hH
    exact lv_ladd hx hb hd (hK _ _ _ _ _ h hR ls H locs (hF.stk (pj_okc trivial (pj_ok1 (pj_ok1 hF.2.2.2.2)))) hH)
  · cases h
theorem qz_lsub {ρ : Type} {X : pj_X} {enc : ρ → Option pj_V × pj_M} {pc : Nat} (C : pj_C X) (hd : decode (pj_cc X) pc = .ok (.lsub, 1)) : pj_S X enc pc (qs_l2 (fun x y => x - y) (pc + 1)) := by
  intro K hK L st m r h hR
  obtain ⟨G, A, ⟨cc, own, nL, ret, rk⟩, ⟨p, l, e, R⟩, ⟨s, mi, args, below, meth, c⟩, ⟨cells, slots, Q⟩⟩ := X
  obtain ⟨hx, hb, hml, hown, hts, hk, hnw, hfr, hlo, hce, hsl, hX, hbl, hbA⟩ := C
  unfold qs_l2 at h
  split at h
  · rename_i y x st
    intro ls H locs hF hH
    exact lv_lsub hx hb hd (hK _ _ _ _ _ h hR ls H locs (hF.stk (pj_okc trivial (pj_ok1 (pj_ok1 hF.2.2.2.2)))) hH)
  · cases h
theorem qz_lmul {ρ : Type} {X : pj_X} {enc : ρ → Option pj_V × pj_M} {pc : Nat} (C : pj_C X) (hd : decode (pj_cc X) pc = .ok (.lmul, 1)) : pj_S X enc pc (qs_l2 (fun x y => x * y) (pc + 1)) := by
  intro K hK L st m r h hR
  obtain ⟨G, A, ⟨cc, own, nL, ret, rk⟩, ⟨p, l, e, R⟩, ⟨s, mi, args, below, meth, c⟩, ⟨cells, slots, Q⟩⟩ := X
  obtain ⟨hx, hb, hml, hown, hts, hk, hnw, hfr, hlo, hce, hsl, hX, hbl, hbA⟩ := C
  unfold qs_l2 at h
  split at h
  · rename_i y x st
    intro ls H locs hF hH
    exact lv_lmul hx hb hd (hK _ _ _ _ _ h hR ls H locs (hF.stk (pj_okc trivial (pj_ok1 (pj_ok1 hF.2.2.2.2)))) hH)
  · cases h
theorem qz_land {ρ : Type} {X : pj_X} {enc : ρ → Option pj_V × pj_M} {pc : Nat} (C : pj_C X) (hd : decode (pj_cc X) pc = .ok (.land, 1)) : pj_S X enc pc (qs_l2 (fun x y => x &&& y) (pc + 1)) := by
  intro K hK L st m r h hR
  obtain ⟨G, A, ⟨cc, own, nL, ret, rk⟩, ⟨p, l, e, R⟩, ⟨s, mi, args, below, meth, c⟩, ⟨cells, slots, Q⟩⟩ := X
  obtain ⟨hx, hb, hml, hown, hts, hk, hnw, hfr, hlo, hce, hsl, hX, hbl, hbA⟩ := C
  unfold qs_l2 at h
  split at h
  · rename_i y x st
    intro ls H locs hF hH
    exact lv_land hx hb hd (hK _ _ _ _ _ h hR ls H locs (hF.stk (pj_okc trivial (pj_ok1 (pj_ok1 hF.2.2.2.2)))) hH)
  · cases h
theorem qz_lor {ρ : Type} {X : pj_X} {enc : ρ → Option pj_V × pj_M} {pc : Nat} (C : pj_C X) (hd : decode (pj_cc X) pc = .ok (.lor, 1)) : pj_S X enc pc (qs_l2 (fun x y => x ||| y) (pc + 1)) := by
  intro K hK L st m r h hR
  obtain ⟨G, A, ⟨cc, own, nL, ret, rk⟩, ⟨p, l, e, R⟩, ⟨s, mi, args, below, meth, c⟩, ⟨cells, slots, Q⟩⟩ := X
  obtain ⟨hx, hb, hml, hown, hts, hk, hnw, hfr, hlo, hce, hsl, hX, hbl, hbA⟩ := C
  unfold qs_l2 at h
  split at h
  · rename_i y x st
    intro ls H locs hF hH
    exact lv_lor hx hb hd (hK _ _ _ _ _ h hR ls H locs (hF.stk (pj_okc trivial (pj_ok1 (pj_ok1 hF.2.2.2.2)))) hH)
  · cases h
theorem qz_lxor {ρ : Type} {X : pj_X} {enc : ρ → Option pj_V × pj_M} {pc : Nat} (C : pj_C X) (hd : decode (pj_cc X) pc = .ok (.lxor, 1)) : pj_S X enc pc (qs_l2 (fun x y => x ^^^ y) (pc + 1)) := by
  intro K hK L st m r h hR
  obtain ⟨G, A, ⟨cc, own, nL, ret, rk⟩, ⟨p, l, e, R⟩, ⟨s, mi, args, below, meth, c⟩, ⟨cells, slots, Q⟩⟩ := X
  obtain ⟨hx, hb, hml, hown, hts, hk, hnw, hfr, hlo, hce, hsl, hX, hbl, hbA⟩ := C
  unfold qs_l2 at h
  split at h
  · rename_i y x st
    intro ls H locs hF hH
    exact lv_lxor hx hb hd (hK _ _ _ _ _ h hR ls H locs (hF.stk (pj_okc trivial (pj_ok1 (pj_ok1 hF.2.2.2.2)))) hH)
  · cases h
theorem qz_lrem {ρ : Type} {X : pj_X} {enc : ρ → Option pj_V × pj_M} {pc : Nat} (C : pj_C X) (hd : decode (pj_cc X) pc = .ok (.lrem, 1)) : pj_S X enc pc (qs_ld2 (fun x y => x - x / y * y) (pc + 1)) := by
  intro K hK L st m r h hR
  obtain ⟨G, A, ⟨cc, own, nL, ret, rk⟩, ⟨p, l, e, R⟩, ⟨s, mi, args, below, meth, c⟩, ⟨cells, slots, Q⟩⟩ := X
  obtain ⟨hx, hb, hml, hown, hts, hk, hnw, hfr, hlo, hce, hsl, hX, hbl, hbA⟩ := C
  unfold qs_ld2 at h
  split at h
  · rename_i y x st
    intro ls H locs hF hH
    split at h
    · cases h
    · rename_i hne
      exact lv_lrem hx hb hd hne (hK _ _ _ _ _ h hR ls H locs (hF.stk (pj_okc trivial (pj_ok1 (pj_ok1 hF.2.2.2.2)))) hH)
  · cases h
theorem qz_lshl {ρ : Type} {X : pj_X} {enc : ρ → Option pj_V × pj_M} {pc : Nat} (C : pj_C X) (hd : decode (pj_cc X) pc = .ok (.lshl, 1)) : pj_S X enc pc (qs_lsh (fun x y => x <<< (y.toInt64 &&& 63)) (pc + 1)) := by
  intro K hK L st m r h hR
  obtain ⟨G, A, ⟨cc, own, nL, ret, rk⟩, ⟨p, l, e, R⟩, ⟨s, mi, args, below, meth, c⟩, ⟨cells, slots, Q⟩⟩ := X
  obtain ⟨hx, hb, hml, hown, hts, hk, hnw, hfr, hlo, hce, hsl, hX, hbl, hbA⟩ := C
  unfold qs_lsh at h
  split at h
  · rename_i y x st
    intro ls H locs hF hH
    exact lv_lshl hx hb hd rfl (hK _ _ _ _ _ h hR ls H locs (hF.stk (pj_okc trivial (pj_ok1 (pj_ok1 hF.2.2.2.2)))) hH)
  · cases h
theorem qz_lcmp {ρ : Type} {X : pj_X} {enc : ρ → Option pj_V × pj_M} {pc : Nat} (C : pj_C X) (hd : decode (pj_cc X) pc = .ok (.lcmp, 1)) : pj_S X enc pc (qs_lcmp (pc + 1)) := by
  intro K hK L st m r h hR
  obtain ⟨G, A, ⟨cc, own, nL, ret, rk⟩, ⟨p, l, e, R⟩, ⟨s, mi, args, below, meth, c⟩, ⟨cells, slots, Q⟩⟩ := X
  obtain ⟨hx, hb, hml, hown, hts, hk, hnw, hfr, hlo, hce, hsl, hX, hbl, hbA⟩ := C
  unfold qs_lcmp at h
  split at h
  · rename_i y x st
    intro ls H locs hF hH
    exact W.lcmp hx hb hd (hK _ _ _ _ _ h hR ls H locs (hF.stk (pj_okc trivial (pj_ok1 (pj_ok1 hF.2.2.2.2)))) hH)
  · cases h
theorem qz_ineg {ρ : Type} {X : pj_X} {enc : ρ → Option pj_V × pj_M} {pc : Nat} (C : pj_C X) (hd : decode (pj_cc X) pc = .ok (.ineg, 1)) : pj_S X enc pc (qs_u1 (fun x => -x) (pc + 1)) := by
  intro K hK L st m r h hR
  obtain ⟨G, A, ⟨cc, own, nL, ret, rk⟩, ⟨p, l, e, R⟩, ⟨s, mi, args, below, meth, c⟩, ⟨cells, slots, Q⟩⟩ := X
  obtain ⟨hx, hb, hml, hown, hts, hk, hnw, hfr, hlo, hce, hsl, hX, hbl, hbA⟩ := C
  unfold qs_u1 at h
  split at h
  · rename_i x st
    intro ls H locs hF hH
    exact lv_ineg hx hb hd (hK _ _ _ _ _ h hR ls H locs (hF.stk (pj_okc trivial (pj_ok1 hF.2.2.2.2))) hH)
  · cases h
theorem qz_i2b {ρ : Type} {X : pj_X} {enc : ρ → Option pj_V × pj_M} {pc : Nat} (C : pj_C X) (hd : decode (pj_cc X) pc = .ok (.i2b, 1)) : pj_S X enc pc (qs_u1 (fun x => x.toInt8.toInt32) (pc + 1)) := by
  intro K hK L st m r h hR
  obtain ⟨G, A, ⟨cc, own, nL, ret, rk⟩, ⟨p, l, e, R⟩, ⟨s, mi, args, below, meth, c⟩, ⟨cells, slots, Q⟩⟩ := X
  obtain ⟨hx, hb, hml, hown, hts, hk, hnw, hfr, hlo, hce, hsl, hX, hbl, hbA⟩ := C
  unfold qs_u1 at h
  split at h
  · rename_i x st
    intro ls H locs hF hH
    exact lv_i2b hx hb hd rfl (hK _ _ _ _ _ h hR ls H locs (hF.stk (pj_okc trivial (pj_ok1 hF.2.2.2.2))) hH)
  · cases h
theorem qz_i2s {ρ : Type} {X : pj_X} {enc : ρ → Option pj_V × pj_M} {pc : Nat} (C : pj_C X) (hd : decode (pj_cc X) pc = .ok (.i2s, 1)) : pj_S X enc pc (qs_u1 (fun x => x.toInt16.toInt32) (pc + 1)) := by
  intro K hK L st m r h hR
  obtain ⟨G, A, ⟨cc, own, nL, ret, rk⟩, ⟨p, l, e, R⟩, ⟨s, mi, args, below, meth, c⟩, ⟨cells, slots, Q⟩⟩ := X
  obtain ⟨hx, hb, hml, hown, hts, hk, hnw, hfr, hlo, hce, hsl, hX, hbl, hbA⟩ := C
  unfold qs_u1 at h
  split at h
  · rename_i x st
    intro ls H locs hF hH
    exact lv_i2s hx hb hd rfl (hK _ _ _ _ _ h hR ls H locs (hF.stk (pj_okc trivial (pj_ok1 hF.2.2.2.2))) hH)
  · cases h
theorem qz_i2l {ρ : Type} {X : pj_X} {enc : ρ → Option pj_V × pj_M} {pc : Nat} (C : pj_C X) (hd : decode (pj_cc X) pc = .ok (.i2l, 1)) : pj_S X enc pc (qs_i2l (pc + 1)) := by
  intro K hK L st m r h hR
  obtain ⟨G, A, ⟨cc, own, nL, ret, rk⟩, ⟨p, l, e, R⟩, ⟨s, mi, args, below, meth, c⟩, ⟨cells, slots, Q⟩⟩ := X
  obtain ⟨hx, hb, hml, hown, hts, hk, hnw, hfr, hlo, hce, hsl, hX, hbl, hbA⟩ := C
  unfold qs_i2l at h
  split at h
  · rename_i x st
    intro ls H locs hF hH
    exact lv_i2l hx hb hd rfl (hK _ _ _ _ _ h hR ls H locs (hF.stk (pj_okc trivial (pj_ok1 hF.2.2.2.2))) hH)
  · cases h
theorem qz_l2i {ρ : Type} {X : pj_X} {enc : ρ → Option pj_V × pj_M} {pc : Nat} (C : pj_C X) (hd : decode (pj_cc X) pc = .ok (.l2i, 1)) : pj_S X enc pc (qs_l2i (pc + 1)) := by
  intro K hK L st m r h hR
  obtain ⟨G, A, ⟨cc, own, nL, ret, rk⟩, ⟨p, l, e, R⟩, ⟨s, mi, args, below, meth, c⟩, ⟨cells, slots, Q⟩⟩ := X
  obtain ⟨hx, hb, hml, hown, hts, hk, hnw, hfr, hlo, hce, hsl, hX, hbl, hbA⟩ := C
  unfold qs_l2i at h
  split at h
  · rename_i x st
    intro ls H locs hF hH
    exact lv_l2i hx hb hd rfl (hK _ _ _ _ _ h hR ls H locs (hF.stk (pj_okc trivial (pj_ok1 hF.2.2.2.2))) hH)
  · cases h
def qs_dup {ρ : Type} (nx : Nat) : pj_T ρ := fun K L st m => match st with
  | .inl x :: st => K nx L (.inl x :: .inl x :: st) m
  | .inr (.inr x) :: st => K nx L (.inr (.inr x) :: .inr (.inr x) :: st) m
  | _ => none
def qs_pop {ρ : Type} (nx : Nat) : pj_T ρ := fun K L st m => match st with
  | .inl _ :: st => K nx L st m
  | .inr (.inr _) :: st => K nx L st m
  | _ => none
def qs_dup2 {ρ : Type} (nx : Nat) : pj_T ρ := fun K L st m => match st with
  | .inl x :: .inr (.inr y) :: st => K nx L (.inl x :: .inr (.inr y) :: .inl x :: .inr (.inr y) :: st) m
  | _ => none
theorem pj_cat1 (G : pj_E) (r : Nat × Nat × Nat) : (pj_tr G (.inr (.inr r))).category = 1 := by
  obtain ⟨a, ha⟩ := pj_tr_ref G r
  rw [ha]
  rfl
theorem qz_dup {ρ : Type} {X : pj_X} {enc : ρ → Option pj_V × pj_M} {pc : Nat} (C : pj_C X) (hd : decode (pj_cc X) pc = .ok (.dup, 1)) : pj_S X enc pc (qs_dup (pc + 1)) := by
  intro K hK L st m r h hR
  obtain ⟨G, A, ⟨cc, own, nL, ret, rk⟩, ⟨p, l, e, R⟩, ⟨s, mi, args, below, meth, c⟩, ⟨cells, slots, Q⟩⟩ := X
  obtain ⟨hx, hb, hml, hown, hts, hk, hnw, hfr, hlo, hce, hsl, hX, hbl, hbA⟩ := C
  unfold qs_dup at h
  split at h
  · intro ls H locs hF hH
    exact lv_dup hx hb hd rfl (hK _ _ _ _ _ h hR ls H locs (hF.stk (pj_okc trivial hF.2.2.2.2)) hH)
  · intro ls H locs hF hH
    exact lv_dup hx hb hd (pj_cat1 G _) (hK _ _ _ _ _ h hR ls H locs (hF.stk (pj_okc (pj_okh hF.2.2.2.2) hF.2.2.2.2)) hH)
  · cases h
theorem qz_pop {ρ : Type} {X : pj_X} {enc : ρ → Option pj_V × pj_M} {pc : Nat} (C : pj_C X) (hd : decode (pj_cc X) pc = .ok (.pop, 1)) : pj_S X enc pc (qs_pop (pc + 1)) := by
  intro K hK L st m r h hR
  obtain ⟨G, A, ⟨cc, own, nL, ret, rk⟩, ⟨p, l, e, R⟩, ⟨s, mi, args, below, meth, c⟩, ⟨cells, slots, Q⟩⟩ := X
  obtain ⟨hx, hb, hml, hown, hts, hk, hnw, hfr, hlo, hce, hsl, hX, hbl, hbA⟩ := C
  unfold qs_pop at h
  split at h
  · intro ls H locs hF hH
    exact lv_pop (va := .int _) hx hb hd rfl (hK _ _ _ _ _ h hR ls H locs (hF.stk (pj_ok1 hF.2.2.2.2)) hH)
  · intro ls H locs hF hH
    exact lv_pop hx hb hd (pj_cat1 G _) (hK _ _ _ _ _ h hR ls H locs (hF.stk (pj_ok1 hF.2.2.2.2)) hH)
  · cases h
theorem qz_dup2 {ρ : Type} {X : pj_X} {enc : ρ → Option pj_V × pj_M} {pc : Nat} (C : pj_C X) (hd : decode (pj_cc X) pc = .ok (.dup2, 1)) : pj_S X enc pc (qs_dup2 (pc + 1)) := by
  intro K hK L st m r h hR
  obtain ⟨G, A, ⟨cc, own, nL, ret, rk⟩, ⟨p, l, e, R⟩, ⟨s, mi, args, below, meth, c⟩, ⟨cells, slots, Q⟩⟩ := X
  obtain ⟨hx, hb, hml, hown, hts, hk, hnw, hfr, hlo, hce, hsl, hX, hbl, hbA⟩ := C
  unfold qs_dup2 at h
  split at h
  · intro ls H locs hF hH
    exact lv_dup2_11 hx hb hd rfl (pj_cat1 G _) (hK _ _ _ _ _ h hR ls H locs (hF.stk (pj_okc trivial (pj_okc (pj_okh (pj_ok1 hF.2.2.2.2)) hF.2.2.2.2))) hH)
  · cases h
def qs_go {ρ : Type} (tgt : Nat) : pj_T ρ := fun K L st m => K tgt L st m
theorem qz_goto {ρ : Type} {X : pj_X} {enc : ρ → Option pj_V × pj_M} {pc : Nat} (C : pj_C X) {off : Int} {tgt : Nat} (hd : decode (pj_cc X) pc = .ok (.goto off, 3)) (ht : (pc : Int) + off = (tgt : Int)) : pj_S X enc pc (qs_go tgt) := by
  intro K hK L st m r h hR
  obtain ⟨G, A, ⟨cc, own, nL, ret, rk⟩, ⟨p, l, e, R⟩, ⟨s, mi, args, below, meth, c⟩, ⟨cells, slots, Q⟩⟩ := X
  obtain ⟨hx, hb, hml, hown, hts, hk, hnw, hfr, hlo, hce, hsl, hX, hbl, hbA⟩ := C
  intro ls H locs hF hH
  exact lv_goto hx hb hd ht (hK _ _ _ _ _ h hR ls H locs hF hH)
def qs_ifeq {ρ : Type} (tgt nx : Nat) : pj_T ρ := fun K L st m => match st with
  | .inl x :: st => if x = 0 then K tgt L st m else K nx L st m
  | _ => none
theorem qz_ifeq {ρ : Type} {X : pj_X} {enc : ρ → Option pj_V × pj_M} {pc : Nat} (C : pj_C X) {off : Int} {tgt : Nat} (hd : decode (pj_cc X) pc = .ok (.ifCond .eq off, 3)) (ht : (pc : Int) + off = (tgt : Int)) : pj_S X enc pc (qs_ifeq tgt (pc + 3)) := by
  intro K hK L st m r h hR
  obtain ⟨G, A, ⟨cc, own, nL, ret, rk⟩, ⟨p, l, e, R⟩, ⟨s, mi, args, below, meth, c⟩, ⟨cells, slots, Q⟩⟩ := X
  obtain ⟨hx, hb, hml, hown, hts, hk, hnw, hfr, hlo, hce, hsl, hX, hbl, hbA⟩ := C
  unfold qs_ifeq at h
  split at h
  · intro ls H locs hF hH
    have hF1 := hF.stk (pj_ok1 hF.2.2.2.2)
    refine lv_if_eq hx hb hd ht (fun c1 => ?_) (fun c1 => ?_)
    · rw [if_pos c1] at h
      exact hK _ _ _ _ _ h hR ls H locs hF1 hH
    · rw [if_neg c1] at h
      exact hK _ _ _ _ _ h hR ls H locs hF1 hH
  · cases h
def qs_ifne {ρ : Type} (tgt nx : Nat) : pj_T ρ := fun K L st m => match st with
  | .inl x :: st => if x = 0 then K nx L st m else K tgt L st m
  | _ => none
theorem qz_ifne {ρ : Type} {X : pj_X} {enc : ρ → Option pj_V × pj_M} {pc : Nat} (C : pj_C X) {off : Int} {tgt : Nat} (hd : decode (pj_cc X) pc = .ok (.ifCond .ne off, 3)) (ht : (pc : Int) + off = (tgt : Int)) : pj_S X enc pc (qs_ifne tgt (pc + 3)) := by
  intro K hK L st m r h hR
  obtain ⟨G, A, ⟨cc, own, nL, ret, rk⟩, ⟨p, l, e, R⟩, ⟨s, mi, args, below, meth, c⟩, ⟨cells, slots, Q⟩⟩ := X
  obtain ⟨hx, hb, hml, hown, hts, hk, hnw, hfr, hlo, hce, hsl, hX, hbl, hbA⟩ := C
  unfold qs_ifne at h
  split at h
  · intro ls H locs hF hH
    have hF1 := hF.stk (pj_ok1 hF.2.2.2.2)
    refine lv_if_ne hx hb hd ht (fun c1 => ?_) (fun c1 => ?_)
    · rw [if_neg c1] at h
      exact hK _ _ _ _ _ h hR ls H locs hF1 hH
    · rw [if_pos c1] at h
      exact hK _ _ _ _ _ h hR ls H locs hF1 hH
  · cases h
def qs_iflt {ρ : Type} (tgt nx : Nat) : pj_T ρ := fun K L st m => match st with
  | .inl x :: st => if x < 0 then K tgt L st m else K nx L st m
  | _ => none
theorem qz_iflt {ρ : Type} {X : pj_X} {enc : ρ → Option pj_V × pj_M} {pc : Nat} (C : pj_C X) {off : Int} {tgt : Nat} (hd : decode (pj_cc X) pc = .ok (.ifCond .lt off, 3)) (ht : (pc : Int) + off = (tgt : Int)) : pj_S X enc pc (qs_iflt tgt (pc + 3)) := by
  intro K hK L st m r h hR
  obtain ⟨G, A, ⟨cc, own, nL, ret, rk⟩, ⟨p, l, e, R⟩, ⟨s, mi, args, below, meth, c⟩, ⟨cells, slots, Q⟩⟩ := X
  obtain ⟨hx, hb, hml, hown, hts, hk, hnw, hfr, hlo, hce, hsl, hX, hbl, hbA⟩ := C
  unfold qs_iflt at h
  split at h
  · intro ls H locs hF hH
    have hF1 := hF.stk (pj_ok1 hF.2.2.2.2)
    refine lv_if_lt hx hb hd ht (fun c1 => ?_) (fun c1 => ?_)
    · rw [if_pos c1] at h
      exact hK _ _ _ _ _ h hR ls H locs hF1 hH
    · rw [if_neg c1] at h
      exact hK _ _ _ _ _ h hR ls H locs hF1 hH
  · cases h
def qs_ifge {ρ : Type} (tgt nx : Nat) : pj_T ρ := fun K L st m => match st with
  | .inl x :: st => if x < 0 then K nx L st m else K tgt L st m
  | _ => none
theorem qz_ifge {ρ : Type} {X : pj_X} {enc : ρ → Option pj_V × pj_M} {pc : Nat} (C : pj_C X) {off : Int} {tgt : Nat} (hd : decode (pj_cc X) pc = .ok (.ifCond .ge off, 3)) (ht : (pc : Int) + off = (tgt : Int)) : pj_S X enc pc (qs_ifge tgt (pc + 3)) := by
  intro K hK L st m r h hR
  obtain ⟨G, A, ⟨cc, own, nL, ret, rk⟩, ⟨p, l, e, R⟩, ⟨s, mi, args, below, meth, c⟩, ⟨cells, slots, Q⟩⟩ := X
  obtain ⟨hx, hb, hml, hown, hts, hk, hnw, hfr, hlo, hce, hsl, hX, hbl, hbA⟩ := C
  unfold qs_ifge at h
  split at h
  · intro ls H locs hF hH
    have hF1 := hF.stk (pj_ok1 hF.2.2.2.2)
    refine lv_if_ge hx hb hd ht (fun c1 => ?_) (fun c1 => ?_)
    · rw [if_neg (Int32.not_lt.mpr c1)] at h
      exact hK _ _ _ _ _ h hR ls H locs hF1 hH
    · rw [if_pos (Int32.not_le.mp c1)] at h
      exact hK _ _ _ _ _ h hR ls H locs hF1 hH
  · cases h
def qs_ifgt {ρ : Type} (tgt nx : Nat) : pj_T ρ := fun K L st m => match st with
  | .inl x :: st => if 0 < x then K tgt L st m else K nx L st m
  | _ => none
theorem qz_ifgt {ρ : Type} {X : pj_X} {enc : ρ → Option pj_V × pj_M} {pc : Nat} (C : pj_C X) {off : Int} {tgt : Nat} (hd : decode (pj_cc X) pc = .ok (.ifCond .gt off, 3)) (ht : (pc : Int) + off = (tgt : Int)) : pj_S X enc pc (qs_ifgt tgt (pc + 3)) := by
  intro K hK L st m r h hR
  obtain ⟨G, A, ⟨cc, own, nL, ret, rk⟩, ⟨p, l, e, R⟩, ⟨s, mi, args, below, meth, c⟩, ⟨cells, slots, Q⟩⟩ := X
  obtain ⟨hx, hb, hml, hown, hts, hk, hnw, hfr, hlo, hce, hsl, hX, hbl, hbA⟩ := C
  unfold qs_ifgt at h
  split at h
  · intro ls H locs hF hH
    have hF1 := hF.stk (pj_ok1 hF.2.2.2.2)
    refine lv_if_gt hx hb hd ht (fun c1 => ?_) (fun c1 => ?_)
    · rw [if_pos c1] at h
      exact hK _ _ _ _ _ h hR ls H locs hF1 hH
    · rw [if_neg c1] at h
      exact hK _ _ _ _ _ h hR ls H locs hF1 hH
  · cases h
def qs_ifle {ρ : Type} (tgt nx : Nat) : pj_T ρ := fun K L st m => match st with
  | .inl x :: st => if 0 < x then K nx L st m else K tgt L st m
  | _ => none
theorem qz_ifle {ρ : Type} {X : pj_X} {enc : ρ → Option pj_V × pj_M} {pc : Nat} (C : pj_C X) {off : Int} {tgt : Nat} (hd : decode (pj_cc X) pc = .ok (.ifCond .le off, 3)) (ht : (pc : Int) + off = (tgt : Int)) : pj_S X enc pc (qs_ifle tgt (pc + 3)) := by
  intro K hK L st m r h hR
  obtain ⟨G, A, ⟨cc, own, nL, ret, rk⟩, ⟨p, l, e, R⟩, ⟨s, mi, args, below, meth, c⟩, ⟨cells, slots, Q⟩⟩ := X
  obtain ⟨hx, hb, hml, hown, hts, hk, hnw, hfr, hlo, hce, hsl, hX, hbl, hbA⟩ := C
  unfold qs_ifle at h
  split at h
  · intro ls H locs hF hH
    have hF1 := hF.stk (pj_ok1 hF.2.2.2.2)
    refine lv_if_le hx hb hd ht (fun c1 => ?_) (fun c1 => ?_)
    · rw [if_neg (Int32.not_lt.mpr c1)] at h
      exact hK _ _ _ _ _ h hR ls H locs hF1 hH
    · rw [if_pos (Int32.not_le.mp c1)] at h
      exact hK _ _ _ _ _ h hR ls H locs hF1 hH
  · cases h
def qs_iceq {ρ : Type} (tgt nx : Nat) : pj_T ρ := fun K L st m => match st with
  | .inl y :: .inl x :: st => if x = y then K tgt L st m else K nx L st m
  | _ => none
theorem qz_iceq {ρ : Type} {X : pj_X} {enc : ρ → Option pj_V × pj_M} {pc : Nat} (C : pj_C X) {off : Int} {tgt : Nat} (hd : decode (pj_cc X) pc = .ok (.if_icmp .eq off, 3)) (ht : (pc : Int) + off = (tgt : Int)) : pj_S X enc pc (qs_iceq tgt (pc + 3)) := by
  intro K hK L st m r h hR
  obtain ⟨G, A, ⟨cc, own, nL, ret, rk⟩, ⟨p, l, e, R⟩, ⟨s, mi, args, below, meth, c⟩, ⟨cells, slots, Q⟩⟩ := X
  obtain ⟨hx, hb, hml, hown, hts, hk, hnw, hfr, hlo, hce, hsl, hX, hbl, hbA⟩ := C
  unfold qs_iceq at h
  split at h
  · intro ls H locs hF hH
    have hF1 := hF.stk (pj_ok1 (pj_ok1 hF.2.2.2.2))
    refine lv_icmp_eq hx hb hd ht (fun c1 => ?_) (fun c1 => ?_)
    · rw [if_pos c1] at h
      exact hK _ _ _ _ _ h hR ls H locs hF1 hH
    · rw [if_neg c1] at h
      exact hK _ _ _ _ _ h hR ls H locs hF1 hH
  · cases h
def qs_icne {ρ : Type} (tgt nx : Nat) : pj_T ρ := fun K L st m => match st with
  | .inl y :: .inl x :: st => if x = y then K nx L st m else K tgt L st m
  | _ => none
theorem qz_icne {ρ : Type} {X : pj_X} {enc : ρ → Option pj_V × pj_M} {pc : Nat} (C : pj_C X) {off : Int} {tgt : Nat} (hd : decode (pj_cc X) pc = .ok (.if_icmp .ne off, 3)) (ht : (pc : Int) + off = (tgt : Int)) : pj_S X enc pc (qs_icne tgt (pc + 3)) := by
  intro K hK L st m r h hR
  obtain ⟨G, A, ⟨cc, own, nL, ret, rk⟩, ⟨p, l, e, R⟩, ⟨s, mi, args, below, meth, c⟩, ⟨cells, slots, Q⟩⟩ := X
  obtain ⟨hx, hb, hml, hown, hts, hk, hnw, hfr, hlo, hce, hsl, hX, hbl, hbA⟩ := C
  unfold qs_icne at h
  split at h
  · intro ls H locs hF hH
    have hF1 := hF.stk (pj_ok1 (pj_ok1 hF.2.2.2.2))
    refine lv_icmp_ne hx hb hd ht (fun c1 => ?_) (fun c1 => ?_)
    · rw [if_neg c1] at h
      exact hK _ _ _ _ _ h hR ls H locs hF1 hH
    · rw [if_pos c1] at h
      exact hK _ _ _ _ _ h hR ls H locs hF1 hH
  · cases h
def qs_iclt {ρ : Type} (tgt nx : Nat) : pj_T ρ := fun K L st m => match st with
  | .inl y :: .inl x :: st => if x < y then K tgt L st m else K nx L st m
  | _ => none
theorem qz_iclt {ρ : Type} {X : pj_X} {enc : ρ → Option pj_V × pj_M} {pc : Nat} (C : pj_C X) {off : Int} {tgt : Nat} (hd : decode (pj_cc X) pc = .ok (.if_icmp .lt off, 3)) (ht : (pc : Int) + off = (tgt : Int)) : pj_S X enc pc (qs_iclt tgt (pc + 3)) := by
  intro K hK L st m r h hR
  obtain ⟨G, A, ⟨cc, own, nL, ret, rk⟩, ⟨p, l, e, R⟩, ⟨s, mi, args, below, meth, c⟩, ⟨cells, slots, Q⟩⟩ := X
  obtain ⟨hx, hb, hml, hown, hts, hk, hnw, hfr, hlo, hce, hsl, hX, hbl, hbA⟩ := C
  unfold qs_iclt at h
  split at h
  · intro ls H locs hF hH
    have hF1 := hF.stk (pj_ok1 (pj_ok1 hF.2.2.2.2))
    refine lv_icmp_lt hx hb hd ht (fun c1 => ?_) (fun c1 => ?_)
    · rw [if_pos c1] at h
      exact hK _ _ _ _ _ h hR ls H locs hF1 hH
    · rw [if_neg c1] at h
      exact hK _ _ _ _ _ h hR ls H locs hF1 hH
  · cases h
def qs_icge {ρ : Type} (tgt nx : Nat) : pj_T ρ := fun K L st m => match st with
  | .inl y :: .inl x :: st => if x < y then K nx L st m else K tgt L st m
  | _ => none
theorem qz_icge {ρ : Type} {X : pj_X} {enc : ρ → Option pj_V × pj_M} {pc : Nat} (C : pj_C X) {off : Int} {tgt : Nat} (hd : decode (pj_cc X) pc = .ok (.if_icmp .ge off, 3)) (ht : (pc : Int) + off = (tgt : Int)) : pj_S X enc pc (qs_icge tgt (pc + 3)) := by
  intro K hK L st m r h hR
  obtain ⟨G, A, ⟨cc, own, nL, ret, rk⟩, ⟨p, l, e, R⟩, ⟨s, mi, args, below, meth, c⟩, ⟨cells, slots, Q⟩⟩ := X
  obtain ⟨hx, hb, hml, hown, hts, hk, hnw, hfr, hlo, hce, hsl, hX, hbl, hbA⟩ := C
  unfold qs_icge at h
  split at h
  · intro ls H locs hF hH
    have hF1 := hF.stk (pj_ok1 (pj_ok1 hF.2.2.2.2))
    refine lv_icmp_ge hx hb hd ht (fun c1 => ?_) (fun c1 => ?_)
    · rw [if_neg (Int32.not_lt.mpr c1)] at h
      exact hK _ _ _ _ _ h hR ls H locs hF1 hH
    · rw [if_pos (Int32.not_le.mp c1)] at h
      exact hK _ _ _ _ _ h hR ls H locs hF1 hH
  · cases h
def qs_icgt {ρ : Type} (tgt nx : Nat) : pj_T ρ := fun K L st m => match st with
  | .inl y :: .inl x :: st => if y < x then K tgt L st m else K nx L st m
  | _ => none
theorem qz_icgt {ρ : Type} {X : pj_X} {enc : ρ → Option pj_V × pj_M} {pc : Nat} (C : pj_C X) {off : Int} {tgt : Nat} (hd : decode (pj_cc X) pc = .ok (.if_icmp .gt off, 3)) (ht : (pc : Int) + off = (tgt : Int)) : pj_S X enc pc (qs_icgt tgt (pc + 3)) := by
  intro K hK L st m r h hR
  obtain ⟨G, A, ⟨cc, own, nL, ret, rk⟩, ⟨p, l, e, R⟩, ⟨s, mi, args, below, meth, c⟩, ⟨cells, slots, Q⟩⟩ := X
  obtain ⟨hx, hb, hml, hown, hts, hk, hnw, hfr, hlo, hce, hsl, hX, hbl, hbA⟩ := C
  unfold qs_icgt at h
  split at h
  · intro ls H locs hF hH
    have hF1 := hF.stk (pj_ok1 (pj_ok1 hF.2.2.2.2))
    refine lv_icmp_gt hx hb hd ht (fun c1 => ?_) (fun c1 => ?_)
    · rw [if_pos c1] at h
      exact hK _ _ _ _ _ h hR ls H locs hF1 hH
    · rw [if_neg c1] at h
      exact hK _ _ _ _ _ h hR ls H locs hF1 hH
  · cases h
def qs_icle {ρ : Type} (tgt nx : Nat) : pj_T ρ := fun K L st m => match st with
  | .inl y :: .inl x :: st => if y < x then K nx L st m else K tgt L st m
  | _ => none
theorem qz_icle {ρ : Type} {X : pj_X} {enc : ρ → Option pj_V × pj_M} {pc : Nat} (C : pj_C X) {off : Int} {tgt : Nat} (hd : decode (pj_cc X) pc = .ok (.if_icmp .le off, 3)) (ht : (pc : Int) + off = (tgt : Int)) : pj_S X enc pc (qs_icle tgt (pc + 3)) := by
  intro K hK L st m r h hR
  obtain ⟨G, A, ⟨cc, own, nL, ret, rk⟩, ⟨p, l, e, R⟩, ⟨s, mi, args, below, meth, c⟩, ⟨cells, slots, Q⟩⟩ := X
  obtain ⟨hx, hb, hml, hown, hts, hk, hnw, hfr, hlo, hce, hsl, hX, hbl, hbA⟩ := C
  unfold qs_icle at h
  split at h
  · intro ls H locs hF hH
    have hF1 := hF.stk (pj_ok1 (pj_ok1 hF.2.2.2.2))
    refine lv_icmp_le hx hb hd ht (fun c1 => ?_) (fun c1 => ?_)
    · rw [if_neg (Int32.not_lt.mpr c1)] at h
      exact hK _ _ _ _ _ h hR ls H locs hF1 hH
    · rw [if_pos (Int32.not_le.mp c1)] at h
      exact hK _ _ _ _ _ h hR ls H locs hF1 hH
  · cases h
end
section
/-! PART 05: steps on fields, arrays; switches; returns; calls. Written by wip/whole/gen/mkcore2.py -/
def pj_chk : Bool := (List.range 95).all (fun a => match pj_lay[a]? with
  | some (0, ci) => (pj_ct ci).all (fun f => match f with
    | none => true
    | some (t, x, d) => pj_lay[a + d]? == some (t, x))
  | some (4, x) => (List.range (pj_rlen x)).all (fun i => pj_lay[a + pj_roff x + pj_rstr x * i]? == some (0, x))
  | some (1, x) => decide (x < 2 ^ 31)
  | some (2, x) => decide (x < 2 ^ 31)
  | some (3, x) => decide (x < 2 ^ 31)
  | some _ => false
  | none => true)
theorem pj_chk_ok : pj_chk = true := by decide +kernel
theorem pj_lay_lt {a : Nat} {q : Nat × Nat} (h : pj_lay[a]? = some q) : a < 95 := by
  have h1 := (List.getElem?_eq_some_iff.mp h).1
  rw [pj_lay_len] at h1
  exact h1
theorem pj_chk_at {a : Nat} (h : a < 95) : (match pj_lay[a]? with
  | some (0, ci) => (pj_ct ci).all (fun f => match f with
    | none => true
    | some (t, x, d) => pj_lay[a + d]? == some (t, x))
  | some (4, x) => (List.range (pj_rlen x)).all (fun i => pj_lay[a + pj_roff x + pj_rstr x * i]? == some (0, x))
  | some (1, x) => decide (x < 2 ^ 31)
  | some (2, x) => decide (x < 2 ^ 31)
  | some (3, x) => decide (x < 2 ^ 31)
  | some _ => false
  | none => true) = true := List.all_eq_true.mp pj_chk_ok a (List.mem_range.mpr h)
theorem pj_lay_fld {a ci k t x d : Nat} (h : pj_lay[a]? = some (0, ci)) (hf : (pj_ct ci)[k]? = some (some (t, x, d))) : pj_lay[a + d]? = some (t, x) := by
  have h1 := pj_chk_at (pj_lay_lt h)
  rw [h] at h1
  have h2 := List.all_eq_true.mp h1 _ (List.mem_of_getElem? hf)
  exact eq_of_beq h2
theorem pj_lay_ref {a x i : Nat} (h : pj_lay[a]? = some (4, x)) (hi : i < pj_rlen x) : pj_lay[a + pj_roff x + pj_rstr x * i]? = some (0, x) := by
  have h1 := pj_chk_at (pj_lay_lt h)
  rw [h] at h1
  have h2 := List.all_eq_true.mp h1 i (List.mem_range.mpr hi)
  exact eq_of_beq h2
theorem pj_lay_5 {a t x : Nat} (h : pj_lay[a]? = some (t, x)) : t ≠ 5 := by
  intro e
  subst e
  have h1 := pj_chk_at (pj_lay_lt h)
  rw [h] at h1
  cases h1
theorem pj_tr_lay {G : pj_E} {t x a : Nat} (h : pj_lay[a]? = some (t, x)) : pj_tr G (.inr (.inr (t, x, a))) = .ref (G.2.1 a) := by
  simp only [pj_tr, if_neg (pj_lay_5 h)]
theorem pj_okl {t x a : Nat} (h : pj_okv (.inr (.inr (t, x, a)))) (ht : t ≠ 5) : pj_lay[a]? = some (t, x) := h.elim (fun e => absurd e ht) id
/-! fields -/
def qs_gf {ρ : Type} (ci k nx : Nat) : pj_T ρ := fun K L st m => match st with
  | .inr (.inr (t, x, a)) :: st => (match Nat.beq t 0 && Nat.beq x ci with
    | true => (match (pj_ct ci)[k]? with
      | some none => K nx L (.inl (m.1 a k) :: st) m
      | some (some (t', x', d)) => K nx L (.inr (.inr (t', x', a + d)) :: st) m
      | none => none)
    | false => none)
  | _ => none
def qs_pf {ρ : Type} (ci k nx : Nat) : pj_T ρ := fun K L st m => match st with
  | .inl v :: .inr (.inr (t, x, a)) :: st => (match Nat.beq t 0 && Nat.beq x ci with
    | true => (match (pj_ct ci)[k]? with
      | some none => K nx L st (pj_wr m a k v)
      | _ => none)
    | false => none)
  | _ => none
def qs_pz {ρ : Type} (ci k nx : Nat) : pj_T ρ := fun K L st m => match st with
  | .inl v :: .inr (.inr (t, x, a)) :: st => (match Nat.beq t 0 && Nat.beq x ci with
    | true => (match (pj_ct ci)[k]? with
      | some none => if v = 0 then K nx L st (pj_wr m a k 0) else if v = 1 then K nx L st (pj_wr m a k 1) else none
      | _ => none)
    | false => none)
  | _ => none
theorem pj_b2 {a b c d : Nat} (h : (Nat.beq a b && Nat.beq c d) = true) : a = b ∧ c = d := by
  simp only [Bool.and_eq_true, Nat.beq_eq] at h
  exact h
theorem pj_fs_at {G : pj_E} {m : pj_M} {a ci k : Nat} {f : Option (Nat × Nat × Nat)} (h : (pj_ct ci)[k]? = some f) : ((pj_ct ci).mapIdx (fun k f => pj_fv G m a k f))[k]? = some (pj_fv G m a k f) := by
  simp [h]
theorem pj_wr_at (m : pj_M) (a k : Nat) (v : Int32) : (pj_wr m a k v).1 a = upd (m.1 a) k v := by
  simp [pj_wr]
theorem pj_wr_ne {m : pj_M} {a k j : Nat} {v : Int32} (h : j ≠ a) : (pj_wr m a k v).1 j = m.1 j := by
  simp [pj_wr, h]
theorem pj_fs_set {G : pj_E} {m : pj_M} {a ci k : Nat} {v : Int32} (h : (pj_ct ci)[k]? = some none) : ((pj_ct ci).mapIdx (fun j f => pj_fv G m a j f)).set k (.int v) = (pj_ct ci).mapIdx (fun j f => pj_fv G (pj_wr m a k v) a j f) := by
  apply List.ext_getElem?
  intro j
  have hlt := (List.getElem?_eq_some_iff.mp h).1
  by_cases hj : j = k
  · subst hj
    rw [List.getElem?_set_self (by simpa using hlt), pj_fs_at h]
    simp [pj_fv, pj_wr_at, upd]
  · rw [List.getElem?_set_ne (by omega)]
    simp only [List.getElem?_mapIdx]
    cases hf : (pj_ct ci)[j]? with
    | none => rfl
    | some f =>
      cases f with
      | none => simp [pj_fv, pj_wr_at, upd, hj]
      | some q => rfl
theorem pj_H.wr {G : pj_E} {A : Nat → Prop} {m m' : pj_M} {s : State} {H1 : Heap} {locs1 : List Loc} {a : Nat} {q : Nat × Nat} {en : va_E} (hq : pj_lay[a]? = some q) (h1 : ∀ j, j ≠ a → m'.1 j = m.1 j) (h2 : ∀ j, j ≠ a → m'.2 j = m.2 j) (he : pj_ent G m' a q = en)
    (hP : va_P G.1 vwCl ((pj_ws G m).set a (G.2.1 a, en)) H1) (hD : va_D A (pj_ws G m)) (hS : va_S A s.heap H1 locs1) : pj_H G A m' s H1 locs1 := by
  subst he
  rw [pj_ws_set hq h1 h2] at hP
  exact ⟨hP, pj_D_irr hD, hS⟩
theorem qz_gf {ρ : Type} {X : pj_X} {enc : ρ → Option pj_V × pj_M} {pc : Nat} (C : pj_C X) {ci k i N : Nat} {Cn : String} {T : u_T} (hd : decode (pj_cc X) pc = .ok (.getfield i, 3)) (hc : vwCl[ci]? = some (Cn, T, N)) (hin : ∀ c ∈ u_ws Cn T N, c ∈ pj_tb) (hkN : k < N) (hl : Cond.fieldLink (pj_own X) i (T k).1 (T k).2.1 (T k).2.2.1 ∈ pj_tb) : pj_S X enc pc (qs_gf ci k (pc + 3)) := by
  intro K hK L st m r h hR
  obtain ⟨G, A, ⟨cc, own, nL, ret, rk⟩, ⟨p, l, e, R⟩, ⟨s, mi, args, below, meth, c⟩, ⟨cells, slots, Q⟩⟩ := X
  obtain ⟨hx, hb, hml, hown, hts, hk, hnw, hfr, hlo, hce, hsl, hX, hbl, hbA⟩ := C
  unfold qs_gf at h
  split at h
  · rename_i t x a st
    split at h
    · rename_i hbq
      obtain ⟨rfl, rfl⟩ := pj_b2 hbq
      intro ls H locs hF hH
      have hla := pj_okl (pj_okh hF.2.2.2.2) (by decide)
      rw [List.map_cons, pj_tr_lay hla]
      split at h
      · rename_i hf
        exact va_get hx hb hts hin hown hk hH.1 a (pj_ws_at hla) hc k hkN (hts _ hl) (fun _ h9 => h9) (pj_fs_at hf) hd (hK _ _ _ _ _ h hR ls H locs (hF.stk (pj_okc trivial (pj_ok1 hF.2.2.2.2))) hH)
      · rename_i t' x' d hf
        have hl2 := pj_lay_fld hla hf
        have h2 := hK _ _ _ _ _ h hR ls H locs (hF.stk (pj_okc (Or.inr hl2) (pj_ok1 hF.2.2.2.2))) hH
        rw [List.map_cons, pj_tr_lay hl2] at h2
        exact va_get hx hb hts hin hown hk hH.1 a (pj_ws_at hla) hc k hkN (hts _ hl) (fun _ h9 => h9) (pj_fs_at hf) hd h2
      · cases h
    · cases h
  · cases h
theorem qz_pf {ρ : Type} {X : pj_X} {enc : ρ → Option pj_V × pj_M} {pc : Nat} (C : pj_C X) {ci k i N : Nat} {Cn : String} {T : u_T} {ty0 : Nat → FieldType} (hd : decode (pj_cc X) pc = .ok (.putfield i, 3)) (hc : vwCl[ci]? = some (Cn, T, N)) (hin : ∀ c ∈ u_ws Cn T N, c ∈ pj_tb) (hty : ∀ k, k < N → parseFieldDescriptor (T k).2.2.1 = some (ty0 k)) (hnm : ∀ a, a < N → ∀ b, b < N → a ≠ b → (T a).2.1 ≠ (T b).2.1) (hkN : k < N) (hl : Cond.fieldLink (pj_own X) i (T k).1 (T k).2.1 (T k).2.2.1 ∈ pj_tb) (hfin : (T k).2.2.2 = false) (hi : ty0 k = .int) : pj_S X enc pc (qs_pf ci k (pc + 3)) := by
  intro K hK L st m r h hR
  obtain ⟨G, A, ⟨cc, own, nL, ret, rk⟩, ⟨p, l, e, R⟩, ⟨s, mi, args, below, meth, c⟩, ⟨cells, slots, Q⟩⟩ := X
  obtain ⟨hx, hb, hml, hown, hts, hk, hnw, hfr, hlo, hce, hsl, hX, hbl, hbA⟩ := C
  unfold qs_pf at h
  split at h
  · rename_i v t x a st
    split at h
    · rename_i hbq
      obtain ⟨rfl, rfl⟩ := pj_b2 hbq
      intro ls H locs hF hH
      have hla := pj_okl (pj_okh (pj_ok1 hF.2.2.2.2)) (by decide)
      rw [List.map_cons, List.map_cons, pj_tr_lay hla]
      split at h
      · rename_i hf
        have hlt := (List.getElem?_eq_some_iff.mp hf).1
        have hp := hty k hkN
        rw [hi] at hp
        refine va_put hx hb hts hin ty0 hty hnm hown hk hH.1 hH.2.1 hH.2.2 a (pj_ws_at hla) hc k hkN (hts _ hl) (fun _ h9 => h9) hfin (ty := .int) (v := .int v) hp rfl rfl (by simpa using hlt) hd (fun H1 locs1 hP hD hS => ?_)
        exact hK _ _ _ _ _ h hR ls H1 locs1 (hF.stk (pj_ok1 (pj_ok1 hF.2.2.2.2))) (pj_H.wr hla (fun j hj => pj_wr_ne hj) (fun j hj => rfl) (by rw [pj_fs_set hf]; rfl) hP hH.2.1 hS)
      · cases h
    · cases h
  · cases h
theorem qz_pz {ρ : Type} {X : pj_X} {enc : ρ → Option pj_V × pj_M} {pc : Nat} (C : pj_C X) {ci k i N : Nat} {Cn : String} {T : u_T} {ty0 : Nat → FieldType} (hd : decode (pj_cc X) pc = .ok (.putfield i, 3)) (hc : vwCl[ci]? = some (Cn, T, N)) (hin : ∀ c ∈ u_ws Cn T N, c ∈ pj_tb) (hty : ∀ k, k < N → parseFieldDescriptor (T k).2.2.1 = some (ty0 k)) (hnm : ∀ a, a < N → ∀ b, b < N → a ≠ b → (T a).2.1 ≠ (T b).2.1) (hkN : k < N) (hl : Cond.fieldLink (pj_own X) i (T k).1 (T k).2.1 (T k).2.2.1 ∈ pj_tb) (hfin : (T k).2.2.2 = false) (hi : ty0 k = .boolean) : pj_S X enc pc (qs_pz ci k (pc + 3)) := by
  intro K hK L st m r h hR
  obtain ⟨G, A, ⟨cc, own, nL, ret, rk⟩, ⟨p, l, e, R⟩, ⟨s, mi, args, below, meth, c⟩, ⟨cells, slots, Q⟩⟩ := X
  obtain ⟨hx, hb, hml, hown, hts, hk, hnw, hfr, hlo, hce, hsl, hX, hbl, hbA⟩ := C
  unfold qs_pz at h
  split at h
  · rename_i v t x a st
    split at h
    · rename_i hbq
      obtain ⟨rfl, rfl⟩ := pj_b2 hbq
      intro ls H locs hF hH
      have hla := pj_okl (pj_okh (pj_ok1 hF.2.2.2.2)) (by decide)
      rw [List.map_cons, List.map_cons, pj_tr_lay hla]
      split at h
      · rename_i hf
        have hlt := (List.getElem?_eq_some_iff.mp hf).1
        have hp := hty k hkN
        rw [hi] at hp
        split at h
        · rename_i hv
          subst hv
          refine va_put hx hb hts hin ty0 hty hnm hown hk hH.1 hH.2.1 hH.2.2 a (pj_ws_at hla) hc k hkN (hts _ hl) (fun _ h9 => h9) hfin (ty := .boolean) (v := .int 0) hp (by decide +kernel) (by decide +kernel) (by simpa using hlt) hd (fun H1 locs1 hP hD hS => ?_)
          exact hK _ _ _ _ _ h hR ls H1 locs1 (hF.stk (pj_ok1 (pj_ok1 hF.2.2.2.2))) (pj_H.wr hla (fun j hj => pj_wr_ne hj) (fun j hj => rfl) (by rw [pj_fs_set hf]; rfl) hP hH.2.1 hS)
        · split at h
          · rename_i hv
            subst hv
            refine va_put hx hb hts hin ty0 hty hnm hown hk hH.1 hH.2.1 hH.2.2 a (pj_ws_at hla) hc k hkN (hts _ hl) (fun _ h9 => h9) hfin (ty := .boolean) (v := .int 1) hp (by decide +kernel) (by decide +kernel) (by simpa using hlt) hd (fun H1 locs1 hP hD hS => ?_)
            exact hK _ _ _ _ _ h hR ls H1 locs1 (hF.stk (pj_ok1 (pj_ok1 hF.2.2.2.2))) (pj_H.wr hla (fun j hj => pj_wr_ne hj) (fun j hj => rfl) (by rw [pj_fs_set hf]; rfl) hP hH.2.1 hS)
          · cases h
      · cases h
    · cases h
  · cases h
/-! arrays -/
def qs_iald {ρ : Type} (nx : Nat) : pj_T ρ := fun K L st m => match st with
  | .inl i :: .inr (.inr (t, x, a)) :: st => (match Nat.beq t 1 with
    | true => if i < 0 ∨ x ≤ i.toNatClampNeg then none else K nx L (.inl (m.1 a i.toNatClampNeg) :: st) m
    | false => none)
  | _ => none
def qs_iast {ρ : Type} (nx : Nat) : pj_T ρ := fun K L st m => match st with
  | .inl v :: .inl i :: .inr (.inr (t, x, a)) :: st => (match Nat.beq t 1 with
    | true => if i < 0 ∨ x ≤ i.toNatClampNeg then none else K nx L st (pj_wr m a i.toNatClampNeg v)
    | false => none)
  | _ => none
def qs_lald {ρ : Type} (nx : Nat) : pj_T ρ := fun K L st m => match st with
  | .inl i :: .inr (.inr (t, x, a)) :: st => (match Nat.beq t 2 with
    | true => if i < 0 ∨ x ≤ i.toNatClampNeg then none else K nx L (.inr (.inl (m.2 a i.toNatClampNeg)) :: st) m
    | false => none)
  | _ => none
def qs_last {ρ : Type} (nx : Nat) : pj_T ρ := fun K L st m => match st with
  | .inr (.inl v) :: .inl i :: .inr (.inr (t, x, a)) :: st => (match Nat.beq t 2 with
    | true => if i < 0 ∨ x ≤ i.toNatClampNeg then none else K nx L st (pj_wl m a i.toNatClampNeg v)
    | false => none)
  | _ => none
def qs_zald {ρ : Type} (nx : Nat) : pj_T ρ := fun K L st m => match st with
  | .inl i :: .inr (.inr (t, x, a)) :: st => (match Nat.beq t 3 with
    | true => if i < 0 ∨ x ≤ i.toNatClampNeg then none else K nx L (.inl (m.1 a i.toNatClampNeg) :: st) m
    | false => none)
  | _ => none
def qs_zast {ρ : Type} (nx : Nat) : pj_T ρ := fun K L st m => match st with
  | .inl v :: .inl i :: .inr (.inr (t, x, a)) :: st => (match Nat.beq t 3 with
    | true => if i < 0 ∨ x ≤ i.toNatClampNeg then none else if v = 0 then K nx L st (pj_wr m a i.toNatClampNeg 0) else if v = 1 then K nx L st (pj_wr m a i.toNatClampNeg 1) else none
    | false => none)
  | _ => none
def qs_aald {ρ : Type} (nx : Nat) : pj_T ρ := fun K L st m => match st with
  | .inl i :: .inr (.inr (t, x, a)) :: st => (match Nat.beq t 4 with
    | true => if i < 0 ∨ pj_rlen x ≤ i.toNatClampNeg then none else K nx L (.inr (.inr (0, x, a + pj_roff x + pj_rstr x * i.toNatClampNeg)) :: st) m
    | false => none)
  | _ => none
def qs_alen {ρ : Type} (nx : Nat) : pj_T ρ := fun K L st m => match st with
  | .inr (.inr (t, x, _)) :: st => (match Nat.beq t 1 with
    | true => K nx L (.inl (Int32.ofNat x) :: st) m
    | false => none)
  | _ => none
/-- the law's script: its length, its ints -/
def qs_sald {ρ : Type} (n : Nat) (xs : Nat → Int32) (nx : Nat) : pj_T ρ := fun K L st m => match st with
  | .inl i :: .inr (.inr (t, _, _)) :: st => (match Nat.beq t 5 with
    | true => if i < 0 ∨ n ≤ i.toNatClampNeg then none else K nx L (.inl (xs i.toNatClampNeg) :: st) m
    | false => none)
  | _ => none
def qs_slen {ρ : Type} (n : Nat) (nx : Nat) : pj_T ρ := fun K L st m => match st with
  | .inr (.inr (t, _, _)) :: st => (match Nat.beq t 5 with
    | true => K nx L (.inl (Int32.ofNat n) :: st) m
    | false => none)
  | _ => none
theorem pj_wl_at (m : pj_M) (a k : Nat) (v : Int64) : (pj_wl m a k v).2 a = vp_updL (m.2 a) k v := by
  simp [pj_wl]
theorem pj_wl_ne {m : pj_M} {a k j : Nat} {v : Int64} (h : j ≠ a) : (pj_wl m a k v).2 j = m.2 j := by
  simp [pj_wl, h]

theorem qz_iald {ρ : Type} {X : pj_X} {enc : ρ → Option pj_V × pj_M} {pc : Nat} (C : pj_C X) (hd : decode (pj_cc X) pc = .ok (.iaload, 1)) : pj_S X enc pc (qs_iald (pc + 1)) := by
  intro K hK L st m r h hR
  obtain ⟨G, A, ⟨cc, own, nL, ret, rk⟩, ⟨p, l, e, R⟩, ⟨s, mi, args, below, meth, c⟩, ⟨cells, slots, Q⟩⟩ := X
  obtain ⟨hx, hb, hml, hown, hts, hk, hnw, hfr, hlo, hce, hsl, hX, hbl, hbA⟩ := C
  unfold qs_iald at h
  split at h
  · rename_i i t x a st
    split at h
    · rename_i hbq
      obtain rfl := Nat.eq_of_beq_eq_true hbq
      split at h
      · cases h
      · rename_i hi
        intro ls H locs hF hH
        have hla := pj_okl (pj_okh (pj_ok1 hF.2.2.2.2)) (by decide)
        rw [List.map_cons, List.map_cons, pj_tr_lay hla]
        exact va_iald hx hb hk hH.1 a 0 (pj_ws_at hla) rfl hi hd (hK _ _ _ _ _ h hR ls H locs (hF.stk (pj_okc trivial (pj_ok1 (pj_ok1 hF.2.2.2.2)))) hH)
    · cases h
  · cases h
theorem qz_lald {ρ : Type} {X : pj_X} {enc : ρ → Option pj_V × pj_M} {pc : Nat} (C : pj_C X) (hd : decode (pj_cc X) pc = .ok (.laload, 1)) : pj_S X enc pc (qs_lald (pc + 1)) := by
  intro K hK L st m r h hR
  obtain ⟨G, A, ⟨cc, own, nL, ret, rk⟩, ⟨p, l, e, R⟩, ⟨s, mi, args, below, meth, c⟩, ⟨cells, slots, Q⟩⟩ := X
  obtain ⟨hx, hb, hml, hown, hts, hk, hnw, hfr, hlo, hce, hsl, hX, hbl, hbA⟩ := C
  unfold qs_lald at h
  split at h
  · rename_i i t x a st
    split at h
    · rename_i hbq
      obtain rfl := Nat.eq_of_beq_eq_true hbq
      split at h
      · cases h
      · rename_i hi
        intro ls H locs hF hH
        have hla := pj_okl (pj_okh (pj_ok1 hF.2.2.2.2)) (by decide)
        rw [List.map_cons, List.map_cons, pj_tr_lay hla]
        exact va_lald hx hb hk hH.1 a 1 (pj_ws_at hla) rfl hi hd (hK _ _ _ _ _ h hR ls H locs (hF.stk (pj_okc trivial (pj_ok1 (pj_ok1 hF.2.2.2.2)))) hH)
    · cases h
  · cases h
theorem qz_zald {ρ : Type} {X : pj_X} {enc : ρ → Option pj_V × pj_M} {pc : Nat} (C : pj_C X) (hd : decode (pj_cc X) pc = .ok (.baload, 1)) : pj_S X enc pc (qs_zald (pc + 1)) := by
  intro K hK L st m r h hR
  obtain ⟨G, A, ⟨cc, own, nL, ret, rk⟩, ⟨p, l, e, R⟩, ⟨s, mi, args, below, meth, c⟩, ⟨cells, slots, Q⟩⟩ := X
  obtain ⟨hx, hb, hml, hown, hts, hk, hnw, hfr, hlo, hce, hsl, hX, hbl, hbA⟩ := C
  unfold qs_zald at h
  split at h
  · rename_i i t x a st
    split at h
    · rename_i hbq
      obtain rfl := Nat.eq_of_beq_eq_true hbq
      split at h
      · cases h
      · rename_i hi
        intro ls H locs hF hH
        have hla := pj_okl (pj_okh (pj_ok1 hF.2.2.2.2)) (by decide)
        rw [List.map_cons, List.map_cons, pj_tr_lay hla]
        exact va_zald hx hb hk hH.1 a 2 (pj_ws_at hla) rfl hi hd (hK _ _ _ _ _ h hR ls H locs (hF.stk (pj_okc trivial (pj_ok1 (pj_ok1 hF.2.2.2.2)))) hH)
    · cases h
  · cases h
theorem qz_iast {ρ : Type} {X : pj_X} {enc : ρ → Option pj_V × pj_M} {pc : Nat} (C : pj_C X) (hd : decode (pj_cc X) pc = .ok (.iastore, 1)) : pj_S X enc pc (qs_iast (pc + 1)) := by
  intro K hK L st m r h hR
  obtain ⟨G, A, ⟨cc, own, nL, ret, rk⟩, ⟨p, l, e, R⟩, ⟨s, mi, args, below, meth, c⟩, ⟨cells, slots, Q⟩⟩ := X
  obtain ⟨hx, hb, hml, hown, hts, hk, hnw, hfr, hlo, hce, hsl, hX, hbl, hbA⟩ := C
  unfold qs_iast at h
  split at h
  · rename_i v i t x a st
    split at h
    · rename_i hbq
      obtain rfl := Nat.eq_of_beq_eq_true hbq
      split at h
      · cases h
      · rename_i hi
        intro ls H locs hF hH
        have hla := pj_okl (pj_okh (pj_ok1 (pj_ok1 hF.2.2.2.2))) (by decide)
        rw [List.map_cons, List.map_cons, List.map_cons, pj_tr_lay hla]
        refine va_iast hx hb hk hH.1 hH.2.1 hH.2.2 a 0 (pj_ws_at hla) rfl hi hd (fun H1 locs1 hP hD hS => ?_)
        exact hK _ _ _ _ _ h hR ls H1 locs1 (hF.stk (pj_ok1 (pj_ok1 (pj_ok1 hF.2.2.2.2)))) (pj_H.wr (m := m) (m' := pj_wr m a i.toNatClampNeg v) hla (fun j hj => pj_wr_ne hj) (fun j hj => rfl) (by simp only [pj_ent, pj_wr_at]) hP hH.2.1 hS)
    · cases h
  · cases h
theorem qz_last {ρ : Type} {X : pj_X} {enc : ρ → Option pj_V × pj_M} {pc : Nat} (C : pj_C X) (hd : decode (pj_cc X) pc = .ok (.lastore, 1)) : pj_S X enc pc (qs_last (pc + 1)) := by
  intro K hK L st m r h hR
  obtain ⟨G, A, ⟨cc, own, nL, ret, rk⟩, ⟨p, l, e, R⟩, ⟨s, mi, args, below, meth, c⟩, ⟨cells, slots, Q⟩⟩ := X
  obtain ⟨hx, hb, hml, hown, hts, hk, hnw, hfr, hlo, hce, hsl, hX, hbl, hbA⟩ := C
  unfold qs_last at h
  split at h
  · rename_i v i t x a st
    split at h
    · rename_i hbq
      obtain rfl := Nat.eq_of_beq_eq_true hbq
      split at h
      · cases h
      · rename_i hi
        intro ls H locs hF hH
        have hla := pj_okl (pj_okh (pj_ok1 (pj_ok1 hF.2.2.2.2))) (by decide)
        rw [List.map_cons, List.map_cons, List.map_cons, pj_tr_lay hla]
        refine va_last hx hb hk hH.1 hH.2.1 hH.2.2 a 1 (pj_ws_at hla) rfl hi hd (fun H1 locs1 hP hD hS => ?_)
        exact hK _ _ _ _ _ h hR ls H1 locs1 (hF.stk (pj_ok1 (pj_ok1 (pj_ok1 hF.2.2.2.2)))) (pj_H.wr (m := m) (m' := pj_wl m a i.toNatClampNeg v) hla (fun _ _ => rfl) (fun j hj => pj_wl_ne hj) (by simp only [pj_ent, pj_wl_at]) hP hH.2.1 hS)
    · cases h
  · cases h
theorem qz_zast {ρ : Type} {X : pj_X} {enc : ρ → Option pj_V × pj_M} {pc : Nat} (C : pj_C X) (hd : decode (pj_cc X) pc = .ok (.bastore, 1)) : pj_S X enc pc (qs_zast (pc + 1)) := by
  intro K hK L st m r h hR
  obtain ⟨G, A, ⟨cc, own, nL, ret, rk⟩, ⟨p, l, e, R⟩, ⟨s, mi, args, below, meth, c⟩, ⟨cells, slots, Q⟩⟩ := X
  obtain ⟨hx, hb, hml, hown, hts, hk, hnw, hfr, hlo, hce, hsl, hX, hbl, hbA⟩ := C
  unfold qs_zast at h
  split at h
  · rename_i v i t x a st
    split at h
    · rename_i hbq
      obtain rfl := Nat.eq_of_beq_eq_true hbq
      split at h
      · cases h
      · rename_i hi
        intro ls H locs hF hH
        have hla := pj_okl (pj_okh (pj_ok1 (pj_ok1 hF.2.2.2.2))) (by decide)
        rw [List.map_cons, List.map_cons, List.map_cons, pj_tr_lay hla]
        refine va_zast hx hb hk hH.1 hH.2.1 hH.2.2 a 2 (pj_ws_at hla) rfl hi hd (fun H1 locs1 hP hD hS => ?_)
        split at h
        · rename_i hv
          subst hv
          exact hK _ _ _ _ _ h hR ls H1 locs1 (hF.stk (pj_ok1 (pj_ok1 (pj_ok1 hF.2.2.2.2)))) (pj_H.wr hla (fun j hj => pj_wr_ne hj) (fun j hj => rfl) (by simp only [pj_ent, pj_wr_at, show vp_nar .boolean 0 = 0 by decide +kernel]) hP hH.2.1 hS)
        · split at h
          · rename_i hv
            subst hv
            exact hK _ _ _ _ _ h hR ls H1 locs1 (hF.stk (pj_ok1 (pj_ok1 (pj_ok1 hF.2.2.2.2)))) (pj_H.wr hla (fun j hj => pj_wr_ne hj) (fun j hj => rfl) (by simp only [pj_ent, pj_wr_at, show vp_nar .boolean 1 = 1 by decide +kernel]) hP hH.2.1 hS)
          · cases h
    · cases h
  · cases h
theorem qz_aald {ρ : Type} {X : pj_X} {enc : ρ → Option pj_V × pj_M} {pc : Nat} (C : pj_C X) (hd : decode (pj_cc X) pc = .ok (.aaload, 1)) : pj_S X enc pc (qs_aald (pc + 1)) := by
  intro K hK L st m r h hR
  obtain ⟨G, A, ⟨cc, own, nL, ret, rk⟩, ⟨p, l, e, R⟩, ⟨s, mi, args, below, meth, c⟩, ⟨cells, slots, Q⟩⟩ := X
  obtain ⟨hx, hb, hml, hown, hts, hk, hnw, hfr, hlo, hce, hsl, hX, hbl, hbA⟩ := C
  unfold qs_aald at h
  split at h
  · rename_i i t x a st
    split at h
    · rename_i hbq
      obtain rfl := Nat.eq_of_beq_eq_true hbq
      split at h
      · cases h
      · rename_i hi
        intro ls H locs hF hH
        have hla := pj_okl (pj_okh (pj_ok1 hF.2.2.2.2)) (by decide)
        rw [List.map_cons, List.map_cons, pj_tr_lay hla]
        have hl2 := pj_lay_ref hla (show i.toNatClampNeg < pj_rlen x by omega)
        have h2 := hK _ _ _ _ _ h hR ls H locs (hF.stk (pj_okc (Or.inr hl2) (pj_ok1 (pj_ok1 hF.2.2.2.2)))) hH
        rw [List.map_cons, pj_tr_lay hl2] at h2
        have hx0 : x = 4 ∨ x = 5 ∨ x = 9 := by
          have hlt : 0 < pj_rlen x := by omega
          unfold pj_rlen at hlt
          split at hlt <;> simp_all
        rcases hx0 with rfl | rfl | rfl
        · exact va_aldq hx hb hk hH.1 a 3 (pj_ws_at hla) rfl hi hd h2
        · exact va_aldq hx hb hk hH.1 a 4 (pj_ws_at hla) rfl hi hd h2
        · exact va_aldq hx hb hk hH.1 a 5 (pj_ws_at hla) rfl hi hd h2
    · cases h
  · cases h
theorem qz_alen {ρ : Type} {X : pj_X} {enc : ρ → Option pj_V × pj_M} {pc : Nat} (C : pj_C X) (hd : decode (pj_cc X) pc = .ok (.arraylength, 1)) : pj_S X enc pc (qs_alen (pc + 1)) := by
  intro K hK L st m r h hR
  obtain ⟨G, A, ⟨cc, own, nL, ret, rk⟩, ⟨p, l, e, R⟩, ⟨s, mi, args, below, meth, c⟩, ⟨cells, slots, Q⟩⟩ := X
  obtain ⟨hx, hb, hml, hown, hts, hk, hnw, hfr, hlo, hce, hsl, hX, hbl, hbA⟩ := C
  unfold qs_alen at h
  split at h
  · rename_i t x a st
    split at h
    · rename_i hbq
      obtain rfl := Nat.eq_of_beq_eq_true hbq
      intro ls H locs hF hH
      have hla := pj_okl (pj_okh hF.2.2.2.2) (by decide)
      rw [List.map_cons, pj_tr_lay hla]
      exact va_alen hx hb hk hH.1 a 0 (pj_ws_at hla) rfl rfl hd (hK _ _ _ _ _ h hR ls H locs (hF.stk (pj_okc trivial (pj_ok1 hF.2.2.2.2))) hH)
    · cases h
  · cases h
def pj_sL (X : pj_X) : Nat := X.1.2.2.2.2.1
def pj_sxs (X : pj_X) : Nat → Int32 := X.1.2.2.2.2.2
theorem qz_sald {ρ : Type} {X : pj_X} {enc : ρ → Option pj_V × pj_M} {pc : Nat} (C : pj_C X) {n : Nat} {xs : Nat → Int32} (hn : pj_sL X = n) (hs : pj_sxs X = xs) (hd : decode (pj_cc X) pc = .ok (.iaload, 1)) : pj_S X enc pc (qs_sald n xs (pc + 1)) := by
  intro K hK L st m r h hR
  obtain ⟨G, A, ⟨cc, own, nL, ret, rk⟩, ⟨p, l, e, R⟩, ⟨s, mi, args, below, meth, c⟩, ⟨cells, slots, Q⟩⟩ := X
  obtain ⟨hx, hb, hml, hown, hts, hk, hnw, hfr, hlo, hce, hsl, hX, hbl, hbA⟩ := C
  subst hn
  subst hs
  unfold qs_sald at h
  split at h
  · rename_i i t x a st
    split at h
    · rename_i hbq
      obtain rfl := Nat.eq_of_beq_eq_true hbq
      split at h
      · cases h
      · rename_i hi
        intro ls H locs hF hH
        exact va_sld hx hb hX hbl hbA hH.2.2 hi hd (hK _ _ _ _ _ h hR ls H locs (hF.stk (pj_okc trivial (pj_ok1 (pj_ok1 hF.2.2.2.2)))) hH)
    · cases h
  · cases h
theorem qz_slen {ρ : Type} {X : pj_X} {enc : ρ → Option pj_V × pj_M} {pc : Nat} (C : pj_C X) {n : Nat} (hn : pj_sL X = n) (hd : decode (pj_cc X) pc = .ok (.arraylength, 1)) : pj_S X enc pc (qs_slen n (pc + 1)) := by
  intro K hK L st m r h hR
  obtain ⟨G, A, ⟨cc, own, nL, ret, rk⟩, ⟨p, l, e, R⟩, ⟨s, mi, args, below, meth, c⟩, ⟨cells, slots, Q⟩⟩ := X
  obtain ⟨hx, hb, hml, hown, hts, hk, hnw, hfr, hlo, hce, hsl, hX, hbl, hbA⟩ := C
  subst hn
  unfold qs_slen at h
  split at h
  · rename_i t x a st
    split at h
    · rename_i hbq
      obtain rfl := Nat.eq_of_beq_eq_true hbq
      intro ls H locs hF hH
      exact va_slen hx hb hX hbl hbA hH.2.2 hd (hK _ _ _ _ _ h hR ls H locs (hF.stk (pj_okc trivial (pj_ok1 hF.2.2.2.2))) hH)
    · cases h
  · cases h
end
section
/-! PART 06: switches, returns, the library's own calls, calls, the run of a body, contracts. Written by wip/whole/gen/mkcore3.py -/
def pj_sw {ρ : Type} (K : pj_K ρ) (L : List (Option pj_V)) (st : List pj_V) (m : pj_M) (d : Nat) (x : Int32) (ps : List (Int32 × Nat)) : Option ρ := match ps with
  | [] => K d L st m
  | q :: ps => if x = q.1 then K q.2 L st m else pj_sw K L st m d x ps
def qs_sw {ρ : Type} (ps : List (Int32 × Nat)) (d : Nat) : pj_T ρ := fun K L st m => match st with
  | .inl x :: st => pj_sw K L st m d x ps
  | _ => none
theorem pj_sw_of {ρ : Type} {K : pj_K ρ} {L : List (Option pj_V)} {st : List pj_V} {m : pj_M} {d : Nat} {x : Int32} {ps : List (Int32 × Nat)} {r : ρ} (h : pj_sw K L st m d x ps = some r) :
    (∃ (k : Nat) (q : Int32 × Nat), ps[k]? = some q ∧ x = q.1 ∧ K q.2 L st m = some r) ∨ ((∀ q ∈ ps, x ≠ q.1) ∧ K d L st m = some r) := by
  induction ps with
  | nil => exact Or.inr ⟨fun q hq => by simp at hq, h⟩
  | cons q ps ih =>
    unfold pj_sw at h
    split at h
    · rename_i hq
      exact Or.inl ⟨0, q, rfl, hq, h⟩
    · rename_i hq
      rcases ih h with ⟨k, q2, h1, h2, h3⟩ | ⟨h1, h2⟩
      · exact Or.inl ⟨k + 1, q2, by simpa using h1, h2, h3⟩
      · refine Or.inr ⟨fun q2 hq2 => ?_, h2⟩
        rcases List.mem_cons.mp hq2 with rfl | hq3
        · exact hq
        · exact h1 q2 hq3
def pj_tsok (pc : Nat) (lo hi dflt : Int) (offs : List Int) (ps : List (Int32 × Nat)) (d : Nat) : Bool :=
  (List.range ps.length).all (fun k => match ps[k]?, offs[k]? with
    | some q, some off => decide ((pc : Int) + off = (q.2 : Int)) && decide (q.1.toInt = lo + (k : Int))
    | _, _ => false) && (decide ((ps.length : Int) = hi - lo + 1) && decide ((pc : Int) + dflt = (d : Int)))
theorem qz_tsw {ρ : Type} {X : pj_X} {enc : ρ → Option pj_V × pj_M} {pc : Nat} (C : pj_C X) {dflt lo hi : Int} {offs : Array Int} {len d : Nat} {ps : List (Int32 × Nat)} (hd : decode (pj_cc X) pc = .ok (.tableswitch dflt lo hi offs, len)) (hps : pj_tsok pc lo hi dflt offs.toList ps d = true) : pj_S X enc pc (qs_sw ps d) := by
  intro K hK L st m r h hR
  obtain ⟨G, A, ⟨cc, own, nL, ret, rk⟩, ⟨p, l, e, R⟩, ⟨s, mi, args, below, meth, c⟩, ⟨cells, slots, Q⟩⟩ := X
  obtain ⟨hx, hb, hml, hown, hts, hk, hnw, hfr, hlo, hce, hsl, hX, hbl, hbA⟩ := C
  unfold qs_sw at h
  simp only [pj_tsok, Bool.and_eq_true, decide_eq_true_eq] at hps
  obtain ⟨hp1, hp2, hp3⟩ := hps
  have hp : ∀ (k : Nat) (q : Int32 × Nat), ps[k]? = some q → ∃ off, offs[k]? = some off ∧ (pc : Int) + off = (q.2 : Int) ∧ q.1.toInt = lo + (k : Int) := by
    intro k q hq
    have h1 := List.all_eq_true.mp hp1 k (List.mem_range.mpr (List.getElem?_eq_some_iff.mp hq).1)
    rw [hq] at h1
    cases ho : offs.toList[k]? with
    | none => rw [ho] at h1; cases h1
    | some off =>
      rw [ho] at h1
      simp only [Bool.and_eq_true, decide_eq_true_eq] at h1
      exact ⟨off, by simpa using ho, h1.1, h1.2⟩
  split at h
  · rename_i x st
    intro ls H locs hF hH
    have hF1 := hF.stk (pj_ok1 hF.2.2.2.2)
    rcases pj_sw_of h with ⟨k, q, h1, h2, h3⟩ | ⟨h1, h2⟩
    · obtain ⟨off, g1, g2, g3⟩ := hp k q h1
      have hlt := (List.getElem?_eq_some_iff.mp h1).1
      subst h2
      refine lv_tableIn hx hb hd (by omega) (by omega) (off := off) ?_ g2 (hK _ _ _ _ _ h3 hR ls H locs hF1 hH)
      rw [g3, show (lo + (k : Int) - lo).toNat = k by omega]
      exact g1
    · refine lv_tableOut hx hb hd ?_ hp3 (hK _ _ _ _ _ h2 hR ls H locs hF1 hH)
      rcases Int.lt_or_le x.toInt lo with q1 | q1
      · exact Or.inl q1
      rcases Int.lt_or_le hi x.toInt with q2 | q2
      · exact Or.inr q2
      exfalso
      have hk1 : (x.toInt - lo).toNat < ps.length := by omega
      have hq : ps[(x.toInt - lo).toNat]? = some (ps[(x.toInt - lo).toNat]'hk1) := List.getElem?_eq_getElem hk1
      obtain ⟨off, g1, g2, g3⟩ := hp _ _ hq
      refine h1 _ (List.mem_of_getElem? hq) (Int32.toInt_inj.mp ?_)
      rw [g3]
      omega
  · cases h
def pj_lsok (pc : Nat) (dflt : Int) (pr : List (Int × Int)) (ps : List (Int32 × Nat)) (d : Nat) : Bool := match pr, ps with
  | [], [] => decide ((pc : Int) + dflt = (d : Int))
  | a :: pr, q :: ps => (decide (q.1.toInt = a.1) && decide ((pc : Int) + a.2 = (q.2 : Int))) && pj_lsok pc dflt pr ps d
  | _, _ => false
theorem pj_ls_of {ρ : Type} {K : pj_K ρ} {L : List (Option pj_V)} {st : List pj_V} {m : pj_M} {d pc : Nat} {dflt : Int} {x : Int32} {r : ρ} (ps : List (Int32 × Nat)) : ∀ (pr : List (Int × Int)), pj_lsok pc dflt pr ps d = true → pj_sw K L st m d x ps = some r →
    ∃ tgt : Nat, (pc : Int) + Op.lookupswitch.offset pr dflt x.toInt = (tgt : Int) ∧ K tgt L st m = some r := by
  induction ps with
  | nil =>
    intro pr hp h
    cases pr with
    | nil => exact ⟨d, by simpa [pj_lsok, Op.lookupswitch.offset_nil] using hp, h⟩
    | cons _ _ => cases hp
  | cons q ps ih =>
    intro pr hp h
    cases pr with
    | nil => cases hp
    | cons a pr =>
      obtain ⟨a, o⟩ := a
      simp only [pj_lsok, Bool.and_eq_true, decide_eq_true_eq] at hp
      obtain ⟨⟨g1, g2⟩, g3⟩ := hp
      unfold pj_sw at h
      rw [Op.lookupswitch.offset_cons]
      split at h
      · rename_i hq
        rw [if_pos (by rw [hq, g1])]
        exact ⟨q.2, g2, h⟩
      · rename_i hq
        rw [if_neg (fun e => hq (Int32.toInt_inj.mp (by rw [g1, e])))]
        exact ih pr g3 h
theorem qz_lsw {ρ : Type} {X : pj_X} {enc : ρ → Option pj_V × pj_M} {pc : Nat} (C : pj_C X) {dflt : Int} {pr : Array (Int × Int)} {len d : Nat} {ps : List (Int32 × Nat)} (hd : decode (pj_cc X) pc = .ok (.lookupswitch dflt pr, len)) (hso : (pr.toList.zip (pr.toList.drop 1)).all (fun (a, next) => a.1 < next.1) = true) (hps : pj_lsok pc dflt pr.toList ps d = true) : pj_S X enc pc (qs_sw ps d) := by
  intro K hK L st m r h hR
  obtain ⟨G, A, ⟨cc, own, nL, ret, rk⟩, ⟨p, l, e, R⟩, ⟨s, mi, args, below, meth, c⟩, ⟨cells, slots, Q⟩⟩ := X
  obtain ⟨hx, hb, hml, hown, hts, hk, hnw, hfr, hlo, hce, hsl, hX, hbl, hbA⟩ := C
  unfold qs_sw at h
  split at h
  · rename_i x st
    intro ls H locs hF hH
    have hF1 := hF.stk (pj_ok1 hF.2.2.2.2)
    obtain ⟨tgt, h1, h2⟩ := pj_ls_of ps _ hps h
    exact lv_lookup hx hb hd hso rfl h1 (hK _ _ _ _ _ h2 hR ls H locs hF1 hH)
  · cases h
/-! returns -/
def pj_eI (q : Int32 × pj_M) : Option pj_V × pj_M := (some (.inl q.1), q.2)
def pj_eL (q : Int64 × pj_M) : Option pj_V × pj_M := (some (.inr (.inl q.1)), q.2)
def pj_eR (cr : Nat) (q : Nat × pj_M) : Option pj_V × pj_M := (some (.inr (.inr (0, cr, q.1))), q.2)
def pj_eV (m : pj_M) : Option pj_V × pj_M := (none, m)
def qs_iret : pj_T (Int32 × pj_M) := fun _ _ st m => match st with
  | [.inl v] => some (v, m)
  | _ => none
def qs_zret : pj_T (Int32 × pj_M) := fun _ _ st m => match st with
  | [.inl v] => if v = 0 then some (0, m) else if v = 1 then some (1, m) else none
  | _ => none
def qs_lret : pj_T (Int64 × pj_M) := fun _ _ st m => match st with
  | [.inr (.inl v)] => some (v, m)
  | _ => none
def qs_aret (cr : Nat) : pj_T (Nat × pj_M) := fun _ _ st m => match st with
  | [.inr (.inr (t, x, a))] => (match Nat.beq t 0 && Nat.beq x cr with
    | true => some (a, m)
    | false => none)
  | _ => none
def qs_vret : pj_T pj_M := fun _ _ st m => match st with
  | [] => some m
  | _ => none
theorem qz_iret {X : pj_X} {pc : Nat} (C : pj_C X) (hd : decode (pj_cc X) pc = .ok (.ireturn, 1)) (hr : pj_retT X = some .int) : pj_S X pj_eI pc qs_iret := by
  intro K hK L st m r h hR
  obtain ⟨G, A, ⟨cc, own, nL, ret, rk⟩, ⟨p, l, e, R⟩, ⟨s, mi, args, below, meth, c⟩, ⟨cells, slots, Q⟩⟩ := X
  obtain ⟨hx, hb, hml, hown, hts, hk, hnw, hfr, hlo, hce, hsl, hX, hbl, hbA⟩ := C
  unfold qs_iret at h
  split at h
  · cases h
    intro ls H locs hF hH
    exact hR pc ls H locs ⟨hd, .int, hr, rfl⟩ (fun v hv => by cases hv; trivial) hH
  · cases h
theorem qz_zret {X : pj_X} {pc : Nat} (C : pj_C X) (hd : decode (pj_cc X) pc = .ok (.ireturn, 1)) (hr : pj_retT X = some .boolean) : pj_S X pj_eI pc qs_zret := by
  intro K hK L st m r h hR
  obtain ⟨G, A, ⟨cc, own, nL, ret, rk⟩, ⟨p, l, e, R⟩, ⟨s, mi, args, below, meth, c⟩, ⟨cells, slots, Q⟩⟩ := X
  obtain ⟨hx, hb, hml, hown, hts, hk, hnw, hfr, hlo, hce, hsl, hX, hbl, hbA⟩ := C
  unfold qs_zret at h
  split at h
  · split at h
    · rename_i hv
      subst hv
      cases h
      intro ls H locs hF hH
      exact hR pc ls H locs ⟨hd, .boolean, hr, (by decide +kernel : narrow .boolean (.int 0) = .int 0)⟩ (fun v hv => by cases hv; trivial) hH
    · split at h
      · rename_i hv
        subst hv
        cases h
        intro ls H locs hF hH
        exact hR pc ls H locs ⟨hd, .boolean, hr, (by decide +kernel : narrow .boolean (.int 1) = .int 1)⟩ (fun v hv => by cases hv; trivial) hH
      · cases h
  · cases h
theorem qz_lret {X : pj_X} {pc : Nat} (C : pj_C X) (hd : decode (pj_cc X) pc = .ok (.lreturn, 1)) (hr : pj_retT X = some .long) : pj_S X pj_eL pc qs_lret := by
  intro K hK L st m r h hR
  obtain ⟨G, A, ⟨cc, own, nL, ret, rk⟩, ⟨p, l, e, R⟩, ⟨s, mi, args, below, meth, c⟩, ⟨cells, slots, Q⟩⟩ := X
  obtain ⟨hx, hb, hml, hown, hts, hk, hnw, hfr, hlo, hce, hsl, hX, hbl, hbA⟩ := C
  unfold qs_lret at h
  split at h
  · cases h
    intro ls H locs hF hH
    exact hR pc ls H locs ⟨hd, hr⟩ (fun v hv => by cases hv; trivial) hH
  · cases h
theorem qz_aret {X : pj_X} {pc cr : Nat} {n : String} (C : pj_C X) (hd : decode (pj_cc X) pc = .ok (.areturn, 1)) (hr : pj_retT X = some (.object n)) : pj_S X (pj_eR cr) pc (qs_aret cr) := by
  intro K hK L st m r h hR
  obtain ⟨G, A, ⟨cc, own, nL, ret, rk⟩, ⟨p, l, e, R⟩, ⟨s, mi, args, below, meth, c⟩, ⟨cells, slots, Q⟩⟩ := X
  obtain ⟨hx, hb, hml, hown, hts, hk, hnw, hfr, hlo, hce, hsl, hX, hbl, hbA⟩ := C
  unfold qs_aret at h
  split at h
  · split at h
    · rename_i hbq
      obtain ⟨rfl, rfl⟩ := pj_b2 hbq
      cases h
      intro ls H locs hF hH
      exact hR pc ls H locs ⟨hd, n, hr⟩ (fun v hv => by cases hv; exact pj_okh hF.2.2.2.2) hH
    · cases h
  · cases h
theorem qz_vret {X : pj_X} {pc : Nat} (C : pj_C X) (hd : decode (pj_cc X) pc = .ok (.return_, 1)) (hr : pj_retT X = none) : pj_S X pj_eV pc qs_vret := by
  intro K hK L st m r h hR
  obtain ⟨G, A, ⟨cc, own, nL, ret, rk⟩, ⟨p, l, e, R⟩, ⟨s, mi, args, below, meth, c⟩, ⟨cells, slots, Q⟩⟩ := X
  obtain ⟨hx, hb, hml, hown, hts, hk, hnw, hfr, hlo, hce, hsl, hX, hbl, hbA⟩ := C
  unfold qs_vret at h
  split at h
  · cases h
    intro ls H locs hF hH
    exact hR pc ls H locs ⟨hd, hr⟩ (fun v hv => by cases hv) hH
  · cases h
/-! the library's own -/
def qs_cpi {ρ : Type} (nx : Nat) : pj_T ρ := fun K L st m => match st with
  | .inl n :: .inl dp :: .inr (.inr (t1, x1, a1)) :: .inl sp :: .inr (.inr (t0, x0, a0)) :: st => (match (Nat.beq t1 1 && Nat.beq t0 1) && Nat.ble (pj_cat st) 8 with
    | true => if (sp < 0 ∨ dp < 0 ∨ n < 0) ∨ x0 < sp.toNatClampNeg + n.toNatClampNeg ∨ x1 < dp.toNatClampNeg + n.toNatClampNeg then none else K nx L st (pj_cp m a0 sp.toNatClampNeg a1 dp.toNatClampNeg n.toNatClampNeg)
    | false => none)
  | _ => none
theorem qz_cpi {ρ : Type} {X : pj_X} {enc : ρ → Option pj_V × pj_M} {pc : Nat} (C : pj_C X) {i : Nat} (hd : decode (pj_cc X) pc = .ok (.invokestatic i, 3)) (h1 : Cond.methodLink (pj_own X) i arraycopyName ∈ pj_tb) (h2 : Cond.native arraycopyName ∈ pj_tb) (h3 : Cond.static arraycopyName ∈ pj_tb) (h4 : Cond.initialized "java/lang/System" ∈ pj_tb) : pj_S X enc pc (qs_cpi (pc + 3)) := by
  intro K hK L st m r h hR
  obtain ⟨G, A, ⟨cc, own, nL, ret, rk⟩, ⟨p, l, e, R⟩, ⟨s, mi, args, below, meth, c⟩, ⟨cells, slots, Q⟩⟩ := X
  obtain ⟨hx, hb, hml, hown, hts, hk, hnw, hfr, hlo, hce, hsl, hX, hbl, hbA⟩ := C
  unfold qs_cpi at h
  split at h
  · rename_i n dp t1 x1 a1 sp t0 x0 a0 st
    split at h
    · rename_i hbq
      simp only [Bool.and_eq_true, Nat.beq_eq, Nat.ble_eq] at hbq
      obtain ⟨⟨rfl, rfl⟩, hcat⟩ := hbq
      split at h
      · cases h
      · rename_i hi
        simp only [not_or, Nat.not_lt] at hi
        obtain ⟨⟨i1, i2, i3⟩, i4, i5⟩ := hi
        intro ls H locs hF hH
        have hok := hF.2.2.2.2
        have hla1 := pj_okl (pj_okh (pj_ok1 (pj_ok1 hok))) (by decide)
        have hla0 := pj_okl (pj_okh (pj_ok1 (pj_ok1 (pj_ok1 (pj_ok1 hok))))) (by decide)
        rw [List.map_cons, List.map_cons, List.map_cons, List.map_cons, List.map_cons, pj_tr_lay hla1, pj_tr_lay hla0]
        have hnf : nativeFrameWords "java/lang/System" "arraycopy" 5 = 7 := by decide +kernel
        have hct := pj_cat_eq G st
        refine va_copyi hx hb (hml.trans hF.1.symm) hown (hts _ h1) (hts _ h2) (hts _ h3) (hts _ h4) hk hH.1 hH.2.1 hH.2.2 a0 a1 0 0 (pj_ws_at hla0) (pj_ws_at hla1) rfl rfl rfl i1 i2 i3 i4 i5 (fun _ _ => rfl) (by omega) (by rw [hct, hnf]; omega) hd (fun H1 locs1 hP hD hS => ?_)
        exact hK _ _ _ _ _ h hR ls H1 locs1 (hF.stk (pj_ok1 (pj_ok1 (pj_ok1 (pj_ok1 (pj_ok1 hok)))))) (pj_H.wr (m := m) (m' := pj_cp m a0 sp.toNatClampNeg a1 dp.toNatClampNeg n.toNatClampNeg) hla1 (fun j hj => by simp [pj_cp, hj]) (fun _ _ => rfl) (by simp [pj_ent, pj_cp]) hP hH.2.1 hS)
    · cases h
  · cases h
def qs_mmax {ρ : Type} (nx : Nat) : pj_T ρ := fun K L st m => match st with
  | .inl y :: .inl x :: st => (match Nat.ble (pj_cat st) 8 with
    | true => K nx L (.inl (if x < y then y else x) :: st) m
    | false => none)
  | _ => none
def qs_mmin {ρ : Type} (nx : Nat) : pj_T ρ := fun K L st m => match st with
  | .inl y :: .inl x :: st => (match Nat.ble (pj_cat st) 8 with
    | true => K nx L (.inl (if y < x then y else x) :: st) m
    | false => none)
  | _ => none
def qs_lmin {ρ : Type} (nx : Nat) : pj_T ρ := fun K L st m => match st with
  | .inr (.inl y) :: .inr (.inl x) :: st => (match Nat.ble (pj_cat st) 8 with
    | true => K nx L (.inr (.inl (if y < x then y else x)) :: st) m
    | false => none)
  | _ => none
theorem qz_mmax {ρ : Type} {X : pj_X} {enc : ρ → Option pj_V × pj_M} {pc : Nat} (C : pj_C X) {i : Nat} (hd : decode (pj_cc X) pc = .ok (.invokestatic i, 3)) (h1 : Cond.methodLink (pj_own X) i Lib.Math.max.name ∈ pj_tb) (h2 : Cond.static Lib.Math.max.name ∈ pj_tb) (h3 : Cond.initialized "java/lang/Math" ∈ pj_tb) (h4 : Cond.code Lib.Math.max.name Lib.Math.max.code 2 (some .int) ∈ pj_tb) : pj_S X enc pc (qs_mmax (pc + 3)) := by
  intro K hK L st m r h hR
  obtain ⟨G, A, ⟨cc, own, nL, ret, rk⟩, ⟨p, l, e, R⟩, ⟨s, mi, args, below, meth, c⟩, ⟨cells, slots, Q⟩⟩ := X
  obtain ⟨hx, hb, hml, hown, hts, hk, hnw, hfr, hlo, hce, hsl, hX, hbl, hbA⟩ := C
  unfold qs_mmax at h
  split at h
  · rename_i y x st
    split at h
    · rename_i hbq
      have hbq := Nat.le_of_ble_eq_true hbq
      intro ls H locs hF hH
      have hct := pj_cat_eq G st
      exact va_mmax hx hb (hml.trans hF.1.symm) hown (hts _ h1) (hts _ h2) (hts _ h3) (hts _ h4) (by omega) (by rw [hct]; omega) hce hsl hd (hK _ _ _ _ _ h hR ls H locs (hF.stk (pj_okc trivial (pj_ok1 (pj_ok1 hF.2.2.2.2)))) hH)
    · cases h
  · cases h
theorem qz_mmin {ρ : Type} {X : pj_X} {enc : ρ → Option pj_V × pj_M} {pc : Nat} (C : pj_C X) {i : Nat} (hd : decode (pj_cc X) pc = .ok (.invokestatic i, 3)) (h1 : Cond.methodLink (pj_own X) i Lib.Math.min.name ∈ pj_tb) (h2 : Cond.static Lib.Math.min.name ∈ pj_tb) (h3 : Cond.initialized "java/lang/Math" ∈ pj_tb) (h4 : Cond.code Lib.Math.min.name Lib.Math.min.code 2 (some .int) ∈ pj_tb) : pj_S X enc pc (qs_mmin (pc + 3)) := by
  intro K hK L st m r h hR
  obtain ⟨G, A, ⟨cc, own, nL, ret, rk⟩, ⟨p, l, e, R⟩, ⟨s, mi, args, below, meth, c⟩, ⟨cells, slots, Q⟩⟩ := X
  obtain ⟨hx, hb, hml, hown, hts, hk, hnw, hfr, hlo, hce, hsl, hX, hbl, hbA⟩ := C
  unfold qs_mmin at h
  split at h
  · rename_i y x st
    split at h
    · rename_i hbq
      have hbq := Nat.le_of_ble_eq_true hbq
      intro ls H locs hF hH
      have hct := pj_cat_eq G st
      exact va_mmin hx hb (hml.trans hF.1.symm) hown (hts _ h1) (hts _ h2) (hts _ h3) (hts _ h4) (by omega) (by rw [hct]; omega) hce hsl hd (hK _ _ _ _ _ h hR ls H locs (hF.stk (pj_okc trivial (pj_ok1 (pj_ok1 hF.2.2.2.2)))) hH)
    · cases h
  · cases h
theorem qz_lmin {ρ : Type} {X : pj_X} {enc : ρ → Option pj_V × pj_M} {pc : Nat} (C : pj_C X) {i : Nat} (hd : decode (pj_cc X) pc = .ok (.invokestatic i, 3)) (h1 : Cond.methodLink (pj_own X) i Lib.MathLoose.min_long.x ∈ pj_tb) (h2 : Cond.static Lib.MathLoose.min_long.x ∈ pj_tb) (h3 : Cond.initialized "java/lang/Math" ∈ pj_tb) (h4 : Cond.code Lib.MathLoose.min_long.x Lib.MathLoose.min_long.code 4 (some .long) ∈ pj_tb) : pj_S X enc pc (qs_lmin (pc + 3)) := by
  intro K hK L st m r h hR
  obtain ⟨G, A, ⟨cc, own, nL, ret, rk⟩, ⟨p, l, e, R⟩, ⟨s, mi, args, below, meth, c⟩, ⟨cells, slots, Q⟩⟩ := X
  obtain ⟨hx, hb, hml, hown, hts, hk, hnw, hfr, hlo, hce, hsl, hX, hbl, hbA⟩ := C
  unfold qs_lmin at h
  split at h
  · rename_i y x st
    split at h
    · rename_i hbq
      have hbq := Nat.le_of_ble_eq_true hbq
      intro ls H locs hF hH
      have hct := pj_cat_eq G st
      exact va_mmin_long hx hb (hml.trans hF.1.symm) hown (hts _ h1) (hts _ h2) (hts _ h3) (hts _ h4) (by omega) (by rw [hct]; omega) hce hsl hd (hK _ _ _ _ _ h hR ls H locs (hF.stk (pj_okc trivial (pj_ok1 (pj_ok1 hF.2.2.2.2)))) hH)
    · cases h
  · cases h
/-! calls -/
def pj_Aw (G : pj_E) : Nat → Prop := fun q => ∃ a, a < 95 ∧ q = G.2.1 a
def pj_Pre (G : pj_E) (m : pj_M) (U : State) : Prop := va_P G.1 vwCl (pj_ws G m) U.heap ∧ va_K G.1 vwCl (pj_tys G) U ∧ va_D (pj_Aw G) (pj_ws G m) ∧ va_Nw pj_nw U ∧ va_X G.2.2.2.1 G.2.2.2.2.1 G.2.2.2.2.2 U U.heap ∧ G.2.2.2.1 < U.heap.size ∧ ¬ pj_Aw G G.2.2.2.1
def pj_Qc (G : pj_E) (o : Option pj_V) (m : pj_M) : Array Value → State → Outcome → State → Prop := fun _ st oc t =>
  oc = .returned (o.map (pj_tr G)) ∧ (∀ v, o = some v → pj_okv v) ∧ va_P G.1 vwCl (pj_ws G m) t.heap ∧ va_F (pj_Aw G) st t
/-- a method's contract: where its pure text answers, the machine answers so -/
def pj_Ct {σ : Type} (ef : σ → Option pj_V × pj_M) (y : MethodName) (cc : ByteArray) (nL : Nat) (ret : Option FieldType) (rk : Nat) (F : List pj_V → pj_M → Option σ) : Prop :=
  ∀ (l : Launch) (G : pj_E) (as : List pj_V) (m : pj_M) (r : σ), F as m = some r → (∀ v ∈ as, pj_okv v) → Met l y (Cond.code y cc nL ret :: pj_tb) (pj_rm rk) (va_Pc (as.map (pj_tr G)) (pj_Pre G m)) (pj_Qc G (ef r).1 (ef r).2) 0 0 (pj_Aw G)
theorem pj_Pre_blind (G : pj_E) (m : pj_M) (av : List Value) : FrameBlind (va_Pc av (pj_Pre G m)) := by
  intro a U g mk h
  obtain ⟨h0, h1, h2, h3, h4, h5, h6, h7⟩ := h
  exact ⟨h0, h1, va_K.moved (u := U) (U := U.calling g mk a) (Vm.Alike.refl U.vm) h2, h3, va_Nw.same (u := U) (U := U.calling g mk a) rfl rfl h4, va_X.moved (u := U) (U := U.calling g mk a) (Vm.Alike.refl U.vm) h5, h6, h7⟩
theorem pj_D_aw {G : pj_E} {A : Nat → Prop} {m : pj_M} (h : va_D A (pj_ws G m)) : va_D (pj_Aw G) (pj_ws G m) := ⟨h.1, fun k q hk => by
  obtain ⟨t, h1, rfl⟩ := pj_ws_of hk
  exact ⟨k, pj_lay_lt h1, rfl⟩⟩
theorem pj_aw_in {G : pj_E} {A : Nat → Prop} {m : pj_M} (h : va_D A (pj_ws G m)) : ∀ q, pj_Aw G q → A q := by
  rintro q ⟨a, ha, rfl⟩
  rw [← pj_lay_len] at ha
  exact h.2 a _ (pj_ws_at (List.getElem?_eq_getElem ha))
theorem pj_pre_at {G : pj_E} {A : Nat → Prop} {m : pj_M} {s : State} {H : Heap} {locs : List Loc} (hk : va_K G.1 vwCl (pj_tys G) s) (hnw : va_Nw pj_nw s) (hX : va_X G.2.2.2.1 G.2.2.2.2.1 G.2.2.2.2.2 s s.heap) (hbl : G.2.2.2.1 < s.heap.size) (hbA : ¬ A G.2.2.2.1) (hH : pj_H G A m s H locs) : ∀ U : State, U.heap = H → s.WarmedH U.vm → pj_Pre G m U := by
  intro U hU hW
  refine ⟨by rw [hU]; exact hH.1, va_K.moved hW.alike hk, pj_D_aw hH.2.1, va_Nw.warmM hW hnw, ?_, ?_, fun h => hbA (pj_aw_in hH.2.1 _ h)⟩
  · rw [hU]
    exact va_X.moved hW.alike (hX.kept (hH.2.2.2.1 _ hbl hbA))
  · rw [hU]
    exact Nat.lt_of_lt_of_le hbl hH.2.2.1
theorem pj_go {p : Program} {l : Launch} {e : Env} {R : Room} {s : State} {mi : MethodId} {args : Array Value} {below : List Frame} {meth : Method} {c : Code} {H : Heap} {locs : List Loc} {cells slots : Nat} {Q : State → Prop} {pc : Nat} {ls : Array Slot} {st0 rest : List Value} {a : Array Value} {G : pj_E} {A : Nat → Prop} {m m1 : pj_M} {o : Option pj_V}
    (hr : va_Run p l e R s mi args below meth c H locs cells slots 0 0 (F0 mi pc ls st0) rest (pj_Qc G o m1 a) (pj_Aw G)) (hH : pj_H G A m s H locs)
    (kk : ∀ (H1 : Heap) (locs1 : List Loc), (∀ v, o = some v → pj_okv v) → pj_H G A m1 s H1 locs1 → W p l e R s mi args below meth c H1 locs1 cells slots Q (F0 mi (pc + 3) ls ((o.map (pj_tr G)).toList ++ rest))) : W p l e R s mi args below meth c H locs cells slots Q (F0 mi pc ls st0) := by
  intro T hT X
  obtain ⟨v, st₀, t, T', L, h0, X', hL, e1, e2, ⟨hv, hov, hP, hz, hk⟩, st⟩ := hr T hT X
  cases hv
  rw [h0] at hz hk
  obtain ⟨hP0, hD0, hS⟩ := hH
  have hin := pj_aw_in hD0
  obtain ⟨t2, a1, b1⟩ := kk T'.heap (locs ++ L) hov ⟨by rw [e1]; exact hP, pj_D_irr hD0, ⟨Nat.le_trans hS.1 (by rw [e1]; exact hz), fun q h1 h2 => by rw [e1, hk q (Nat.lt_of_lt_of_le h1 hS.1) (fun z => h2 (hin q z))]; exact hS.2.1 q h1 h2, fun q hq => by
      rcases List.mem_append.mp hq with h | h
      · exact hS.2.2 q h
      · exact hin _ (hL q h)⟩⟩ T' rfl X'
  exact ⟨t2, st t2 a1, b1⟩
/-- what the tables say of a method: (its class, descriptor), its words -/
def pj_mv (y : MethodName) (cc : ByteArray) (nL : Nat) (ret : Option FieldType) (n : Nat) : Prop := (Cond.code y cc nL ret ∈ pj_tb ∧ Cond.instanceMethod y ∈ pj_tb ∧ Cond.selects y.cls y y ∈ pj_tb ∧ Cond.initialized y.cls ∈ pj_tb) ∧ (y.cls ≠ "java/lang/invoke/MethodHandle" ∧ y.cls ≠ "java/lang/invoke/VarHandle" ∧ (parseMethodDescriptor y.desc).map (fun d => d.parameters.length) = some n) ∧ nL ≤ 40
def pj_ms (y : MethodName) (cc : ByteArray) (nL : Nat) (ret : Option FieldType) (n : Nat) : Prop := (Cond.code y cc nL ret ∈ pj_tb ∧ Cond.static y ∈ pj_tb ∧ Cond.initialized y.cls ∈ pj_tb) ∧ (y.cls ≠ "java/lang/invoke/MethodHandle" ∧ y.cls ≠ "java/lang/invoke/VarHandle" ∧ (parseMethodDescriptor y.desc).map (fun d => d.parameters.length) = some n) ∧ nL ≤ 40
theorem pj_good {w : Cond} (h : w ∈ pj_tb) : GoodIn pj_tb (w :: pj_tb) := fun c hc => (List.mem_cons.mp hc).elim (fun e => by subst e; exact pj_goodIn _ h) (fun h => pj_goodIn c h)
theorem pj_split {α : Type} (st : List α) (n : Nat) (x : α) (as : List α) (h : (st.take n).reverse = x :: as) : st = as.reverse ++ x :: st.drop n := by
  have h1 : st.take n = as.reverse ++ [x] := by
    rw [← List.reverse_reverse (st.take n), h, List.reverse_cons]
  conv => lhs; rw [← List.take_append_drop n st, h1]
  simp
theorem pj_split0 {α : Type} (st : List α) (n : Nat) : st = (st.take n).reverse.reverse ++ st.drop n := by
  rw [List.reverse_reverse, List.take_append_drop]
/-- a call of an instance method of a class of its own: n the arguments with the receiver -/
def pj_cv {ρ σ : Type} (ci n : Nat) (F : List pj_V → pj_M → Option σ) (k : σ → List pj_V → Option ρ) : List pj_V → pj_M → Option ρ := fun st m => match (st.take n).reverse with
  | .inr (.inr (t, x, a)) :: as => (match (Nat.beq t 0 && Nat.beq x ci) && (Nat.ble (pj_cat (st.drop n)) 8 && Nat.beq (as.length + 1) n) with
    | true => (F (.inr (.inr (t, x, a)) :: as) m).bind (fun q => k q (st.drop n))
    | false => none)
  | _ => none
def pj_cs {ρ σ : Type} (n : Nat) (F : List pj_V → pj_M → Option σ) (k : σ → List pj_V → Option ρ) : List pj_V → pj_M → Option ρ := fun st m => (match Nat.ble (pj_cat (st.drop n)) 8 && Nat.beq (st.take n).length n with
    | true => (F (st.take n).reverse m).bind (fun q => k q (st.drop n))
    | false => none)
theorem pj_wV {ρ : Type} {X : pj_X} {pc : Nat} (C : pj_C X) {σ : Type} {ef : σ → Option pj_V × pj_M} {y : MethodName} {cc' : ByteArray} {nL' n rk' ci i N : Nat} {ret' : Option FieldType} {F : List pj_V → pj_M → Option σ} {T : u_T} (hd : decode (pj_cc X) pc = .ok (.invokevirtual i, 3)) (ct : pj_Ct ef y cc' nL' ret' rk' F) (hw : pj_mv y cc' nL' ret' n) (hl : Cond.methodLink (pj_own X) i y ∈ pj_tb) (hc : vwCl[ci]? = some (y.cls, T, N)) (hrk : rk' < pj_rk X)
    {k : σ → List pj_V → Option ρ} {L : List (Option pj_V)} {st : List pj_V} {m : pj_M} {r : ρ} (h : pj_cv ci (n + 1) F k st m = some r)
    (hk9 : ∀ (q : σ) (rest : List pj_V), k q rest = some r → pj_W X (pc + 3) L ((ef q).1.toList ++ rest) (ef q).2) : pj_W X pc L st m := by
  obtain ⟨G, A, ⟨cc, own, nL, ret, rk⟩, ⟨p, l, e, R⟩, ⟨s, mi, args, below, meth, c⟩, ⟨cells, slots, Q⟩⟩ := X
  obtain ⟨hx, hb, hml, hown, hts, hk, hnw, hfr, hlo, hce, hsl, hX, hbl, hbA⟩ := C
  unfold pj_cv at h
  split at h
  · rename_i t x a as hst
    split at h
    · rename_i hbq
      simp only [Bool.and_eq_true, Nat.beq_eq, Nat.ble_eq] at hbq
      obtain ⟨⟨rfl, rfl⟩, hcat, hlen⟩ := hbq
      obtain ⟨q, hq, hkq⟩ := Option.bind_eq_some_iff.mp h
      intro ls H locs hF hH
      have hok := hF.2.2.2.2
      have hoka : ∀ v ∈ Sum.inr (Sum.inr (0, x, a)) :: as, pj_okv v := by rw [← hst]; exact pj_okt hok
      have hla := pj_okl (pj_okh hoka) (by decide)
      have hM := ct l G _ m q hq hoka
      rw [List.map_cons, pj_tr_lay hla] at hM
      obtain ⟨⟨w1, w2, w3, w4⟩, hdd, hn40⟩ := hw
      have hrk : rk' < rk := hrk
      have cb : CallB R s args own i y cc' nL' ret' (Cond.code y cc' nL' ret' :: pj_tb) (pj_rm rk') 0 0 n := callB_of n hts (pj_good w1) rfl rfl rfl (hts _ w4) (hts _ hl) hdd ⟨by simp only [pj_rm]; omega, by simp only [pj_rm]; omega⟩
      have hct := pj_cat_eq G (st.drop (n + 1))
      refine pj_go (va_runV (As := as.map (pj_tr G)) (rest := (st.drop (n + 1)).map (pj_tr G)) (b := G.2.1 a) ⟨hx, hb, hml, hown, hts⟩ hM ⟨cb, hts _ w2, hts _ w3⟩ ⟨pj_Pre_blind G m _, va_recv hk hH.1 hc (pj_ws_at hla), fun U hU hW => ⟨rfl, pj_pre_at hk hnw hX hbl hbA hH U hU hW⟩⟩ rfl (by simp; omega) hF.1 ?_ (lv_room (by rw [hct]; exact hcat)) hd ⟨by omega, by omega⟩) hH (fun H1 locs1 hov hH1 => ?_)
      · show st.map (pj_tr G) = _
        conv => lhs; rw [pj_split st (n + 1) _ as hst]
        rw [List.map_append, List.map_cons, pj_tr_lay hla, List.map_reverse]
      · have h2 := hk9 q _ hkq ls H1 locs1 (hF.stk ?_) hH1
        · rw [List.map_append] at h2
          cases ho : (ef q).1 with
          | none => rw [ho] at h2; exact h2
          | some v => rw [ho] at h2; exact h2
        · intro v hv
          rcases List.mem_append.mp hv with h3 | h3
          · cases ho : (ef q).1 with
            | none => rw [ho] at h3; cases h3
            | some u =>
              rw [ho] at h3 hov
              simp only [Option.toList_some, List.mem_singleton] at h3
              subst h3
              exact hov _ rfl
          · exact pj_okd hok v h3
    · cases h
  · cases h
theorem pj_wS {ρ : Type} {X : pj_X} {pc : Nat} (C : pj_C X) {σ : Type} {ef : σ → Option pj_V × pj_M} {y : MethodName} {cc' : ByteArray} {nL' n rk' i : Nat} {ret' : Option FieldType} {F : List pj_V → pj_M → Option σ} (hd : decode (pj_cc X) pc = .ok (.invokestatic i, 3)) (ct : pj_Ct ef y cc' nL' ret' rk' F) (hw : pj_ms y cc' nL' ret' n) (hl : Cond.methodLink (pj_own X) i y ∈ pj_tb ∨ (pj_own X = RX7 ∧ Cond.methodLinkNest (pj_own X) i y "AlikeSteps" = pj_nw)) (hrk : rk' < pj_rk X)
    {k : σ → List pj_V → Option ρ} {L : List (Option pj_V)} {st : List pj_V} {m : pj_M} {r : ρ} (h : pj_cs n F k st m = some r)
    (hk9 : ∀ (q : σ) (rest : List pj_V), k q rest = some r → pj_W X (pc + 3) L ((ef q).1.toList ++ rest) (ef q).2) : pj_W X pc L st m := by
  obtain ⟨G, A, ⟨cc, own, nL, ret, rk⟩, ⟨p, l, e, R⟩, ⟨s, mi, args, below, meth, c⟩, ⟨cells, slots, Q⟩⟩ := X
  obtain ⟨hx, hb, hml, hown, hts, hk, hnw, hfr, hlo, hce, hsl, hX, hbl, hbA⟩ := C
  unfold pj_cs at h
  split at h
  · rename_i hbq
    simp only [Bool.and_eq_true, Nat.beq_eq, Nat.ble_eq] at hbq
    obtain ⟨hcat, hlen⟩ := hbq
    obtain ⟨q, hq, hkq⟩ := Option.bind_eq_some_iff.mp h
    intro ls H locs hF hH
    have hok := hF.2.2.2.2
    have hM := ct l G _ m q hq (pj_okt hok)
    obtain ⟨⟨w1, w2, w4⟩, hdd, hn40⟩ := hw
    have hrk : rk' < rk := hrk
    have hct := pj_cat_eq G (st.drop n)
    have hrun : va_Run p l e R s mi args below meth c H locs cells slots 0 0 (F0 mi pc ls (st.map (pj_tr G))) ((st.drop n).map (pj_tr G)) (pj_Qc G (ef q).1 (ef q).2 (((st.take n).reverse.map (pj_tr G)).toArray)) (pj_Aw G) := by
      have hstk : (F0 mi pc ls (st.map (pj_tr G))).stack = ((st.take n).reverse.map (pj_tr G)).reverse ++ (st.drop n).map (pj_tr G) := by
        show st.map (pj_tr G) = _
        conv => lhs; rw [pj_split0 st n]
        rw [List.map_append, List.map_reverse]
      rcases hl with hl | ⟨ho, hl⟩
      · have cb : CallB R s args own i y cc' nL' ret' (Cond.code y cc' nL' ret' :: pj_tb) (pj_rm rk') 0 0 n := callB_of n hts (pj_good w1) rfl rfl rfl (hts _ w4) (hts _ hl) hdd ⟨by simp only [pj_rm]; omega, by simp only [pj_rm]; omega⟩
        exact va_runS (As := (st.take n).reverse.map (pj_tr G)) ⟨hx, hb, hml, hown, hts⟩ hM ⟨cb, hts _ w2⟩ ⟨pj_Pre_blind G m _, fun U hU hW => ⟨rfl, pj_pre_at hk hnw hX hbl hbA hH U hU hW⟩⟩ rfl (by simpa using hlen) hF.1 hstk (lv_room (by rw [hct]; exact hcat)) hd ⟨by omega, by omega⟩
      · have hnw1 : va_Nw (Cond.methodLinkNest own i y "AlikeSteps") s := by
          have e9 : Cond.methodLinkNest own i y "AlikeSteps" = pj_nw := hl
          rw [e9]
          exact hnw
        have cb := va_cnB (own := own) (host := "AlikeSteps") (index := i) (maxL := nL') (mc := 0) (ms := 0) (y := y) (bytes := cc') (ret := ret') (rm := pj_rm rk') (R := R) n hts (pj_good w1) rfl rfl rfl hnw1 (hts _ w4) hdd ⟨by simp only [pj_rm]; omega, by simp only [pj_rm]; omega⟩
        exact va_runSN (As := (st.take n).reverse.map (pj_tr G)) ⟨hx, hb, hml, hown, hts⟩ hM ⟨cb, hts _ w2, trivial⟩ ⟨pj_Pre_blind G m _, fun U hU hW => ⟨rfl, pj_pre_at hk hnw hX hbl hbA hH U hU hW⟩⟩ rfl (by simpa using hlen) hF.1 hstk (lv_room (by rw [hct]; exact hcat)) hd ⟨by omega, by omega⟩
    refine pj_go hrun hH (fun H1 locs1 hov hH1 => ?_)
    have h2 := hk9 q _ hkq ls H1 locs1 (hF.stk ?_) hH1
    · rw [List.map_append] at h2
      cases ho : (ef q).1 with
      | none => rw [ho] at h2; exact h2
      | some v => rw [ho] at h2; exact h2
    · intro v hv
      rcases List.mem_append.mp hv with h3 | h3
      · cases ho : (ef q).1 with
        | none => rw [ho] at h3; cases h3
        | some u =>
          rw [ho] at h3 hov
          simp only [Option.toList_some, List.mem_singleton] at h3
          subst h3
          exact hov _ rfl
      · exact pj_okd hok v h3
  · cases h
def qs_vI {ρ : Type} (ci n : Nat) (F : List pj_V → pj_M → Option (Int32 × pj_M)) (nx : Nat) : pj_T ρ := fun K L st m => pj_cv ci n F (fun q rest => K nx L (.inl q.1 :: rest) q.2) st m
def qs_sI {ρ : Type} (n : Nat) (F : List pj_V → pj_M → Option (Int32 × pj_M)) (nx : Nat) : pj_T ρ := fun K L st m => pj_cs n F (fun q rest => K nx L (.inl q.1 :: rest) q.2) st m
theorem qz_vI {ρ : Type} {X : pj_X} {enc : ρ → Option pj_V × pj_M} {pc : Nat} (C : pj_C X) {y : MethodName} {cc' : ByteArray} {nL' n rk' ci i N : Nat} {ret' : Option FieldType} {F : List pj_V → pj_M → Option (Int32 × pj_M)} {T : u_T} (hd : decode (pj_cc X) pc = .ok (.invokevirtual i, 3)) (ct : pj_Ct pj_eI y cc' nL' ret' rk' F) (hw : pj_mv y cc' nL' ret' n) (hl : Cond.methodLink (pj_own X) i y ∈ pj_tb) (hc : vwCl[ci]? = some (y.cls, T, N)) (hrk : rk' < pj_rk X) : pj_S X enc pc (qs_vI ci (n + 1) F (pc + 3)) := by
  intro K hK L st m r h hR
  exact pj_wV C hd ct hw hl hc hrk h (fun q rest hq => hK _ _ _ _ _ hq hR)
theorem qz_sI {ρ : Type} {X : pj_X} {enc : ρ → Option pj_V × pj_M} {pc : Nat} (C : pj_C X) {y : MethodName} {cc' : ByteArray} {nL' n rk' i : Nat} {ret' : Option FieldType} {F : List pj_V → pj_M → Option (Int32 × pj_M)} (hd : decode (pj_cc X) pc = .ok (.invokestatic i, 3)) (ct : pj_Ct pj_eI y cc' nL' ret' rk' F) (hw : pj_ms y cc' nL' ret' n) (hl : Cond.methodLink (pj_own X) i y ∈ pj_tb ∨ (pj_own X = RX7 ∧ Cond.methodLinkNest (pj_own X) i y "AlikeSteps" = pj_nw)) (hrk : rk' < pj_rk X) : pj_S X enc pc (qs_sI n F (pc + 3)) := by
  intro K hK L st m r h hR
  exact pj_wS C hd ct hw hl hrk h (fun q rest hq => hK _ _ _ _ _ hq hR)
def qs_vL {ρ : Type} (ci n : Nat) (F : List pj_V → pj_M → Option (Int64 × pj_M)) (nx : Nat) : pj_T ρ := fun K L st m => pj_cv ci n F (fun q rest => K nx L (.inr (.inl q.1) :: rest) q.2) st m
def qs_sL {ρ : Type} (n : Nat) (F : List pj_V → pj_M → Option (Int64 × pj_M)) (nx : Nat) : pj_T ρ := fun K L st m => pj_cs n F (fun q rest => K nx L (.inr (.inl q.1) :: rest) q.2) st m
theorem qz_vL {ρ : Type} {X : pj_X} {enc : ρ → Option pj_V × pj_M} {pc : Nat} (C : pj_C X) {y : MethodName} {cc' : ByteArray} {nL' n rk' ci i N : Nat} {ret' : Option FieldType} {F : List pj_V → pj_M → Option (Int64 × pj_M)} {T : u_T} (hd : decode (pj_cc X) pc = .ok (.invokevirtual i, 3)) (ct : pj_Ct pj_eL y cc' nL' ret' rk' F) (hw : pj_mv y cc' nL' ret' n) (hl : Cond.methodLink (pj_own X) i y ∈ pj_tb) (hc : vwCl[ci]? = some (y.cls, T, N)) (hrk : rk' < pj_rk X) : pj_S X enc pc (qs_vL ci (n + 1) F (pc + 3)) := by
  intro K hK L st m r h hR
  exact pj_wV C hd ct hw hl hc hrk h (fun q rest hq => hK _ _ _ _ _ hq hR)
theorem qz_sL {ρ : Type} {X : pj_X} {enc : ρ → Option pj_V × pj_M} {pc : Nat} (C : pj_C X) {y : MethodName} {cc' : ByteArray} {nL' n rk' i : Nat} {ret' : Option FieldType} {F : List pj_V → pj_M → Option (Int64 × pj_M)} (hd : decode (pj_cc X) pc = .ok (.invokestatic i, 3)) (ct : pj_Ct pj_eL y cc' nL' ret' rk' F) (hw : pj_ms y cc' nL' ret' n) (hl : Cond.methodLink (pj_own X) i y ∈ pj_tb ∨ (pj_own X = RX7 ∧ Cond.methodLinkNest (pj_own X) i y "AlikeSteps" = pj_nw)) (hrk : rk' < pj_rk X) : pj_S X enc pc (qs_sL n F (pc + 3)) := by
  intro K hK L st m r h hR
  exact pj_wS C hd ct hw hl hrk h (fun q rest hq => hK _ _ _ _ _ hq hR)
def qs_vR {ρ : Type} (cr ci n : Nat) (F : List pj_V → pj_M → Option (Nat × pj_M)) (nx : Nat) : pj_T ρ := fun K L st m => pj_cv ci n F (fun q rest => K nx L (.inr (.inr (0, cr, q.1)) :: rest) q.2) st m
def qs_sR {ρ : Type} (cr n : Nat) (F : List pj_V → pj_M → Option (Nat × pj_M)) (nx : Nat) : pj_T ρ := fun K L st m => pj_cs n F (fun q rest => K nx L (.inr (.inr (0, cr, q.1)) :: rest) q.2) st m
theorem qz_vR {ρ : Type} {X : pj_X} {enc : ρ → Option pj_V × pj_M} {pc : Nat} (C : pj_C X) {y : MethodName} {cc' : ByteArray} {nL' n rk' cr ci i N : Nat} {ret' : Option FieldType} {F : List pj_V → pj_M → Option (Nat × pj_M)} {T : u_T} (hd : decode (pj_cc X) pc = .ok (.invokevirtual i, 3)) (ct : pj_Ct (pj_eR cr) y cc' nL' ret' rk' F) (hw : pj_mv y cc' nL' ret' n) (hl : Cond.methodLink (pj_own X) i y ∈ pj_tb) (hc : vwCl[ci]? = some (y.cls, T, N)) (hrk : rk' < pj_rk X) : pj_S X enc pc (qs_vR cr ci (n + 1) F (pc + 3)) := by
  intro K hK L st m r h hR
  exact pj_wV C hd ct hw hl hc hrk h (fun q rest hq => hK _ _ _ _ _ hq hR)
theorem qz_sR {ρ : Type} {X : pj_X} {enc : ρ → Option pj_V × pj_M} {pc : Nat} (C : pj_C X) {y : MethodName} {cc' : ByteArray} {nL' n rk' cr i : Nat} {ret' : Option FieldType} {F : List pj_V → pj_M → Option (Nat × pj_M)} (hd : decode (pj_cc X) pc = .ok (.invokestatic i, 3)) (ct : pj_Ct (pj_eR cr) y cc' nL' ret' rk' F) (hw : pj_ms y cc' nL' ret' n) (hl : Cond.methodLink (pj_own X) i y ∈ pj_tb ∨ (pj_own X = RX7 ∧ Cond.methodLinkNest (pj_own X) i y "AlikeSteps" = pj_nw)) (hrk : rk' < pj_rk X) : pj_S X enc pc (qs_sR cr n F (pc + 3)) := by
  intro K hK L st m r h hR
  exact pj_wS C hd ct hw hl hrk h (fun q rest hq => hK _ _ _ _ _ hq hR)
def qs_vV {ρ : Type} (ci n : Nat) (F : List pj_V → pj_M → Option (pj_M)) (nx : Nat) : pj_T ρ := fun K L st m => pj_cv ci n F (fun q rest => K nx L rest q) st m
def qs_sV {ρ : Type} (n : Nat) (F : List pj_V → pj_M → Option (pj_M)) (nx : Nat) : pj_T ρ := fun K L st m => pj_cs n F (fun q rest => K nx L rest q) st m
theorem qz_vV {ρ : Type} {X : pj_X} {enc : ρ → Option pj_V × pj_M} {pc : Nat} (C : pj_C X) {y : MethodName} {cc' : ByteArray} {nL' n rk' ci i N : Nat} {ret' : Option FieldType} {F : List pj_V → pj_M → Option (pj_M)} {T : u_T} (hd : decode (pj_cc X) pc = .ok (.invokevirtual i, 3)) (ct : pj_Ct pj_eV y cc' nL' ret' rk' F) (hw : pj_mv y cc' nL' ret' n) (hl : Cond.methodLink (pj_own X) i y ∈ pj_tb) (hc : vwCl[ci]? = some (y.cls, T, N)) (hrk : rk' < pj_rk X) : pj_S X enc pc (qs_vV ci (n + 1) F (pc + 3)) := by
  intro K hK L st m r h hR
  exact pj_wV C hd ct hw hl hc hrk h (fun q rest hq => hK _ _ _ _ _ hq hR)
theorem qz_sV {ρ : Type} {X : pj_X} {enc : ρ → Option pj_V × pj_M} {pc : Nat} (C : pj_C X) {y : MethodName} {cc' : ByteArray} {nL' n rk' i : Nat} {ret' : Option FieldType} {F : List pj_V → pj_M → Option (pj_M)} (hd : decode (pj_cc X) pc = .ok (.invokestatic i, 3)) (ct : pj_Ct pj_eV y cc' nL' ret' rk' F) (hw : pj_ms y cc' nL' ret' n) (hl : Cond.methodLink (pj_own X) i y ∈ pj_tb ∨ (pj_own X = RX7 ∧ Cond.methodLinkNest (pj_own X) i y "AlikeSteps" = pj_nw)) (hrk : rk' < pj_rk X) : pj_S X enc pc (qs_sV n F (pc + 3)) := by
  intro K hK L st m r h hR
  exact pj_wS C hd ct hw hl hrk h (fun q rest hq => hK _ _ _ _ _ hq hR)
/-! the run of a body -/
def pj_at {α : Type} (tb : List (Nat × α)) (pc : Nat) : Option α := match tb with
  | [] => none
  | q :: tb => (match Nat.beq q.1 pc with
    | true => some q.2
    | false => pj_at tb pc)
abbrev pj_N (ρ : Type) : Type := List (Option pj_V) → List pj_V → pj_M → Option ρ
def pj_run {ρ : Type} (tb : List (Nat × pj_T ρ)) (ct : List (Nat × pj_N ρ)) : Nat → pj_K ρ
  | 0, _, _, _, _ => none
  | n + 1, pc, L, st, m => (match pj_at tb pc with
    | none => none
    | some τ => τ (fun pc' L' st' m' => match pj_at ct pc' with
      | some t => t L' st' m'
      | none => pj_run tb ct n pc' L' st' m') L st m)
theorem pj_at_mem {α : Type} {tb : List (Nat × α)} {pc : Nat} {τ : α} (h : pj_at tb pc = some τ) : (pc, τ) ∈ tb := by
  induction tb with
  | nil => cases h
  | cons q tb ih =>
    unfold pj_at at h
    split at h
    · rename_i hq
      cases h
      obtain ⟨a, b⟩ := q
      obtain rfl := Nat.eq_of_beq_eq_true hq
      exact List.mem_cons_self
    · exact List.mem_cons_of_mem _ (ih h)
/-- t, in the place of what follows at pc, is good -/
def pj_G {ρ : Type} (X : pj_X) (enc : ρ → Option pj_V × pj_M) (pc : Nat) (t : pj_N ρ) : Prop := ∀ L st m r, t L st m = some r → pj_R X (enc r).1 (enc r).2 → pj_W X pc L st m
theorem pj_run_ok {ρ : Type} {X : pj_X} {enc : ρ → Option pj_V × pj_M} {tb : List (Nat × pj_T ρ)} {ct : List (Nat × pj_N ρ)} (hS : ∀ q ∈ tb, pj_S X enc q.1 q.2) (hct : ∀ q ∈ ct, pj_G X enc q.1 q.2) : ∀ (n pc : Nat) (L : List (Option pj_V)) (st : List pj_V) (m : pj_M) (r : ρ), pj_run tb ct n pc L st m = some r → pj_R X (enc r).1 (enc r).2 → pj_W X pc L st m := by
  intro n
  induction n with
  | zero => intro pc L st m r h; cases h
  | succ n ih =>
    intro pc L st m r h hR
    unfold pj_run at h
    split at h
    · cases h
    · rename_i τ hτ
      refine hS _ (pj_at_mem hτ) _ ?_ L st m r h hR
      intro pc' L' st' m' r' h' hR'
      split at h'
      · rename_i t ht
        exact hct _ (pj_at_mem ht) L' st' m' r' h' hR'
      · exact ih pc' L' st' m' r' h' hR'
/-! contracts -/
theorem pj_l0_sl (G : pj_E) (as : List pj_V) : (lg_sl (as.map (pj_tr G))).length = (pj_l0 as).length := by
  induction as with
  | nil => rfl
  | cons v as ih =>
    have e1 : lg_sl ((v :: as).map (pj_tr G)) = (if (pj_tr G v).category = 2 then [Slot.val (pj_tr G v), Slot.second] else [Slot.val (pj_tr G v)]) ++ lg_sl (as.map (pj_tr G)) := by
      simp [lg_sl]
    rw [e1, List.length_append, ih]
    rcases v with x | y | q
    · simp [pj_l0, pj_tr, Value.category]; omega
    · simp [pj_l0, pj_tr, Value.category]; omega
    · rw [if_neg (by rw [pj_cat1]; decide)]
      simp [pj_l0]; omega
theorem pj_l0_args (G : pj_E) (as : List pj_V) : ∀ (k i : Nat) (v : pj_V), (pj_l0 as)[i]? = some (some v) → (k + i, pj_tr G v) ∈ lv_args k (as.map (pj_tr G)) ∧ v ∈ as := by
  induction as with
  | nil => intro k i v h; simp [pj_l0] at h
  | cons u as ih =>
    intro k i v h
    have step1 : ∀ (j : Nat), (pj_l0 as)[j]? = some (some v) → (pj_tr G u).category ≠ 2 → i = j + 1 → (k + i, pj_tr G v) ∈ lv_args k ((u :: as).map (pj_tr G)) ∧ v ∈ u :: as := by
      intro j h1 hc hi
      obtain ⟨g1, g2⟩ := ih (k + 1) j v h1
      refine ⟨?_, List.mem_cons_of_mem _ g2⟩
      rw [List.map_cons]
      simp only [lv_args, if_neg hc]
      rw [hi, show k + (j + 1) = k + 1 + j by omega]
      exact List.mem_cons_of_mem _ g1
    rcases u with x | y | q
    · cases i with
      | zero => simp only [pj_l0, List.getElem?_cons_zero] at h; cases h; exact ⟨by simp [lv_args, pj_tr], List.mem_cons_self⟩
      | succ i => exact step1 i (by simpa [pj_l0] using h) (by simp [pj_tr, Value.category]) rfl
    · cases i with
      | zero => simp only [pj_l0, List.getElem?_cons_zero] at h; cases h; exact ⟨by simp [lv_args, pj_tr], List.mem_cons_self⟩
      | succ i =>
        cases i with
        | zero => simp [pj_l0] at h
        | succ i =>
          obtain ⟨g1, g2⟩ := ih (k + 2) i v (by simpa [pj_l0] using h)
          refine ⟨?_, List.mem_cons_of_mem _ g2⟩
          rw [List.map_cons]
          simp only [lv_args, pj_tr, Value.category, if_true]
          rw [show k + (i + 1 + 1) = k + 2 + i by omega]
          exact List.mem_cons_of_mem _ g1
    · cases i with
      | zero => simp only [pj_l0, List.getElem?_cons_zero] at h; cases h; exact ⟨by simp [lv_args], List.mem_cons_self⟩
      | succ i => exact step1 i (by simpa [pj_l0] using h) (by rw [pj_cat1]; decide) rfl
/-- a method's contract out of the walk of its body -/
theorem pj_ct_of {σ : Type} {ef : σ → Option pj_V × pj_M} {y : MethodName} {cc : ByteArray} {nL : Nat} {ret : Option FieldType} {rk : Nat} {F : List pj_V → pj_M → Option σ} (hy : plainName y.cls = true)
    (hlen : ∀ as m r, F as m = some r → (pj_l0 as).length ≤ nL)
    (hbody : ∀ (G : pj_E) (A : Nat → Prop) (P : Program × Launch × Env × Room) (S : State × MethodId × Array Value × List Frame × Method × Code) (Z : Nat × Nat × (State → Prop)), pj_C (G, A, (cc, y.cls, nL, ret, rk), P, S, Z) → ∀ as m r, F as m = some r → pj_R (G, A, (cc, y.cls, nL, ret, rk), P, S, Z) (ef r).1 (ef r).2 → pj_W (G, A, (cc, y.cls, nL, ret, rk), P, S, Z) 0 (pj_l0 as ++ List.replicate (nL - (pj_l0 as).length) none) [] m) : pj_Ct ef y cc nL ret rk F := by
  intro l G as m r hF hok
  refine Met.ofW (cc := cc) (maxL := nL) (ret := ret) hy rfl ?_
  intro p e s mi args below meth c s₁ B hml hv
  obtain ⟨rfl, hP, hK, hD, hnw, hX, hbl, hbA⟩ := hv
  have hts := atoms_spec (ws := Cond.code y cc nL ret :: pj_tb) B.pre
  have hlocks := B.notSynchronized
  have hret := B.returns
  rw [lg_entry_eq]
  have hle : (lg_sl (as.map (pj_tr G))).length ≤ nL := by rw [pj_l0_sl]; exact hlen as m r hF
  have hl := lv_entry (as.map (pj_tr G)) (n := nL) hle
  have hC : pj_C (G, pj_Aw G, (cc, y.cls, nL, ret, rk), (p, l, e, pj_rm rk), (s, mi, (as.map (pj_tr G)).toArray, below, meth, c), (0, 0, MQ below (pj_Qc G (ef r).1 (ef r).2) (as.map (pj_tr G)).toArray s 0 0 (pj_Aw G))) :=
    ⟨B.exec, B.bytes, hml, findClass_of_methodNamed B.named, fun w hw => hts w (List.mem_cons_of_mem _ hw), hK, hnw, Nat.le_refl _, Nat.le_refl _, Nat.le_refl _, Nat.le_refl _, hX, hbl, hbA⟩
  refine hbody _ _ _ _ _ hC as m r hF ?_ _ s.heap [] ?_ ⟨hP, hD, va_S.rf⟩
  · intro pc ls H locs hrd hov hH
    have hq : ∀ t : State, t.heap = H → s.WarmedH t.vm → pj_Qc G (ef r).1 (ef r).2 (as.map (pj_tr G)).toArray s (.returned ((ef r).1.map (pj_tr G))) t := fun t ht hW => ⟨rfl, hov, by rw [ht]; exact hH.1, hH.2.2.F ht⟩
    generalize (ef r).1 = o at hrd hov hq
    rcases o with _ | v | v | q
    · exact W.vret B.exec B.bytes (hret.trans hrd.2) hq hH.2.2.2.2 hrd.1
    · obtain ⟨h1, ty, h2, h3⟩ := hrd
      exact W.zret B.exec B.bytes (hret.trans h2) h3 hq hH.2.2.2.2 h1
    · exact W.lret B.exec B.bytes (hret.trans hrd.2) hq hH.2.2.2.2 hrd.1
    · obtain ⟨h1, n, h2⟩ := hrd
      obtain ⟨a, ha⟩ := pj_tr_ref G q
      exact W.aret B.exec B.bytes (hret.trans h2) (Or.inl ⟨n, rfl⟩) (Or.inr ⟨a, ha⟩) hq hH.2.2.2.2 h1
  · have hll : (pj_l0 as).length ≤ nL := hlen as m r hF
    refine ⟨hl.1, hl.2.1, by simp; omega, fun i v hv => ?_, fun v hv => by cases hv⟩
    rcases Nat.lt_or_ge i (pj_l0 as).length with hi | hi
    · rw [List.getElem?_append_left hi] at hv
      obtain ⟨g1, g2⟩ := pj_l0_args G as 0 i v hv
      rw [Nat.zero_add] at g1
      exact ⟨hl.2.2 _ g1, hok v g2⟩
    · rw [List.getElem?_append_right hi] at hv
      have := List.mem_of_getElem? hv
      rw [List.mem_replicate] at this
      cases this.2
end
section
/-! PART 07: words of the tables that the rows use -/
theorem cw_9 : (.selects "AlikeSteps$Net" ⟨"AlikeSteps$Net", "shiftArcs", "(III)V"⟩ ⟨"AlikeSteps$Net", "shiftArcs", "(III)V"⟩ : Cond) ∈ pj_tb := pj_mem 9 (by decide +kernel) rfl
theorem cw_84 : (.initialized "AlikeSteps$Net" : Cond) ∈ pj_tb := pj_mem 84 (by decide +kernel) rfl
theorem cw_93 : (.initialized "java/lang/System" : Cond) ∈ pj_tb := pj_mem 93 (by decide +kernel) rfl
theorem cw_143 : (.fieldLink RX4 9 "AlikeSteps$Net" "kinds" "[I" : Cond) ∈ pj_tb := pj_mem 143 (by decide +kernel) rfl
theorem cw_144 : (.fieldLink RX4 15 "AlikeSteps$Net" "arcParts" "[I" : Cond) ∈ pj_tb := pj_mem 144 (by decide +kernel) rfl
theorem cw_145 : (.fieldLink RX4 18 "AlikeSteps$Net" "states" "I" : Cond) ∈ pj_tb := pj_mem 145 (by decide +kernel) rfl
theorem cw_146 : (.fieldLink RX4 22 "AlikeSteps$Net" "arcs" "I" : Cond) ∈ pj_tb := pj_mem 146 (by decide +kernel) rfl
theorem cw_147 : (.fieldLink RX4 25 "AlikeSteps$Net" "version" "I" : Cond) ∈ pj_tb := pj_mem 147 (by decide +kernel) rfl
theorem cw_414 : (.static ⟨"java/lang/System", "arraycopy", "(Ljava/lang/Object;ILjava/lang/Object;II)V"⟩ : Cond) ∈ pj_tb := pj_mem 414 (by decide +kernel) rfl
theorem cw_415 : (.native ⟨"java/lang/System", "arraycopy", "(Ljava/lang/Object;ILjava/lang/Object;II)V"⟩ : Cond) ∈ pj_tb := pj_mem 415 (by decide +kernel) rfl
theorem cw_489 : (.instanceMethod ⟨"AlikeSteps$Net", "hasState", "(I)Z"⟩ : Cond) ∈ pj_tb := pj_mem 489 (by decide +kernel) rfl
theorem cw_490 : (.selects "AlikeSteps$Net" ⟨"AlikeSteps$Net", "hasState", "(I)Z"⟩ ⟨"AlikeSteps$Net", "hasState", "(I)Z"⟩ : Cond) ∈ pj_tb := pj_mem 490 (by decide +kernel) rfl
theorem cw_491 : (.code ⟨"AlikeSteps$Net", "hasState", "(I)Z"⟩ prog_6_method_5_code 2 (some .boolean) : Cond) ∈ pj_tb := pj_mem 491 (by decide +kernel) rfl
theorem cw_497 : (.instanceMethod ⟨"AlikeSteps$Net", "insertArc", "(IIII)V"⟩ : Cond) ∈ pj_tb := pj_mem 497 (by decide +kernel) rfl
theorem cw_498 : (.selects "AlikeSteps$Net" ⟨"AlikeSteps$Net", "insertArc", "(IIII)V"⟩ ⟨"AlikeSteps$Net", "insertArc", "(IIII)V"⟩ : Cond) ∈ pj_tb := pj_mem 498 (by decide +kernel) rfl
theorem cw_499 : (.code ⟨"AlikeSteps$Net", "insertArc", "(IIII)V"⟩ prog_6_method_16_code 5 none : Cond) ∈ pj_tb := pj_mem 499 (by decide +kernel) rfl
theorem cw_500 : (.methodLink RX4 38 ⟨"AlikeSteps$Net", "shiftArcs", "(III)V"⟩ : Cond) ∈ pj_tb := pj_mem 500 (by decide +kernel) rfl
theorem cw_502 : (.instanceMethod ⟨"AlikeSteps$Net", "shiftArcs", "(III)V"⟩ : Cond) ∈ pj_tb := pj_mem 502 (by decide +kernel) rfl
theorem cw_503 : (.code ⟨"AlikeSteps$Net", "shiftArcs", "(III)V"⟩ prog_6_method_20_code 6 none : Cond) ∈ pj_tb := pj_mem 503 (by decide +kernel) rfl
theorem cw_504 : (.methodLink RX4 28 ⟨"java/lang/System", "arraycopy", "(Ljava/lang/Object;ILjava/lang/Object;II)V"⟩ : Cond) ∈ pj_tb := pj_mem 504 (by decide +kernel) rfl
theorem cw_505 : (.methodLink RX4 42 ⟨"AlikeSteps$Net", "setArcPart", "(III)V"⟩ : Cond) ∈ pj_tb := pj_mem 505 (by decide +kernel) rfl
theorem cw_506 : (.instanceMethod ⟨"AlikeSteps$Net", "setArcPart", "(III)V"⟩ : Cond) ∈ pj_tb := pj_mem 506 (by decide +kernel) rfl
theorem cw_507 : (.selects "AlikeSteps$Net" ⟨"AlikeSteps$Net", "setArcPart", "(III)V"⟩ ⟨"AlikeSteps$Net", "setArcPart", "(III)V"⟩ : Cond) ∈ pj_tb := pj_mem 507 (by decide +kernel) rfl
theorem cw_508 : (.code ⟨"AlikeSteps$Net", "setArcPart", "(III)V"⟩ prog_6_method_19_code 4 none : Cond) ∈ pj_tb := pj_mem 508 (by decide +kernel) rfl
theorem cw_593 : (.instanceMethod ⟨"AlikeSteps$Net", "kindOf", "(I)I"⟩ : Cond) ∈ pj_tb := pj_mem 593 (by decide +kernel) rfl
theorem cw_594 : (.selects "AlikeSteps$Net" ⟨"AlikeSteps$Net", "kindOf", "(I)I"⟩ ⟨"AlikeSteps$Net", "kindOf", "(I)I"⟩ : Cond) ∈ pj_tb := pj_mem 594 (by decide +kernel) rfl
theorem cw_595 : (.code ⟨"AlikeSteps$Net", "kindOf", "(I)I"⟩ prog_6_method_7_code 2 (some .int) : Cond) ∈ pj_tb := pj_mem 595 (by decide +kernel) rfl
theorem cw_697 : (.instanceMethod ⟨"AlikeSteps$Net", "marked", "()I"⟩ : Cond) ∈ pj_tb := pj_mem 697 (by decide +kernel) rfl
theorem cw_698 : (.selects "AlikeSteps$Net" ⟨"AlikeSteps$Net", "marked", "()I"⟩ ⟨"AlikeSteps$Net", "marked", "()I"⟩ : Cond) ∈ pj_tb := pj_mem 698 (by decide +kernel) rfl
theorem cw_699 : (.code ⟨"AlikeSteps$Net", "marked", "()I"⟩ prog_6_method_10_code 3 (some .int) : Cond) ∈ pj_tb := pj_mem 699 (by decide +kernel) rfl
theorem vcX0 : vwCl[0]? = some (RX0, TX0, 2) := rfl
theorem vcX1 : vwCl[1]? = some (RX1, TX1, 2) := rfl
theorem vcX2 : vwCl[2]? = some (RX2, TX2, 6) := rfl
theorem vcX3 : vwCl[3]? = some (RX3, TX3, 8) := rfl
theorem vcX4 : vwCl[4]? = some (RX4, TX4, 5) := rfl
theorem vcX5 : vwCl[5]? = some (RX5, TX5, 7) := rfl
theorem vcX6 : vwCl[6]? = some (RX6, TX6, 3) := rfl
theorem vcX7 : vwCl[7]? = some (RX7, TX7, 3) := rfl
theorem vcX8 : vwCl[8]? = some (RX8, TX8, 3) := rfl
theorem vcX9 : vwCl[9]? = some (RX9, TX9, 5) := rfl
theorem vcX10 : vwCl[10]? = some (RX10, TX10, 14) := rfl
theorem vcX11 : vwCl[11]? = some (RX11, TX11, 33) := rfl
abbrev pj_P : Type := Program × Launch × Env × Room
abbrev pj_U : Type := State × MethodId × Array Value × List Frame × Method × Code
abbrev pj_Z : Type := Nat × Nat × (State → Prop)
theorem cwm_max : Cond.code Lib.Math.max.name Lib.Math.max.code 2 (some .int) ∈ pj_tb := pj_mem 714 (by decide +kernel) rfl
theorem cwm_min : Cond.code Lib.Math.min.name Lib.Math.min.code 2 (some .int) ∈ pj_tb := pj_mem 757 (by decide +kernel) rfl
theorem cwm_lmin : Cond.code Lib.MathLoose.min_long.x Lib.MathLoose.min_long.code 4 (some .long) ∈ pj_tb := pj_mem 819 (by decide +kernel) rfl
end
section
/-! AlikeSteps$Net.hasState(I)Z -/
abbrev c_X4_hasState : ByteArray := prog_6_method_5_code
def y_X4_hasState : MethodName := ⟨RX4, "hasState", "(I)Z"⟩
def F_X4_hasState (a0 : Nat) (x1 : Int32) (m : pj_M) : Option (Int32 × pj_M) := (if x1 < 0 then (some (0, m)) else (if x1 < (m.1 a0 2) then (some (1, m)) else (some (0, m))))
def W_X4_hasState : List pj_V → pj_M → Option (Int32 × pj_M) := fun as m => match as with
  | [.inr (.inr (t0, w0, a0)), .inl x1] => (match Nat.beq t0 0 && (Nat.beq w0 4) with
    | true => F_X4_hasState a0 x1 m
    | false => none)
  | _ => none
def tb_X4_hasState_0 : List (Nat × pj_T (Int32 × pj_M)) := [(0, qs_ldi 1 1), (1, qs_iflt 16 4), (4, qs_ldi 1 5), (5, qs_lda 0 6), (6, qs_gf 4 2 9), (9, qs_icge 16 12), (12, qs_ci 1 13), (13, qs_go 17), (16, qs_ci 0 17), (17, qs_zret)]
abbrev tb_X4_hasState : List (Nat × pj_T (Int32 × pj_M)) := tb_X4_hasState_0
theorem mv_X4_hasState : pj_mv y_X4_hasState c_X4_hasState 2 (some .boolean) 1 := ⟨⟨cw_491, cw_489, cw_490, cw_84⟩, by decide +kernel, by decide⟩
set_option maxRecDepth 20000 in
theorem sd_X4_hasState_0 {G : pj_E} {A : Nat → Prop} {P : pj_P} {S : pj_U} {Z : pj_Z} (C : pj_C (G, A, (c_X4_hasState, y_X4_hasState.cls, 2, (some .boolean), 1), P, S, Z)) : ∀ q ∈ tb_X4_hasState_0, pj_S (G, A, (c_X4_hasState, y_X4_hasState.cls, 2, (some .boolean), 1), P, S, Z) pj_eI q.1 q.2 :=
  List.forall_mem_cons.mpr ⟨qz_iload_n C (show decode c_X4_hasState 0 = .ok (.iload_n 1, 1) by decide +kernel) rfl,
  List.forall_mem_cons.mpr ⟨qz_iflt C (show decode c_X4_hasState 1 = .ok (.ifCond .lt 15, 3) by decide +kernel) (by decide),
  List.forall_mem_cons.mpr ⟨qz_iload_n C (show decode c_X4_hasState 4 = .ok (.iload_n 1, 1) by decide +kernel) rfl,
  List.forall_mem_cons.mpr ⟨qz_aload_n C (show decode c_X4_hasState 5 = .ok (.aload_n 0, 1) by decide +kernel) rfl,
  List.forall_mem_cons.mpr ⟨qz_gf (k := 2) C (show decode c_X4_hasState 6 = .ok (.getfield 18, 3) by decide +kernel) vcX4 wiX4 (by decide) cw_145,
  List.forall_mem_cons.mpr ⟨qz_icge C (show decode c_X4_hasState 9 = .ok (.if_icmp .ge 7, 3) by decide +kernel) (by decide),
  List.forall_mem_cons.mpr ⟨qz_iconst C (show decode c_X4_hasState 12 = .ok (.iconst 1, 1) by decide +kernel) (by decide +kernel),
  List.forall_mem_cons.mpr ⟨qz_goto C (show decode c_X4_hasState 13 = .ok (.goto 4, 3) by decide +kernel) (by decide),
  List.forall_mem_cons.mpr ⟨qz_iconst C (show decode c_X4_hasState 16 = .ok (.iconst 0, 1) by decide +kernel) (by decide +kernel),
  List.forall_mem_cons.mpr ⟨qz_zret C (show decode c_X4_hasState 17 = .ok (.ireturn, 1) by decide +kernel) rfl,
  (fun q h => by cases h)⟩⟩⟩⟩⟩⟩⟩⟩⟩⟩
theorem sd_X4_hasState {G : pj_E} {A : Nat → Prop} {P : pj_P} {S : pj_U} {Z : pj_Z} (C : pj_C (G, A, (c_X4_hasState, y_X4_hasState.cls, 2, (some .boolean), 1), P, S, Z)) : ∀ q ∈ tb_X4_hasState, pj_S (G, A, (c_X4_hasState, y_X4_hasState.cls, 2, (some .boolean), 1), P, S, Z) pj_eI q.1 q.2 := sd_X4_hasState_0 C
set_option maxRecDepth 20000 in
theorem eq_X4_hasState (a0 : Nat) (x1 : Int32) (m : pj_M) : pj_run tb_X4_hasState [] 12 0 [some (.inr (.inr (0, 4, a0))), some (.inl x1)] [] m = F_X4_hasState a0 x1 m := rfl
theorem ct_X4_hasState : pj_Ct pj_eI y_X4_hasState c_X4_hasState 2 (some .boolean) 1 W_X4_hasState := by
  refine pj_ct_of (by decide +kernel) ?_ ?_
  · intro as m r h
    unfold W_X4_hasState at h
    split at h
    · simp [pj_l0]
    · cases h
  · intro G A P S Z C as m r h hR
    unfold W_X4_hasState at h
    split at h
    · split at h
      · rename_i hbq
        simp only [Bool.and_eq_true, Nat.beq_eq] at hbq
        obtain ⟨rfl, rfl⟩ := hbq
        exact pj_run_ok (sd_X4_hasState C) (fun q h => by cases h) 12 0 _ _ _ _ ((eq_X4_hasState _ _ _).trans h) hR
      · cases h
    · cases h
/-! AlikeSteps$Net.marked()I -/
abbrev c_X4_marked : ByteArray := prog_6_method_10_code
def y_X4_marked : MethodName := ⟨RX4, "marked", "()I"⟩
def H_X4_marked_4 : Nat → Nat → Int32 → Int32 → pj_M → Option (Int32 × pj_M)
  | 0, _, _, _, _ => none
  | n1 + 1, a0, x1, x2, m => (if x2 < (m.1 a0 2) then (if x2 < 0 ∨ 10 ≤ x2.toNatClampNeg then none else (if (m.1 (a0 + 1) x2.toNatClampNeg) = 2 then (H_X4_marked_4 n1 a0 (x1 ||| (1 <<< (x2 &&& 31))) (x2 + 1) m) else (if x2 < 0 ∨ 10 ≤ x2.toNatClampNeg then none else (if (m.1 (a0 + 1) x2.toNatClampNeg) = 5 then (H_X4_marked_4 n1 a0 (x1 ||| (1 <<< (x2 &&& 31))) (x2 + 1) m) else (H_X4_marked_4 n1 a0 x1 (x2 + 1) m))))) else (some (x1, m)))
def F_X4_marked (a0 : Nat) (m : pj_M) : Option (Int32 × pj_M) := (H_X4_marked_4 5000 a0 0 0 m)
def W_X4_marked : List pj_V → pj_M → Option (Int32 × pj_M) := fun as m => match as with
  | [.inr (.inr (t0, w0, a0))] => (match Nat.beq t0 0 && (Nat.beq w0 4) with
    | true => F_X4_marked a0 m
    | false => none)
  | _ => none
def tb_X4_marked_0 : List (Nat × pj_T (Int32 × pj_M)) := [(0, qs_ci 0 1), (1, qs_sti 1 2), (2, qs_ci 0 3), (3, qs_sti 2 4), (4, qs_ldi 2 5), (5, qs_lda 0 6), (6, qs_gf 4 2 9), (9, qs_icge 44 12), (12, qs_lda 0 13), (13, qs_gf 4 0 16), (16, qs_ldi 2 17), (17, qs_iald 18), (18, qs_ci 2 19), (19, qs_iceq 32 22), (22, qs_lda 0 23), (23, qs_gf 4 0 26), (26, qs_ldi 2 27), (27, qs_iald 28), (28, qs_ci 5 29), (29, qs_icne 38 32), (32, qs_ldi 1 33), (33, qs_ci 1 34), (34, qs_ldi 2 35), (35, qs_b2 (fun x y => x <<< (y &&& 31)) 36), (36, qs_b2 (fun x y => x ||| y) 37), (37, qs_sti 1 38), (38, qs_inc 2 1 41), (41, qs_go 4), (44, qs_ldi 1 45), (45, qs_iret)]
abbrev tb_X4_marked : List (Nat × pj_T (Int32 × pj_M)) := tb_X4_marked_0
theorem mv_X4_marked : pj_mv y_X4_marked c_X4_marked 3 (some .int) 0 := ⟨⟨cw_699, cw_697, cw_698, cw_84⟩, by decide +kernel, by decide⟩
set_option maxRecDepth 20000 in
theorem sd_X4_marked_0 {G : pj_E} {A : Nat → Prop} {P : pj_P} {S : pj_U} {Z : pj_Z} (C : pj_C (G, A, (c_X4_marked, y_X4_marked.cls, 3, (some .int), 1), P, S, Z)) : ∀ q ∈ tb_X4_marked_0, pj_S (G, A, (c_X4_marked, y_X4_marked.cls, 3, (some .int), 1), P, S, Z) pj_eI q.1 q.2 :=
  List.forall_mem_cons.mpr ⟨qz_iconst C (show decode c_X4_marked 0 = .ok (.iconst 0, 1) by decide +kernel) (by decide +kernel),
  List.forall_mem_cons.mpr ⟨qz_istore_n C (show decode c_X4_marked 1 = .ok (.istore_n 1, 1) by decide +kernel) rfl,
  List.forall_mem_cons.mpr ⟨qz_iconst C (show decode c_X4_marked 2 = .ok (.iconst 0, 1) by decide +kernel) (by decide +kernel),
  List.forall_mem_cons.mpr ⟨qz_istore_n C (show decode c_X4_marked 3 = .ok (.istore_n 2, 1) by decide +kernel) rfl,
  List.forall_mem_cons.mpr ⟨qz_iload_n C (show decode c_X4_marked 4 = .ok (.iload_n 2, 1) by decide +kernel) rfl,
  List.forall_mem_cons.mpr ⟨qz_aload_n C (show decode c_X4_marked 5 = .ok (.aload_n 0, 1) by decide +kernel) rfl,
  List.forall_mem_cons.mpr ⟨qz_gf (k := 2) C (show decode c_X4_marked 6 = .ok (.getfield 18, 3) by decide +kernel) vcX4 wiX4 (by decide) cw_145,
  List.forall_mem_cons.mpr ⟨qz_icge C (show decode c_X4_marked 9 = .ok (.if_icmp .ge 35, 3) by decide +kernel) (by decide),
  List.forall_mem_cons.mpr ⟨qz_aload_n C (show decode c_X4_marked 12 = .ok (.aload_n 0, 1) by decide +kernel) rfl,
  List.forall_mem_cons.mpr ⟨qz_gf (k := 0) C (show decode c_X4_marked 13 = .ok (.getfield 9, 3) by decide +kernel) vcX4 wiX4 (by decide) cw_143,
  List.forall_mem_cons.mpr ⟨qz_iload_n C (show decode c_X4_marked 16 = .ok (.iload_n 2, 1) by decide +kernel) rfl,
  List.forall_mem_cons.mpr ⟨qz_iald C (show decode c_X4_marked 17 = .ok (.iaload, 1) by decide +kernel),
  List.forall_mem_cons.mpr ⟨qz_iconst C (show decode c_X4_marked 18 = .ok (.iconst 2, 1) by decide +kernel) (by decide +kernel),
  List.forall_mem_cons.mpr ⟨qz_iceq C (show decode c_X4_marked 19 = .ok (.if_icmp .eq 13, 3) by decide +kernel) (by decide),
  List.forall_mem_cons.mpr ⟨qz_aload_n C (show decode c_X4_marked 22 = .ok (.aload_n 0, 1) by decide +kernel) rfl,
  List.forall_mem_cons.mpr ⟨qz_gf (k := 0) C (show decode c_X4_marked 23 = .ok (.getfield 9, 3) by decide +kernel) vcX4 wiX4 (by decide) cw_143,
  List.forall_mem_cons.mpr ⟨qz_iload_n C (show decode c_X4_marked 26 = .ok (.iload_n 2, 1) by decide +kernel) rfl,
  List.forall_mem_cons.mpr ⟨qz_iald C (show decode c_X4_marked 27 = .ok (.iaload, 1) by decide +kernel),
  List.forall_mem_cons.mpr ⟨qz_iconst C (show decode c_X4_marked 28 = .ok (.iconst 5, 1) by decide +kernel) (by decide +kernel),
  List.forall_mem_cons.mpr ⟨qz_icne C (show decode c_X4_marked 29 = .ok (.if_icmp .ne 9, 3) by decide +kernel) (by decide),
  List.forall_mem_cons.mpr ⟨qz_iload_n C (show decode c_X4_marked 32 = .ok (.iload_n 1, 1) by decide +kernel) rfl,
  List.forall_mem_cons.mpr ⟨qz_iconst C (show decode c_X4_marked 33 = .ok (.iconst 1, 1) by decide +kernel) (by decide +kernel),
  List.forall_mem_cons.mpr ⟨qz_iload_n C (show decode c_X4_marked 34 = .ok (.iload_n 2, 1) by decide +kernel) rfl,
  List.forall_mem_cons.mpr ⟨qz_ishl C (show decode c_X4_marked 35 = .ok (.ishl, 1) by decide +kernel),
  List.forall_mem_cons.mpr ⟨qz_ior C (show decode c_X4_marked 36 = .ok (.ior, 1) by decide +kernel),
  List.forall_mem_cons.mpr ⟨qz_istore_n C (show decode c_X4_marked 37 = .ok (.istore_n 1, 1) by decide +kernel) rfl,
  List.forall_mem_cons.mpr ⟨qz_iinc C (show decode c_X4_marked 38 = .ok (.iinc 2 1, 3) by decide +kernel) (by decide +kernel),
  List.forall_mem_cons.mpr ⟨qz_goto C (show decode c_X4_marked 41 = .ok (.goto (-37), 3) by decide +kernel) (by decide),
  List.forall_mem_cons.mpr ⟨qz_iload_n C (show decode c_X4_marked 44 = .ok (.iload_n 1, 1) by decide +kernel) rfl,
  List.forall_mem_cons.mpr ⟨qz_iret C (show decode c_X4_marked 45 = .ok (.ireturn, 1) by decide +kernel) rfl,
  (fun q h => by cases h)⟩⟩⟩⟩⟩⟩⟩⟩⟩⟩⟩⟩⟩⟩⟩⟩⟩⟩⟩⟩⟩⟩⟩⟩⟩⟩⟩⟩⟩⟩
theorem sd_X4_marked {G : pj_E} {A : Nat → Prop} {P : pj_P} {S : pj_U} {Z : pj_Z} (C : pj_C (G, A, (c_X4_marked, y_X4_marked.cls, 3, (some .int), 1), P, S, Z)) : ∀ q ∈ tb_X4_marked, pj_S (G, A, (c_X4_marked, y_X4_marked.cls, 3, (some .int), 1), P, S, Z) pj_eI q.1 q.2 := sd_X4_marked_0 C
def C_X4_marked_4 (f : Nat → Int32 → Int32 → pj_M → Option (Int32 × pj_M)) : pj_N (Int32 × pj_M) := fun L st m => match L, st with
  | [some (.inr (.inr (t0, w0, a0))), some (.inl x1), some (.inl x2)], [] => (match Nat.beq t0 0 && (Nat.beq w0 4) with
    | true => f a0 x1 x2 m
    | false => none)
  | _, _ => none
set_option maxRecDepth 20000 in
theorem eq_X4_marked_4 (n1 : Nat) (a0 : Nat) (x1 : Int32) (x2 : Int32) (m : pj_M) : pj_run tb_X4_marked [(4, C_X4_marked_4 (H_X4_marked_4 n1))] 32 4 [some (.inr (.inr (0, 4, a0))), some (.inl x1), some (.inl x2)] [] m = H_X4_marked_4 (n1 + 1) a0 x1 x2 m := rfl
theorem sg_X4_marked_4 {G : pj_E} {A : Nat → Prop} {P : pj_P} {S : pj_U} {Z : pj_Z} (C : pj_C (G, A, (c_X4_marked, y_X4_marked.cls, 3, (some .int), 1), P, S, Z)) : ∀ n1, pj_G (G, A, (c_X4_marked, y_X4_marked.cls, 3, (some .int), 1), P, S, Z) pj_eI 4 (C_X4_marked_4 (H_X4_marked_4 n1)) := by
  intro n1
  induction n1 with
  | zero =>
    intro L st m r h hR
    unfold C_X4_marked_4 at h
    split at h
    · split at h
      · cases h
      · cases h
    · cases h
  | succ n1 ih1 =>
    intro L st m r h hR
    unfold C_X4_marked_4 at h
    split at h
    · split at h
      · rename_i hbq
        simp only [Bool.and_eq_true, Nat.beq_eq] at hbq
        obtain ⟨rfl, rfl⟩ := hbq
        exact pj_run_ok (sd_X4_marked C) (List.forall_mem_cons.mpr ⟨ih1, fun q h => by cases h⟩) 32 4 _ _ _ _ ((eq_X4_marked_4 _ _ _ _ _).trans h) hR
      · cases h
    · cases h
set_option maxRecDepth 20000 in
theorem eq_X4_marked (a0 : Nat) (m : pj_M) : pj_run tb_X4_marked [(4, C_X4_marked_4 (H_X4_marked_4  5000))] 32 0 [some (.inr (.inr (0, 4, a0))), none, none] [] m = F_X4_marked a0 m := rfl
theorem ct_X4_marked : pj_Ct pj_eI y_X4_marked c_X4_marked 3 (some .int) 1 W_X4_marked := by
  refine pj_ct_of (by decide +kernel) ?_ ?_
  · intro as m r h
    unfold W_X4_marked at h
    split at h
    · simp [pj_l0]
    · cases h
  · intro G A P S Z C as m r h hR
    unfold W_X4_marked at h
    split at h
    · split at h
      · rename_i hbq
        simp only [Bool.and_eq_true, Nat.beq_eq] at hbq
        obtain ⟨rfl, rfl⟩ := hbq
        exact pj_run_ok (sd_X4_marked C) (List.forall_mem_cons.mpr ⟨sg_X4_marked_4 C  5000, fun q h => by cases h⟩) 32 0 _ _ _ _ ((eq_X4_marked _ _).trans h) hR
      · cases h
    · cases h
/-! AlikeSteps$Net.kindOf(I)I -/
abbrev c_X4_kindOf : ByteArray := prog_6_method_7_code
def y_X4_kindOf : MethodName := ⟨RX4, "kindOf", "(I)I"⟩
def F_X4_kindOf (a0 : Nat) (x1 : Int32) (m : pj_M) : Option (Int32 × pj_M) := (if x1 < 0 ∨ 10 ≤ x1.toNatClampNeg then none else (some (m.1 (a0 + 1) x1.toNatClampNeg, m)))
def W_X4_kindOf : List pj_V → pj_M → Option (Int32 × pj_M) := fun as m => match as with
  | [.inr (.inr (t0, w0, a0)), .inl x1] => (match Nat.beq t0 0 && (Nat.beq w0 4) with
    | true => F_X4_kindOf a0 x1 m
    | false => none)
  | _ => none
def tb_X4_kindOf_0 : List (Nat × pj_T (Int32 × pj_M)) := [(0, qs_lda 0 1), (1, qs_gf 4 0 4), (4, qs_ldi 1 5), (5, qs_iald 6), (6, qs_iret)]
abbrev tb_X4_kindOf : List (Nat × pj_T (Int32 × pj_M)) := tb_X4_kindOf_0
theorem mv_X4_kindOf : pj_mv y_X4_kindOf c_X4_kindOf 2 (some .int) 1 := ⟨⟨cw_595, cw_593, cw_594, cw_84⟩, by decide +kernel, by decide⟩
set_option maxRecDepth 20000 in
theorem sd_X4_kindOf_0 {G : pj_E} {A : Nat → Prop} {P : pj_P} {S : pj_U} {Z : pj_Z} (C : pj_C (G, A, (c_X4_kindOf, y_X4_kindOf.cls, 2, (some .int), 1), P, S, Z)) : ∀ q ∈ tb_X4_kindOf_0, pj_S (G, A, (c_X4_kindOf, y_X4_kindOf.cls, 2, (some .int), 1), P, S, Z) pj_eI q.1 q.2 :=
  List.forall_mem_cons.mpr ⟨qz_aload_n C (show decode c_X4_kindOf 0 = .ok (.aload_n 0, 1) by decide +kernel) rfl,
  List.forall_mem_cons.mpr ⟨qz_gf (k := 0) C (show decode c_X4_kindOf 1 = .ok (.getfield 9, 3) by decide +kernel) vcX4 wiX4 (by decide) cw_143,
  List.forall_mem_cons.mpr ⟨qz_iload_n C (show decode c_X4_kindOf 4 = .ok (.iload_n 1, 1) by decide +kernel) rfl,
  List.forall_mem_cons.mpr ⟨qz_iald C (show decode c_X4_kindOf 5 = .ok (.iaload, 1) by decide +kernel),
  List.forall_mem_cons.mpr ⟨qz_iret C (show decode c_X4_kindOf 6 = .ok (.ireturn, 1) by decide +kernel) rfl,
  (fun q h => by cases h)⟩⟩⟩⟩⟩
theorem sd_X4_kindOf {G : pj_E} {A : Nat → Prop} {P : pj_P} {S : pj_U} {Z : pj_Z} (C : pj_C (G, A, (c_X4_kindOf, y_X4_kindOf.cls, 2, (some .int), 1), P, S, Z)) : ∀ q ∈ tb_X4_kindOf, pj_S (G, A, (c_X4_kindOf, y_X4_kindOf.cls, 2, (some .int), 1), P, S, Z) pj_eI q.1 q.2 := sd_X4_kindOf_0 C
set_option maxRecDepth 20000 in
theorem eq_X4_kindOf (a0 : Nat) (x1 : Int32) (m : pj_M) : pj_run tb_X4_kindOf [] 7 0 [some (.inr (.inr (0, 4, a0))), some (.inl x1)] [] m = F_X4_kindOf a0 x1 m := rfl
theorem ct_X4_kindOf : pj_Ct pj_eI y_X4_kindOf c_X4_kindOf 2 (some .int) 1 W_X4_kindOf := by
  refine pj_ct_of (by decide +kernel) ?_ ?_
  · intro as m r h
    unfold W_X4_kindOf at h
    split at h
    · simp [pj_l0]
    · cases h
  · intro G A P S Z C as m r h hR
    unfold W_X4_kindOf at h
    split at h
    · split at h
      · rename_i hbq
        simp only [Bool.and_eq_true, Nat.beq_eq] at hbq
        obtain ⟨rfl, rfl⟩ := hbq
        exact pj_run_ok (sd_X4_kindOf C) (fun q h => by cases h) 7 0 _ _ _ _ ((eq_X4_kindOf _ _ _).trans h) hR
      · cases h
    · cases h
/-! AlikeSteps$Net.shiftArcs(III)V -/
abbrev c_X4_shiftArcs : ByteArray := prog_6_method_20_code
def y_X4_shiftArcs : MethodName := ⟨RX4, "shiftArcs", "(III)V"⟩
def H_X4_shiftArcs_3 : Nat → Nat → Int32 → Int32 → Int32 → Int32 → pj_M → Option (pj_M)
  | 0, _, _, _, _, _, _ => none
  | n1 + 1, a0, x1, x2, x3, x4, m => (if x4 < 3 then (if (((x4 * 20) + x1) < 0 ∨ ((x4 * 20) + x2) < 0 ∨ x3 < 0) ∨ 60 < ((x4 * 20) + x1).toNatClampNeg + x3.toNatClampNeg ∨ 60 < ((x4 * 20) + x2).toNatClampNeg + x3.toNatClampNeg then none else (H_X4_shiftArcs_3 n1 a0 x1 x2 x3 (x4 + 1) (pj_cp m (a0 + 2) ((x4 * 20) + x1).toNatClampNeg (a0 + 2) ((x4 * 20) + x2).toNatClampNeg x3.toNatClampNeg))) else (some m))
def F_X4_shiftArcs (a0 : Nat) (x1 : Int32) (x2 : Int32) (x3 : Int32) (m : pj_M) : Option (pj_M) := (H_X4_shiftArcs_3 5000 a0 x1 x2 x3 0 m)
def W_X4_shiftArcs : List pj_V → pj_M → Option (pj_M) := fun as m => match as with
  | [.inr (.inr (t0, w0, a0)), .inl x1, .inl x2, .inl x3] => (match Nat.beq t0 0 && (Nat.beq w0 4) with
    | true => F_X4_shiftArcs a0 x1 x2 x3 m
    | false => none)
  | _ => none
def tb_X4_shiftArcs_0 : List (Nat × pj_T (pj_M)) := [(0, qs_ci 0 1), (1, qs_sti 4 3), (3, qs_ldi 4 5), (5, qs_ci 3 6), (6, qs_icge 42 9), (9, qs_ldi 4 11), (11, qs_ci 20 13), (13, qs_b2 (fun x y => x * y) 14), (14, qs_sti 5 16), (16, qs_lda 0 17), (17, qs_gf 4 1 20), (20, qs_ldi 5 22), (22, qs_ldi 1 23), (23, qs_b2 (fun x y => x + y) 24), (24, qs_lda 0 25), (25, qs_gf 4 1 28), (28, qs_ldi 5 30), (30, qs_ldi 2 31), (31, qs_b2 (fun x y => x + y) 32), (32, qs_ldi 3 33), (33, qs_cpi 36), (36, qs_inc 4 1 39), (39, qs_go 3), (42, qs_vret)]
abbrev tb_X4_shiftArcs : List (Nat × pj_T (pj_M)) := tb_X4_shiftArcs_0
theorem mv_X4_shiftArcs : pj_mv y_X4_shiftArcs c_X4_shiftArcs 6 none 3 := ⟨⟨cw_503, cw_502, cw_9, cw_84⟩, by decide +kernel, by decide⟩
set_option maxRecDepth 20000 in
theorem sd_X4_shiftArcs_0 {G : pj_E} {A : Nat → Prop} {P : pj_P} {S : pj_U} {Z : pj_Z} (C : pj_C (G, A, (c_X4_shiftArcs, y_X4_shiftArcs.cls, 6, none, 1), P, S, Z)) : ∀ q ∈ tb_X4_shiftArcs_0, pj_S (G, A, (c_X4_shiftArcs, y_X4_shiftArcs.cls, 6, none, 1), P, S, Z) pj_eV q.1 q.2 :=
  List.forall_mem_cons.mpr ⟨qz_iconst C (show decode c_X4_shiftArcs 0 = .ok (.iconst 0, 1) by decide +kernel) (by decide +kernel),
  List.forall_mem_cons.mpr ⟨qz_istore C (show decode c_X4_shiftArcs 1 = .ok (.istore 4, 2) by decide +kernel),
  List.forall_mem_cons.mpr ⟨qz_iload C (show decode c_X4_shiftArcs 3 = .ok (.iload 4, 2) by decide +kernel),
  List.forall_mem_cons.mpr ⟨qz_iconst C (show decode c_X4_shiftArcs 5 = .ok (.iconst 3, 1) by decide +kernel) (by decide +kernel),
  List.forall_mem_cons.mpr ⟨qz_icge C (show decode c_X4_shiftArcs 6 = .ok (.if_icmp .ge 36, 3) by decide +kernel) (by decide),
  List.forall_mem_cons.mpr ⟨qz_iload C (show decode c_X4_shiftArcs 9 = .ok (.iload 4, 2) by decide +kernel),
  List.forall_mem_cons.mpr ⟨qz_bipush C (show decode c_X4_shiftArcs 11 = .ok (.bipush 20, 2) by decide +kernel) (by decide +kernel),
  List.forall_mem_cons.mpr ⟨qz_imul C (show decode c_X4_shiftArcs 13 = .ok (.imul, 1) by decide +kernel),
  List.forall_mem_cons.mpr ⟨qz_istore C (show decode c_X4_shiftArcs 14 = .ok (.istore 5, 2) by decide +kernel),
  List.forall_mem_cons.mpr ⟨qz_aload_n C (show decode c_X4_shiftArcs 16 = .ok (.aload_n 0, 1) by decide +kernel) rfl,
  List.forall_mem_cons.mpr ⟨qz_gf (k := 1) C (show decode c_X4_shiftArcs 17 = .ok (.getfield 15, 3) by decide +kernel) vcX4 wiX4 (by decide) cw_144,
  List.forall_mem_cons.mpr ⟨qz_iload C (show decode c_X4_shiftArcs 20 = .ok (.iload 5, 2) by decide +kernel),
  List.forall_mem_cons.mpr ⟨qz_iload_n C (show decode c_X4_shiftArcs 22 = .ok (.iload_n 1, 1) by decide +kernel) rfl,
  List.forall_mem_cons.mpr ⟨qz_iadd C (show decode c_X4_shiftArcs 23 = .ok (.iadd, 1) by decide +kernel),
  List.forall_mem_cons.mpr ⟨qz_aload_n C (show decode c_X4_shiftArcs 24 = .ok (.aload_n 0, 1) by decide +kernel) rfl,
  List.forall_mem_cons.mpr ⟨qz_gf (k := 1) C (show decode c_X4_shiftArcs 25 = .ok (.getfield 15, 3) by decide +kernel) vcX4 wiX4 (by decide) cw_144,
  List.forall_mem_cons.mpr ⟨qz_iload C (show decode c_X4_shiftArcs 28 = .ok (.iload 5, 2) by decide +kernel),
  List.forall_mem_cons.mpr ⟨qz_iload_n C (show decode c_X4_shiftArcs 30 = .ok (.iload_n 2, 1) by decide +kernel) rfl,
  List.forall_mem_cons.mpr ⟨qz_iadd C (show decode c_X4_shiftArcs 31 = .ok (.iadd, 1) by decide +kernel),
  List.forall_mem_cons.mpr ⟨qz_iload_n C (show decode c_X4_shiftArcs 32 = .ok (.iload_n 3, 1) by decide +kernel) rfl,
  List.forall_mem_cons.mpr ⟨qz_cpi C (show decode c_X4_shiftArcs 33 = .ok (.invokestatic 28, 3) by decide +kernel) cw_504 cw_415 cw_414 cw_93,
  List.forall_mem_cons.mpr ⟨qz_iinc C (show decode c_X4_shiftArcs 36 = .ok (.iinc 4 1, 3) by decide +kernel) (by decide +kernel),
  List.forall_mem_cons.mpr ⟨qz_goto C (show decode c_X4_shiftArcs 39 = .ok (.goto (-36), 3) by decide +kernel) (by decide),
  List.forall_mem_cons.mpr ⟨qz_vret C (show decode c_X4_shiftArcs 42 = .ok (.return_, 1) by decide +kernel) rfl,
  (fun q h => by cases h)⟩⟩⟩⟩⟩⟩⟩⟩⟩⟩⟩⟩⟩⟩⟩⟩⟩⟩⟩⟩⟩⟩⟩⟩
theorem sd_X4_shiftArcs {G : pj_E} {A : Nat → Prop} {P : pj_P} {S : pj_U} {Z : pj_Z} (C : pj_C (G, A, (c_X4_shiftArcs, y_X4_shiftArcs.cls, 6, none, 1), P, S, Z)) : ∀ q ∈ tb_X4_shiftArcs, pj_S (G, A, (c_X4_shiftArcs, y_X4_shiftArcs.cls, 6, none, 1), P, S, Z) pj_eV q.1 q.2 := sd_X4_shiftArcs_0 C
def C_X4_shiftArcs_3 (f : Nat → Int32 → Int32 → Int32 → Int32 → pj_M → Option (pj_M)) : pj_N (pj_M) := fun L st m => match L, st with
  | [some (.inr (.inr (t0, w0, a0))), some (.inl x1), some (.inl x2), some (.inl x3), some (.inl x4), _], [] => (match Nat.beq t0 0 && (Nat.beq w0 4) with
    | true => f a0 x1 x2 x3 x4 m
    | false => none)
  | _, _ => none
set_option maxRecDepth 20000 in
theorem eq_X4_shiftArcs_3 (n1 : Nat) (a0 : Nat) (x1 : Int32) (x2 : Int32) (x3 : Int32) (x4 : Int32) (d5 : Option pj_V) (m : pj_M) : pj_run tb_X4_shiftArcs [(3, C_X4_shiftArcs_3 (H_X4_shiftArcs_3 n1))] 26 3 [some (.inr (.inr (0, 4, a0))), some (.inl x1), some (.inl x2), some (.inl x3), some (.inl x4), d5] [] m = H_X4_shiftArcs_3 (n1 + 1) a0 x1 x2 x3 x4 m := rfl
theorem sg_X4_shiftArcs_3 {G : pj_E} {A : Nat → Prop} {P : pj_P} {S : pj_U} {Z : pj_Z} (C : pj_C (G, A, (c_X4_shiftArcs, y_X4_shiftArcs.cls, 6, none, 1), P, S, Z)) : ∀ n1, pj_G (G, A, (c_X4_shiftArcs, y_X4_shiftArcs.cls, 6, none, 1), P, S, Z) pj_eV 3 (C_X4_shiftArcs_3 (H_X4_shiftArcs_3 n1)) := by
  intro n1
  induction n1 with
  | zero =>
    intro L st m r h hR
    unfold C_X4_shiftArcs_3 at h
    split at h
    · split at h
      · cases h
      · cases h
    · cases h
  | succ n1 ih1 =>
    intro L st m r h hR
    unfold C_X4_shiftArcs_3 at h
    split at h
    · split at h
      · rename_i hbq
        simp only [Bool.and_eq_true, Nat.beq_eq] at hbq
        obtain ⟨rfl, rfl⟩ := hbq
        exact pj_run_ok (sd_X4_shiftArcs C) (List.forall_mem_cons.mpr ⟨ih1, fun q h => by cases h⟩) 26 3 _ _ _ _ ((eq_X4_shiftArcs_3 _ _ _ _ _ _ _ _).trans h) hR
      · cases h
    · cases h
set_option maxRecDepth 20000 in
theorem eq_X4_shiftArcs (a0 : Nat) (x1 : Int32) (x2 : Int32) (x3 : Int32) (m : pj_M) : pj_run tb_X4_shiftArcs [(3, C_X4_shiftArcs_3 (H_X4_shiftArcs_3  5000))] 26 0 [some (.inr (.inr (0, 4, a0))), some (.inl x1), some (.inl x2), some (.inl x3), none, none] [] m = F_X4_shiftArcs a0 x1 x2 x3 m := rfl
theorem ct_X4_shiftArcs : pj_Ct pj_eV y_X4_shiftArcs c_X4_shiftArcs 6 none 1 W_X4_shiftArcs := by
  refine pj_ct_of (by decide +kernel) ?_ ?_
  · intro as m r h
    unfold W_X4_shiftArcs at h
    split at h
    · simp [pj_l0]
    · cases h
  · intro G A P S Z C as m r h hR
    unfold W_X4_shiftArcs at h
    split at h
    · split at h
      · rename_i hbq
        simp only [Bool.and_eq_true, Nat.beq_eq] at hbq
        obtain ⟨rfl, rfl⟩ := hbq
        exact pj_run_ok (sd_X4_shiftArcs C) (List.forall_mem_cons.mpr ⟨sg_X4_shiftArcs_3 C  5000, fun q h => by cases h⟩) 26 0 _ _ _ _ ((eq_X4_shiftArcs _ _ _ _ _).trans h) hR
      · cases h
    · cases h
/-! AlikeSteps$Net.setArcPart(III)V -/
abbrev c_X4_setArcPart : ByteArray := prog_6_method_19_code
def y_X4_setArcPart : MethodName := ⟨RX4, "setArcPart", "(III)V"⟩
def F_X4_setArcPart (a0 : Nat) (x1 : Int32) (x2 : Int32) (x3 : Int32) (m : pj_M) : Option (pj_M) := (if ((x2 * 20) + x1) < 0 ∨ 60 ≤ ((x2 * 20) + x1).toNatClampNeg then none else (some (pj_wr (pj_wr m (a0 + 2) ((x2 * 20) + x1).toNatClampNeg x3) a0 4 (((pj_wr m (a0 + 2) ((x2 * 20) + x1).toNatClampNeg x3).1 a0 4) + 1))))
def W_X4_setArcPart : List pj_V → pj_M → Option (pj_M) := fun as m => match as with
  | [.inr (.inr (t0, w0, a0)), .inl x1, .inl x2, .inl x3] => (match Nat.beq t0 0 && (Nat.beq w0 4) with
    | true => F_X4_setArcPart a0 x1 x2 x3 m
    | false => none)
  | _ => none
def tb_X4_setArcPart_0 : List (Nat × pj_T (pj_M)) := [(0, qs_lda 0 1), (1, qs_gf 4 1 4), (4, qs_ldi 2 5), (5, qs_ci 20 7), (7, qs_b2 (fun x y => x * y) 8), (8, qs_ldi 1 9), (9, qs_b2 (fun x y => x + y) 10), (10, qs_ldi 3 11), (11, qs_iast 12), (12, qs_lda 0 13), (13, qs_dup 14), (14, qs_gf 4 4 17), (17, qs_ci 1 18), (18, qs_b2 (fun x y => x + y) 19), (19, qs_pf 4 4 22), (22, qs_vret)]
abbrev tb_X4_setArcPart : List (Nat × pj_T (pj_M)) := tb_X4_setArcPart_0
theorem mv_X4_setArcPart : pj_mv y_X4_setArcPart c_X4_setArcPart 4 none 3 := ⟨⟨cw_508, cw_506, cw_507, cw_84⟩, by decide +kernel, by decide⟩
set_option maxRecDepth 20000 in
theorem sd_X4_setArcPart_0 {G : pj_E} {A : Nat → Prop} {P : pj_P} {S : pj_U} {Z : pj_Z} (C : pj_C (G, A, (c_X4_setArcPart, y_X4_setArcPart.cls, 4, none, 1), P, S, Z)) : ∀ q ∈ tb_X4_setArcPart_0, pj_S (G, A, (c_X4_setArcPart, y_X4_setArcPart.cls, 4, none, 1), P, S, Z) pj_eV q.1 q.2 :=
  List.forall_mem_cons.mpr ⟨qz_aload_n C (show decode c_X4_setArcPart 0 = .ok (.aload_n 0, 1) by decide +kernel) rfl,
  List.forall_mem_cons.mpr ⟨qz_gf (k := 1) C (show decode c_X4_setArcPart 1 = .ok (.getfield 15, 3) by decide +kernel) vcX4 wiX4 (by decide) cw_144,
  List.forall_mem_cons.mpr ⟨qz_iload_n C (show decode c_X4_setArcPart 4 = .ok (.iload_n 2, 1) by decide +kernel) rfl,
  List.forall_mem_cons.mpr ⟨qz_bipush C (show decode c_X4_setArcPart 5 = .ok (.bipush 20, 2) by decide +kernel) (by decide +kernel),
  List.forall_mem_cons.mpr ⟨qz_imul C (show decode c_X4_setArcPart 7 = .ok (.imul, 1) by decide +kernel),
  List.forall_mem_cons.mpr ⟨qz_iload_n C (show decode c_X4_setArcPart 8 = .ok (.iload_n 1, 1) by decide +kernel) rfl,
  List.forall_mem_cons.mpr ⟨qz_iadd C (show decode c_X4_setArcPart 9 = .ok (.iadd, 1) by decide +kernel),
  List.forall_mem_cons.mpr ⟨qz_iload_n C (show decode c_X4_setArcPart 10 = .ok (.iload_n 3, 1) by decide +kernel) rfl,
  List.forall_mem_cons.mpr ⟨qz_iast C (show decode c_X4_setArcPart 11 = .ok (.iastore, 1) by decide +kernel),
  List.forall_mem_cons.mpr ⟨qz_aload_n C (show decode c_X4_setArcPart 12 = .ok (.aload_n 0, 1) by decide +kernel) rfl,
  List.forall_mem_cons.mpr ⟨qz_dup C (show decode c_X4_setArcPart 13 = .ok (.dup, 1) by decide +kernel),
  List.forall_mem_cons.mpr ⟨qz_gf (k := 4) C (show decode c_X4_setArcPart 14 = .ok (.getfield 25, 3) by decide +kernel) vcX4 wiX4 (by decide) cw_147,
  List.forall_mem_cons.mpr ⟨qz_iconst C (show decode c_X4_setArcPart 17 = .ok (.iconst 1, 1) by decide +kernel) (by decide +kernel),
  List.forall_mem_cons.mpr ⟨qz_iadd C (show decode c_X4_setArcPart 18 = .ok (.iadd, 1) by decide +kernel),
  List.forall_mem_cons.mpr ⟨qz_pf (k := 4) C (show decode c_X4_setArcPart 19 = .ok (.putfield 25, 3) by decide +kernel) vcX4 wiX4 tyX4_ok nmX4 (by decide) cw_147 rfl rfl,
  List.forall_mem_cons.mpr ⟨qz_vret C (show decode c_X4_setArcPart 22 = .ok (.return_, 1) by decide +kernel) rfl,
  (fun q h => by cases h)⟩⟩⟩⟩⟩⟩⟩⟩⟩⟩⟩⟩⟩⟩⟩⟩
theorem sd_X4_setArcPart {G : pj_E} {A : Nat → Prop} {P : pj_P} {S : pj_U} {Z : pj_Z} (C : pj_C (G, A, (c_X4_setArcPart, y_X4_setArcPart.cls, 4, none, 1), P, S, Z)) : ∀ q ∈ tb_X4_setArcPart, pj_S (G, A, (c_X4_setArcPart, y_X4_setArcPart.cls, 4, none, 1), P, S, Z) pj_eV q.1 q.2 := sd_X4_setArcPart_0 C
set_option maxRecDepth 20000 in
theorem eq_X4_setArcPart (a0 : Nat) (x1 : Int32) (x2 : Int32) (x3 : Int32) (m : pj_M) : pj_run tb_X4_setArcPart [] 18 0 [some (.inr (.inr (0, 4, a0))), some (.inl x1), some (.inl x2), some (.inl x3)] [] m = F_X4_setArcPart a0 x1 x2 x3 m := rfl
theorem ct_X4_setArcPart : pj_Ct pj_eV y_X4_setArcPart c_X4_setArcPart 4 none 1 W_X4_setArcPart := by
  refine pj_ct_of (by decide +kernel) ?_ ?_
  · intro as m r h
    unfold W_X4_setArcPart at h
    split at h
    · simp [pj_l0]
    · cases h
  · intro G A P S Z C as m r h hR
    unfold W_X4_setArcPart at h
    split at h
    · split at h
      · rename_i hbq
        simp only [Bool.and_eq_true, Nat.beq_eq] at hbq
        obtain ⟨rfl, rfl⟩ := hbq
        exact pj_run_ok (sd_X4_setArcPart C) (fun q h => by cases h) 18 0 _ _ _ _ ((eq_X4_setArcPart _ _ _ _ _).trans h) hR
      · cases h
    · cases h
/-! AlikeSteps$Net.insertArc(IIII)V -/
abbrev c_X4_insertArc : ByteArray := prog_6_method_16_code
def y_X4_insertArc : MethodName := ⟨RX4, "insertArc", "(IIII)V"⟩
def F_X4_insertArc (a0 : Nat) (x1 : Int32) (x2 : Int32) (x3 : Int32) (x4 : Int32) (m : pj_M) : Option (pj_M) := (if (m.1 a0 3) < 20 then (if x1 < 0 then (some m) else (if (m.1 a0 3) < x1 then (some m) else ((F_X4_shiftArcs a0 x1 (x1 + 1) ((m.1 a0 3) - x1) m).bind fun q1 => ((F_X4_setArcPart a0 x1 0 x2 (pj_wr q1 a0 3 ((q1.1 a0 3) + 1))).bind fun q2 => ((F_X4_setArcPart a0 x1 1 x3 q2).bind fun q3 => ((F_X4_setArcPart a0 x1 2 x4 q3).bind fun q4 => (some q4))))))) else (some m))
def W_X4_insertArc : List pj_V → pj_M → Option (pj_M) := fun as m => match as with
  | [.inr (.inr (t0, w0, a0)), .inl x1, .inl x2, .inl x3, .inl x4] => (match Nat.beq t0 0 && (Nat.beq w0 4) with
    | true => F_X4_insertArc a0 x1 x2 x3 x4 m
    | false => none)
  | _ => none
def tb_X4_insertArc_0 : List (Nat × pj_T (pj_M)) := [(0, qs_lda 0 1), (1, qs_gf 4 3 4), (4, qs_ci 20 6), (6, qs_icge 67 9), (9, qs_ldi 1 10), (10, qs_iflt 67 13), (13, qs_ldi 1 14), (14, qs_lda 0 15), (15, qs_gf 4 3 18), (18, qs_icgt 67 21), (21, qs_lda 0 22), (22, qs_ldi 1 23), (23, qs_ldi 1 24), (24, qs_ci 1 25), (25, qs_b2 (fun x y => x + y) 26), (26, qs_lda 0 27), (27, qs_gf 4 3 30), (30, qs_ldi 1 31), (31, qs_b2 (fun x y => x - y) 32), (32, qs_vV 4 4 W_X4_shiftArcs 35), (35, qs_lda 0 36), (36, qs_dup 37), (37, qs_gf 4 3 40), (40, qs_ci 1 41), (41, qs_b2 (fun x y => x + y) 42), (42, qs_pf 4 3 45), (45, qs_lda 0 46), (46, qs_ldi 1 47), (47, qs_ci 0 48), (48, qs_ldi 2 49), (49, qs_vV 4 4 W_X4_setArcPart 52), (52, qs_lda 0 53), (53, qs_ldi 1 54), (54, qs_ci 1 55), (55, qs_ldi 3 56), (56, qs_vV 4 4 W_X4_setArcPart 59), (59, qs_lda 0 60), (60, qs_ldi 1 61), (61, qs_ci 2 62), (62, qs_ldi 4 64)]
def tb_X4_insertArc_1 : List (Nat × pj_T (pj_M)) := [(64, qs_vV 4 4 W_X4_setArcPart 67), (67, qs_vret)]
def tb_X4_insertArc : List (Nat × pj_T (pj_M)) := tb_X4_insertArc_0 ++ (tb_X4_insertArc_1)
theorem mv_X4_insertArc : pj_mv y_X4_insertArc c_X4_insertArc 5 none 4 := ⟨⟨cw_499, cw_497, cw_498, cw_84⟩, by decide +kernel, by decide⟩
set_option maxRecDepth 20000 in
theorem sd_X4_insertArc_0 {G : pj_E} {A : Nat → Prop} {P : pj_P} {S : pj_U} {Z : pj_Z} (C : pj_C (G, A, (c_X4_insertArc, y_X4_insertArc.cls, 5, none, 2), P, S, Z)) : ∀ q ∈ tb_X4_insertArc_0, pj_S (G, A, (c_X4_insertArc, y_X4_insertArc.cls, 5, none, 2), P, S, Z) pj_eV q.1 q.2 :=
  List.forall_mem_cons.mpr ⟨qz_aload_n C (show decode c_X4_insertArc 0 = .ok (.aload_n 0, 1) by decide +kernel) rfl,
  List.forall_mem_cons.mpr ⟨qz_gf (k := 3) C (show decode c_X4_insertArc 1 = .ok (.getfield 22, 3) by decide +kernel) vcX4 wiX4 (by decide) cw_146,
  List.forall_mem_cons.mpr ⟨qz_bipush C (show decode c_X4_insertArc 4 = .ok (.bipush 20, 2) by decide +kernel) (by decide +kernel),
  List.forall_mem_cons.mpr ⟨qz_icge C (show decode c_X4_insertArc 6 = .ok (.if_icmp .ge 61, 3) by decide +kernel) (by decide),
  List.forall_mem_cons.mpr ⟨qz_iload_n C (show decode c_X4_insertArc 9 = .ok (.iload_n 1, 1) by decide +kernel) rfl,
  List.forall_mem_cons.mpr ⟨qz_iflt C (show decode c_X4_insertArc 10 = .ok (.ifCond .lt 57, 3) by decide +kernel) (by decide),
  List.forall_mem_cons.mpr ⟨qz_iload_n C (show decode c_X4_insertArc 13 = .ok (.iload_n 1, 1) by decide +kernel) rfl,
  List.forall_mem_cons.mpr ⟨qz_aload_n C (show decode c_X4_insertArc 14 = .ok (.aload_n 0, 1) by decide +kernel) rfl,
  List.forall_mem_cons.mpr ⟨qz_gf (k := 3) C (show decode c_X4_insertArc 15 = .ok (.getfield 22, 3) by decide +kernel) vcX4 wiX4 (by decide) cw_146,
  List.forall_mem_cons.mpr ⟨qz_icgt C (show decode c_X4_insertArc 18 = .ok (.if_icmp .gt 49, 3) by decide +kernel) (by decide),
  List.forall_mem_cons.mpr ⟨qz_aload_n C (show decode c_X4_insertArc 21 = .ok (.aload_n 0, 1) by decide +kernel) rfl,
  List.forall_mem_cons.mpr ⟨qz_iload_n C (show decode c_X4_insertArc 22 = .ok (.iload_n 1, 1) by decide +kernel) rfl,
  List.forall_mem_cons.mpr ⟨qz_iload_n C (show decode c_X4_insertArc 23 = .ok (.iload_n 1, 1) by decide +kernel) rfl,
  List.forall_mem_cons.mpr ⟨qz_iconst C (show decode c_X4_insertArc 24 = .ok (.iconst 1, 1) by decide +kernel) (by decide +kernel),
  List.forall_mem_cons.mpr ⟨qz_iadd C (show decode c_X4_insertArc 25 = .ok (.iadd, 1) by decide +kernel),
  List.forall_mem_cons.mpr ⟨qz_aload_n C (show decode c_X4_insertArc 26 = .ok (.aload_n 0, 1) by decide +kernel) rfl,
  List.forall_mem_cons.mpr ⟨qz_gf (k := 3) C (show decode c_X4_insertArc 27 = .ok (.getfield 22, 3) by decide +kernel) vcX4 wiX4 (by decide) cw_146,
  List.forall_mem_cons.mpr ⟨qz_iload_n C (show decode c_X4_insertArc 30 = .ok (.iload_n 1, 1) by decide +kernel) rfl,
  List.forall_mem_cons.mpr ⟨qz_isub C (show decode c_X4_insertArc 31 = .ok (.isub, 1) by decide +kernel),
  List.forall_mem_cons.mpr ⟨qz_vV C (show decode c_X4_insertArc 32 = .ok (.invokevirtual 38, 3) by decide +kernel) ct_X4_shiftArcs mv_X4_shiftArcs cw_500 vcX4 (show 1 < 2 by omega),
  List.forall_mem_cons.mpr ⟨qz_aload_n C (show decode c_X4_insertArc 35 = .ok (.aload_n 0, 1) by decide +kernel) rfl,
  List.forall_mem_cons.mpr ⟨qz_dup C (show decode c_X4_insertArc 36 = .ok (.dup, 1) by decide +kernel),
  List.forall_mem_cons.mpr ⟨qz_gf (k := 3) C (show decode c_X4_insertArc 37 = .ok (.getfield 22, 3) by decide +kernel) vcX4 wiX4 (by decide) cw_146,
  List.forall_mem_cons.mpr ⟨qz_iconst C (show decode c_X4_insertArc 40 = .ok (.iconst 1, 1) by decide +kernel) (by decide +kernel),
  List.forall_mem_cons.mpr ⟨qz_iadd C (show decode c_X4_insertArc 41 = .ok (.iadd, 1) by decide +kernel),
  List.forall_mem_cons.mpr ⟨qz_pf (k := 3) C (show decode c_X4_insertArc 42 = .ok (.putfield 22, 3) by decide +kernel) vcX4 wiX4 tyX4_ok nmX4 (by decide) cw_146 rfl rfl,
  List.forall_mem_cons.mpr ⟨qz_aload_n C (show decode c_X4_insertArc 45 = .ok (.aload_n 0, 1) by decide +kernel) rfl,
  List.forall_mem_cons.mpr ⟨qz_iload_n C (show decode c_X4_insertArc 46 = .ok (.iload_n 1, 1) by decide +kernel) rfl,
  List.forall_mem_cons.mpr ⟨qz_iconst C (show decode c_X4_insertArc 47 = .ok (.iconst 0, 1) by decide +kernel) (by decide +kernel),
  List.forall_mem_cons.mpr ⟨qz_iload_n C (show decode c_X4_insertArc 48 = .ok (.iload_n 2, 1) by decide +kernel) rfl,
  List.forall_mem_cons.mpr ⟨qz_vV C (show decode c_X4_insertArc 49 = .ok (.invokevirtual 42, 3) by decide +kernel) ct_X4_setArcPart mv_X4_setArcPart cw_505 vcX4 (show 1 < 2 by omega),
  List.forall_mem_cons.mpr ⟨qz_aload_n C (show decode c_X4_insertArc 52 = .ok (.aload_n 0, 1) by decide +kernel) rfl,
  List.forall_mem_cons.mpr ⟨qz_iload_n C (show decode c_X4_insertArc 53 = .ok (.iload_n 1, 1) by decide +kernel) rfl,
  List.forall_mem_cons.mpr ⟨qz_iconst C (show decode c_X4_insertArc 54 = .ok (.iconst 1, 1) by decide +kernel) (by decide +kernel),
  List.forall_mem_cons.mpr ⟨qz_iload_n C (show decode c_X4_insertArc 55 = .ok (.iload_n 3, 1) by decide +kernel) rfl,
  List.forall_mem_cons.mpr ⟨qz_vV C (show decode c_X4_insertArc 56 = .ok (.invokevirtual 42, 3) by decide +kernel) ct_X4_setArcPart mv_X4_setArcPart cw_505 vcX4 (show 1 < 2 by omega),
  List.forall_mem_cons.mpr ⟨qz_aload_n C (show decode c_X4_insertArc 59 = .ok (.aload_n 0, 1) by decide +kernel) rfl,
  List.forall_mem_cons.mpr ⟨qz_iload_n C (show decode c_X4_insertArc 60 = .ok (.iload_n 1, 1) by decide +kernel) rfl,
  List.forall_mem_cons.mpr ⟨qz_iconst C (show decode c_X4_insertArc 61 = .ok (.iconst 2, 1) by decide +kernel) (by decide +kernel),
  List.forall_mem_cons.mpr ⟨qz_iload C (show decode c_X4_insertArc 62 = .ok (.iload 4, 2) by decide +kernel),
  (fun q h => by cases h)⟩⟩⟩⟩⟩⟩⟩⟩⟩⟩⟩⟩⟩⟩⟩⟩⟩⟩⟩⟩⟩⟩⟩⟩⟩⟩⟩⟩⟩⟩⟩⟩⟩⟩⟩⟩⟩⟩⟩⟩
set_option maxRecDepth 20000 in
theorem sd_X4_insertArc_1 {G : pj_E} {A : Nat → Prop} {P : pj_P} {S : pj_U} {Z : pj_Z} (C : pj_C (G, A, (c_X4_insertArc, y_X4_insertArc.cls, 5, none, 2), P, S, Z)) : ∀ q ∈ tb_X4_insertArc_1, pj_S (G, A, (c_X4_insertArc, y_X4_insertArc.cls, 5, none, 2), P, S, Z) pj_eV q.1 q.2 :=
  List.forall_mem_cons.mpr ⟨qz_vV C (show decode c_X4_insertArc 64 = .ok (.invokevirtual 42, 3) by decide +kernel) ct_X4_setArcPart mv_X4_setArcPart cw_505 vcX4 (show 1 < 2 by omega),
  List.forall_mem_cons.mpr ⟨qz_vret C (show decode c_X4_insertArc 67 = .ok (.return_, 1) by decide +kernel) rfl,
  (fun q h => by cases h)⟩⟩
theorem sd_X4_insertArc {G : pj_E} {A : Nat → Prop} {P : pj_P} {S : pj_U} {Z : pj_Z} (C : pj_C (G, A, (c_X4_insertArc, y_X4_insertArc.cls, 5, none, 2), P, S, Z)) : ∀ q ∈ tb_X4_insertArc, pj_S (G, A, (c_X4_insertArc, y_X4_insertArc.cls, 5, none, 2), P, S, Z) pj_eV q.1 q.2 := List.forall_mem_append.mpr ⟨sd_X4_insertArc_0 C, sd_X4_insertArc_1 C⟩
set_option maxRecDepth 20000 in
theorem eq_X4_insertArc (a0 : Nat) (x1 : Int32) (x2 : Int32) (x3 : Int32) (x4 : Int32) (m : pj_M) : pj_run tb_X4_insertArc [] 44 0 [some (.inr (.inr (0, 4, a0))), some (.inl x1), some (.inl x2), some (.inl x3), some (.inl x4)] [] m = F_X4_insertArc a0 x1 x2 x3 x4 m := rfl
theorem ct_X4_insertArc : pj_Ct pj_eV y_X4_insertArc c_X4_insertArc 5 none 2 W_X4_insertArc := by
  refine pj_ct_of (by decide +kernel) ?_ ?_
  · intro as m r h
    unfold W_X4_insertArc at h
    split at h
    · simp [pj_l0]
    · cases h
  · intro G A P S Z C as m r h hR
    unfold W_X4_insertArc at h
    split at h
    · split at h
      · rename_i hbq
        simp only [Bool.and_eq_true, Nat.beq_eq] at hbq
        obtain ⟨rfl, rfl⟩ := hbq
        exact pj_run_ok (sd_X4_insertArc C) (fun q h => by cases h) 44 0 _ _ _ _ ((eq_X4_insertArc _ _ _ _ _ _).trans h) hR
      · cases h
    · cases h
end
