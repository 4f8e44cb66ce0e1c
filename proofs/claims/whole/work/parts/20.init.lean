/-! PART 20: constructors. Written by wip/whole/gen/geninit.py -/
set_option maxRecDepth 5000 in
theorem cw_96 : (.classLink RL 7 "AlikeSteps" : Cond) ∈ pj_tb := pj_t1 (List.mem_of_getElem? (i := 16) (by rfl)) (by rfl)
set_option maxRecDepth 5000 in
theorem cw_97 : (.instantiable "AlikeSteps" 14 : Cond) ∈ pj_tb := pj_t1 (List.mem_of_getElem? (i := 17) (by rfl)) (by rfl)
set_option maxRecDepth 5000 in
theorem cw_98 : (.methodLink RL 9 ⟨"AlikeSteps", "<init>", "()V"⟩ : Cond) ∈ pj_tb := pj_t1 (List.mem_of_getElem? (i := 18) (by rfl)) (by rfl)
set_option maxRecDepth 5000 in
theorem cw_99 : (.instanceMethod ⟨"AlikeSteps", "<init>", "()V"⟩ : Cond) ∈ pj_tb := pj_t1 (List.mem_of_getElem? (i := 19) (by rfl)) (by rfl)
set_option maxRecDepth 5000 in
theorem cw_100 : (.code ⟨"AlikeSteps", "<init>", "()V"⟩ prog_1_method_1_code 1 none : Cond) ∈ pj_tb := pj_t1 (List.mem_of_getElem? (i := 20) (by rfl)) (by rfl)
set_option maxRecDepth 5000 in
theorem cw_101 : (.methodLink RX10 1 ⟨"java/lang/Object", "<init>", "()V"⟩ : Cond) ∈ pj_tb := pj_t1 (List.mem_of_getElem? (i := 21) (by rfl)) (by rfl)
set_option maxRecDepth 5000 in
theorem cw_102 : (.instanceMethod ⟨"java/lang/Object", "<init>", "()V"⟩ : Cond) ∈ pj_tb := pj_t1 (List.mem_of_getElem? (i := 22) (by rfl)) (by rfl)
set_option maxRecDepth 5000 in
theorem cw_103 : (.code Lib.objectInit ⟨#[0xb1]⟩ 1 none : Cond) ∈ pj_tb := pj_t1 (List.mem_of_getElem? (i := 23) (by rfl)) (by rfl)
set_option maxRecDepth 5000 in
theorem cw_104 : (.classLink RX10 7 "AlikeSteps$Rows" : Cond) ∈ pj_tb := pj_t1 (List.mem_of_getElem? (i := 24) (by rfl)) (by rfl)
set_option maxRecDepth 5000 in
theorem cw_105 : (.instantiable "AlikeSteps$Rows" 3 : Cond) ∈ pj_tb := pj_t1 (List.mem_of_getElem? (i := 25) (by rfl)) (by rfl)
set_option maxRecDepth 5000 in
theorem cw_106 : (.methodLink RX10 9 ⟨"AlikeSteps$Rows", "<init>", "()V"⟩ : Cond) ∈ pj_tb := pj_t1 (List.mem_of_getElem? (i := 26) (by rfl)) (by rfl)
set_option maxRecDepth 5000 in
theorem cw_107 : (.instanceMethod ⟨"AlikeSteps$Rows", "<init>", "()V"⟩ : Cond) ∈ pj_tb := pj_t1 (List.mem_of_getElem? (i := 27) (by rfl)) (by rfl)
set_option maxRecDepth 5000 in
theorem cw_108 : (.code ⟨"AlikeSteps$Rows", "<init>", "()V"⟩ prog_8_method_1_code 2 none : Cond) ∈ pj_tb := pj_t1 (List.mem_of_getElem? (i := 28) (by rfl)) (by rfl)
set_option maxRecDepth 5000 in
theorem cw_109 : (.methodLink RX6 1 ⟨"java/lang/Object", "<init>", "()V"⟩ : Cond) ∈ pj_tb := pj_t1 (List.mem_of_getElem? (i := 29) (by rfl)) (by rfl)
set_option maxRecDepth 5000 in
theorem cw_120 : (.arrayClass .int : Cond) ∈ pj_tb := pj_t1 (List.mem_of_getElem? (i := 40) (by rfl)) (by rfl)
set_option maxRecDepth 5000 in
theorem cw_121 : (.classLink RX10 16 "AlikeSteps$Tape" : Cond) ∈ pj_tb := pj_t1 (List.mem_of_getElem? (i := 41) (by rfl)) (by rfl)
set_option maxRecDepth 5000 in
theorem cw_122 : (.instantiable "AlikeSteps$Tape" 3 : Cond) ∈ pj_tb := pj_t1 (List.mem_of_getElem? (i := 42) (by rfl)) (by rfl)
set_option maxRecDepth 5000 in
theorem cw_123 : (.methodLink RX10 18 ⟨"AlikeSteps$Tape", "<init>", "()V"⟩ : Cond) ∈ pj_tb := pj_t1 (List.mem_of_getElem? (i := 43) (by rfl)) (by rfl)
set_option maxRecDepth 5000 in
theorem cw_124 : (.instanceMethod ⟨"AlikeSteps$Tape", "<init>", "()V"⟩ : Cond) ∈ pj_tb := pj_t1 (List.mem_of_getElem? (i := 44) (by rfl)) (by rfl)
set_option maxRecDepth 5000 in
theorem cw_125 : (.code ⟨"AlikeSteps$Tape", "<init>", "()V"⟩ prog_10_method_1_code 1 none : Cond) ∈ pj_tb := pj_t1 (List.mem_of_getElem? (i := 45) (by rfl)) (by rfl)
set_option maxRecDepth 5000 in
theorem cw_126 : (.methodLink RX8 3 ⟨"java/lang/Object", "<init>", "()V"⟩ : Cond) ∈ pj_tb := pj_t1 (List.mem_of_getElem? (i := 46) (by rfl)) (by rfl)
set_option maxRecDepth 5000 in
theorem cw_137 : (.classLink RX10 23 "AlikeSteps$Net" : Cond) ∈ pj_tb := pj_t1 (List.mem_of_getElem? (i := 57) (by rfl)) (by rfl)
set_option maxRecDepth 5000 in
theorem cw_138 : (.instantiable "AlikeSteps$Net" 5 : Cond) ∈ pj_tb := pj_t1 (List.mem_of_getElem? (i := 58) (by rfl)) (by rfl)
set_option maxRecDepth 5000 in
theorem cw_139 : (.methodLink RX10 25 ⟨"AlikeSteps$Net", "<init>", "()V"⟩ : Cond) ∈ pj_tb := pj_t1 (List.mem_of_getElem? (i := 59) (by rfl)) (by rfl)
set_option maxRecDepth 5000 in
theorem cw_140 : (.instanceMethod ⟨"AlikeSteps$Net", "<init>", "()V"⟩ : Cond) ∈ pj_tb := pj_t1 (List.mem_of_getElem? (i := 60) (by rfl)) (by rfl)
set_option maxRecDepth 5000 in
theorem cw_141 : (.code ⟨"AlikeSteps$Net", "<init>", "()V"⟩ prog_6_method_1_code 1 none : Cond) ∈ pj_tb := pj_t1 (List.mem_of_getElem? (i := 61) (by rfl)) (by rfl)
set_option maxRecDepth 5000 in
theorem cw_142 : (.methodLink RX4 3 ⟨"java/lang/Object", "<init>", "()V"⟩ : Cond) ∈ pj_tb := pj_t1 (List.mem_of_getElem? (i := 62) (by rfl)) (by rfl)
set_option maxRecDepth 5000 in
theorem cw_160 : (.classLink RX10 40 "AlikeSteps$Acts" : Cond) ∈ pj_tb := pj_t1 (List.mem_of_getElem? (i := 80) (by rfl)) (by rfl)
set_option maxRecDepth 5000 in
theorem cw_161 : (.instantiable "AlikeSteps$Acts" 2 : Cond) ∈ pj_tb := pj_t1 (List.mem_of_getElem? (i := 81) (by rfl)) (by rfl)
set_option maxRecDepth 5000 in
theorem cw_162 : (.methodLink RX10 42 ⟨"AlikeSteps$Acts", "<init>", "()V"⟩ : Cond) ∈ pj_tb := pj_t1 (List.mem_of_getElem? (i := 82) (by rfl)) (by rfl)
set_option maxRecDepth 5000 in
theorem cw_163 : (.instanceMethod ⟨"AlikeSteps$Acts", "<init>", "()V"⟩ : Cond) ∈ pj_tb := pj_t1 (List.mem_of_getElem? (i := 83) (by rfl)) (by rfl)
set_option maxRecDepth 5000 in
theorem cw_164 : (.code ⟨"AlikeSteps$Acts", "<init>", "()V"⟩ prog_2_method_1_code 1 none : Cond) ∈ pj_tb := pj_t1 (List.mem_of_getElem? (i := 84) (by rfl)) (by rfl)
set_option maxRecDepth 5000 in
theorem cw_165 : (.methodLink RX0 1 ⟨"java/lang/Object", "<init>", "()V"⟩ : Cond) ∈ pj_tb := pj_t1 (List.mem_of_getElem? (i := 85) (by rfl)) (by rfl)
set_option maxRecDepth 5000 in
theorem cw_173 : (.classLink RX10 47 "AlikeSteps$Alike" : Cond) ∈ pj_tb := pj_t1 (List.mem_of_getElem? (i := 93) (by rfl)) (by rfl)
set_option maxRecDepth 5000 in
theorem cw_174 : (.instantiable "AlikeSteps$Alike" 2 : Cond) ∈ pj_tb := pj_t1 (List.mem_of_getElem? (i := 94) (by rfl)) (by rfl)
set_option maxRecDepth 5000 in
theorem cw_175 : (.methodLink RX10 49 ⟨"AlikeSteps$Alike", "<init>", "()V"⟩ : Cond) ∈ pj_tb := pj_t1 (List.mem_of_getElem? (i := 95) (by rfl)) (by rfl)
set_option maxRecDepth 5000 in
theorem cw_176 : (.instanceMethod ⟨"AlikeSteps$Alike", "<init>", "()V"⟩ : Cond) ∈ pj_tb := pj_t1 (List.mem_of_getElem? (i := 96) (by rfl)) (by rfl)
set_option maxRecDepth 5000 in
theorem cw_177 : (.code ⟨"AlikeSteps$Alike", "<init>", "()V"⟩ prog_3_method_1_code 2 none : Cond) ∈ pj_tb := pj_t1 (List.mem_of_getElem? (i := 97) (by rfl)) (by rfl)
set_option maxRecDepth 5000 in
theorem cw_178 : (.methodLink RX1 1 ⟨"java/lang/Object", "<init>", "()V"⟩ : Cond) ∈ pj_tb := pj_t1 (List.mem_of_getElem? (i := 98) (by rfl)) (by rfl)
set_option maxRecDepth 5000 in
theorem cw_179 : (.classLink RX1 7 "AlikeSteps$Steps" : Cond) ∈ pj_tb := pj_t1 (List.mem_of_getElem? (i := 99) (by rfl)) (by rfl)
set_option maxRecDepth 5000 in
theorem cw_180 : (.instantiable "AlikeSteps$Steps" 3 : Cond) ∈ pj_tb := pj_t1 (List.mem_of_getElem? (i := 100) (by rfl)) (by rfl)
set_option maxRecDepth 5000 in
theorem cw_181 : (.methodLink RX1 9 ⟨"AlikeSteps$Steps", "<init>", "()V"⟩ : Cond) ∈ pj_tb := pj_t1 (List.mem_of_getElem? (i := 101) (by rfl)) (by rfl)
set_option maxRecDepth 5000 in
theorem cw_182 : (.instanceMethod ⟨"AlikeSteps$Steps", "<init>", "()V"⟩ : Cond) ∈ pj_tb := pj_t1 (List.mem_of_getElem? (i := 102) (by rfl)) (by rfl)
set_option maxRecDepth 5000 in
theorem cw_183 : (.code ⟨"AlikeSteps$Steps", "<init>", "()V"⟩ prog_9_method_1_code 1 none : Cond) ∈ pj_tb := pj_t1 (List.mem_of_getElem? (i := 103) (by rfl)) (by rfl)
set_option maxRecDepth 5000 in
theorem cw_184 : (.methodLink RX7 3 ⟨"java/lang/Object", "<init>", "()V"⟩ : Cond) ∈ pj_tb := pj_t1 (List.mem_of_getElem? (i := 104) (by rfl)) (by rfl)
set_option maxRecDepth 5000 in
theorem cw_195 : (.classLink RX1 16 "AlikeSteps$Parting" : Cond) ∈ pj_tb := pj_t1 (List.mem_of_getElem? (i := 115) (by rfl)) (by rfl)
set_option maxRecDepth 5000 in
theorem cw_197 : (.instantiable "AlikeSteps$Parting" 7 : Cond) ∈ pj_tb := pj_t1 (List.mem_of_getElem? (i := 117) (by rfl)) (by rfl)
set_option maxRecDepth 5000 in
theorem cw_198 : (.methodLink RX1 22 ⟨"AlikeSteps$Parting", "<init>", "(I)V"⟩ : Cond) ∈ pj_tb := pj_t1 (List.mem_of_getElem? (i := 118) (by rfl)) (by rfl)
set_option maxRecDepth 5000 in
theorem cw_199 : (.instanceMethod ⟨"AlikeSteps$Parting", "<init>", "(I)V"⟩ : Cond) ∈ pj_tb := pj_t1 (List.mem_of_getElem? (i := 119) (by rfl)) (by rfl)
set_option maxRecDepth 5000 in
theorem cw_200 : (.code ⟨"AlikeSteps$Parting", "<init>", "(I)V"⟩ prog_7_method_1_code 2 none : Cond) ∈ pj_tb := pj_t1 (List.mem_of_getElem? (i := 120) (by rfl)) (by rfl)
set_option maxRecDepth 5000 in
theorem cw_201 : (.methodLink RX5 3 ⟨"java/lang/Object", "<init>", "()V"⟩ : Cond) ∈ pj_tb := pj_t1 (List.mem_of_getElem? (i := 121) (by rfl)) (by rfl)
set_option maxRecDepth 5000 in
theorem cw_224 : (.arrayClass .long : Cond) ∈ pj_tb := pj_t1 (List.mem_of_getElem? (i := 144) (by rfl)) (by rfl)
set_option maxRecDepth 5000 in
theorem cw_232 : (.classLink RX10 57 "AlikeSteps$Teller" : Cond) ∈ pj_tb := pj_t1 (List.mem_of_getElem? (i := 152) (by rfl)) (by rfl)
set_option maxRecDepth 5000 in
theorem cw_234 : (.classLink RX10 63 "AlikeSteps$Formula" : Cond) ∈ pj_tb := pj_t1 (List.mem_of_getElem? (i := 154) (by rfl)) (by rfl)
set_option maxRecDepth 5000 in
theorem cw_235 : (.instantiable "AlikeSteps$Formula" 8 : Cond) ∈ pj_tb := pj_t1 (List.mem_of_getElem? (i := 155) (by rfl)) (by rfl)
set_option maxRecDepth 5000 in
theorem cw_236 : (.methodLink RX10 65 ⟨"AlikeSteps$Formula", "<init>", "()V"⟩ : Cond) ∈ pj_tb := pj_t1 (List.mem_of_getElem? (i := 156) (by rfl)) (by rfl)
set_option maxRecDepth 5000 in
theorem cw_237 : (.instanceMethod ⟨"AlikeSteps$Formula", "<init>", "()V"⟩ : Cond) ∈ pj_tb := pj_t1 (List.mem_of_getElem? (i := 157) (by rfl)) (by rfl)
set_option maxRecDepth 5000 in
theorem cw_238 : (.code ⟨"AlikeSteps$Formula", "<init>", "()V"⟩ prog_5_method_1_code 1 none : Cond) ∈ pj_tb := pj_t1 (List.mem_of_getElem? (i := 158) (by rfl)) (by rfl)
set_option maxRecDepth 5000 in
theorem cw_239 : (.methodLink RX3 3 ⟨"java/lang/Object", "<init>", "()V"⟩ : Cond) ∈ pj_tb := pj_t1 (List.mem_of_getElem? (i := 159) (by rfl)) (by rfl)
set_option maxRecDepth 5000 in
theorem cw_265 : (.classLink RX10 70 "AlikeSteps$Asker" : Cond) ∈ pj_tb := pj_t1 (List.mem_of_getElem? (i := 185) (by rfl)) (by rfl)
set_option maxRecDepth 5000 in
theorem cw_266 : (.instantiable "AlikeSteps$Asker" 6 : Cond) ∈ pj_tb := pj_t1 (List.mem_of_getElem? (i := 186) (by rfl)) (by rfl)
set_option maxRecDepth 5000 in
theorem cw_267 : (.methodLink RX10 72 ⟨"AlikeSteps$Asker", "<init>", "()V"⟩ : Cond) ∈ pj_tb := pj_t1 (List.mem_of_getElem? (i := 187) (by rfl)) (by rfl)
set_option maxRecDepth 5000 in
theorem cw_268 : (.instanceMethod ⟨"AlikeSteps$Asker", "<init>", "()V"⟩ : Cond) ∈ pj_tb := pj_t1 (List.mem_of_getElem? (i := 188) (by rfl)) (by rfl)
set_option maxRecDepth 5000 in
theorem cw_269 : (.code ⟨"AlikeSteps$Asker", "<init>", "()V"⟩ prog_4_method_1_code 1 none : Cond) ∈ pj_tb := pj_t1 (List.mem_of_getElem? (i := 189) (by rfl)) (by rfl)
set_option maxRecDepth 5000 in
theorem cw_270 : (.methodLink RX2 3 ⟨"java/lang/Object", "<init>", "()V"⟩ : Cond) ∈ pj_tb := pj_t1 (List.mem_of_getElem? (i := 190) (by rfl)) (by rfl)
set_option maxRecDepth 5000 in
theorem cw_290 : (.instantiable "AlikeSteps$Teller" 5 : Cond) ∈ pj_tb := pj_t1 (List.mem_of_getElem? (i := 210) (by rfl)) (by rfl)
set_option maxRecDepth 5000 in
theorem cw_291 : (.methodLink RX10 84 ⟨"AlikeSteps$Teller", "<init>", "(I)V"⟩ : Cond) ∈ pj_tb := pj_t1 (List.mem_of_getElem? (i := 211) (by rfl)) (by rfl)
set_option maxRecDepth 5000 in
theorem cw_292 : (.instanceMethod ⟨"AlikeSteps$Teller", "<init>", "(I)V"⟩ : Cond) ∈ pj_tb := pj_t1 (List.mem_of_getElem? (i := 212) (by rfl)) (by rfl)
set_option maxRecDepth 5000 in
theorem cw_293 : (.code ⟨"AlikeSteps$Teller", "<init>", "(I)V"⟩ prog_11_method_1_code 2 none : Cond) ∈ pj_tb := pj_t1 (List.mem_of_getElem? (i := 213) (by rfl)) (by rfl)
set_option maxRecDepth 5000 in
theorem cw_294 : (.methodLink RX9 3 ⟨"java/lang/Object", "<init>", "()V"⟩ : Cond) ∈ pj_tb := pj_t1 (List.mem_of_getElem? (i := 214) (by rfl)) (by rfl)
set_option maxRecDepth 5000 in
theorem cw_1011 : (.classLink RL 10 "AlikeStepsModel" : Cond) ∈ pj_tb := pj_t4 (List.mem_of_getElem? (i := 211) (by rfl)) (by rfl)
set_option maxRecDepth 5000 in
theorem cw_1012 : (.instantiable "AlikeStepsModel" 33 : Cond) ∈ pj_tb := pj_t4 (List.mem_of_getElem? (i := 212) (by rfl)) (by rfl)
set_option maxRecDepth 5000 in
theorem cw_1013 : (.methodLink RL 12 ⟨"AlikeStepsModel", "<init>", "()V"⟩ : Cond) ∈ pj_tb := pj_t4 (List.mem_of_getElem? (i := 213) (by rfl)) (by rfl)
set_option maxRecDepth 5000 in
theorem cw_1014 : (.instanceMethod ⟨"AlikeStepsModel", "<init>", "()V"⟩ : Cond) ∈ pj_tb := pj_t4 (List.mem_of_getElem? (i := 214) (by rfl)) (by rfl)
set_option maxRecDepth 5000 in
theorem cw_1015 : (.code ⟨"AlikeStepsModel", "<init>", "()V"⟩ prog_13_method_1_code 2 none : Cond) ∈ pj_tb := pj_t4 (List.mem_of_getElem? (i := 215) (by rfl)) (by rfl)
set_option maxRecDepth 5000 in
theorem cw_1016 : (.methodLink RX11 1 ⟨"java/lang/Object", "<init>", "()V"⟩ : Cond) ∈ pj_tb := pj_t4 (List.mem_of_getElem? (i := 216) (by rfl)) (by rfl)
set_option maxRecDepth 5000 in
theorem cw_1118 : (.arrayClass .boolean : Cond) ∈ pj_tb := pj_t5 (List.mem_of_getElem? (i := 78) (by rfl)) (by rfl)
theorem cwa_3 : Cond.arrayClass .int ∈ pj_tb ∧ Cond.arrayClass .long ∈ pj_tb ∧ Cond.arrayClass .boolean ∈ pj_tb := ⟨cw_120, cw_224, cw_1118⟩
/-! AlikeSteps$Acts()V -/
abbrev c_X0_init : ByteArray := prog_2_method_1_code
def y_X0_init : MethodName := ⟨RX0, "<init>", "()V"⟩
def tbi_X0_init_0 : List (Nat × pc_T) := [(0, rs_lda 0 1), (1, rs_obj 4), (4, rs_lda 0 5), (5, rs_ci 100 7), (7, rs_newa 1 9), (9, rs_pf 0 0 true 12), (12, rs_lda 0 13), (13, rs_ci 0 14), (14, rs_pf 0 1 false 17)]
def tbi_X0_init : List (Nat × pc_T) := tbi_X0_init_0
def ctor_X0_init : List pc_V → List pc_E → Option (List pc_E × Nat × Nat) := pc_ctor tbi_X0_init 1 17 1 100
theorem mi_X0_init : pc_mi y_X0_init c_X0_init 1 0 := ⟨⟨cw_164, cw_163, cw_85⟩, by decide +kernel, by decide, rfl⟩
set_option maxRecDepth 20000 in
theorem sdi_X0_init_0 {G : pj_E} {A : Nat → Prop} {P : pj_P} {S : pj_U} {Z : pj_Z} (C : pc_C (G, A, (c_X0_init, y_X0_init.cls, 1, none, 1), P, S, Z)) (hmn : S.2.2.2.2.1.name = "<init>") : ∀ q ∈ tbi_X0_init_0, pc_S (G, A, (c_X0_init, y_X0_init.cls, 1, none, 1), P, S, Z) q.1 q.2 :=
  List.forall_mem_cons.mpr ⟨rz_aload_n C (show decode c_X0_init 0 = .ok (.aload_n 0, 1) by decide +kernel) rfl,
  List.forall_mem_cons.mpr ⟨rz_obj C (show decode c_X0_init 1 = .ok (.invokespecial 1, 3) by decide +kernel) cw_165 cw_102 cw_103,
  List.forall_mem_cons.mpr ⟨rz_aload_n C (show decode c_X0_init 4 = .ok (.aload_n 0, 1) by decide +kernel) rfl,
  List.forall_mem_cons.mpr ⟨rz_bipush C (show decode c_X0_init 5 = .ok (.bipush 100, 2) by decide +kernel) (by decide +kernel),
  List.forall_mem_cons.mpr ⟨rz_newa_int C (show decode c_X0_init 7 = .ok (.newarray .int, 2) by decide +kernel),
  List.forall_mem_cons.mpr ⟨rz_pfF (k := 0) C (show decode c_X0_init 9 = .ok (.putfield 9, 3) by decide +kernel) vcX0 wiX0 tyX0_ok nmX0 (by decide) cw_166 rfl hmn rfl (fun _ => ⟨rfl, rfl⟩),
  List.forall_mem_cons.mpr ⟨rz_aload_n C (show decode c_X0_init 12 = .ok (.aload_n 0, 1) by decide +kernel) rfl,
  List.forall_mem_cons.mpr ⟨rz_iconst C (show decode c_X0_init 13 = .ok (.iconst 0, 1) by decide +kernel) (by decide +kernel),
  List.forall_mem_cons.mpr ⟨rz_pfi (k := 1) C (show decode c_X0_init 14 = .ok (.putfield 13, 3) by decide +kernel) vcX0 wiX0 tyX0_ok nmX0 (by decide) cw_167 rfl rfl,
  (fun q h => by cases h)⟩⟩⟩⟩⟩⟩⟩⟩⟩
theorem cti_X0_init : pc_Ct y_X0_init c_X0_init 1 1 ctor_X0_init := pc_ct_of (by decide +kernel) rfl (by decide +kernel) cwa_3 (fun G A P S Z C hmn => sdi_X0_init_0 C hmn)
/-! AlikeSteps$Asker()V -/
abbrev c_X2_init : ByteArray := prog_4_method_1_code
def y_X2_init : MethodName := ⟨RX2, "<init>", "()V"⟩
def tbi_X2_init_0 : List (Nat × pc_T) := [(0, rs_lda 0 1), (1, rs_obj 4), (4, rs_lda 0 5), (5, rs_ci 16 7), (7, rs_newa 1 9), (9, rs_pf 2 0 true 12), (12, rs_lda 0 13), (13, rs_ci 0 14), (14, rs_pf 2 1 false 17), (17, rs_lda 0 18), (18, rs_ci 0 19), (19, rs_pf 2 2 false 22), (22, rs_lda 0 23), (23, rs_ci 0 24), (24, rs_pf 2 3 false 27), (27, rs_lda 0 28), (28, rs_ci 0 29), (29, rs_pf 2 4 false 32), (32, rs_lda 0 33), (33, rs_ci 0 34), (34, rs_pf 2 5 false 37)]
def tbi_X2_init : List (Nat × pc_T) := tbi_X2_init_0
def ctor_X2_init : List pc_V → List pc_E → Option (List pc_E × Nat × Nat) := pc_ctor tbi_X2_init 1 37 1 16
theorem mi_X2_init : pc_mi y_X2_init c_X2_init 1 0 := ⟨⟨cw_269, cw_268, cw_90⟩, by decide +kernel, by decide, rfl⟩
set_option maxRecDepth 20000 in
theorem sdi_X2_init_0 {G : pj_E} {A : Nat → Prop} {P : pj_P} {S : pj_U} {Z : pj_Z} (C : pc_C (G, A, (c_X2_init, y_X2_init.cls, 1, none, 1), P, S, Z)) (hmn : S.2.2.2.2.1.name = "<init>") : ∀ q ∈ tbi_X2_init_0, pc_S (G, A, (c_X2_init, y_X2_init.cls, 1, none, 1), P, S, Z) q.1 q.2 :=
  List.forall_mem_cons.mpr ⟨rz_aload_n C (show decode c_X2_init 0 = .ok (.aload_n 0, 1) by decide +kernel) rfl,
  List.forall_mem_cons.mpr ⟨rz_obj C (show decode c_X2_init 1 = .ok (.invokespecial 3, 3) by decide +kernel) cw_270 cw_102 cw_103,
  List.forall_mem_cons.mpr ⟨rz_aload_n C (show decode c_X2_init 4 = .ok (.aload_n 0, 1) by decide +kernel) rfl,
  List.forall_mem_cons.mpr ⟨rz_bipush C (show decode c_X2_init 5 = .ok (.bipush 16, 2) by decide +kernel) (by decide +kernel),
  List.forall_mem_cons.mpr ⟨rz_newa_int C (show decode c_X2_init 7 = .ok (.newarray .int, 2) by decide +kernel),
  List.forall_mem_cons.mpr ⟨rz_pfF (k := 0) C (show decode c_X2_init 9 = .ok (.putfield 11, 3) by decide +kernel) vcX2 wiX2 tyX2_ok nmX2 (by decide) cw_271 rfl hmn rfl (fun _ => ⟨rfl, rfl⟩),
  List.forall_mem_cons.mpr ⟨rz_aload_n C (show decode c_X2_init 12 = .ok (.aload_n 0, 1) by decide +kernel) rfl,
  List.forall_mem_cons.mpr ⟨rz_iconst C (show decode c_X2_init 13 = .ok (.iconst 0, 1) by decide +kernel) (by decide +kernel),
  List.forall_mem_cons.mpr ⟨rz_pfi (k := 1) C (show decode c_X2_init 14 = .ok (.putfield 15, 3) by decide +kernel) vcX2 wiX2 tyX2_ok nmX2 (by decide) cw_272 rfl rfl,
  List.forall_mem_cons.mpr ⟨rz_aload_n C (show decode c_X2_init 17 = .ok (.aload_n 0, 1) by decide +kernel) rfl,
  List.forall_mem_cons.mpr ⟨rz_iconst C (show decode c_X2_init 18 = .ok (.iconst 0, 1) by decide +kernel) (by decide +kernel),
  List.forall_mem_cons.mpr ⟨rz_pfi (k := 2) C (show decode c_X2_init 19 = .ok (.putfield 19, 3) by decide +kernel) vcX2 wiX2 tyX2_ok nmX2 (by decide) cw_273 rfl rfl,
  List.forall_mem_cons.mpr ⟨rz_aload_n C (show decode c_X2_init 22 = .ok (.aload_n 0, 1) by decide +kernel) rfl,
  List.forall_mem_cons.mpr ⟨rz_iconst C (show decode c_X2_init 23 = .ok (.iconst 0, 1) by decide +kernel) (by decide +kernel),
  List.forall_mem_cons.mpr ⟨rz_pfi (k := 3) C (show decode c_X2_init 24 = .ok (.putfield 22, 3) by decide +kernel) vcX2 wiX2 tyX2_ok nmX2 (by decide) cw_274 rfl rfl,
  List.forall_mem_cons.mpr ⟨rz_aload_n C (show decode c_X2_init 27 = .ok (.aload_n 0, 1) by decide +kernel) rfl,
  List.forall_mem_cons.mpr ⟨rz_iconst C (show decode c_X2_init 28 = .ok (.iconst 0, 1) by decide +kernel) (by decide +kernel),
  List.forall_mem_cons.mpr ⟨rz_pfi (k := 4) C (show decode c_X2_init 29 = .ok (.putfield 25, 3) by decide +kernel) vcX2 wiX2 tyX2_ok nmX2 (by decide) cw_275 rfl rfl,
  List.forall_mem_cons.mpr ⟨rz_aload_n C (show decode c_X2_init 32 = .ok (.aload_n 0, 1) by decide +kernel) rfl,
  List.forall_mem_cons.mpr ⟨rz_iconst C (show decode c_X2_init 33 = .ok (.iconst 0, 1) by decide +kernel) (by decide +kernel),
  List.forall_mem_cons.mpr ⟨rz_pfi (k := 5) C (show decode c_X2_init 34 = .ok (.putfield 28, 3) by decide +kernel) vcX2 wiX2 tyX2_ok nmX2 (by decide) cw_276 rfl rfl,
  (fun q h => by cases h)⟩⟩⟩⟩⟩⟩⟩⟩⟩⟩⟩⟩⟩⟩⟩⟩⟩⟩⟩⟩⟩
theorem cti_X2_init : pc_Ct y_X2_init c_X2_init 1 1 ctor_X2_init := pc_ct_of (by decide +kernel) rfl (by decide +kernel) cwa_3 (fun G A P S Z C hmn => sdi_X2_init_0 C hmn)
/-! AlikeSteps$Formula()V -/
abbrev c_X3_init : ByteArray := prog_5_method_1_code
def y_X3_init : MethodName := ⟨RX3, "<init>", "()V"⟩
def tbi_X3_init_0 : List (Nat × pc_T) := [(0, rs_lda 0 1), (1, rs_obj 4), (4, rs_lda 0 5), (5, rs_ci 30 7), (7, rs_newa 1 9), (9, rs_pf 3 0 true 12), (12, rs_lda 0 13), (13, rs_ci 0 14), (14, rs_pf 3 1 false 17), (17, rs_lda 0 18), (18, rs_ci 0 19), (19, rs_pf 3 2 false 22), (22, rs_lda 0 23), (23, rs_ci 0 24), (24, rs_pf 3 3 false 27), (27, rs_lda 0 28), (28, rs_ci 0 29), (29, rs_pf 3 4 false 32), (32, rs_lda 0 33), (33, rs_ci 0 34), (34, rs_pf 3 5 false 37), (37, rs_lda 0 38), (38, rs_ci 0 39), (39, rs_pz 3 6 42), (42, rs_lda 0 43), (43, rs_ci 0 44), (44, rs_pz 3 7 47)]
def tbi_X3_init : List (Nat × pc_T) := tbi_X3_init_0
def ctor_X3_init : List pc_V → List pc_E → Option (List pc_E × Nat × Nat) := pc_ctor tbi_X3_init 1 47 1 30
theorem mi_X3_init : pc_mi y_X3_init c_X3_init 1 0 := ⟨⟨cw_238, cw_237, cw_89⟩, by decide +kernel, by decide, rfl⟩
set_option maxRecDepth 20000 in
theorem sdi_X3_init_0 {G : pj_E} {A : Nat → Prop} {P : pj_P} {S : pj_U} {Z : pj_Z} (C : pc_C (G, A, (c_X3_init, y_X3_init.cls, 1, none, 1), P, S, Z)) (hmn : S.2.2.2.2.1.name = "<init>") : ∀ q ∈ tbi_X3_init_0, pc_S (G, A, (c_X3_init, y_X3_init.cls, 1, none, 1), P, S, Z) q.1 q.2 :=
  List.forall_mem_cons.mpr ⟨rz_aload_n C (show decode c_X3_init 0 = .ok (.aload_n 0, 1) by decide +kernel) rfl,
  List.forall_mem_cons.mpr ⟨rz_obj C (show decode c_X3_init 1 = .ok (.invokespecial 3, 3) by decide +kernel) cw_239 cw_102 cw_103,
  List.forall_mem_cons.mpr ⟨rz_aload_n C (show decode c_X3_init 4 = .ok (.aload_n 0, 1) by decide +kernel) rfl,
  List.forall_mem_cons.mpr ⟨rz_bipush C (show decode c_X3_init 5 = .ok (.bipush 30, 2) by decide +kernel) (by decide +kernel),
  List.forall_mem_cons.mpr ⟨rz_newa_int C (show decode c_X3_init 7 = .ok (.newarray .int, 2) by decide +kernel),
  List.forall_mem_cons.mpr ⟨rz_pfF (k := 0) C (show decode c_X3_init 9 = .ok (.putfield 11, 3) by decide +kernel) vcX3 wiX3 tyX3_ok nmX3 (by decide) cw_240 rfl hmn rfl (fun _ => ⟨rfl, rfl⟩),
  List.forall_mem_cons.mpr ⟨rz_aload_n C (show decode c_X3_init 12 = .ok (.aload_n 0, 1) by decide +kernel) rfl,
  List.forall_mem_cons.mpr ⟨rz_iconst C (show decode c_X3_init 13 = .ok (.iconst 0, 1) by decide +kernel) (by decide +kernel),
  List.forall_mem_cons.mpr ⟨rz_pfi (k := 1) C (show decode c_X3_init 14 = .ok (.putfield 15, 3) by decide +kernel) vcX3 wiX3 tyX3_ok nmX3 (by decide) cw_241 rfl rfl,
  List.forall_mem_cons.mpr ⟨rz_aload_n C (show decode c_X3_init 17 = .ok (.aload_n 0, 1) by decide +kernel) rfl,
  List.forall_mem_cons.mpr ⟨rz_iconst C (show decode c_X3_init 18 = .ok (.iconst 0, 1) by decide +kernel) (by decide +kernel),
  List.forall_mem_cons.mpr ⟨rz_pfi (k := 2) C (show decode c_X3_init 19 = .ok (.putfield 19, 3) by decide +kernel) vcX3 wiX3 tyX3_ok nmX3 (by decide) cw_242 rfl rfl,
  List.forall_mem_cons.mpr ⟨rz_aload_n C (show decode c_X3_init 22 = .ok (.aload_n 0, 1) by decide +kernel) rfl,
  List.forall_mem_cons.mpr ⟨rz_iconst C (show decode c_X3_init 23 = .ok (.iconst 0, 1) by decide +kernel) (by decide +kernel),
  List.forall_mem_cons.mpr ⟨rz_pfi (k := 3) C (show decode c_X3_init 24 = .ok (.putfield 22, 3) by decide +kernel) vcX3 wiX3 tyX3_ok nmX3 (by decide) cw_243 rfl rfl,
  List.forall_mem_cons.mpr ⟨rz_aload_n C (show decode c_X3_init 27 = .ok (.aload_n 0, 1) by decide +kernel) rfl,
  List.forall_mem_cons.mpr ⟨rz_iconst C (show decode c_X3_init 28 = .ok (.iconst 0, 1) by decide +kernel) (by decide +kernel),
  List.forall_mem_cons.mpr ⟨rz_pfi (k := 4) C (show decode c_X3_init 29 = .ok (.putfield 25, 3) by decide +kernel) vcX3 wiX3 tyX3_ok nmX3 (by decide) cw_244 rfl rfl,
  List.forall_mem_cons.mpr ⟨rz_aload_n C (show decode c_X3_init 32 = .ok (.aload_n 0, 1) by decide +kernel) rfl,
  List.forall_mem_cons.mpr ⟨rz_iconst C (show decode c_X3_init 33 = .ok (.iconst 0, 1) by decide +kernel) (by decide +kernel),
  List.forall_mem_cons.mpr ⟨rz_pfi (k := 5) C (show decode c_X3_init 34 = .ok (.putfield 28, 3) by decide +kernel) vcX3 wiX3 tyX3_ok nmX3 (by decide) cw_245 rfl rfl,
  List.forall_mem_cons.mpr ⟨rz_aload_n C (show decode c_X3_init 37 = .ok (.aload_n 0, 1) by decide +kernel) rfl,
  List.forall_mem_cons.mpr ⟨rz_iconst C (show decode c_X3_init 38 = .ok (.iconst 0, 1) by decide +kernel) (by decide +kernel),
  List.forall_mem_cons.mpr ⟨rz_pfz (k := 6) C (show decode c_X3_init 39 = .ok (.putfield 31, 3) by decide +kernel) vcX3 wiX3 tyX3_ok nmX3 (by decide) cw_246 rfl rfl,
  List.forall_mem_cons.mpr ⟨rz_aload_n C (show decode c_X3_init 42 = .ok (.aload_n 0, 1) by decide +kernel) rfl,
  List.forall_mem_cons.mpr ⟨rz_iconst C (show decode c_X3_init 43 = .ok (.iconst 0, 1) by decide +kernel) (by decide +kernel),
  List.forall_mem_cons.mpr ⟨rz_pfz (k := 7) C (show decode c_X3_init 44 = .ok (.putfield 35, 3) by decide +kernel) vcX3 wiX3 tyX3_ok nmX3 (by decide) cw_247 rfl rfl,
  (fun q h => by cases h)⟩⟩⟩⟩⟩⟩⟩⟩⟩⟩⟩⟩⟩⟩⟩⟩⟩⟩⟩⟩⟩⟩⟩⟩⟩⟩⟩
theorem cti_X3_init : pc_Ct y_X3_init c_X3_init 1 1 ctor_X3_init := pc_ct_of (by decide +kernel) rfl (by decide +kernel) cwa_3 (fun G A P S Z C hmn => sdi_X3_init_0 C hmn)
/-! AlikeSteps$Net()V -/
abbrev c_X4_init : ByteArray := prog_6_method_1_code
def y_X4_init : MethodName := ⟨RX4, "<init>", "()V"⟩
def tbi_X4_init_0 : List (Nat × pc_T) := [(0, rs_lda 0 1), (1, rs_obj 4), (4, rs_lda 0 5), (5, rs_ci 10 7), (7, rs_newa 1 9), (9, rs_pf 4 0 true 12), (12, rs_lda 0 13), (13, rs_ci 60 15), (15, rs_newa 1 17), (17, rs_pf 4 1 true 20), (20, rs_lda 0 21), (21, rs_ci 0 22), (22, rs_pf 4 2 false 25), (25, rs_lda 0 26), (26, rs_ci 0 27), (27, rs_pf 4 3 false 30), (30, rs_lda 0 31), (31, rs_ci 0 32), (32, rs_pf 4 4 false 35)]
def tbi_X4_init : List (Nat × pc_T) := tbi_X4_init_0
def ctor_X4_init : List pc_V → List pc_E → Option (List pc_E × Nat × Nat) := pc_ctor tbi_X4_init 1 35 2 70
theorem mi_X4_init : pc_mi y_X4_init c_X4_init 1 0 := ⟨⟨cw_141, cw_140, cw_84⟩, by decide +kernel, by decide, rfl⟩
set_option maxRecDepth 20000 in
theorem sdi_X4_init_0 {G : pj_E} {A : Nat → Prop} {P : pj_P} {S : pj_U} {Z : pj_Z} (C : pc_C (G, A, (c_X4_init, y_X4_init.cls, 1, none, 1), P, S, Z)) (hmn : S.2.2.2.2.1.name = "<init>") : ∀ q ∈ tbi_X4_init_0, pc_S (G, A, (c_X4_init, y_X4_init.cls, 1, none, 1), P, S, Z) q.1 q.2 :=
  List.forall_mem_cons.mpr ⟨rz_aload_n C (show decode c_X4_init 0 = .ok (.aload_n 0, 1) by decide +kernel) rfl,
  List.forall_mem_cons.mpr ⟨rz_obj C (show decode c_X4_init 1 = .ok (.invokespecial 3, 3) by decide +kernel) cw_142 cw_102 cw_103,
  List.forall_mem_cons.mpr ⟨rz_aload_n C (show decode c_X4_init 4 = .ok (.aload_n 0, 1) by decide +kernel) rfl,
  List.forall_mem_cons.mpr ⟨rz_bipush C (show decode c_X4_init 5 = .ok (.bipush 10, 2) by decide +kernel) (by decide +kernel),
  List.forall_mem_cons.mpr ⟨rz_newa_int C (show decode c_X4_init 7 = .ok (.newarray .int, 2) by decide +kernel),
  List.forall_mem_cons.mpr ⟨rz_pfF (k := 0) C (show decode c_X4_init 9 = .ok (.putfield 9, 3) by decide +kernel) vcX4 wiX4 tyX4_ok nmX4 (by decide) cw_143 rfl hmn rfl (fun _ => ⟨rfl, rfl⟩),
  List.forall_mem_cons.mpr ⟨rz_aload_n C (show decode c_X4_init 12 = .ok (.aload_n 0, 1) by decide +kernel) rfl,
  List.forall_mem_cons.mpr ⟨rz_bipush C (show decode c_X4_init 13 = .ok (.bipush 60, 2) by decide +kernel) (by decide +kernel),
  List.forall_mem_cons.mpr ⟨rz_newa_int C (show decode c_X4_init 15 = .ok (.newarray .int, 2) by decide +kernel),
  List.forall_mem_cons.mpr ⟨rz_pfF (k := 1) C (show decode c_X4_init 17 = .ok (.putfield 15, 3) by decide +kernel) vcX4 wiX4 tyX4_ok nmX4 (by decide) cw_144 rfl hmn rfl (fun _ => ⟨rfl, rfl⟩),
  List.forall_mem_cons.mpr ⟨rz_aload_n C (show decode c_X4_init 20 = .ok (.aload_n 0, 1) by decide +kernel) rfl,
  List.forall_mem_cons.mpr ⟨rz_iconst C (show decode c_X4_init 21 = .ok (.iconst 0, 1) by decide +kernel) (by decide +kernel),
  List.forall_mem_cons.mpr ⟨rz_pfi (k := 2) C (show decode c_X4_init 22 = .ok (.putfield 18, 3) by decide +kernel) vcX4 wiX4 tyX4_ok nmX4 (by decide) cw_145 rfl rfl,
  List.forall_mem_cons.mpr ⟨rz_aload_n C (show decode c_X4_init 25 = .ok (.aload_n 0, 1) by decide +kernel) rfl,
  List.forall_mem_cons.mpr ⟨rz_iconst C (show decode c_X4_init 26 = .ok (.iconst 0, 1) by decide +kernel) (by decide +kernel),
  List.forall_mem_cons.mpr ⟨rz_pfi (k := 3) C (show decode c_X4_init 27 = .ok (.putfield 22, 3) by decide +kernel) vcX4 wiX4 tyX4_ok nmX4 (by decide) cw_146 rfl rfl,
  List.forall_mem_cons.mpr ⟨rz_aload_n C (show decode c_X4_init 30 = .ok (.aload_n 0, 1) by decide +kernel) rfl,
  List.forall_mem_cons.mpr ⟨rz_iconst C (show decode c_X4_init 31 = .ok (.iconst 0, 1) by decide +kernel) (by decide +kernel),
  List.forall_mem_cons.mpr ⟨rz_pfi (k := 4) C (show decode c_X4_init 32 = .ok (.putfield 25, 3) by decide +kernel) vcX4 wiX4 tyX4_ok nmX4 (by decide) cw_147 rfl rfl,
  (fun q h => by cases h)⟩⟩⟩⟩⟩⟩⟩⟩⟩⟩⟩⟩⟩⟩⟩⟩⟩⟩⟩
theorem cti_X4_init : pc_Ct y_X4_init c_X4_init 1 1 ctor_X4_init := pc_ct_of (by decide +kernel) rfl (by decide +kernel) cwa_3 (fun G A P S Z C hmn => sdi_X4_init_0 C hmn)
/-! AlikeSteps$Parting(I)V -/
abbrev c_X5_init : ByteArray := prog_7_method_1_code
def y_X5_init : MethodName := ⟨RX5, "<init>", "(I)V"⟩
def tbi_X5_init_0 : List (Nat × pc_T) := [(0, rs_lda 0 1), (1, rs_obj 4), (4, rs_lda 0 5), (5, rs_ci 110 7), (7, rs_newa 1 9), (9, rs_pf 5 1 true 12), (12, rs_lda 0 13), (13, rs_ci 10 15), (15, rs_newa 2 17), (17, rs_pf 5 2 true 20), (20, rs_lda 0 21), (21, rs_ci 0 22), (22, rs_pf 5 3 false 25), (25, rs_lda 0 26), (26, rs_ci 0 27), (27, rs_pf 5 4 false 30), (30, rs_lda 0 31), (31, rs_ci 0 32), (32, rs_pf 5 5 false 35), (35, rs_lda 0 36), (36, rs_ci (-1) 37), (37, rs_pf 5 6 false 40), (40, rs_lda 0 41), (41, rs_ldi 1 42), (42, rs_pf 5 0 false 45)]
def tbi_X5_init : List (Nat × pc_T) := tbi_X5_init_0
def ctor_X5_init : List pc_V → List pc_E → Option (List pc_E × Nat × Nat) := pc_ctor tbi_X5_init 2 45 2 120
theorem mi_X5_init : pc_mi y_X5_init c_X5_init 2 1 := ⟨⟨cw_200, cw_199, cw_88⟩, by decide +kernel, by decide, rfl⟩
set_option maxRecDepth 20000 in
theorem sdi_X5_init_0 {G : pj_E} {A : Nat → Prop} {P : pj_P} {S : pj_U} {Z : pj_Z} (C : pc_C (G, A, (c_X5_init, y_X5_init.cls, 2, none, 1), P, S, Z)) (hmn : S.2.2.2.2.1.name = "<init>") : ∀ q ∈ tbi_X5_init_0, pc_S (G, A, (c_X5_init, y_X5_init.cls, 2, none, 1), P, S, Z) q.1 q.2 :=
  List.forall_mem_cons.mpr ⟨rz_aload_n C (show decode c_X5_init 0 = .ok (.aload_n 0, 1) by decide +kernel) rfl,
  List.forall_mem_cons.mpr ⟨rz_obj C (show decode c_X5_init 1 = .ok (.invokespecial 3, 3) by decide +kernel) cw_201 cw_102 cw_103,
  List.forall_mem_cons.mpr ⟨rz_aload_n C (show decode c_X5_init 4 = .ok (.aload_n 0, 1) by decide +kernel) rfl,
  List.forall_mem_cons.mpr ⟨rz_bipush C (show decode c_X5_init 5 = .ok (.bipush 110, 2) by decide +kernel) (by decide +kernel),
  List.forall_mem_cons.mpr ⟨rz_newa_int C (show decode c_X5_init 7 = .ok (.newarray .int, 2) by decide +kernel),
  List.forall_mem_cons.mpr ⟨rz_pfF (k := 1) C (show decode c_X5_init 9 = .ok (.putfield 9, 3) by decide +kernel) vcX5 wiX5 tyX5_ok nmX5 (by decide) cw_203 rfl hmn rfl (fun _ => ⟨rfl, rfl⟩),
  List.forall_mem_cons.mpr ⟨rz_aload_n C (show decode c_X5_init 12 = .ok (.aload_n 0, 1) by decide +kernel) rfl,
  List.forall_mem_cons.mpr ⟨rz_bipush C (show decode c_X5_init 13 = .ok (.bipush 10, 2) by decide +kernel) (by decide +kernel),
  List.forall_mem_cons.mpr ⟨rz_newa_long C (show decode c_X5_init 15 = .ok (.newarray .long, 2) by decide +kernel),
  List.forall_mem_cons.mpr ⟨rz_pfF (k := 2) C (show decode c_X5_init 17 = .ok (.putfield 15, 3) by decide +kernel) vcX5 wiX5 tyX5_ok nmX5 (by decide) cw_204 rfl hmn rfl (fun _ => ⟨rfl, rfl⟩),
  List.forall_mem_cons.mpr ⟨rz_aload_n C (show decode c_X5_init 20 = .ok (.aload_n 0, 1) by decide +kernel) rfl,
  List.forall_mem_cons.mpr ⟨rz_iconst C (show decode c_X5_init 21 = .ok (.iconst 0, 1) by decide +kernel) (by decide +kernel),
  List.forall_mem_cons.mpr ⟨rz_pfi (k := 3) C (show decode c_X5_init 22 = .ok (.putfield 19, 3) by decide +kernel) vcX5 wiX5 tyX5_ok nmX5 (by decide) cw_205 rfl rfl,
  List.forall_mem_cons.mpr ⟨rz_aload_n C (show decode c_X5_init 25 = .ok (.aload_n 0, 1) by decide +kernel) rfl,
  List.forall_mem_cons.mpr ⟨rz_iconst C (show decode c_X5_init 26 = .ok (.iconst 0, 1) by decide +kernel) (by decide +kernel),
  List.forall_mem_cons.mpr ⟨rz_pfi (k := 4) C (show decode c_X5_init 27 = .ok (.putfield 23, 3) by decide +kernel) vcX5 wiX5 tyX5_ok nmX5 (by decide) cw_206 rfl rfl,
  List.forall_mem_cons.mpr ⟨rz_aload_n C (show decode c_X5_init 30 = .ok (.aload_n 0, 1) by decide +kernel) rfl,
  List.forall_mem_cons.mpr ⟨rz_iconst C (show decode c_X5_init 31 = .ok (.iconst 0, 1) by decide +kernel) (by decide +kernel),
  List.forall_mem_cons.mpr ⟨rz_pfi (k := 5) C (show decode c_X5_init 32 = .ok (.putfield 26, 3) by decide +kernel) vcX5 wiX5 tyX5_ok nmX5 (by decide) cw_207 rfl rfl,
  List.forall_mem_cons.mpr ⟨rz_aload_n C (show decode c_X5_init 35 = .ok (.aload_n 0, 1) by decide +kernel) rfl,
  List.forall_mem_cons.mpr ⟨rz_iconst C (show decode c_X5_init 36 = .ok (.iconst (-1), 1) by decide +kernel) (by decide +kernel),
  List.forall_mem_cons.mpr ⟨rz_pfi (k := 6) C (show decode c_X5_init 37 = .ok (.putfield 29, 3) by decide +kernel) vcX5 wiX5 tyX5_ok nmX5 (by decide) cw_208 rfl rfl,
  List.forall_mem_cons.mpr ⟨rz_aload_n C (show decode c_X5_init 40 = .ok (.aload_n 0, 1) by decide +kernel) rfl,
  List.forall_mem_cons.mpr ⟨rz_iload_n C (show decode c_X5_init 41 = .ok (.iload_n 1, 1) by decide +kernel) rfl,
  List.forall_mem_cons.mpr ⟨rz_pfI (k := 0) C (show decode c_X5_init 42 = .ok (.putfield 32, 3) by decide +kernel) vcX5 wiX5 tyX5_ok nmX5 (by decide) cw_202 rfl hmn rfl rfl,
  (fun q h => by cases h)⟩⟩⟩⟩⟩⟩⟩⟩⟩⟩⟩⟩⟩⟩⟩⟩⟩⟩⟩⟩⟩⟩⟩⟩⟩
theorem cti_X5_init : pc_Ct y_X5_init c_X5_init 2 1 ctor_X5_init := pc_ct_of (by decide +kernel) rfl (by decide +kernel) cwa_3 (fun G A P S Z C hmn => sdi_X5_init_0 C hmn)
/-! AlikeSteps$Rows()V -/
abbrev c_X6_init : ByteArray := prog_8_method_1_code
def y_X6_init : MethodName := ⟨RX6, "<init>", "()V"⟩
def tbi_X6_init_0 : List (Nat × pc_T) := [(0, rs_lda 0 1), (1, rs_obj 4), (4, rs_lda 0 5), (5, rs_ci 8 7), (7, rs_newa 1 9), (9, rs_pf 6 0 true 12), (12, rs_lda 0 13), (13, rs_ci 8 15), (15, rs_newa 1 17), (17, rs_pf 6 1 true 20), (20, rs_lda 0 21), (21, rs_ci 320 24), (24, rs_newa 1 26), (26, rs_pf 6 2 true 29), (29, rs_ci 0 30), (30, rs_sti 1 31), (31, rs_ldi 1 32), (32, rs_ci 8 34), (34, rs_icge 50 37), (37, rs_lda 0 38), (38, rs_gf 6 0 41), (41, rs_ldi 1 42), (42, rs_ci (-1) 43), (43, rs_iast 44), (44, rs_inc 1 1 47), (47, rs_go 31)]
def tbi_X6_init : List (Nat × pc_T) := tbi_X6_init_0
def ctor_X6_init : List pc_V → List pc_E → Option (List pc_E × Nat × Nat) := pc_ctor tbi_X6_init 2 50 3 336
theorem mi_X6_init : pc_mi y_X6_init c_X6_init 2 0 := ⟨⟨cw_108, cw_107, cw_82⟩, by decide +kernel, by decide, rfl⟩
set_option maxRecDepth 20000 in
theorem sdi_X6_init_0 {G : pj_E} {A : Nat → Prop} {P : pj_P} {S : pj_U} {Z : pj_Z} (C : pc_C (G, A, (c_X6_init, y_X6_init.cls, 2, none, 1), P, S, Z)) (hmn : S.2.2.2.2.1.name = "<init>") : ∀ q ∈ tbi_X6_init_0, pc_S (G, A, (c_X6_init, y_X6_init.cls, 2, none, 1), P, S, Z) q.1 q.2 :=
  List.forall_mem_cons.mpr ⟨rz_aload_n C (show decode c_X6_init 0 = .ok (.aload_n 0, 1) by decide +kernel) rfl,
  List.forall_mem_cons.mpr ⟨rz_obj C (show decode c_X6_init 1 = .ok (.invokespecial 1, 3) by decide +kernel) cw_109 cw_102 cw_103,
  List.forall_mem_cons.mpr ⟨rz_aload_n C (show decode c_X6_init 4 = .ok (.aload_n 0, 1) by decide +kernel) rfl,
  List.forall_mem_cons.mpr ⟨rz_bipush C (show decode c_X6_init 5 = .ok (.bipush 8, 2) by decide +kernel) (by decide +kernel),
  List.forall_mem_cons.mpr ⟨rz_newa_int C (show decode c_X6_init 7 = .ok (.newarray .int, 2) by decide +kernel),
  List.forall_mem_cons.mpr ⟨rz_pfF (k := 0) C (show decode c_X6_init 9 = .ok (.putfield 9, 3) by decide +kernel) vcX6 wiX6 tyX6_ok nmX6 (by decide) cw_110 rfl hmn rfl (fun _ => ⟨rfl, rfl⟩),
  List.forall_mem_cons.mpr ⟨rz_aload_n C (show decode c_X6_init 12 = .ok (.aload_n 0, 1) by decide +kernel) rfl,
  List.forall_mem_cons.mpr ⟨rz_bipush C (show decode c_X6_init 13 = .ok (.bipush 8, 2) by decide +kernel) (by decide +kernel),
  List.forall_mem_cons.mpr ⟨rz_newa_int C (show decode c_X6_init 15 = .ok (.newarray .int, 2) by decide +kernel),
  List.forall_mem_cons.mpr ⟨rz_pfF (k := 1) C (show decode c_X6_init 17 = .ok (.putfield 13, 3) by decide +kernel) vcX6 wiX6 tyX6_ok nmX6 (by decide) cw_111 rfl hmn rfl (fun _ => ⟨rfl, rfl⟩),
  List.forall_mem_cons.mpr ⟨rz_aload_n C (show decode c_X6_init 20 = .ok (.aload_n 0, 1) by decide +kernel) rfl,
  List.forall_mem_cons.mpr ⟨rz_sipush C (show decode c_X6_init 21 = .ok (.sipush 320, 3) by decide +kernel) (by decide +kernel),
  List.forall_mem_cons.mpr ⟨rz_newa_int C (show decode c_X6_init 24 = .ok (.newarray .int, 2) by decide +kernel),
  List.forall_mem_cons.mpr ⟨rz_pfF (k := 2) C (show decode c_X6_init 26 = .ok (.putfield 16, 3) by decide +kernel) vcX6 wiX6 tyX6_ok nmX6 (by decide) cw_112 rfl hmn rfl (fun _ => ⟨rfl, rfl⟩),
  List.forall_mem_cons.mpr ⟨rz_iconst C (show decode c_X6_init 29 = .ok (.iconst 0, 1) by decide +kernel) (by decide +kernel),
  List.forall_mem_cons.mpr ⟨rz_istore_n C (show decode c_X6_init 30 = .ok (.istore_n 1, 1) by decide +kernel) rfl,
  List.forall_mem_cons.mpr ⟨rz_iload_n C (show decode c_X6_init 31 = .ok (.iload_n 1, 1) by decide +kernel) rfl,
  List.forall_mem_cons.mpr ⟨rz_bipush C (show decode c_X6_init 32 = .ok (.bipush 8, 2) by decide +kernel) (by decide +kernel),
  List.forall_mem_cons.mpr ⟨rz_icge C (show decode c_X6_init 34 = .ok (.if_icmp .ge 16, 3) by decide +kernel) (by decide),
  List.forall_mem_cons.mpr ⟨rz_aload_n C (show decode c_X6_init 37 = .ok (.aload_n 0, 1) by decide +kernel) rfl,
  List.forall_mem_cons.mpr ⟨rz_gf (k := 0) C (show decode c_X6_init 38 = .ok (.getfield 9, 3) by decide +kernel) vcX6 wiX6 (by decide) cw_110,
  List.forall_mem_cons.mpr ⟨rz_iload_n C (show decode c_X6_init 41 = .ok (.iload_n 1, 1) by decide +kernel) rfl,
  List.forall_mem_cons.mpr ⟨rz_iconst C (show decode c_X6_init 42 = .ok (.iconst (-1), 1) by decide +kernel) (by decide +kernel),
  List.forall_mem_cons.mpr ⟨rz_iast C (show decode c_X6_init 43 = .ok (.iastore, 1) by decide +kernel),
  List.forall_mem_cons.mpr ⟨rz_iinc C (show decode c_X6_init 44 = .ok (.iinc 1 1, 3) by decide +kernel) (by decide +kernel),
  List.forall_mem_cons.mpr ⟨rz_goto C (show decode c_X6_init 47 = .ok (.goto (-16), 3) by decide +kernel) (by decide),
  (fun q h => by cases h)⟩⟩⟩⟩⟩⟩⟩⟩⟩⟩⟩⟩⟩⟩⟩⟩⟩⟩⟩⟩⟩⟩⟩⟩⟩⟩
theorem cti_X6_init : pc_Ct y_X6_init c_X6_init 2 1 ctor_X6_init := pc_ct_of (by decide +kernel) rfl (by decide +kernel) cwa_3 (fun G A P S Z C hmn => sdi_X6_init_0 C hmn)
/-! AlikeSteps$Steps()V -/
abbrev c_X7_init : ByteArray := prog_9_method_1_code
def y_X7_init : MethodName := ⟨RX7, "<init>", "()V"⟩
def tbi_X7_init_0 : List (Nat × pc_T) := [(0, rs_lda 0 1), (1, rs_obj 4), (4, rs_lda 0 5), (5, rs_ci 40 7), (7, rs_newa 1 9), (9, rs_pf 7 0 true 12), (12, rs_lda 0 13), (13, rs_ci 40 15), (15, rs_newa 1 17), (17, rs_pf 7 1 true 20), (20, rs_lda 0 21), (21, rs_ci (-1) 22), (22, rs_pf 7 2 false 25)]
def tbi_X7_init : List (Nat × pc_T) := tbi_X7_init_0
def ctor_X7_init : List pc_V → List pc_E → Option (List pc_E × Nat × Nat) := pc_ctor tbi_X7_init 1 25 2 80
theorem mi_X7_init : pc_mi y_X7_init c_X7_init 1 0 := ⟨⟨cw_183, cw_182, cw_87⟩, by decide +kernel, by decide, rfl⟩
set_option maxRecDepth 20000 in
theorem sdi_X7_init_0 {G : pj_E} {A : Nat → Prop} {P : pj_P} {S : pj_U} {Z : pj_Z} (C : pc_C (G, A, (c_X7_init, y_X7_init.cls, 1, none, 1), P, S, Z)) (hmn : S.2.2.2.2.1.name = "<init>") : ∀ q ∈ tbi_X7_init_0, pc_S (G, A, (c_X7_init, y_X7_init.cls, 1, none, 1), P, S, Z) q.1 q.2 :=
  List.forall_mem_cons.mpr ⟨rz_aload_n C (show decode c_X7_init 0 = .ok (.aload_n 0, 1) by decide +kernel) rfl,
  List.forall_mem_cons.mpr ⟨rz_obj C (show decode c_X7_init 1 = .ok (.invokespecial 3, 3) by decide +kernel) cw_184 cw_102 cw_103,
  List.forall_mem_cons.mpr ⟨rz_aload_n C (show decode c_X7_init 4 = .ok (.aload_n 0, 1) by decide +kernel) rfl,
  List.forall_mem_cons.mpr ⟨rz_bipush C (show decode c_X7_init 5 = .ok (.bipush 40, 2) by decide +kernel) (by decide +kernel),
  List.forall_mem_cons.mpr ⟨rz_newa_int C (show decode c_X7_init 7 = .ok (.newarray .int, 2) by decide +kernel),
  List.forall_mem_cons.mpr ⟨rz_pfF (k := 0) C (show decode c_X7_init 9 = .ok (.putfield 9, 3) by decide +kernel) vcX7 wiX7 tyX7_ok nmX7 (by decide) cw_185 rfl hmn rfl (fun _ => ⟨rfl, rfl⟩),
  List.forall_mem_cons.mpr ⟨rz_aload_n C (show decode c_X7_init 12 = .ok (.aload_n 0, 1) by decide +kernel) rfl,
  List.forall_mem_cons.mpr ⟨rz_bipush C (show decode c_X7_init 13 = .ok (.bipush 40, 2) by decide +kernel) (by decide +kernel),
  List.forall_mem_cons.mpr ⟨rz_newa_int C (show decode c_X7_init 15 = .ok (.newarray .int, 2) by decide +kernel),
  List.forall_mem_cons.mpr ⟨rz_pfF (k := 1) C (show decode c_X7_init 17 = .ok (.putfield 15, 3) by decide +kernel) vcX7 wiX7 tyX7_ok nmX7 (by decide) cw_186 rfl hmn rfl (fun _ => ⟨rfl, rfl⟩),
  List.forall_mem_cons.mpr ⟨rz_aload_n C (show decode c_X7_init 20 = .ok (.aload_n 0, 1) by decide +kernel) rfl,
  List.forall_mem_cons.mpr ⟨rz_iconst C (show decode c_X7_init 21 = .ok (.iconst (-1), 1) by decide +kernel) (by decide +kernel),
  List.forall_mem_cons.mpr ⟨rz_pfi (k := 2) C (show decode c_X7_init 22 = .ok (.putfield 18, 3) by decide +kernel) vcX7 wiX7 tyX7_ok nmX7 (by decide) cw_187 rfl rfl,
  (fun q h => by cases h)⟩⟩⟩⟩⟩⟩⟩⟩⟩⟩⟩⟩⟩
theorem cti_X7_init : pc_Ct y_X7_init c_X7_init 1 1 ctor_X7_init := pc_ct_of (by decide +kernel) rfl (by decide +kernel) cwa_3 (fun G A P S Z C hmn => sdi_X7_init_0 C hmn)
/-! AlikeSteps$Tape()V -/
abbrev c_X8_init : ByteArray := prog_10_method_1_code
def y_X8_init : MethodName := ⟨RX8, "<init>", "()V"⟩
def tbi_X8_init_0 : List (Nat × pc_T) := [(0, rs_lda 0 1), (1, rs_obj 4), (4, rs_lda 0 5), (5, rs_ci 140 8), (8, rs_newa 1 10), (10, rs_pf 8 0 true 13), (13, rs_lda 0 14), (14, rs_ci 0 15), (15, rs_pf 8 1 false 18), (18, rs_lda 0 19), (19, rs_ci 0 20), (20, rs_pf 8 2 false 23)]
def tbi_X8_init : List (Nat × pc_T) := tbi_X8_init_0
def ctor_X8_init : List pc_V → List pc_E → Option (List pc_E × Nat × Nat) := pc_ctor tbi_X8_init 1 23 1 140
theorem mi_X8_init : pc_mi y_X8_init c_X8_init 1 0 := ⟨⟨cw_125, cw_124, cw_83⟩, by decide +kernel, by decide, rfl⟩
set_option maxRecDepth 20000 in
theorem sdi_X8_init_0 {G : pj_E} {A : Nat → Prop} {P : pj_P} {S : pj_U} {Z : pj_Z} (C : pc_C (G, A, (c_X8_init, y_X8_init.cls, 1, none, 1), P, S, Z)) (hmn : S.2.2.2.2.1.name = "<init>") : ∀ q ∈ tbi_X8_init_0, pc_S (G, A, (c_X8_init, y_X8_init.cls, 1, none, 1), P, S, Z) q.1 q.2 :=
  List.forall_mem_cons.mpr ⟨rz_aload_n C (show decode c_X8_init 0 = .ok (.aload_n 0, 1) by decide +kernel) rfl,
  List.forall_mem_cons.mpr ⟨rz_obj C (show decode c_X8_init 1 = .ok (.invokespecial 3, 3) by decide +kernel) cw_126 cw_102 cw_103,
  List.forall_mem_cons.mpr ⟨rz_aload_n C (show decode c_X8_init 4 = .ok (.aload_n 0, 1) by decide +kernel) rfl,
  List.forall_mem_cons.mpr ⟨rz_sipush C (show decode c_X8_init 5 = .ok (.sipush 140, 3) by decide +kernel) (by decide +kernel),
  List.forall_mem_cons.mpr ⟨rz_newa_int C (show decode c_X8_init 8 = .ok (.newarray .int, 2) by decide +kernel),
  List.forall_mem_cons.mpr ⟨rz_pfF (k := 0) C (show decode c_X8_init 10 = .ok (.putfield 11, 3) by decide +kernel) vcX8 wiX8 tyX8_ok nmX8 (by decide) cw_127 rfl hmn rfl (fun _ => ⟨rfl, rfl⟩),
  List.forall_mem_cons.mpr ⟨rz_aload_n C (show decode c_X8_init 13 = .ok (.aload_n 0, 1) by decide +kernel) rfl,
  List.forall_mem_cons.mpr ⟨rz_iconst C (show decode c_X8_init 14 = .ok (.iconst 0, 1) by decide +kernel) (by decide +kernel),
  List.forall_mem_cons.mpr ⟨rz_pfi (k := 1) C (show decode c_X8_init 15 = .ok (.putfield 15, 3) by decide +kernel) vcX8 wiX8 tyX8_ok nmX8 (by decide) cw_128 rfl rfl,
  List.forall_mem_cons.mpr ⟨rz_aload_n C (show decode c_X8_init 18 = .ok (.aload_n 0, 1) by decide +kernel) rfl,
  List.forall_mem_cons.mpr ⟨rz_iconst C (show decode c_X8_init 19 = .ok (.iconst 0, 1) by decide +kernel) (by decide +kernel),
  List.forall_mem_cons.mpr ⟨rz_pfi (k := 2) C (show decode c_X8_init 20 = .ok (.putfield 19, 3) by decide +kernel) vcX8 wiX8 tyX8_ok nmX8 (by decide) cw_129 rfl rfl,
  (fun q h => by cases h)⟩⟩⟩⟩⟩⟩⟩⟩⟩⟩⟩⟩
theorem cti_X8_init : pc_Ct y_X8_init c_X8_init 1 1 ctor_X8_init := pc_ct_of (by decide +kernel) rfl (by decide +kernel) cwa_3 (fun G A P S Z C hmn => sdi_X8_init_0 C hmn)
/-! AlikeSteps$Teller(I)V -/
abbrev c_X9_init : ByteArray := prog_11_method_1_code
def y_X9_init : MethodName := ⟨RX9, "<init>", "(I)V"⟩
def tbi_X9_init_0 : List (Nat × pc_T) := [(0, rs_lda 0 1), (1, rs_obj 4), (4, rs_lda 0 5), (5, rs_ci 100 7), (7, rs_newa 1 9), (9, rs_pf 9 1 true 12), (12, rs_lda 0 13), (13, rs_ci 100 15), (15, rs_newa 1 17), (17, rs_pf 9 2 true 20), (20, rs_lda 0 21), (21, rs_ci 100 23), (23, rs_newa 2 25), (25, rs_pf 9 3 true 28), (28, rs_lda 0 29), (29, rs_ci (-1) 30), (30, rs_pf 9 4 false 33), (33, rs_lda 0 34), (34, rs_ldi 1 35), (35, rs_pf 9 0 false 38)]
def tbi_X9_init : List (Nat × pc_T) := tbi_X9_init_0
def ctor_X9_init : List pc_V → List pc_E → Option (List pc_E × Nat × Nat) := pc_ctor tbi_X9_init 2 38 3 300
theorem mi_X9_init : pc_mi y_X9_init c_X9_init 2 1 := ⟨⟨cw_293, cw_292, cw_91⟩, by decide +kernel, by decide, rfl⟩
set_option maxRecDepth 20000 in
theorem sdi_X9_init_0 {G : pj_E} {A : Nat → Prop} {P : pj_P} {S : pj_U} {Z : pj_Z} (C : pc_C (G, A, (c_X9_init, y_X9_init.cls, 2, none, 1), P, S, Z)) (hmn : S.2.2.2.2.1.name = "<init>") : ∀ q ∈ tbi_X9_init_0, pc_S (G, A, (c_X9_init, y_X9_init.cls, 2, none, 1), P, S, Z) q.1 q.2 :=
  List.forall_mem_cons.mpr ⟨rz_aload_n C (show decode c_X9_init 0 = .ok (.aload_n 0, 1) by decide +kernel) rfl,
  List.forall_mem_cons.mpr ⟨rz_obj C (show decode c_X9_init 1 = .ok (.invokespecial 3, 3) by decide +kernel) cw_294 cw_102 cw_103,
  List.forall_mem_cons.mpr ⟨rz_aload_n C (show decode c_X9_init 4 = .ok (.aload_n 0, 1) by decide +kernel) rfl,
  List.forall_mem_cons.mpr ⟨rz_bipush C (show decode c_X9_init 5 = .ok (.bipush 100, 2) by decide +kernel) (by decide +kernel),
  List.forall_mem_cons.mpr ⟨rz_newa_int C (show decode c_X9_init 7 = .ok (.newarray .int, 2) by decide +kernel),
  List.forall_mem_cons.mpr ⟨rz_pfF (k := 1) C (show decode c_X9_init 9 = .ok (.putfield 9, 3) by decide +kernel) vcX9 wiX9 tyX9_ok nmX9 (by decide) cw_296 rfl hmn rfl (fun _ => ⟨rfl, rfl⟩),
  List.forall_mem_cons.mpr ⟨rz_aload_n C (show decode c_X9_init 12 = .ok (.aload_n 0, 1) by decide +kernel) rfl,
  List.forall_mem_cons.mpr ⟨rz_bipush C (show decode c_X9_init 13 = .ok (.bipush 100, 2) by decide +kernel) (by decide +kernel),
  List.forall_mem_cons.mpr ⟨rz_newa_int C (show decode c_X9_init 15 = .ok (.newarray .int, 2) by decide +kernel),
  List.forall_mem_cons.mpr ⟨rz_pfF (k := 2) C (show decode c_X9_init 17 = .ok (.putfield 15, 3) by decide +kernel) vcX9 wiX9 tyX9_ok nmX9 (by decide) cw_297 rfl hmn rfl (fun _ => ⟨rfl, rfl⟩),
  List.forall_mem_cons.mpr ⟨rz_aload_n C (show decode c_X9_init 20 = .ok (.aload_n 0, 1) by decide +kernel) rfl,
  List.forall_mem_cons.mpr ⟨rz_bipush C (show decode c_X9_init 21 = .ok (.bipush 100, 2) by decide +kernel) (by decide +kernel),
  List.forall_mem_cons.mpr ⟨rz_newa_long C (show decode c_X9_init 23 = .ok (.newarray .long, 2) by decide +kernel),
  List.forall_mem_cons.mpr ⟨rz_pfF (k := 3) C (show decode c_X9_init 25 = .ok (.putfield 18, 3) by decide +kernel) vcX9 wiX9 tyX9_ok nmX9 (by decide) cw_298 rfl hmn rfl (fun _ => ⟨rfl, rfl⟩),
  List.forall_mem_cons.mpr ⟨rz_aload_n C (show decode c_X9_init 28 = .ok (.aload_n 0, 1) by decide +kernel) rfl,
  List.forall_mem_cons.mpr ⟨rz_iconst C (show decode c_X9_init 29 = .ok (.iconst (-1), 1) by decide +kernel) (by decide +kernel),
  List.forall_mem_cons.mpr ⟨rz_pfi (k := 4) C (show decode c_X9_init 30 = .ok (.putfield 22, 3) by decide +kernel) vcX9 wiX9 tyX9_ok nmX9 (by decide) cw_299 rfl rfl,
  List.forall_mem_cons.mpr ⟨rz_aload_n C (show decode c_X9_init 33 = .ok (.aload_n 0, 1) by decide +kernel) rfl,
  List.forall_mem_cons.mpr ⟨rz_iload_n C (show decode c_X9_init 34 = .ok (.iload_n 1, 1) by decide +kernel) rfl,
  List.forall_mem_cons.mpr ⟨rz_pfI (k := 0) C (show decode c_X9_init 35 = .ok (.putfield 26, 3) by decide +kernel) vcX9 wiX9 tyX9_ok nmX9 (by decide) cw_295 rfl hmn rfl rfl,
  (fun q h => by cases h)⟩⟩⟩⟩⟩⟩⟩⟩⟩⟩⟩⟩⟩⟩⟩⟩⟩⟩⟩⟩
theorem cti_X9_init : pc_Ct y_X9_init c_X9_init 2 1 ctor_X9_init := pc_ct_of (by decide +kernel) rfl (by decide +kernel) cwa_3 (fun G A P S Z C hmn => sdi_X9_init_0 C hmn)
/-! AlikeSteps$Alike()V -/
abbrev c_X1_init : ByteArray := prog_3_method_1_code
def y_X1_init : MethodName := ⟨RX1, "<init>", "()V"⟩
def tbi_X1_init_0 : List (Nat × pc_T) := [(0, rs_lda 0 1), (1, rs_obj 4), (4, rs_lda 0 5), (5, rs_new 7 3 [.inr none, .inr none, .inl 0] 8), (8, rs_dup 9), (9, rs_init 1 ctor_X7_init 12), (12, rs_pf 1 0 true 15), (15, rs_lda 0 16), (16, rs_ci 4 17), (17, rs_newq 5 20), (20, rs_pf 1 1 true 23), (23, rs_ci 0 24), (24, rs_sti 1 25), (25, rs_ldi 1 26), (26, rs_lda 0 27), (27, rs_gf 1 1 30), (30, rs_alen 5 31), (31, rs_icge 54 34), (34, rs_lda 0 35), (35, rs_gf 1 1 38), (38, rs_ldi 1 39), (39, rs_new 5 7 [.inl 0, .inr none, .inr none, .inl 0, .inl 0, .inl 0, .inl 0] 42), (42, rs_dup 43), (43, rs_ldi 1 44), (44, rs_init 2 ctor_X5_init 47), (47, rs_ast 5 48), (48, rs_inc 1 1 51), (51, rs_go 25)]
def tbi_X1_init : List (Nat × pc_T) := tbi_X1_init_0
def ctor_X1_init : List pc_V → List pc_E → Option (List pc_E × Nat × Nat) := pc_ctor tbi_X1_init 2 54 16 595
theorem mi_X1_init : pc_mi y_X1_init c_X1_init 2 0 := ⟨⟨cw_177, cw_176, cw_86⟩, by decide +kernel, by decide, rfl⟩
set_option maxRecDepth 20000 in
theorem sdi_X1_init_0 {G : pj_E} {A : Nat → Prop} {P : pj_P} {S : pj_U} {Z : pj_Z} (C : pc_C (G, A, (c_X1_init, y_X1_init.cls, 2, none, 2), P, S, Z)) (hmn : S.2.2.2.2.1.name = "<init>") : ∀ q ∈ tbi_X1_init_0, pc_S (G, A, (c_X1_init, y_X1_init.cls, 2, none, 2), P, S, Z) q.1 q.2 :=
  List.forall_mem_cons.mpr ⟨rz_aload_n C (show decode c_X1_init 0 = .ok (.aload_n 0, 1) by decide +kernel) rfl,
  List.forall_mem_cons.mpr ⟨rz_obj C (show decode c_X1_init 1 = .ok (.invokespecial 1, 3) by decide +kernel) cw_178 cw_102 cw_103,
  List.forall_mem_cons.mpr ⟨rz_aload_n C (show decode c_X1_init 4 = .ok (.aload_n 0, 1) by decide +kernel) rfl,
  List.forall_mem_cons.mpr ⟨rz_new C (show decode c_X1_init 5 = .ok (.new 7, 3) by decide +kernel) vcX7 wiX7 tyX7_ok cw_179 cw_180 cw_87 (by decide +kernel) (by decide +kernel),
  List.forall_mem_cons.mpr ⟨rz_dup C (show decode c_X1_init 8 = .ok (.dup, 1) by decide +kernel),
  List.forall_mem_cons.mpr ⟨rz_init C (show decode c_X1_init 9 = .ok (.invokespecial 9, 3) by decide +kernel) cti_X7_init mi_X7_init cw_181 (show 1 < 2 by decide),
  List.forall_mem_cons.mpr ⟨rz_pfF (k := 0) C (show decode c_X1_init 12 = .ok (.putfield 10, 3) by decide +kernel) vcX1 wiX1 tyX1_ok nmX1 (by decide) cw_225 rfl hmn rfl (fun _ => ⟨rfl, rfl⟩),
  List.forall_mem_cons.mpr ⟨rz_aload_n C (show decode c_X1_init 15 = .ok (.aload_n 0, 1) by decide +kernel) rfl,
  List.forall_mem_cons.mpr ⟨rz_iconst C (show decode c_X1_init 16 = .ok (.iconst 4, 1) by decide +kernel) (by decide +kernel),
  List.forall_mem_cons.mpr ⟨rz_newq_5 C (show decode c_X1_init 17 = .ok (.anewarray 16, 3) by decide +kernel) cw_195,
  List.forall_mem_cons.mpr ⟨rz_pfF (k := 1) C (show decode c_X1_init 20 = .ok (.putfield 18, 3) by decide +kernel) vcX1 wiX1 tyX1_ok nmX1 (by decide) cw_226 rfl hmn rfl (fun _ => ⟨rfl, rfl⟩),
  List.forall_mem_cons.mpr ⟨rz_iconst C (show decode c_X1_init 23 = .ok (.iconst 0, 1) by decide +kernel) (by decide +kernel),
  List.forall_mem_cons.mpr ⟨rz_istore_n C (show decode c_X1_init 24 = .ok (.istore_n 1, 1) by decide +kernel) rfl,
  List.forall_mem_cons.mpr ⟨rz_iload_n C (show decode c_X1_init 25 = .ok (.iload_n 1, 1) by decide +kernel) rfl,
  List.forall_mem_cons.mpr ⟨rz_aload_n C (show decode c_X1_init 26 = .ok (.aload_n 0, 1) by decide +kernel) rfl,
  List.forall_mem_cons.mpr ⟨rz_gf (k := 1) C (show decode c_X1_init 27 = .ok (.getfield 18, 3) by decide +kernel) vcX1 wiX1 (by decide) cw_226,
  List.forall_mem_cons.mpr ⟨rz_alen_5 C (show decode c_X1_init 30 = .ok (.arraylength, 1) by decide +kernel),
  List.forall_mem_cons.mpr ⟨rz_icge C (show decode c_X1_init 31 = .ok (.if_icmp .ge 23, 3) by decide +kernel) (by decide),
  List.forall_mem_cons.mpr ⟨rz_aload_n C (show decode c_X1_init 34 = .ok (.aload_n 0, 1) by decide +kernel) rfl,
  List.forall_mem_cons.mpr ⟨rz_gf (k := 1) C (show decode c_X1_init 35 = .ok (.getfield 18, 3) by decide +kernel) vcX1 wiX1 (by decide) cw_226,
  List.forall_mem_cons.mpr ⟨rz_iload_n C (show decode c_X1_init 38 = .ok (.iload_n 1, 1) by decide +kernel) rfl,
  List.forall_mem_cons.mpr ⟨rz_new C (show decode c_X1_init 39 = .ok (.new 16, 3) by decide +kernel) vcX5 wiX5 tyX5_ok cw_195 cw_197 cw_88 (by decide +kernel) (by decide +kernel),
  List.forall_mem_cons.mpr ⟨rz_dup C (show decode c_X1_init 42 = .ok (.dup, 1) by decide +kernel),
  List.forall_mem_cons.mpr ⟨rz_iload_n C (show decode c_X1_init 43 = .ok (.iload_n 1, 1) by decide +kernel) rfl,
  List.forall_mem_cons.mpr ⟨rz_init C (show decode c_X1_init 44 = .ok (.invokespecial 22, 3) by decide +kernel) cti_X5_init mi_X5_init cw_198 (show 1 < 2 by decide),
  List.forall_mem_cons.mpr ⟨rz_ast_5 C (show decode c_X1_init 47 = .ok (.aastore, 1) by decide +kernel),
  List.forall_mem_cons.mpr ⟨rz_iinc C (show decode c_X1_init 48 = .ok (.iinc 1 1, 3) by decide +kernel) (by decide +kernel),
  List.forall_mem_cons.mpr ⟨rz_goto C (show decode c_X1_init 51 = .ok (.goto (-26), 3) by decide +kernel) (by decide),
  (fun q h => by cases h)⟩⟩⟩⟩⟩⟩⟩⟩⟩⟩⟩⟩⟩⟩⟩⟩⟩⟩⟩⟩⟩⟩⟩⟩⟩⟩⟩⟩
theorem cti_X1_init : pc_Ct y_X1_init c_X1_init 2 2 ctor_X1_init := pc_ct_of (by decide +kernel) rfl (by decide +kernel) cwa_3 (fun G A P S Z C hmn => sdi_X1_init_0 C hmn)
/-! AlikeSteps()V -/
abbrev c_X10_init : ByteArray := prog_1_method_1_code
def y_X10_init : MethodName := ⟨RX10, "<init>", "()V"⟩
def tbi_X10_init_0 : List (Nat × pc_T) := [(0, rs_lda 0 1), (1, rs_obj 4), (4, rs_lda 0 5), (5, rs_new 6 3 [.inr none, .inr none, .inr none] 8), (8, rs_dup 9), (9, rs_init 1 ctor_X6_init 12), (12, rs_pf 10 0 true 15), (15, rs_lda 0 16), (16, rs_new 8 3 [.inr none, .inl 0, .inl 0] 19), (19, rs_dup 20), (20, rs_init 1 ctor_X8_init 23), (23, rs_pf 10 1 true 26), (26, rs_lda 0 27), (27, rs_new 4 5 [.inr none, .inr none, .inl 0, .inl 0, .inl 0] 30), (30, rs_dup 31), (31, rs_init 1 ctor_X4_init 34), (34, rs_pf 10 2 true 37), (37, rs_lda 0 38), (38, rs_new 4 5 [.inr none, .inr none, .inl 0, .inl 0, .inl 0] 41), (41, rs_dup 42), (42, rs_init 1 ctor_X4_init 45), (45, rs_pf 10 3 true 48), (48, rs_lda 0 49), (49, rs_new 4 5 [.inr none, .inr none, .inl 0, .inl 0, .inl 0] 52), (52, rs_dup 53), (53, rs_init 1 ctor_X4_init 56), (56, rs_pf 10 4 true 59), (59, rs_lda 0 60), (60, rs_ci 2 61), (61, rs_newq 4 64), (64, rs_pf 10 5 true 67), (67, rs_lda 0 68), (68, rs_new 0 2 [.inr none, .inl 0] 71), (71, rs_dup 72), (72, rs_init 1 ctor_X0_init 75), (75, rs_pf 10 6 true 78), (78, rs_lda 0 79), (79, rs_new 1 2 [.inr none, .inr none] 82), (82, rs_dup 83), (83, rs_init 1 ctor_X1_init 86)]
def tbi_X10_init_1 : List (Nat × pc_T) := [(86, rs_pf 10 7 true 89), (89, rs_lda 0 90), (90, rs_new 1 2 [.inr none, .inr none] 93), (93, rs_dup 94), (94, rs_init 1 ctor_X1_init 97), (97, rs_pf 10 8 true 100), (100, rs_lda 0 101), (101, rs_ci 2 102), (102, rs_newq 9 105), (105, rs_pf 10 9 true 108), (108, rs_lda 0 109), (109, rs_new 3 8 [.inr none, .inl 0, .inl 0, .inl 0, .inl 0, .inl 0, .inl 0, .inl 0] 112), (112, rs_dup 113), (113, rs_init 1 ctor_X3_init 116), (116, rs_pf 10 10 true 119), (119, rs_lda 0 120), (120, rs_new 2 6 [.inr none, .inl 0, .inl 0, .inl 0, .inl 0, .inl 0] 123), (123, rs_dup 124), (124, rs_init 1 ctor_X2_init 127), (127, rs_pf 10 11 true 130), (130, rs_lda 0 131), (131, rs_ci 0 132), (132, rs_pf 10 12 false 135), (135, rs_lda 0 136), (136, rs_ci 0 137), (137, rs_pf 10 13 false 140), (140, rs_lda 0 141), (141, rs_gf 10 5 144), (144, rs_ci 0 145), (145, rs_new 4 5 [.inr none, .inr none, .inl 0, .inl 0, .inl 0] 148), (148, rs_dup 149), (149, rs_init 1 ctor_X4_init 152), (152, rs_ast 4 153), (153, rs_lda 0 154), (154, rs_gf 10 5 157), (157, rs_ci 1 158), (158, rs_new 4 5 [.inr none, .inr none, .inl 0, .inl 0, .inl 0] 161), (161, rs_dup 162), (162, rs_init 1 ctor_X4_init 165), (165, rs_ast 4 166)]
def tbi_X10_init_2 : List (Nat × pc_T) := [(166, rs_lda 0 167), (167, rs_gf 10 9 170), (170, rs_ci 0 171), (171, rs_new 9 5 [.inl 0, .inr none, .inr none, .inr none, .inl 0] 174), (174, rs_dup 175), (175, rs_ci 0 176), (176, rs_init 2 ctor_X9_init 179), (179, rs_ast 9 180), (180, rs_lda 0 181), (181, rs_gf 10 9 184), (184, rs_ci 1 185), (185, rs_new 9 5 [.inl 0, .inr none, .inr none, .inr none, .inl 0] 188), (188, rs_dup 189), (189, rs_ci 1 190), (190, rs_init 2 ctor_X9_init 193), (193, rs_ast 9 194)]
def tbi_X10_init : List (Nat × pc_T) := tbi_X10_init_0 ++ (tbi_X10_init_1 ++ (tbi_X10_init_2))
def ctor_X10_init : List pc_V → List pc_E → Option (List pc_E × Nat × Nat) := pc_ctor tbi_X10_init 1 194 71 2827
theorem mi_X10_init : pc_mi y_X10_init c_X10_init 1 0 := ⟨⟨cw_100, cw_99, cw_81⟩, by decide +kernel, by decide, rfl⟩
set_option maxRecDepth 20000 in
theorem sdi_X10_init_0 {G : pj_E} {A : Nat → Prop} {P : pj_P} {S : pj_U} {Z : pj_Z} (C : pc_C (G, A, (c_X10_init, y_X10_init.cls, 1, none, 3), P, S, Z)) (hmn : S.2.2.2.2.1.name = "<init>") : ∀ q ∈ tbi_X10_init_0, pc_S (G, A, (c_X10_init, y_X10_init.cls, 1, none, 3), P, S, Z) q.1 q.2 :=
  List.forall_mem_cons.mpr ⟨rz_aload_n C (show decode c_X10_init 0 = .ok (.aload_n 0, 1) by decide +kernel) rfl,
  List.forall_mem_cons.mpr ⟨rz_obj C (show decode c_X10_init 1 = .ok (.invokespecial 1, 3) by decide +kernel) cw_101 cw_102 cw_103,
  List.forall_mem_cons.mpr ⟨rz_aload_n C (show decode c_X10_init 4 = .ok (.aload_n 0, 1) by decide +kernel) rfl,
  List.forall_mem_cons.mpr ⟨rz_new C (show decode c_X10_init 5 = .ok (.new 7, 3) by decide +kernel) vcX6 wiX6 tyX6_ok cw_104 cw_105 cw_82 (by decide +kernel) (by decide +kernel),
  List.forall_mem_cons.mpr ⟨rz_dup C (show decode c_X10_init 8 = .ok (.dup, 1) by decide +kernel),
  List.forall_mem_cons.mpr ⟨rz_init C (show decode c_X10_init 9 = .ok (.invokespecial 9, 3) by decide +kernel) cti_X6_init mi_X6_init cw_106 (show 1 < 3 by decide),
  List.forall_mem_cons.mpr ⟨rz_pfF (k := 0) C (show decode c_X10_init 12 = .ok (.putfield 10, 3) by decide +kernel) vcX10 wiX10 tyX10_ok nmX10 (by decide) cw_311 rfl hmn rfl (fun _ => ⟨rfl, rfl⟩),
  List.forall_mem_cons.mpr ⟨rz_aload_n C (show decode c_X10_init 15 = .ok (.aload_n 0, 1) by decide +kernel) rfl,
  List.forall_mem_cons.mpr ⟨rz_new C (show decode c_X10_init 16 = .ok (.new 16, 3) by decide +kernel) vcX8 wiX8 tyX8_ok cw_121 cw_122 cw_83 (by decide +kernel) (by decide +kernel),
  List.forall_mem_cons.mpr ⟨rz_dup C (show decode c_X10_init 19 = .ok (.dup, 1) by decide +kernel),
  List.forall_mem_cons.mpr ⟨rz_init C (show decode c_X10_init 20 = .ok (.invokespecial 18, 3) by decide +kernel) cti_X8_init mi_X8_init cw_123 (show 1 < 3 by decide),
  List.forall_mem_cons.mpr ⟨rz_pfF (k := 1) C (show decode c_X10_init 23 = .ok (.putfield 19, 3) by decide +kernel) vcX10 wiX10 tyX10_ok nmX10 (by decide) cw_312 rfl hmn rfl (fun _ => ⟨rfl, rfl⟩),
  List.forall_mem_cons.mpr ⟨rz_aload_n C (show decode c_X10_init 26 = .ok (.aload_n 0, 1) by decide +kernel) rfl,
  List.forall_mem_cons.mpr ⟨rz_new C (show decode c_X10_init 27 = .ok (.new 23, 3) by decide +kernel) vcX4 wiX4 tyX4_ok cw_137 cw_138 cw_84 (by decide +kernel) (by decide +kernel),
  List.forall_mem_cons.mpr ⟨rz_dup C (show decode c_X10_init 30 = .ok (.dup, 1) by decide +kernel),
  List.forall_mem_cons.mpr ⟨rz_init C (show decode c_X10_init 31 = .ok (.invokespecial 25, 3) by decide +kernel) cti_X4_init mi_X4_init cw_139 (show 1 < 3 by decide),
  List.forall_mem_cons.mpr ⟨rz_pfF (k := 2) C (show decode c_X10_init 34 = .ok (.putfield 26, 3) by decide +kernel) vcX10 wiX10 tyX10_ok nmX10 (by decide) cw_313 rfl hmn rfl (fun _ => ⟨rfl, rfl⟩),
  List.forall_mem_cons.mpr ⟨rz_aload_n C (show decode c_X10_init 37 = .ok (.aload_n 0, 1) by decide +kernel) rfl,
  List.forall_mem_cons.mpr ⟨rz_new C (show decode c_X10_init 38 = .ok (.new 23, 3) by decide +kernel) vcX4 wiX4 tyX4_ok cw_137 cw_138 cw_84 (by decide +kernel) (by decide +kernel),
  List.forall_mem_cons.mpr ⟨rz_dup C (show decode c_X10_init 41 = .ok (.dup, 1) by decide +kernel),
  List.forall_mem_cons.mpr ⟨rz_init C (show decode c_X10_init 42 = .ok (.invokespecial 25, 3) by decide +kernel) cti_X4_init mi_X4_init cw_139 (show 1 < 3 by decide),
  List.forall_mem_cons.mpr ⟨rz_pfF (k := 3) C (show decode c_X10_init 45 = .ok (.putfield 30, 3) by decide +kernel) vcX10 wiX10 tyX10_ok nmX10 (by decide) cw_314 rfl hmn rfl (fun _ => ⟨rfl, rfl⟩),
  List.forall_mem_cons.mpr ⟨rz_aload_n C (show decode c_X10_init 48 = .ok (.aload_n 0, 1) by decide +kernel) rfl,
  List.forall_mem_cons.mpr ⟨rz_new C (show decode c_X10_init 49 = .ok (.new 23, 3) by decide +kernel) vcX4 wiX4 tyX4_ok cw_137 cw_138 cw_84 (by decide +kernel) (by decide +kernel),
  List.forall_mem_cons.mpr ⟨rz_dup C (show decode c_X10_init 52 = .ok (.dup, 1) by decide +kernel),
  List.forall_mem_cons.mpr ⟨rz_init C (show decode c_X10_init 53 = .ok (.invokespecial 25, 3) by decide +kernel) cti_X4_init mi_X4_init cw_139 (show 1 < 3 by decide),
  List.forall_mem_cons.mpr ⟨rz_pfF (k := 4) C (show decode c_X10_init 56 = .ok (.putfield 33, 3) by decide +kernel) vcX10 wiX10 tyX10_ok nmX10 (by decide) cw_315 rfl hmn rfl (fun _ => ⟨rfl, rfl⟩),
  List.forall_mem_cons.mpr ⟨rz_aload_n C (show decode c_X10_init 59 = .ok (.aload_n 0, 1) by decide +kernel) rfl,
  List.forall_mem_cons.mpr ⟨rz_iconst C (show decode c_X10_init 60 = .ok (.iconst 2, 1) by decide +kernel) (by decide +kernel),
  List.forall_mem_cons.mpr ⟨rz_newq_4 C (show decode c_X10_init 61 = .ok (.anewarray 23, 3) by decide +kernel) cw_137,
  List.forall_mem_cons.mpr ⟨rz_pfF (k := 5) C (show decode c_X10_init 64 = .ok (.putfield 36, 3) by decide +kernel) vcX10 wiX10 tyX10_ok nmX10 (by decide) cw_316 rfl hmn rfl (fun _ => ⟨rfl, rfl⟩),
  List.forall_mem_cons.mpr ⟨rz_aload_n C (show decode c_X10_init 67 = .ok (.aload_n 0, 1) by decide +kernel) rfl,
  List.forall_mem_cons.mpr ⟨rz_new C (show decode c_X10_init 68 = .ok (.new 40, 3) by decide +kernel) vcX0 wiX0 tyX0_ok cw_160 cw_161 cw_85 (by decide +kernel) (by decide +kernel),
  List.forall_mem_cons.mpr ⟨rz_dup C (show decode c_X10_init 71 = .ok (.dup, 1) by decide +kernel),
  List.forall_mem_cons.mpr ⟨rz_init C (show decode c_X10_init 72 = .ok (.invokespecial 42, 3) by decide +kernel) cti_X0_init mi_X0_init cw_162 (show 1 < 3 by decide),
  List.forall_mem_cons.mpr ⟨rz_pfF (k := 6) C (show decode c_X10_init 75 = .ok (.putfield 43, 3) by decide +kernel) vcX10 wiX10 tyX10_ok nmX10 (by decide) cw_317 rfl hmn rfl (fun _ => ⟨rfl, rfl⟩),
  List.forall_mem_cons.mpr ⟨rz_aload_n C (show decode c_X10_init 78 = .ok (.aload_n 0, 1) by decide +kernel) rfl,
  List.forall_mem_cons.mpr ⟨rz_new C (show decode c_X10_init 79 = .ok (.new 47, 3) by decide +kernel) vcX1 wiX1 tyX1_ok cw_173 cw_174 cw_86 (by decide +kernel) (by decide +kernel),
  List.forall_mem_cons.mpr ⟨rz_dup C (show decode c_X10_init 82 = .ok (.dup, 1) by decide +kernel),
  List.forall_mem_cons.mpr ⟨rz_init C (show decode c_X10_init 83 = .ok (.invokespecial 49, 3) by decide +kernel) cti_X1_init mi_X1_init cw_175 (show 2 < 3 by decide),
  (fun q h => by cases h)⟩⟩⟩⟩⟩⟩⟩⟩⟩⟩⟩⟩⟩⟩⟩⟩⟩⟩⟩⟩⟩⟩⟩⟩⟩⟩⟩⟩⟩⟩⟩⟩⟩⟩⟩⟩⟩⟩⟩⟩
set_option maxRecDepth 20000 in
theorem sdi_X10_init_1 {G : pj_E} {A : Nat → Prop} {P : pj_P} {S : pj_U} {Z : pj_Z} (C : pc_C (G, A, (c_X10_init, y_X10_init.cls, 1, none, 3), P, S, Z)) (hmn : S.2.2.2.2.1.name = "<init>") : ∀ q ∈ tbi_X10_init_1, pc_S (G, A, (c_X10_init, y_X10_init.cls, 1, none, 3), P, S, Z) q.1 q.2 :=
  List.forall_mem_cons.mpr ⟨rz_pfF (k := 7) C (show decode c_X10_init 86 = .ok (.putfield 50, 3) by decide +kernel) vcX10 wiX10 tyX10_ok nmX10 (by decide) cw_318 rfl hmn rfl (fun _ => ⟨rfl, rfl⟩),
  List.forall_mem_cons.mpr ⟨rz_aload_n C (show decode c_X10_init 89 = .ok (.aload_n 0, 1) by decide +kernel) rfl,
  List.forall_mem_cons.mpr ⟨rz_new C (show decode c_X10_init 90 = .ok (.new 47, 3) by decide +kernel) vcX1 wiX1 tyX1_ok cw_173 cw_174 cw_86 (by decide +kernel) (by decide +kernel),
  List.forall_mem_cons.mpr ⟨rz_dup C (show decode c_X10_init 93 = .ok (.dup, 1) by decide +kernel),
  List.forall_mem_cons.mpr ⟨rz_init C (show decode c_X10_init 94 = .ok (.invokespecial 49, 3) by decide +kernel) cti_X1_init mi_X1_init cw_175 (show 2 < 3 by decide),
  List.forall_mem_cons.mpr ⟨rz_pfF (k := 8) C (show decode c_X10_init 97 = .ok (.putfield 54, 3) by decide +kernel) vcX10 wiX10 tyX10_ok nmX10 (by decide) cw_319 rfl hmn rfl (fun _ => ⟨rfl, rfl⟩),
  List.forall_mem_cons.mpr ⟨rz_aload_n C (show decode c_X10_init 100 = .ok (.aload_n 0, 1) by decide +kernel) rfl,
  List.forall_mem_cons.mpr ⟨rz_iconst C (show decode c_X10_init 101 = .ok (.iconst 2, 1) by decide +kernel) (by decide +kernel),
  List.forall_mem_cons.mpr ⟨rz_newq_9 C (show decode c_X10_init 102 = .ok (.anewarray 57, 3) by decide +kernel) cw_232,
  List.forall_mem_cons.mpr ⟨rz_pfF (k := 9) C (show decode c_X10_init 105 = .ok (.putfield 59, 3) by decide +kernel) vcX10 wiX10 tyX10_ok nmX10 (by decide) cw_320 rfl hmn rfl (fun _ => ⟨rfl, rfl⟩),
  List.forall_mem_cons.mpr ⟨rz_aload_n C (show decode c_X10_init 108 = .ok (.aload_n 0, 1) by decide +kernel) rfl,
  List.forall_mem_cons.mpr ⟨rz_new C (show decode c_X10_init 109 = .ok (.new 63, 3) by decide +kernel) vcX3 wiX3 tyX3_ok cw_234 cw_235 cw_89 (by decide +kernel) (by decide +kernel),
  List.forall_mem_cons.mpr ⟨rz_dup C (show decode c_X10_init 112 = .ok (.dup, 1) by decide +kernel),
  List.forall_mem_cons.mpr ⟨rz_init C (show decode c_X10_init 113 = .ok (.invokespecial 65, 3) by decide +kernel) cti_X3_init mi_X3_init cw_236 (show 1 < 3 by decide),
  List.forall_mem_cons.mpr ⟨rz_pfF (k := 10) C (show decode c_X10_init 116 = .ok (.putfield 66, 3) by decide +kernel) vcX10 wiX10 tyX10_ok nmX10 (by decide) cw_321 rfl hmn rfl (fun _ => ⟨rfl, rfl⟩),
  List.forall_mem_cons.mpr ⟨rz_aload_n C (show decode c_X10_init 119 = .ok (.aload_n 0, 1) by decide +kernel) rfl,
  List.forall_mem_cons.mpr ⟨rz_new C (show decode c_X10_init 120 = .ok (.new 70, 3) by decide +kernel) vcX2 wiX2 tyX2_ok cw_265 cw_266 cw_90 (by decide +kernel) (by decide +kernel),
  List.forall_mem_cons.mpr ⟨rz_dup C (show decode c_X10_init 123 = .ok (.dup, 1) by decide +kernel),
  List.forall_mem_cons.mpr ⟨rz_init C (show decode c_X10_init 124 = .ok (.invokespecial 72, 3) by decide +kernel) cti_X2_init mi_X2_init cw_267 (show 1 < 3 by decide),
  List.forall_mem_cons.mpr ⟨rz_pfF (k := 11) C (show decode c_X10_init 127 = .ok (.putfield 73, 3) by decide +kernel) vcX10 wiX10 tyX10_ok nmX10 (by decide) cw_322 rfl hmn rfl (fun _ => ⟨rfl, rfl⟩),
  List.forall_mem_cons.mpr ⟨rz_aload_n C (show decode c_X10_init 130 = .ok (.aload_n 0, 1) by decide +kernel) rfl,
  List.forall_mem_cons.mpr ⟨rz_iconst C (show decode c_X10_init 131 = .ok (.iconst 0, 1) by decide +kernel) (by decide +kernel),
  List.forall_mem_cons.mpr ⟨rz_pfi (k := 12) C (show decode c_X10_init 132 = .ok (.putfield 77, 3) by decide +kernel) vcX10 wiX10 tyX10_ok nmX10 (by decide) cw_323 rfl rfl,
  List.forall_mem_cons.mpr ⟨rz_aload_n C (show decode c_X10_init 135 = .ok (.aload_n 0, 1) by decide +kernel) rfl,
  List.forall_mem_cons.mpr ⟨rz_iconst C (show decode c_X10_init 136 = .ok (.iconst 0, 1) by decide +kernel) (by decide +kernel),
  List.forall_mem_cons.mpr ⟨rz_pfi (k := 13) C (show decode c_X10_init 137 = .ok (.putfield 81, 3) by decide +kernel) vcX10 wiX10 tyX10_ok nmX10 (by decide) cw_324 rfl rfl,
  List.forall_mem_cons.mpr ⟨rz_aload_n C (show decode c_X10_init 140 = .ok (.aload_n 0, 1) by decide +kernel) rfl,
  List.forall_mem_cons.mpr ⟨rz_gf (k := 5) C (show decode c_X10_init 141 = .ok (.getfield 36, 3) by decide +kernel) vcX10 wiX10 (by decide) cw_316,
  List.forall_mem_cons.mpr ⟨rz_iconst C (show decode c_X10_init 144 = .ok (.iconst 0, 1) by decide +kernel) (by decide +kernel),
  List.forall_mem_cons.mpr ⟨rz_new C (show decode c_X10_init 145 = .ok (.new 23, 3) by decide +kernel) vcX4 wiX4 tyX4_ok cw_137 cw_138 cw_84 (by decide +kernel) (by decide +kernel),
  List.forall_mem_cons.mpr ⟨rz_dup C (show decode c_X10_init 148 = .ok (.dup, 1) by decide +kernel),
  List.forall_mem_cons.mpr ⟨rz_init C (show decode c_X10_init 149 = .ok (.invokespecial 25, 3) by decide +kernel) cti_X4_init mi_X4_init cw_139 (show 1 < 3 by decide),
  List.forall_mem_cons.mpr ⟨rz_ast_4 C (show decode c_X10_init 152 = .ok (.aastore, 1) by decide +kernel),
  List.forall_mem_cons.mpr ⟨rz_aload_n C (show decode c_X10_init 153 = .ok (.aload_n 0, 1) by decide +kernel) rfl,
  List.forall_mem_cons.mpr ⟨rz_gf (k := 5) C (show decode c_X10_init 154 = .ok (.getfield 36, 3) by decide +kernel) vcX10 wiX10 (by decide) cw_316,
  List.forall_mem_cons.mpr ⟨rz_iconst C (show decode c_X10_init 157 = .ok (.iconst 1, 1) by decide +kernel) (by decide +kernel),
  List.forall_mem_cons.mpr ⟨rz_new C (show decode c_X10_init 158 = .ok (.new 23, 3) by decide +kernel) vcX4 wiX4 tyX4_ok cw_137 cw_138 cw_84 (by decide +kernel) (by decide +kernel),
  List.forall_mem_cons.mpr ⟨rz_dup C (show decode c_X10_init 161 = .ok (.dup, 1) by decide +kernel),
  List.forall_mem_cons.mpr ⟨rz_init C (show decode c_X10_init 162 = .ok (.invokespecial 25, 3) by decide +kernel) cti_X4_init mi_X4_init cw_139 (show 1 < 3 by decide),
  List.forall_mem_cons.mpr ⟨rz_ast_4 C (show decode c_X10_init 165 = .ok (.aastore, 1) by decide +kernel),
  (fun q h => by cases h)⟩⟩⟩⟩⟩⟩⟩⟩⟩⟩⟩⟩⟩⟩⟩⟩⟩⟩⟩⟩⟩⟩⟩⟩⟩⟩⟩⟩⟩⟩⟩⟩⟩⟩⟩⟩⟩⟩⟩⟩
set_option maxRecDepth 20000 in
theorem sdi_X10_init_2 {G : pj_E} {A : Nat → Prop} {P : pj_P} {S : pj_U} {Z : pj_Z} (C : pc_C (G, A, (c_X10_init, y_X10_init.cls, 1, none, 3), P, S, Z)) (hmn : S.2.2.2.2.1.name = "<init>") : ∀ q ∈ tbi_X10_init_2, pc_S (G, A, (c_X10_init, y_X10_init.cls, 1, none, 3), P, S, Z) q.1 q.2 :=
  List.forall_mem_cons.mpr ⟨rz_aload_n C (show decode c_X10_init 166 = .ok (.aload_n 0, 1) by decide +kernel) rfl,
  List.forall_mem_cons.mpr ⟨rz_gf (k := 9) C (show decode c_X10_init 167 = .ok (.getfield 59, 3) by decide +kernel) vcX10 wiX10 (by decide) cw_320,
  List.forall_mem_cons.mpr ⟨rz_iconst C (show decode c_X10_init 170 = .ok (.iconst 0, 1) by decide +kernel) (by decide +kernel),
  List.forall_mem_cons.mpr ⟨rz_new C (show decode c_X10_init 171 = .ok (.new 57, 3) by decide +kernel) vcX9 wiX9 tyX9_ok cw_232 cw_290 cw_91 (by decide +kernel) (by decide +kernel),
  List.forall_mem_cons.mpr ⟨rz_dup C (show decode c_X10_init 174 = .ok (.dup, 1) by decide +kernel),
  List.forall_mem_cons.mpr ⟨rz_iconst C (show decode c_X10_init 175 = .ok (.iconst 0, 1) by decide +kernel) (by decide +kernel),
  List.forall_mem_cons.mpr ⟨rz_init C (show decode c_X10_init 176 = .ok (.invokespecial 84, 3) by decide +kernel) cti_X9_init mi_X9_init cw_291 (show 1 < 3 by decide),
  List.forall_mem_cons.mpr ⟨rz_ast_9 C (show decode c_X10_init 179 = .ok (.aastore, 1) by decide +kernel),
  List.forall_mem_cons.mpr ⟨rz_aload_n C (show decode c_X10_init 180 = .ok (.aload_n 0, 1) by decide +kernel) rfl,
  List.forall_mem_cons.mpr ⟨rz_gf (k := 9) C (show decode c_X10_init 181 = .ok (.getfield 59, 3) by decide +kernel) vcX10 wiX10 (by decide) cw_320,
  List.forall_mem_cons.mpr ⟨rz_iconst C (show decode c_X10_init 184 = .ok (.iconst 1, 1) by decide +kernel) (by decide +kernel),
  List.forall_mem_cons.mpr ⟨rz_new C (show decode c_X10_init 185 = .ok (.new 57, 3) by decide +kernel) vcX9 wiX9 tyX9_ok cw_232 cw_290 cw_91 (by decide +kernel) (by decide +kernel),
  List.forall_mem_cons.mpr ⟨rz_dup C (show decode c_X10_init 188 = .ok (.dup, 1) by decide +kernel),
  List.forall_mem_cons.mpr ⟨rz_iconst C (show decode c_X10_init 189 = .ok (.iconst 1, 1) by decide +kernel) (by decide +kernel),
  List.forall_mem_cons.mpr ⟨rz_init C (show decode c_X10_init 190 = .ok (.invokespecial 84, 3) by decide +kernel) cti_X9_init mi_X9_init cw_291 (show 1 < 3 by decide),
  List.forall_mem_cons.mpr ⟨rz_ast_9 C (show decode c_X10_init 193 = .ok (.aastore, 1) by decide +kernel),
  (fun q h => by cases h)⟩⟩⟩⟩⟩⟩⟩⟩⟩⟩⟩⟩⟩⟩⟩⟩
theorem cti_X10_init : pc_Ct y_X10_init c_X10_init 1 3 ctor_X10_init := pc_ct_of (by decide +kernel) rfl (by decide +kernel) cwa_3 (fun G A P S Z C hmn => List.forall_mem_append.mpr ⟨sdi_X10_init_0 C hmn, List.forall_mem_append.mpr ⟨sdi_X10_init_1 C hmn, sdi_X10_init_2 C hmn⟩⟩)
/-! AlikeStepsModel()V -/
abbrev c_X11_init : ByteArray := prog_13_method_1_code
def y_X11_init : MethodName := ⟨RX11, "<init>", "()V"⟩
def tbi_X11_init_0 : List (Nat × pc_T) := [(0, rs_lda 0 1), (1, rs_obj 4), (4, rs_lda 0 5), (5, rs_ci 8 7), (7, rs_newa 1 9), (9, rs_pf 11 0 true 12), (12, rs_lda 0 13), (13, rs_ci 8 15), (15, rs_newa 1 17), (17, rs_pf 11 1 true 20), (20, rs_lda 0 21), (21, rs_ci 320 24), (24, rs_newa 1 26), (26, rs_pf 11 2 true 29), (29, rs_lda 0 30), (30, rs_ci 40 32), (32, rs_newa 1 34), (34, rs_pf 11 3 true 37), (37, rs_lda 0 38), (38, rs_ci 140 41), (41, rs_newa 1 43), (43, rs_pf 11 5 true 46), (46, rs_lda 0 47), (47, rs_ci 72 49), (49, rs_newa 1 51), (51, rs_pf 11 13 true 54), (54, rs_lda 0 55), (55, rs_ci 72 57), (57, rs_newa 1 59), (59, rs_pf 11 14 true 62), (62, rs_lda 0 63), (63, rs_ci 1440 66), (66, rs_newa 1 68), (68, rs_pf 11 15 true 71), (71, rs_lda 0 72), (72, rs_ci 144 75), (75, rs_newa 1 77), (77, rs_pf 11 17 true 80), (80, rs_lda 0 81), (81, rs_ci 2 82)]
def tbi_X11_init_1 : List (Nat × pc_T) := [(82, rs_newa 3 84), (84, rs_pf 11 18 true 87), (87, rs_lda 0 88), (88, rs_ci 72 90), (90, rs_newa 1 92), (92, rs_pf 11 19 true 95), (95, rs_lda 0 96), (96, rs_ci 40 98), (98, rs_newa 1 100), (100, rs_pf 11 20 true 103), (103, rs_lda 0 104), (104, rs_ci 10 106), (106, rs_newa 1 108), (108, rs_pf 11 21 true 111), (111, rs_lda 0 112), (112, rs_ci 220 115), (115, rs_newa 1 117), (117, rs_pf 11 22 true 120), (120, rs_lda 0 121), (121, rs_ci 10 123), (123, rs_newa 2 125), (125, rs_pf 11 24 true 128), (128, rs_lda 0 129), (129, rs_ci 100 131), (131, rs_newa 1 133), (133, rs_pf 11 25 true 136), (136, rs_lda 0 137), (137, rs_ci 100 139), (139, rs_newa 1 141), (141, rs_pf 11 26 true 144), (144, rs_lda 0 145), (145, rs_ci 100 147), (147, rs_newa 1 149), (149, rs_pf 11 27 true 152), (152, rs_lda 0 153), (153, rs_ci 100 155), (155, rs_newa 1 157), (157, rs_pf 11 28 true 160), (160, rs_lda 0 161), (161, rs_ci 30 163)]
def tbi_X11_init_2 : List (Nat × pc_T) := [(163, rs_newa 1 165), (165, rs_pf 11 29 true 168), (168, rs_lda 0 169), (169, rs_ci 30 171), (171, rs_newa 3 173), (173, rs_pf 11 30 true 176), (176, rs_lda 0 177), (177, rs_ci 16 179), (179, rs_newa 1 181), (181, rs_pf 11 31 true 184), (184, rs_ci 0 185), (185, rs_sti 1 186), (186, rs_ldi 1 187), (187, rs_ci 8 189), (189, rs_icge 206 192), (192, rs_lda 0 193), (193, rs_gf 11 0 196), (196, rs_ldi 1 197), (197, rs_ci (-1000000) 199), (199, rs_iast 200), (200, rs_inc 1 1 203), (203, rs_go 186)]
def tbi_X11_init : List (Nat × pc_T) := tbi_X11_init_0 ++ (tbi_X11_init_1 ++ (tbi_X11_init_2))
def ctor_X11_init : List pc_V → List pc_E → Option (List pc_E × Nat × Nat) := pc_ctor tbi_X11_init 2 206 22 3074
theorem mi_X11_init : pc_mi y_X11_init c_X11_init 2 0 := ⟨⟨cw_1015, cw_1014, cw_92⟩, by decide +kernel, by decide, rfl⟩
set_option maxRecDepth 20000 in
theorem sdi_X11_init_0 {G : pj_E} {A : Nat → Prop} {P : pj_P} {S : pj_U} {Z : pj_Z} (C : pc_C (G, A, (c_X11_init, y_X11_init.cls, 2, none, 1), P, S, Z)) (hmn : S.2.2.2.2.1.name = "<init>") : ∀ q ∈ tbi_X11_init_0, pc_S (G, A, (c_X11_init, y_X11_init.cls, 2, none, 1), P, S, Z) q.1 q.2 :=
  List.forall_mem_cons.mpr ⟨rz_aload_n C (show decode c_X11_init 0 = .ok (.aload_n 0, 1) by decide +kernel) rfl,
  List.forall_mem_cons.mpr ⟨rz_obj C (show decode c_X11_init 1 = .ok (.invokespecial 1, 3) by decide +kernel) cw_1016 cw_102 cw_103,
  List.forall_mem_cons.mpr ⟨rz_aload_n C (show decode c_X11_init 4 = .ok (.aload_n 0, 1) by decide +kernel) rfl,
  List.forall_mem_cons.mpr ⟨rz_bipush C (show decode c_X11_init 5 = .ok (.bipush 8, 2) by decide +kernel) (by decide +kernel),
  List.forall_mem_cons.mpr ⟨rz_newa_int C (show decode c_X11_init 7 = .ok (.newarray .int, 2) by decide +kernel),
  List.forall_mem_cons.mpr ⟨rz_pfF (k := 0) C (show decode c_X11_init 9 = .ok (.putfield 7, 3) by decide +kernel) vcX11 wiX11 tyX11_ok nmX11 (by decide) cw_1018 rfl hmn rfl (fun _ => ⟨rfl, rfl⟩),
  List.forall_mem_cons.mpr ⟨rz_aload_n C (show decode c_X11_init 12 = .ok (.aload_n 0, 1) by decide +kernel) rfl,
  List.forall_mem_cons.mpr ⟨rz_bipush C (show decode c_X11_init 13 = .ok (.bipush 8, 2) by decide +kernel) (by decide +kernel),
  List.forall_mem_cons.mpr ⟨rz_newa_int C (show decode c_X11_init 15 = .ok (.newarray .int, 2) by decide +kernel),
  List.forall_mem_cons.mpr ⟨rz_pfF (k := 1) C (show decode c_X11_init 17 = .ok (.putfield 13, 3) by decide +kernel) vcX11 wiX11 tyX11_ok nmX11 (by decide) cw_1019 rfl hmn rfl (fun _ => ⟨rfl, rfl⟩),
  List.forall_mem_cons.mpr ⟨rz_aload_n C (show decode c_X11_init 20 = .ok (.aload_n 0, 1) by decide +kernel) rfl,
  List.forall_mem_cons.mpr ⟨rz_sipush C (show decode c_X11_init 21 = .ok (.sipush 320, 3) by decide +kernel) (by decide +kernel),
  List.forall_mem_cons.mpr ⟨rz_newa_int C (show decode c_X11_init 24 = .ok (.newarray .int, 2) by decide +kernel),
  List.forall_mem_cons.mpr ⟨rz_pfF (k := 2) C (show decode c_X11_init 26 = .ok (.putfield 16, 3) by decide +kernel) vcX11 wiX11 tyX11_ok nmX11 (by decide) cw_1020 rfl hmn rfl (fun _ => ⟨rfl, rfl⟩),
  List.forall_mem_cons.mpr ⟨rz_aload_n C (show decode c_X11_init 29 = .ok (.aload_n 0, 1) by decide +kernel) rfl,
  List.forall_mem_cons.mpr ⟨rz_bipush C (show decode c_X11_init 30 = .ok (.bipush 40, 2) by decide +kernel) (by decide +kernel),
  List.forall_mem_cons.mpr ⟨rz_newa_int C (show decode c_X11_init 32 = .ok (.newarray .int, 2) by decide +kernel),
  List.forall_mem_cons.mpr ⟨rz_pfF (k := 3) C (show decode c_X11_init 34 = .ok (.putfield 19, 3) by decide +kernel) vcX11 wiX11 tyX11_ok nmX11 (by decide) cw_1021 rfl hmn rfl (fun _ => ⟨rfl, rfl⟩),
  List.forall_mem_cons.mpr ⟨rz_aload_n C (show decode c_X11_init 37 = .ok (.aload_n 0, 1) by decide +kernel) rfl,
  List.forall_mem_cons.mpr ⟨rz_sipush C (show decode c_X11_init 38 = .ok (.sipush 140, 3) by decide +kernel) (by decide +kernel),
  List.forall_mem_cons.mpr ⟨rz_newa_int C (show decode c_X11_init 41 = .ok (.newarray .int, 2) by decide +kernel),
  List.forall_mem_cons.mpr ⟨rz_pfF (k := 5) C (show decode c_X11_init 43 = .ok (.putfield 22, 3) by decide +kernel) vcX11 wiX11 tyX11_ok nmX11 (by decide) cw_1023 rfl hmn rfl (fun _ => ⟨rfl, rfl⟩),
  List.forall_mem_cons.mpr ⟨rz_aload_n C (show decode c_X11_init 46 = .ok (.aload_n 0, 1) by decide +kernel) rfl,
  List.forall_mem_cons.mpr ⟨rz_bipush C (show decode c_X11_init 47 = .ok (.bipush 72, 2) by decide +kernel) (by decide +kernel),
  List.forall_mem_cons.mpr ⟨rz_newa_int C (show decode c_X11_init 49 = .ok (.newarray .int, 2) by decide +kernel),
  List.forall_mem_cons.mpr ⟨rz_pfF (k := 13) C (show decode c_X11_init 51 = .ok (.putfield 25, 3) by decide +kernel) vcX11 wiX11 tyX11_ok nmX11 (by decide) cw_1031 rfl hmn rfl (fun _ => ⟨rfl, rfl⟩),
  List.forall_mem_cons.mpr ⟨rz_aload_n C (show decode c_X11_init 54 = .ok (.aload_n 0, 1) by decide +kernel) rfl,
  List.forall_mem_cons.mpr ⟨rz_bipush C (show decode c_X11_init 55 = .ok (.bipush 72, 2) by decide +kernel) (by decide +kernel),
  List.forall_mem_cons.mpr ⟨rz_newa_int C (show decode c_X11_init 57 = .ok (.newarray .int, 2) by decide +kernel),
  List.forall_mem_cons.mpr ⟨rz_pfF (k := 14) C (show decode c_X11_init 59 = .ok (.putfield 28, 3) by decide +kernel) vcX11 wiX11 tyX11_ok nmX11 (by decide) cw_1032 rfl hmn rfl (fun _ => ⟨rfl, rfl⟩),
  List.forall_mem_cons.mpr ⟨rz_aload_n C (show decode c_X11_init 62 = .ok (.aload_n 0, 1) by decide +kernel) rfl,
  List.forall_mem_cons.mpr ⟨rz_sipush C (show decode c_X11_init 63 = .ok (.sipush 1440, 3) by decide +kernel) (by decide +kernel),
  List.forall_mem_cons.mpr ⟨rz_newa_int C (show decode c_X11_init 66 = .ok (.newarray .int, 2) by decide +kernel),
  List.forall_mem_cons.mpr ⟨rz_pfF (k := 15) C (show decode c_X11_init 68 = .ok (.putfield 31, 3) by decide +kernel) vcX11 wiX11 tyX11_ok nmX11 (by decide) cw_1033 rfl hmn rfl (fun _ => ⟨rfl, rfl⟩),
  List.forall_mem_cons.mpr ⟨rz_aload_n C (show decode c_X11_init 71 = .ok (.aload_n 0, 1) by decide +kernel) rfl,
  List.forall_mem_cons.mpr ⟨rz_sipush C (show decode c_X11_init 72 = .ok (.sipush 144, 3) by decide +kernel) (by decide +kernel),
  List.forall_mem_cons.mpr ⟨rz_newa_int C (show decode c_X11_init 75 = .ok (.newarray .int, 2) by decide +kernel),
  List.forall_mem_cons.mpr ⟨rz_pfF (k := 17) C (show decode c_X11_init 77 = .ok (.putfield 34, 3) by decide +kernel) vcX11 wiX11 tyX11_ok nmX11 (by decide) cw_1035 rfl hmn rfl (fun _ => ⟨rfl, rfl⟩),
  List.forall_mem_cons.mpr ⟨rz_aload_n C (show decode c_X11_init 80 = .ok (.aload_n 0, 1) by decide +kernel) rfl,
  List.forall_mem_cons.mpr ⟨rz_iconst C (show decode c_X11_init 81 = .ok (.iconst 2, 1) by decide +kernel) (by decide +kernel),
  (fun q h => by cases h)⟩⟩⟩⟩⟩⟩⟩⟩⟩⟩⟩⟩⟩⟩⟩⟩⟩⟩⟩⟩⟩⟩⟩⟩⟩⟩⟩⟩⟩⟩⟩⟩⟩⟩⟩⟩⟩⟩⟩⟩
set_option maxRecDepth 20000 in
theorem sdi_X11_init_1 {G : pj_E} {A : Nat → Prop} {P : pj_P} {S : pj_U} {Z : pj_Z} (C : pc_C (G, A, (c_X11_init, y_X11_init.cls, 2, none, 1), P, S, Z)) (hmn : S.2.2.2.2.1.name = "<init>") : ∀ q ∈ tbi_X11_init_1, pc_S (G, A, (c_X11_init, y_X11_init.cls, 2, none, 1), P, S, Z) q.1 q.2 :=
  List.forall_mem_cons.mpr ⟨rz_newa_boolean C (show decode c_X11_init 82 = .ok (.newarray .boolean, 2) by decide +kernel),
  List.forall_mem_cons.mpr ⟨rz_pfF (k := 18) C (show decode c_X11_init 84 = .ok (.putfield 37, 3) by decide +kernel) vcX11 wiX11 tyX11_ok nmX11 (by decide) cw_1036 rfl hmn rfl (fun _ => ⟨rfl, rfl⟩),
  List.forall_mem_cons.mpr ⟨rz_aload_n C (show decode c_X11_init 87 = .ok (.aload_n 0, 1) by decide +kernel) rfl,
  List.forall_mem_cons.mpr ⟨rz_bipush C (show decode c_X11_init 88 = .ok (.bipush 72, 2) by decide +kernel) (by decide +kernel),
  List.forall_mem_cons.mpr ⟨rz_newa_int C (show decode c_X11_init 90 = .ok (.newarray .int, 2) by decide +kernel),
  List.forall_mem_cons.mpr ⟨rz_pfF (k := 19) C (show decode c_X11_init 92 = .ok (.putfield 41, 3) by decide +kernel) vcX11 wiX11 tyX11_ok nmX11 (by decide) cw_1037 rfl hmn rfl (fun _ => ⟨rfl, rfl⟩),
  List.forall_mem_cons.mpr ⟨rz_aload_n C (show decode c_X11_init 95 = .ok (.aload_n 0, 1) by decide +kernel) rfl,
  List.forall_mem_cons.mpr ⟨rz_bipush C (show decode c_X11_init 96 = .ok (.bipush 40, 2) by decide +kernel) (by decide +kernel),
  List.forall_mem_cons.mpr ⟨rz_newa_int C (show decode c_X11_init 98 = .ok (.newarray .int, 2) by decide +kernel),
  List.forall_mem_cons.mpr ⟨rz_pfF (k := 20) C (show decode c_X11_init 100 = .ok (.putfield 44, 3) by decide +kernel) vcX11 wiX11 tyX11_ok nmX11 (by decide) cw_1038 rfl hmn rfl (fun _ => ⟨rfl, rfl⟩),
  List.forall_mem_cons.mpr ⟨rz_aload_n C (show decode c_X11_init 103 = .ok (.aload_n 0, 1) by decide +kernel) rfl,
  List.forall_mem_cons.mpr ⟨rz_bipush C (show decode c_X11_init 104 = .ok (.bipush 10, 2) by decide +kernel) (by decide +kernel),
  List.forall_mem_cons.mpr ⟨rz_newa_int C (show decode c_X11_init 106 = .ok (.newarray .int, 2) by decide +kernel),
  List.forall_mem_cons.mpr ⟨rz_pfF (k := 21) C (show decode c_X11_init 108 = .ok (.putfield 47, 3) by decide +kernel) vcX11 wiX11 tyX11_ok nmX11 (by decide) cw_1039 rfl hmn rfl (fun _ => ⟨rfl, rfl⟩),
  List.forall_mem_cons.mpr ⟨rz_aload_n C (show decode c_X11_init 111 = .ok (.aload_n 0, 1) by decide +kernel) rfl,
  List.forall_mem_cons.mpr ⟨rz_sipush C (show decode c_X11_init 112 = .ok (.sipush 220, 3) by decide +kernel) (by decide +kernel),
  List.forall_mem_cons.mpr ⟨rz_newa_int C (show decode c_X11_init 115 = .ok (.newarray .int, 2) by decide +kernel),
  List.forall_mem_cons.mpr ⟨rz_pfF (k := 22) C (show decode c_X11_init 117 = .ok (.putfield 50, 3) by decide +kernel) vcX11 wiX11 tyX11_ok nmX11 (by decide) cw_1040 rfl hmn rfl (fun _ => ⟨rfl, rfl⟩),
  List.forall_mem_cons.mpr ⟨rz_aload_n C (show decode c_X11_init 120 = .ok (.aload_n 0, 1) by decide +kernel) rfl,
  List.forall_mem_cons.mpr ⟨rz_bipush C (show decode c_X11_init 121 = .ok (.bipush 10, 2) by decide +kernel) (by decide +kernel),
  List.forall_mem_cons.mpr ⟨rz_newa_long C (show decode c_X11_init 123 = .ok (.newarray .long, 2) by decide +kernel),
  List.forall_mem_cons.mpr ⟨rz_pfF (k := 24) C (show decode c_X11_init 125 = .ok (.putfield 53, 3) by decide +kernel) vcX11 wiX11 tyX11_ok nmX11 (by decide) cw_1042 rfl hmn rfl (fun _ => ⟨rfl, rfl⟩),
  List.forall_mem_cons.mpr ⟨rz_aload_n C (show decode c_X11_init 128 = .ok (.aload_n 0, 1) by decide +kernel) rfl,
  List.forall_mem_cons.mpr ⟨rz_bipush C (show decode c_X11_init 129 = .ok (.bipush 100, 2) by decide +kernel) (by decide +kernel),
  List.forall_mem_cons.mpr ⟨rz_newa_int C (show decode c_X11_init 131 = .ok (.newarray .int, 2) by decide +kernel),
  List.forall_mem_cons.mpr ⟨rz_pfF (k := 25) C (show decode c_X11_init 133 = .ok (.putfield 57, 3) by decide +kernel) vcX11 wiX11 tyX11_ok nmX11 (by decide) cw_1043 rfl hmn rfl (fun _ => ⟨rfl, rfl⟩),
  List.forall_mem_cons.mpr ⟨rz_aload_n C (show decode c_X11_init 136 = .ok (.aload_n 0, 1) by decide +kernel) rfl,
  List.forall_mem_cons.mpr ⟨rz_bipush C (show decode c_X11_init 137 = .ok (.bipush 100, 2) by decide +kernel) (by decide +kernel),
  List.forall_mem_cons.mpr ⟨rz_newa_int C (show decode c_X11_init 139 = .ok (.newarray .int, 2) by decide +kernel),
  List.forall_mem_cons.mpr ⟨rz_pfF (k := 26) C (show decode c_X11_init 141 = .ok (.putfield 60, 3) by decide +kernel) vcX11 wiX11 tyX11_ok nmX11 (by decide) cw_1044 rfl hmn rfl (fun _ => ⟨rfl, rfl⟩),
  List.forall_mem_cons.mpr ⟨rz_aload_n C (show decode c_X11_init 144 = .ok (.aload_n 0, 1) by decide +kernel) rfl,
  List.forall_mem_cons.mpr ⟨rz_bipush C (show decode c_X11_init 145 = .ok (.bipush 100, 2) by decide +kernel) (by decide +kernel),
  List.forall_mem_cons.mpr ⟨rz_newa_int C (show decode c_X11_init 147 = .ok (.newarray .int, 2) by decide +kernel),
  List.forall_mem_cons.mpr ⟨rz_pfF (k := 27) C (show decode c_X11_init 149 = .ok (.putfield 63, 3) by decide +kernel) vcX11 wiX11 tyX11_ok nmX11 (by decide) cw_1045 rfl hmn rfl (fun _ => ⟨rfl, rfl⟩),
  List.forall_mem_cons.mpr ⟨rz_aload_n C (show decode c_X11_init 152 = .ok (.aload_n 0, 1) by decide +kernel) rfl,
  List.forall_mem_cons.mpr ⟨rz_bipush C (show decode c_X11_init 153 = .ok (.bipush 100, 2) by decide +kernel) (by decide +kernel),
  List.forall_mem_cons.mpr ⟨rz_newa_int C (show decode c_X11_init 155 = .ok (.newarray .int, 2) by decide +kernel),
  List.forall_mem_cons.mpr ⟨rz_pfF (k := 28) C (show decode c_X11_init 157 = .ok (.putfield 66, 3) by decide +kernel) vcX11 wiX11 tyX11_ok nmX11 (by decide) cw_1046 rfl hmn rfl (fun _ => ⟨rfl, rfl⟩),
  List.forall_mem_cons.mpr ⟨rz_aload_n C (show decode c_X11_init 160 = .ok (.aload_n 0, 1) by decide +kernel) rfl,
  List.forall_mem_cons.mpr ⟨rz_bipush C (show decode c_X11_init 161 = .ok (.bipush 30, 2) by decide +kernel) (by decide +kernel),
  (fun q h => by cases h)⟩⟩⟩⟩⟩⟩⟩⟩⟩⟩⟩⟩⟩⟩⟩⟩⟩⟩⟩⟩⟩⟩⟩⟩⟩⟩⟩⟩⟩⟩⟩⟩⟩⟩⟩⟩⟩⟩⟩⟩
set_option maxRecDepth 20000 in
theorem sdi_X11_init_2 {G : pj_E} {A : Nat → Prop} {P : pj_P} {S : pj_U} {Z : pj_Z} (C : pc_C (G, A, (c_X11_init, y_X11_init.cls, 2, none, 1), P, S, Z)) (hmn : S.2.2.2.2.1.name = "<init>") : ∀ q ∈ tbi_X11_init_2, pc_S (G, A, (c_X11_init, y_X11_init.cls, 2, none, 1), P, S, Z) q.1 q.2 :=
  List.forall_mem_cons.mpr ⟨rz_newa_int C (show decode c_X11_init 163 = .ok (.newarray .int, 2) by decide +kernel),
  List.forall_mem_cons.mpr ⟨rz_pfF (k := 29) C (show decode c_X11_init 165 = .ok (.putfield 69, 3) by decide +kernel) vcX11 wiX11 tyX11_ok nmX11 (by decide) cw_1047 rfl hmn rfl (fun _ => ⟨rfl, rfl⟩),
  List.forall_mem_cons.mpr ⟨rz_aload_n C (show decode c_X11_init 168 = .ok (.aload_n 0, 1) by decide +kernel) rfl,
  List.forall_mem_cons.mpr ⟨rz_bipush C (show decode c_X11_init 169 = .ok (.bipush 30, 2) by decide +kernel) (by decide +kernel),
  List.forall_mem_cons.mpr ⟨rz_newa_boolean C (show decode c_X11_init 171 = .ok (.newarray .boolean, 2) by decide +kernel),
  List.forall_mem_cons.mpr ⟨rz_pfF (k := 30) C (show decode c_X11_init 173 = .ok (.putfield 72, 3) by decide +kernel) vcX11 wiX11 tyX11_ok nmX11 (by decide) cw_1048 rfl hmn rfl (fun _ => ⟨rfl, rfl⟩),
  List.forall_mem_cons.mpr ⟨rz_aload_n C (show decode c_X11_init 176 = .ok (.aload_n 0, 1) by decide +kernel) rfl,
  List.forall_mem_cons.mpr ⟨rz_bipush C (show decode c_X11_init 177 = .ok (.bipush 16, 2) by decide +kernel) (by decide +kernel),
  List.forall_mem_cons.mpr ⟨rz_newa_int C (show decode c_X11_init 179 = .ok (.newarray .int, 2) by decide +kernel),
  List.forall_mem_cons.mpr ⟨rz_pfF (k := 31) C (show decode c_X11_init 181 = .ok (.putfield 75, 3) by decide +kernel) vcX11 wiX11 tyX11_ok nmX11 (by decide) cw_1049 rfl hmn rfl (fun _ => ⟨rfl, rfl⟩),
  List.forall_mem_cons.mpr ⟨rz_iconst C (show decode c_X11_init 184 = .ok (.iconst 0, 1) by decide +kernel) (by decide +kernel),
  List.forall_mem_cons.mpr ⟨rz_istore_n C (show decode c_X11_init 185 = .ok (.istore_n 1, 1) by decide +kernel) rfl,
  List.forall_mem_cons.mpr ⟨rz_iload_n C (show decode c_X11_init 186 = .ok (.iload_n 1, 1) by decide +kernel) rfl,
  List.forall_mem_cons.mpr ⟨rz_bipush C (show decode c_X11_init 187 = .ok (.bipush 8, 2) by decide +kernel) (by decide +kernel),
  List.forall_mem_cons.mpr ⟨rz_icge C (show decode c_X11_init 189 = .ok (.if_icmp .ge 17, 3) by decide +kernel) (by decide),
  List.forall_mem_cons.mpr ⟨rz_aload_n C (show decode c_X11_init 192 = .ok (.aload_n 0, 1) by decide +kernel) rfl,
  List.forall_mem_cons.mpr ⟨rz_gf (k := 0) C (show decode c_X11_init 193 = .ok (.getfield 7, 3) by decide +kernel) vcX11 wiX11 (by decide) cw_1018,
  List.forall_mem_cons.mpr ⟨rz_iload_n C (show decode c_X11_init 196 = .ok (.iload_n 1, 1) by decide +kernel) rfl,
  List.forall_mem_cons.mpr ⟨rz_ldc C (show decode c_X11_init 197 = .ok (.ldc 78, 2) by decide +kernel) cw_1017,
  List.forall_mem_cons.mpr ⟨rz_iast C (show decode c_X11_init 199 = .ok (.iastore, 1) by decide +kernel),
  List.forall_mem_cons.mpr ⟨rz_iinc C (show decode c_X11_init 200 = .ok (.iinc 1 1, 3) by decide +kernel) (by decide +kernel),
  List.forall_mem_cons.mpr ⟨rz_goto C (show decode c_X11_init 203 = .ok (.goto (-17), 3) by decide +kernel) (by decide),
  (fun q h => by cases h)⟩⟩⟩⟩⟩⟩⟩⟩⟩⟩⟩⟩⟩⟩⟩⟩⟩⟩⟩⟩⟩⟩
theorem cti_X11_init : pc_Ct y_X11_init c_X11_init 2 1 ctor_X11_init := pc_ct_of (by decide +kernel) rfl (by decide +kernel) cwa_3 (fun G A P S Z C hmn => List.forall_mem_append.mpr ⟨sdi_X11_init_0 C hmn, List.forall_mem_append.mpr ⟨sdi_X11_init_1 C hmn, sdi_X11_init_2 C hmn⟩⟩)
