/-! AlikeSteps.within(III)Z -/
abbrev c_X10_within : ByteArray := prog_1_method_40_code
def y_X10_within : MethodName := ⟨RX10, "within", "(III)Z"⟩
noncomputable def F_X10_within (x0 : Int32) (x1 : Int32) (x2 : Int32) (m : pj_M) : Option (Int32 × pj_M) := (if x0 < x1 then (some (0, m)) else (if x2 < x0 then (some (0, m)) else (some (1, m))))
noncomputable def W_X10_within : List pj_V → pj_M → Option (Int32 × pj_M) := fun as m => match as with
  | [.inl x0, .inl x1, .inl x2] => F_X10_within x0 x1 x2 m
  | _ => none
noncomputable def tb_X10_within_0 : List (Nat × pj_T (Int32 × pj_M)) := [(0, qs_ldi 0 1), (1, qs_ldi 1 2), (2, qs_iclt 14 5), (5, qs_ldi 0 6), (6, qs_ldi 2 7), (7, qs_icgt 14 10), (10, qs_ci 1 11), (11, qs_go 15), (14, qs_ci 0 15), (15, qs_zret)]
noncomputable abbrev tb_X10_within : List (Nat × pj_T (Int32 × pj_M)) := tb_X10_within_0
theorem mv_X10_within : pj_ms y_X10_within c_X10_within 3 (some .boolean) 3 := ⟨⟨cw_363, cw_362, cw_81⟩, by decide +kernel, by decide⟩
set_option maxRecDepth 20000 in
theorem sd_X10_within_0 {G : pj_E} {A : Nat → Prop} {P : pj_P} {S : pj_U} {Z : pj_Z} (C : pj_C (G, A, (c_X10_within, y_X10_within.cls, 3, (some .boolean), 1), P, S, Z)) : ∀ q ∈ tb_X10_within_0, pj_S (G, A, (c_X10_within, y_X10_within.cls, 3, (some .boolean), 1), P, S, Z) pj_eI q.1 q.2 :=
  List.forall_mem_cons.mpr ⟨qz_iload_n C (show decode c_X10_within 0 = .ok (.iload_n 0, 1) by decide +kernel) rfl,
  List.forall_mem_cons.mpr ⟨qz_iload_n C (show decode c_X10_within 1 = .ok (.iload_n 1, 1) by decide +kernel) rfl,
  List.forall_mem_cons.mpr ⟨qz_iclt C (show decode c_X10_within 2 = .ok (.if_icmp .lt 12, 3) by decide +kernel) (by decide),
  List.forall_mem_cons.mpr ⟨qz_iload_n C (show decode c_X10_within 5 = .ok (.iload_n 0, 1) by decide +kernel) rfl,
  List.forall_mem_cons.mpr ⟨qz_iload_n C (show decode c_X10_within 6 = .ok (.iload_n 2, 1) by decide +kernel) rfl,
  List.forall_mem_cons.mpr ⟨qz_icgt C (show decode c_X10_within 7 = .ok (.if_icmp .gt 7, 3) by decide +kernel) (by decide),
  List.forall_mem_cons.mpr ⟨qz_iconst C (show decode c_X10_within 10 = .ok (.iconst 1, 1) by decide +kernel) (by decide +kernel),
  List.forall_mem_cons.mpr ⟨qz_goto C (show decode c_X10_within 11 = .ok (.goto 4, 3) by decide +kernel) (by decide),
  List.forall_mem_cons.mpr ⟨qz_iconst C (show decode c_X10_within 14 = .ok (.iconst 0, 1) by decide +kernel) (by decide +kernel),
  List.forall_mem_cons.mpr ⟨qz_zret C (show decode c_X10_within 15 = .ok (.ireturn, 1) by decide +kernel) rfl,
  (fun q h => by cases h)⟩⟩⟩⟩⟩⟩⟩⟩⟩⟩
theorem sd_X10_within {G : pj_E} {A : Nat → Prop} {P : pj_P} {S : pj_U} {Z : pj_Z} (C : pj_C (G, A, (c_X10_within, y_X10_within.cls, 3, (some .boolean), 1), P, S, Z)) : ∀ q ∈ tb_X10_within, pj_S (G, A, (c_X10_within, y_X10_within.cls, 3, (some .boolean), 1), P, S, Z) pj_eI q.1 q.2 := sd_X10_within_0 C
set_option maxRecDepth 20000 in
theorem eq_X10_within (x0 : Int32) (x1 : Int32) (x2 : Int32) (m : pj_M) : pj_run tb_X10_within [] 12 0 [some (.inl x0), some (.inl x1), some (.inl x2)] [] m = F_X10_within x0 x1 x2 m := by rfl
theorem ct_X10_within : pj_Ct pj_eI y_X10_within c_X10_within 3 (some .boolean) 1 W_X10_within := by
  refine pj_ct_of (by decide +kernel) ?_ ?_
  · intro as m r h
    unfold W_X10_within at h
    split at h
    · simp [pj_l0]
    · cases h
  · intro G A P S Z C as m r h hR
    unfold W_X10_within at h
    split at h
    · exact pj_run_ok (sd_X10_within C) (fun q h => by cases h) 12 0 _ _ _ _ ((eq_X10_within _ _ _ _).trans h) hR
    · cases h
/-! AlikeSteps.nextKind(I)I -/
abbrev c_X10_nextKind : ByteArray := prog_1_method_42_code
def y_X10_nextKind : MethodName := ⟨RX10, "nextKind", "(I)I"⟩
noncomputable def F_X10_nextKind (x0 : Int32) (m : pj_M) : Option (Int32 × pj_M) := (if x0 = 2 then (some (1, m)) else (if x0 = 3 then (some (1, m)) else (if x0 = 4 then (some (0, m)) else (if x0 = 5 then (some (4, m)) else (some (0, m))))))
noncomputable def W_X10_nextKind : List pj_V → pj_M → Option (Int32 × pj_M) := fun as m => match as with
  | [.inl x0] => F_X10_nextKind x0 m
  | _ => none
noncomputable def tb_X10_nextKind_0 : List (Nat × pj_T (Int32 × pj_M)) := [(0, qs_ldi 0 1), (1, qs_sw [(2, 32), (3, 34), (4, 38), (5, 36)] 38), (32, qs_ci 1 33), (33, qs_iret), (34, qs_ci 1 35), (35, qs_iret), (36, qs_ci 4 37), (37, qs_iret), (38, qs_ci 0 39), (39, qs_iret)]
noncomputable abbrev tb_X10_nextKind : List (Nat × pj_T (Int32 × pj_M)) := tb_X10_nextKind_0
theorem mv_X10_nextKind : pj_ms y_X10_nextKind c_X10_nextKind 1 (some .int) 1 := ⟨⟨cw_654, cw_653, cw_81⟩, by decide +kernel, by decide⟩
set_option maxRecDepth 20000 in
theorem sd_X10_nextKind_0 {G : pj_E} {A : Nat → Prop} {P : pj_P} {S : pj_U} {Z : pj_Z} (C : pj_C (G, A, (c_X10_nextKind, y_X10_nextKind.cls, 1, (some .int), 1), P, S, Z)) : ∀ q ∈ tb_X10_nextKind_0, pj_S (G, A, (c_X10_nextKind, y_X10_nextKind.cls, 1, (some .int), 1), P, S, Z) pj_eI q.1 q.2 :=
  List.forall_mem_cons.mpr ⟨qz_iload_n C (show decode c_X10_nextKind 0 = .ok (.iload_n 0, 1) by decide +kernel) rfl,
  List.forall_mem_cons.mpr ⟨qz_tsw C (show decode c_X10_nextKind 1 = .ok (.tableswitch 37 2 5 #[31, 33, 37, 35], 31) by decide +kernel) (by decide +kernel),
  List.forall_mem_cons.mpr ⟨qz_iconst C (show decode c_X10_nextKind 32 = .ok (.iconst 1, 1) by decide +kernel) (by decide +kernel),
  List.forall_mem_cons.mpr ⟨qz_iret C (show decode c_X10_nextKind 33 = .ok (.ireturn, 1) by decide +kernel) rfl,
  List.forall_mem_cons.mpr ⟨qz_iconst C (show decode c_X10_nextKind 34 = .ok (.iconst 1, 1) by decide +kernel) (by decide +kernel),
  List.forall_mem_cons.mpr ⟨qz_iret C (show decode c_X10_nextKind 35 = .ok (.ireturn, 1) by decide +kernel) rfl,
  List.forall_mem_cons.mpr ⟨qz_iconst C (show decode c_X10_nextKind 36 = .ok (.iconst 4, 1) by decide +kernel) (by decide +kernel),
  List.forall_mem_cons.mpr ⟨qz_iret C (show decode c_X10_nextKind 37 = .ok (.ireturn, 1) by decide +kernel) rfl,
  List.forall_mem_cons.mpr ⟨qz_iconst C (show decode c_X10_nextKind 38 = .ok (.iconst 0, 1) by decide +kernel) (by decide +kernel),
  List.forall_mem_cons.mpr ⟨qz_iret C (show decode c_X10_nextKind 39 = .ok (.ireturn, 1) by decide +kernel) rfl,
  (fun q h => by cases h)⟩⟩⟩⟩⟩⟩⟩⟩⟩⟩
theorem sd_X10_nextKind {G : pj_E} {A : Nat → Prop} {P : pj_P} {S : pj_U} {Z : pj_Z} (C : pj_C (G, A, (c_X10_nextKind, y_X10_nextKind.cls, 1, (some .int), 1), P, S, Z)) : ∀ q ∈ tb_X10_nextKind, pj_S (G, A, (c_X10_nextKind, y_X10_nextKind.cls, 1, (some .int), 1), P, S, Z) pj_eI q.1 q.2 := sd_X10_nextKind_0 C
set_option maxRecDepth 20000 in
theorem eq_X10_nextKind (x0 : Int32) (m : pj_M) : pj_run tb_X10_nextKind [] 12 0 [some (.inl x0)] [] m = F_X10_nextKind x0 m := by rfl
theorem ct_X10_nextKind : pj_Ct pj_eI y_X10_nextKind c_X10_nextKind 1 (some .int) 1 W_X10_nextKind := by
  refine pj_ct_of (by decide +kernel) ?_ ?_
  · intro as m r h
    unfold W_X10_nextKind at h
    split at h
    · simp [pj_l0]
    · cases h
  · intro G A P S Z C as m r h hR
    unfold W_X10_nextKind at h
    split at h
    · exact pj_run_ok (sd_X10_nextKind C) (fun q h => by cases h) 12 0 _ _ _ _ ((eq_X10_nextKind _ _).trans h) hR
    · cases h
/-! AlikeSteps.isA(II)Z -/
abbrev c_X10_isA : ByteArray := prog_1_method_41_code
def y_X10_isA : MethodName := ⟨RX10, "isA", "(II)Z"⟩
noncomputable def F_X10_isA (x0 : Int32) (x1 : Int32) (m : pj_M) : Option (Int32 × pj_M) := (if x0 = x1 then (some (1, m)) else (if x1 = 0 then (some (1, m)) else ((F_X10_nextKind x0 m).bind fun q1 => (if q1.1 = x1 then (some (1, q1.2)) else (some (0, q1.2))))))
noncomputable def W_X10_isA : List pj_V → pj_M → Option (Int32 × pj_M) := fun as m => match as with
  | [.inl x0, .inl x1] => F_X10_isA x0 x1 m
  | _ => none
noncomputable def tb_X10_isA_0 : List (Nat × pj_T (Int32 × pj_M)) := [(0, qs_ldi 0 1), (1, qs_ldi 1 2), (2, qs_iceq 17 5), (5, qs_ldi 1 6), (6, qs_ifeq 17 9), (9, qs_ldi 0 10), (10, qs_sI 1 W_X10_nextKind 13), (13, qs_ldi 1 14), (14, qs_icne 21 17), (17, qs_ci 1 18), (18, qs_go 22), (21, qs_ci 0 22), (22, qs_zret)]
noncomputable abbrev tb_X10_isA : List (Nat × pj_T (Int32 × pj_M)) := tb_X10_isA_0
theorem mv_X10_isA : pj_ms y_X10_isA c_X10_isA 2 (some .boolean) 2 := ⟨⟨cw_651, cw_650, cw_81⟩, by decide +kernel, by decide⟩
set_option maxRecDepth 20000 in
theorem sd_X10_isA_0 {G : pj_E} {A : Nat → Prop} {P : pj_P} {S : pj_U} {Z : pj_Z} (C : pj_C (G, A, (c_X10_isA, y_X10_isA.cls, 2, (some .boolean), 2), P, S, Z)) : ∀ q ∈ tb_X10_isA_0, pj_S (G, A, (c_X10_isA, y_X10_isA.cls, 2, (some .boolean), 2), P, S, Z) pj_eI q.1 q.2 :=
  List.forall_mem_cons.mpr ⟨qz_iload_n C (show decode c_X10_isA 0 = .ok (.iload_n 0, 1) by decide +kernel) rfl,
  List.forall_mem_cons.mpr ⟨qz_iload_n C (show decode c_X10_isA 1 = .ok (.iload_n 1, 1) by decide +kernel) rfl,
  List.forall_mem_cons.mpr ⟨qz_iceq C (show decode c_X10_isA 2 = .ok (.if_icmp .eq 15, 3) by decide +kernel) (by decide),
  List.forall_mem_cons.mpr ⟨qz_iload_n C (show decode c_X10_isA 5 = .ok (.iload_n 1, 1) by decide +kernel) rfl,
  List.forall_mem_cons.mpr ⟨qz_ifeq C (show decode c_X10_isA 6 = .ok (.ifCond .eq 11, 3) by decide +kernel) (by decide),
  List.forall_mem_cons.mpr ⟨qz_iload_n C (show decode c_X10_isA 9 = .ok (.iload_n 0, 1) by decide +kernel) rfl,
  List.forall_mem_cons.mpr ⟨qz_sI C (show decode c_X10_isA 10 = .ok (.invokestatic 328, 3) by decide +kernel) ct_X10_nextKind mv_X10_nextKind (Or.inl cw_652) (show 1 < 2 by omega),
  List.forall_mem_cons.mpr ⟨qz_iload_n C (show decode c_X10_isA 13 = .ok (.iload_n 1, 1) by decide +kernel) rfl,
  List.forall_mem_cons.mpr ⟨qz_icne C (show decode c_X10_isA 14 = .ok (.if_icmp .ne 7, 3) by decide +kernel) (by decide),
  List.forall_mem_cons.mpr ⟨qz_iconst C (show decode c_X10_isA 17 = .ok (.iconst 1, 1) by decide +kernel) (by decide +kernel),
  List.forall_mem_cons.mpr ⟨qz_goto C (show decode c_X10_isA 18 = .ok (.goto 4, 3) by decide +kernel) (by decide),
  List.forall_mem_cons.mpr ⟨qz_iconst C (show decode c_X10_isA 21 = .ok (.iconst 0, 1) by decide +kernel) (by decide +kernel),
  List.forall_mem_cons.mpr ⟨qz_zret C (show decode c_X10_isA 22 = .ok (.ireturn, 1) by decide +kernel) rfl,
  (fun q h => by cases h)⟩⟩⟩⟩⟩⟩⟩⟩⟩⟩⟩⟩⟩
theorem sd_X10_isA {G : pj_E} {A : Nat → Prop} {P : pj_P} {S : pj_U} {Z : pj_Z} (C : pj_C (G, A, (c_X10_isA, y_X10_isA.cls, 2, (some .boolean), 2), P, S, Z)) : ∀ q ∈ tb_X10_isA, pj_S (G, A, (c_X10_isA, y_X10_isA.cls, 2, (some .boolean), 2), P, S, Z) pj_eI q.1 q.2 := sd_X10_isA_0 C
set_option maxRecDepth 20000 in
theorem eq_X10_isA (x0 : Int32) (x1 : Int32) (m : pj_M) : pj_run tb_X10_isA [] 15 0 [some (.inl x0), some (.inl x1)] [] m = F_X10_isA x0 x1 m := by rfl
theorem ct_X10_isA : pj_Ct pj_eI y_X10_isA c_X10_isA 2 (some .boolean) 2 W_X10_isA := by
  refine pj_ct_of (by decide +kernel) ?_ ?_
  · intro as m r h
    unfold W_X10_isA at h
    split at h
    · simp [pj_l0]
    · cases h
  · intro G A P S Z C as m r h hR
    unfold W_X10_isA at h
    split at h
    · exact pj_run_ok (sd_X10_isA C) (fun q h => by cases h) 15 0 _ _ _ _ ((eq_X10_isA _ _ _).trans h) hR
    · cases h
/-! AlikeSteps$Steps.openArc(LAlikeSteps$Net;I)V -/
abbrev c_X7_openArc : ByteArray := prog_9_method_12_code
def y_X7_openArc : MethodName := ⟨RX7, "openArc", "(LAlikeSteps$Net;I)V"⟩
noncomputable def J_X7_openArc_52 (a0 : Nat) (a1 : Nat) (x3 : Int32) (x4 : Int32) (x5 : Int32) (m : pj_M) : Option (pj_M) := ((F_X4_kindOf a1 x4 m).bind fun q1 => ((F_X10_isA q1.1 4 q1.2).bind fun q2 => (if q2.1 = 0 then (some q2.2) else ((F_X4_kindOf a1 x5 q2.2).bind fun q3 => (if q3.1 = 3 then (some q3.2) else (if (x3 + x5) < 0 ∨ 40 ≤ (x3 + x5).toNatClampNeg then none else (if (x3 + x5) < 0 ∨ 40 ≤ (x3 + x5).toNatClampNeg then none else (some (pj_wr q3.2 (a0 + 1) (x3 + x5).toNatClampNeg ((q3.2.1 (a0 + 1) (x3 + x5).toNatClampNeg) ||| (1 <<< (x4 &&& 31))))))))))))
noncomputable def F_X7_openArc (a0 : Nat) (a1 : Nat) (x2 : Int32) (m : pj_M) : Option (pj_M) := ((F_X4_arcPart a1 x2 0 m).bind fun q1 => ((F_X4_arcPart a1 x2 1 q1.2).bind fun q2 => ((F_X4_arcPart a1 x2 2 q2.2).bind fun q3 => ((F_X4_kindOf a1 q2.1 q3.2).bind fun q4 => (if q4.1 = 3 then (J_X7_openArc_52 a0 a1 (q1.1 * 10) q2.1 q3.1 q4.2) else (if ((q1.1 * 10) + q2.1) < 0 ∨ 40 ≤ ((q1.1 * 10) + q2.1).toNatClampNeg then none else (if ((q1.1 * 10) + q2.1) < 0 ∨ 40 ≤ ((q1.1 * 10) + q2.1).toNatClampNeg then none else (J_X7_openArc_52 a0 a1 (q1.1 * 10) q2.1 q3.1 (pj_wr q4.2 (a0 + 1) ((q1.1 * 10) + q2.1).toNatClampNeg ((q4.2.1 (a0 + 1) ((q1.1 * 10) + q2.1).toNatClampNeg) ||| (1 <<< (q3.1 &&& 31))))))))))))
noncomputable def W_X7_openArc : List pj_V → pj_M → Option (pj_M) := fun as m => match as with
  | [.inr (.inr (t0, w0, a0)), .inr (.inr (t1, w1, a1)), .inl x2] => (match Nat.beq t0 0 && (Nat.beq w0 7 && (Nat.beq t1 0 && (Nat.beq w1 4))) with
    | true => F_X7_openArc a0 a1 x2 m
    | false => none)
  | _ => none
noncomputable def tb_X7_openArc_0 : List (Nat × pj_T (pj_M)) := [(0, qs_lda 1 1), (1, qs_ldi 2 2), (2, qs_ci 0 3), (3, qs_vI 4 3 W_X4_arcPart 6), (6, qs_ci 10 8), (8, qs_b2 (fun x y => x * y) 9), (9, qs_sti 3 10), (10, qs_lda 1 11), (11, qs_ldi 2 12), (12, qs_ci 1 13), (13, qs_vI 4 3 W_X4_arcPart 16), (16, qs_sti 4 18), (18, qs_lda 1 19), (19, qs_ldi 2 20), (20, qs_ci 2 21), (21, qs_vI 4 3 W_X4_arcPart 24), (24, qs_sti 5 26), (26, qs_lda 1 27), (27, qs_ldi 4 29), (29, qs_vI 4 2 W_X4_kindOf 32), (32, qs_ci 3 33), (33, qs_iceq 52 36), (36, qs_lda 0 37), (37, qs_gf 7 0 40), (40, qs_ldi 3 41), (41, qs_ldi 4 43), (43, qs_b2 (fun x y => x + y) 44), (44, qs_dup2 45), (45, qs_iald 46), (46, qs_ci 1 47), (47, qs_ldi 5 49), (49, qs_b2 (fun x y => x <<< (y &&& 31)) 50), (50, qs_b2 (fun x y => x ||| y) 51), (51, qs_iast 52), (52, qs_lda 1 53), (53, qs_ldi 4 55), (55, qs_vI 4 2 W_X4_kindOf 58), (58, qs_ci 4 59), (59, qs_sI 2 W_X10_isA 62), (62, qs_ifeq 91 65)]
noncomputable def tb_X7_openArc_1 : List (Nat × pj_T (pj_M)) := [(65, qs_lda 1 66), (66, qs_ldi 5 68), (68, qs_vI 4 2 W_X4_kindOf 71), (71, qs_ci 3 72), (72, qs_iceq 91 75), (75, qs_lda 0 76), (76, qs_gf 7 0 79), (79, qs_ldi 3 80), (80, qs_ldi 5 82), (82, qs_b2 (fun x y => x + y) 83), (83, qs_dup2 84), (84, qs_iald 85), (85, qs_ci 1 86), (86, qs_ldi 4 88), (88, qs_b2 (fun x y => x <<< (y &&& 31)) 89), (89, qs_b2 (fun x y => x ||| y) 90), (90, qs_iast 91), (91, qs_vret)]
noncomputable def tb_X7_openArc : List (Nat × pj_T (pj_M)) := tb_X7_openArc_0 ++ (tb_X7_openArc_1)
theorem mv_X7_openArc : pj_mv y_X7_openArc c_X7_openArc 6 none 2 := ⟨⟨cw_646, cw_645, cw_11, cw_87⟩, by decide +kernel, by decide⟩
set_option maxRecDepth 20000 in
theorem sd_X7_openArc_0 {G : pj_E} {A : Nat → Prop} {P : pj_P} {S : pj_U} {Z : pj_Z} (C : pj_C (G, A, (c_X7_openArc, y_X7_openArc.cls, 6, none, 3), P, S, Z)) : ∀ q ∈ tb_X7_openArc_0, pj_S (G, A, (c_X7_openArc, y_X7_openArc.cls, 6, none, 3), P, S, Z) pj_eV q.1 q.2 :=
  List.forall_mem_cons.mpr ⟨qz_aload_n C (show decode c_X7_openArc 0 = .ok (.aload_n 1, 1) by decide +kernel) rfl,
  List.forall_mem_cons.mpr ⟨qz_iload_n C (show decode c_X7_openArc 1 = .ok (.iload_n 2, 1) by decide +kernel) rfl,
  List.forall_mem_cons.mpr ⟨qz_iconst C (show decode c_X7_openArc 2 = .ok (.iconst 0, 1) by decide +kernel) (by decide +kernel),
  List.forall_mem_cons.mpr ⟨qz_vI C (show decode c_X7_openArc 3 = .ok (.invokevirtual 72, 3) by decide +kernel) ct_X4_arcPart mv_X4_arcPart cw_647 vcX4 (show 1 < 3 by omega),
  List.forall_mem_cons.mpr ⟨qz_bipush C (show decode c_X7_openArc 6 = .ok (.bipush 10, 2) by decide +kernel) (by decide +kernel),
  List.forall_mem_cons.mpr ⟨qz_imul C (show decode c_X7_openArc 8 = .ok (.imul, 1) by decide +kernel),
  List.forall_mem_cons.mpr ⟨qz_istore_n C (show decode c_X7_openArc 9 = .ok (.istore_n 3, 1) by decide +kernel) rfl,
  List.forall_mem_cons.mpr ⟨qz_aload_n C (show decode c_X7_openArc 10 = .ok (.aload_n 1, 1) by decide +kernel) rfl,
  List.forall_mem_cons.mpr ⟨qz_iload_n C (show decode c_X7_openArc 11 = .ok (.iload_n 2, 1) by decide +kernel) rfl,
  List.forall_mem_cons.mpr ⟨qz_iconst C (show decode c_X7_openArc 12 = .ok (.iconst 1, 1) by decide +kernel) (by decide +kernel),
  List.forall_mem_cons.mpr ⟨qz_vI C (show decode c_X7_openArc 13 = .ok (.invokevirtual 72, 3) by decide +kernel) ct_X4_arcPart mv_X4_arcPart cw_647 vcX4 (show 1 < 3 by omega),
  List.forall_mem_cons.mpr ⟨qz_istore C (show decode c_X7_openArc 16 = .ok (.istore 4, 2) by decide +kernel),
  List.forall_mem_cons.mpr ⟨qz_aload_n C (show decode c_X7_openArc 18 = .ok (.aload_n 1, 1) by decide +kernel) rfl,
  List.forall_mem_cons.mpr ⟨qz_iload_n C (show decode c_X7_openArc 19 = .ok (.iload_n 2, 1) by decide +kernel) rfl,
  List.forall_mem_cons.mpr ⟨qz_iconst C (show decode c_X7_openArc 20 = .ok (.iconst 2, 1) by decide +kernel) (by decide +kernel),
  List.forall_mem_cons.mpr ⟨qz_vI C (show decode c_X7_openArc 21 = .ok (.invokevirtual 72, 3) by decide +kernel) ct_X4_arcPart mv_X4_arcPart cw_647 vcX4 (show 1 < 3 by omega),
  List.forall_mem_cons.mpr ⟨qz_istore C (show decode c_X7_openArc 24 = .ok (.istore 5, 2) by decide +kernel),
  List.forall_mem_cons.mpr ⟨qz_aload_n C (show decode c_X7_openArc 26 = .ok (.aload_n 1, 1) by decide +kernel) rfl,
  List.forall_mem_cons.mpr ⟨qz_iload C (show decode c_X7_openArc 27 = .ok (.iload 4, 2) by decide +kernel),
  List.forall_mem_cons.mpr ⟨qz_vI C (show decode c_X7_openArc 29 = .ok (.invokevirtual 75, 3) by decide +kernel) ct_X4_kindOf mv_X4_kindOf cw_648 vcX4 (show 1 < 3 by omega),
  List.forall_mem_cons.mpr ⟨qz_iconst C (show decode c_X7_openArc 32 = .ok (.iconst 3, 1) by decide +kernel) (by decide +kernel),
  List.forall_mem_cons.mpr ⟨qz_iceq C (show decode c_X7_openArc 33 = .ok (.if_icmp .eq 19, 3) by decide +kernel) (by decide),
  List.forall_mem_cons.mpr ⟨qz_aload_n C (show decode c_X7_openArc 36 = .ok (.aload_n 0, 1) by decide +kernel) rfl,
  List.forall_mem_cons.mpr ⟨qz_gf (k := 0) C (show decode c_X7_openArc 37 = .ok (.getfield 9, 3) by decide +kernel) vcX7 wiX7 (by decide) cw_185,
  List.forall_mem_cons.mpr ⟨qz_iload_n C (show decode c_X7_openArc 40 = .ok (.iload_n 3, 1) by decide +kernel) rfl,
  List.forall_mem_cons.mpr ⟨qz_iload C (show decode c_X7_openArc 41 = .ok (.iload 4, 2) by decide +kernel),
  List.forall_mem_cons.mpr ⟨qz_iadd C (show decode c_X7_openArc 43 = .ok (.iadd, 1) by decide +kernel),
  List.forall_mem_cons.mpr ⟨qz_dup2 C (show decode c_X7_openArc 44 = .ok (.dup2, 1) by decide +kernel),
  List.forall_mem_cons.mpr ⟨qz_iald C (show decode c_X7_openArc 45 = .ok (.iaload, 1) by decide +kernel),
  List.forall_mem_cons.mpr ⟨qz_iconst C (show decode c_X7_openArc 46 = .ok (.iconst 1, 1) by decide +kernel) (by decide +kernel),
  List.forall_mem_cons.mpr ⟨qz_iload C (show decode c_X7_openArc 47 = .ok (.iload 5, 2) by decide +kernel),
  List.forall_mem_cons.mpr ⟨qz_ishl C (show decode c_X7_openArc 49 = .ok (.ishl, 1) by decide +kernel),
  List.forall_mem_cons.mpr ⟨qz_ior C (show decode c_X7_openArc 50 = .ok (.ior, 1) by decide +kernel),
  List.forall_mem_cons.mpr ⟨qz_iast C (show decode c_X7_openArc 51 = .ok (.iastore, 1) by decide +kernel),
  List.forall_mem_cons.mpr ⟨qz_aload_n C (show decode c_X7_openArc 52 = .ok (.aload_n 1, 1) by decide +kernel) rfl,
  List.forall_mem_cons.mpr ⟨qz_iload C (show decode c_X7_openArc 53 = .ok (.iload 4, 2) by decide +kernel),
  List.forall_mem_cons.mpr ⟨qz_vI C (show decode c_X7_openArc 55 = .ok (.invokevirtual 75, 3) by decide +kernel) ct_X4_kindOf mv_X4_kindOf cw_648 vcX4 (show 1 < 3 by omega),
  List.forall_mem_cons.mpr ⟨qz_iconst C (show decode c_X7_openArc 58 = .ok (.iconst 4, 1) by decide +kernel) (by decide +kernel),
  List.forall_mem_cons.mpr ⟨qz_sI C (show decode c_X7_openArc 59 = .ok (.invokestatic 78, 3) by decide +kernel) ct_X10_isA mv_X10_isA (Or.inr ⟨rfl, rfl⟩) (show 2 < 3 by omega),
  List.forall_mem_cons.mpr ⟨qz_ifeq C (show decode c_X7_openArc 62 = .ok (.ifCond .eq 29, 3) by decide +kernel) (by decide),
  (fun q h => by cases h)⟩⟩⟩⟩⟩⟩⟩⟩⟩⟩⟩⟩⟩⟩⟩⟩⟩⟩⟩⟩⟩⟩⟩⟩⟩⟩⟩⟩⟩⟩⟩⟩⟩⟩⟩⟩⟩⟩⟩⟩
set_option maxRecDepth 20000 in
theorem sd_X7_openArc_1 {G : pj_E} {A : Nat → Prop} {P : pj_P} {S : pj_U} {Z : pj_Z} (C : pj_C (G, A, (c_X7_openArc, y_X7_openArc.cls, 6, none, 3), P, S, Z)) : ∀ q ∈ tb_X7_openArc_1, pj_S (G, A, (c_X7_openArc, y_X7_openArc.cls, 6, none, 3), P, S, Z) pj_eV q.1 q.2 :=
  List.forall_mem_cons.mpr ⟨qz_aload_n C (show decode c_X7_openArc 65 = .ok (.aload_n 1, 1) by decide +kernel) rfl,
  List.forall_mem_cons.mpr ⟨qz_iload C (show decode c_X7_openArc 66 = .ok (.iload 5, 2) by decide +kernel),
  List.forall_mem_cons.mpr ⟨qz_vI C (show decode c_X7_openArc 68 = .ok (.invokevirtual 75, 3) by decide +kernel) ct_X4_kindOf mv_X4_kindOf cw_648 vcX4 (show 1 < 3 by omega),
  List.forall_mem_cons.mpr ⟨qz_iconst C (show decode c_X7_openArc 71 = .ok (.iconst 3, 1) by decide +kernel) (by decide +kernel),
  List.forall_mem_cons.mpr ⟨qz_iceq C (show decode c_X7_openArc 72 = .ok (.if_icmp .eq 19, 3) by decide +kernel) (by decide),
  List.forall_mem_cons.mpr ⟨qz_aload_n C (show decode c_X7_openArc 75 = .ok (.aload_n 0, 1) by decide +kernel) rfl,
  List.forall_mem_cons.mpr ⟨qz_gf (k := 0) C (show decode c_X7_openArc 76 = .ok (.getfield 9, 3) by decide +kernel) vcX7 wiX7 (by decide) cw_185,
  List.forall_mem_cons.mpr ⟨qz_iload_n C (show decode c_X7_openArc 79 = .ok (.iload_n 3, 1) by decide +kernel) rfl,
  List.forall_mem_cons.mpr ⟨qz_iload C (show decode c_X7_openArc 80 = .ok (.iload 5, 2) by decide +kernel),
  List.forall_mem_cons.mpr ⟨qz_iadd C (show decode c_X7_openArc 82 = .ok (.iadd, 1) by decide +kernel),
  List.forall_mem_cons.mpr ⟨qz_dup2 C (show decode c_X7_openArc 83 = .ok (.dup2, 1) by decide +kernel),
  List.forall_mem_cons.mpr ⟨qz_iald C (show decode c_X7_openArc 84 = .ok (.iaload, 1) by decide +kernel),
  List.forall_mem_cons.mpr ⟨qz_iconst C (show decode c_X7_openArc 85 = .ok (.iconst 1, 1) by decide +kernel) (by decide +kernel),
  List.forall_mem_cons.mpr ⟨qz_iload C (show decode c_X7_openArc 86 = .ok (.iload 4, 2) by decide +kernel),
  List.forall_mem_cons.mpr ⟨qz_ishl C (show decode c_X7_openArc 88 = .ok (.ishl, 1) by decide +kernel),
  List.forall_mem_cons.mpr ⟨qz_ior C (show decode c_X7_openArc 89 = .ok (.ior, 1) by decide +kernel),
  List.forall_mem_cons.mpr ⟨qz_iast C (show decode c_X7_openArc 90 = .ok (.iastore, 1) by decide +kernel),
  List.forall_mem_cons.mpr ⟨qz_vret C (show decode c_X7_openArc 91 = .ok (.return_, 1) by decide +kernel) rfl,
  (fun q h => by cases h)⟩⟩⟩⟩⟩⟩⟩⟩⟩⟩⟩⟩⟩⟩⟩⟩⟩⟩
theorem sd_X7_openArc {G : pj_E} {A : Nat → Prop} {P : pj_P} {S : pj_U} {Z : pj_Z} (C : pj_C (G, A, (c_X7_openArc, y_X7_openArc.cls, 6, none, 3), P, S, Z)) : ∀ q ∈ tb_X7_openArc, pj_S (G, A, (c_X7_openArc, y_X7_openArc.cls, 6, none, 3), P, S, Z) pj_eV q.1 q.2 := List.forall_mem_append.mpr ⟨sd_X7_openArc_0 C, sd_X7_openArc_1 C⟩
noncomputable def C_X7_openArc_52 (f : Nat → Nat → Int32 → Int32 → Int32 → pj_M → Option (pj_M)) : pj_N (pj_M) := fun L st m => match L, st with
  | [some (.inr (.inr (t0, w0, a0))), some (.inr (.inr (t1, w1, a1))), _, some (.inl x3), some (.inl x4), some (.inl x5)], [] => (match Nat.beq t0 0 && (Nat.beq w0 7 && (Nat.beq t1 0 && (Nat.beq w1 4))) with
    | true => f a0 a1 x3 x4 x5 m
    | false => none)
  | _, _ => none
set_option maxRecDepth 20000 in
theorem eq_X7_openArc_52 (a0 : Nat) (a1 : Nat) (x3 : Int32) (x4 : Int32) (x5 : Int32) (d2 : Option pj_V) (m : pj_M) : pj_run tb_X7_openArc [] 60 52 [some (.inr (.inr (0, 7, a0))), some (.inr (.inr (0, 4, a1))), d2, some (.inl x3), some (.inl x4), some (.inl x5)] [] m = J_X7_openArc_52 a0 a1 x3 x4 x5 m := by rfl
theorem sg_X7_openArc_52 {G : pj_E} {A : Nat → Prop} {P : pj_P} {S : pj_U} {Z : pj_Z} (C : pj_C (G, A, (c_X7_openArc, y_X7_openArc.cls, 6, none, 3), P, S, Z)) : pj_G (G, A, (c_X7_openArc, y_X7_openArc.cls, 6, none, 3), P, S, Z) pj_eV 52 (C_X7_openArc_52 (J_X7_openArc_52)) := by
  intro L st m r h hR
  unfold C_X7_openArc_52 at h
  split at h
  · split at h
    · rename_i hbq
      simp only [Bool.and_eq_true, Nat.beq_eq] at hbq
      obtain ⟨rfl, rfl, rfl, rfl⟩ := hbq
      exact pj_run_ok (sd_X7_openArc C) (fun q h => by cases h) 60 52 _ _ _ _ ((eq_X7_openArc_52 _ _ _ _ _ _ _).trans h) hR
    · cases h
  · cases h
set_option maxRecDepth 20000 in
theorem eq_X7_openArc (a0 : Nat) (a1 : Nat) (x2 : Int32) (m : pj_M) : pj_run tb_X7_openArc [(52, C_X7_openArc_52 (J_X7_openArc_52 ))] 60 0 [some (.inr (.inr (0, 7, a0))), some (.inr (.inr (0, 4, a1))), some (.inl x2), none, none, none] [] m = F_X7_openArc a0 a1 x2 m := by rfl
theorem ct_X7_openArc : pj_Ct pj_eV y_X7_openArc c_X7_openArc 6 none 3 W_X7_openArc := by
  refine pj_ct_of (by decide +kernel) ?_ ?_
  · intro as m r h
    unfold W_X7_openArc at h
    split at h
    · simp [pj_l0]
    · cases h
  · intro G A P S Z C as m r h hR
    unfold W_X7_openArc at h
    split at h
    · split at h
      · rename_i hbq
        simp only [Bool.and_eq_true, Nat.beq_eq] at hbq
        obtain ⟨rfl, rfl, rfl, rfl⟩ := hbq
        exact pj_run_ok (sd_X7_openArc C) (List.forall_mem_cons.mpr ⟨sg_X7_openArc_52 C , fun q h => by cases h⟩) 60 0 _ _ _ _ ((eq_X7_openArc _ _ _ _).trans h) hR
      · cases h
    · cases h
/-! AlikeSteps$Steps.union([III)I -/
abbrev c_X7_union : ByteArray := prog_9_method_16_code
def y_X7_union : MethodName := ⟨RX7, "union", "([III)I"⟩
noncomputable def H_X7_union_5 : Nat → Nat → Nat → Int32 → Int32 → Int32 → Int32 → pj_M → Option (Int32 × pj_M)
  | 0, _, _, _, _, _, _, _ => none
  | n1 + 1, n0, a0, x1, x2, x3, x4, m => (if x4 < 10 then (if (x2 >>> (x4 &&& 31)) = 0 then (some (x3, m)) else (if ((x2 >>> (x4 &&& 31)) &&& 1) = 0 then (H_X7_union_5 n1 n0 a0 x1 x2 x3 (x4 + 1) m) else (if ((x1 * 10) + x4) < 0 ∨ n0 ≤ ((x1 * 10) + x4).toNatClampNeg then none else (H_X7_union_5 n1 n0 a0 x1 x2 (x3 ||| (m.1 a0 ((x1 * 10) + x4).toNatClampNeg)) (x4 + 1) m)))) else (some (x3, m)))
noncomputable def F_X7_union (n0 : Nat) (a0 : Nat) (x1 : Int32) (x2 : Int32) (m : pj_M) : Option (Int32 × pj_M) := (H_X7_union_5 pj_z n0 a0 x1 x2 0 0 m)
noncomputable def W_X7_union : List pj_V → pj_M → Option (Int32 × pj_M) := fun as m => match as with
  | [.inr (.inr (t0, n0, a0)), .inl x1, .inl x2] => (match Nat.beq t0 1 with
    | true => F_X7_union n0 a0 x1 x2 m
    | false => none)
  | _ => none
noncomputable def tb_X7_union_0 : List (Nat × pj_T (Int32 × pj_M)) := [(0, qs_ci 0 1), (1, qs_sti 3 2), (2, qs_ci 0 3), (3, qs_sti 4 5), (5, qs_ldi 4 7), (7, qs_ci 10 9), (9, qs_icge 46 12), (12, qs_ldi 2 13), (13, qs_ldi 4 15), (15, qs_b2 (fun x y => x >>> (y &&& 31)) 16), (16, qs_ifeq 46 19), (19, qs_ldi 2 20), (20, qs_ldi 4 22), (22, qs_b2 (fun x y => x >>> (y &&& 31)) 23), (23, qs_ci 1 24), (24, qs_b2 (fun x y => x &&& y) 25), (25, qs_ifeq 40 28), (28, qs_ldi 3 29), (29, qs_lda 0 30), (30, qs_ldi 1 31), (31, qs_ci 10 33), (33, qs_b2 (fun x y => x * y) 34), (34, qs_ldi 4 36), (36, qs_b2 (fun x y => x + y) 37), (37, qs_iald 38), (38, qs_b2 (fun x y => x ||| y) 39), (39, qs_sti 3 40), (40, qs_inc 4 1 43), (43, qs_go 5), (46, qs_ldi 3 47), (47, qs_iret)]
noncomputable abbrev tb_X7_union : List (Nat × pj_T (Int32 × pj_M)) := tb_X7_union_0
theorem mv_X7_union : pj_ms y_X7_union c_X7_union 5 (some .int) 3 := ⟨⟨cw_665, cw_664, cw_87⟩, by decide +kernel, by decide⟩
set_option maxRecDepth 20000 in
theorem sd_X7_union_0 {G : pj_E} {A : Nat → Prop} {P : pj_P} {S : pj_U} {Z : pj_Z} (C : pj_C (G, A, (c_X7_union, y_X7_union.cls, 5, (some .int), 1), P, S, Z)) : ∀ q ∈ tb_X7_union_0, pj_S (G, A, (c_X7_union, y_X7_union.cls, 5, (some .int), 1), P, S, Z) pj_eI q.1 q.2 :=
  List.forall_mem_cons.mpr ⟨qz_iconst C (show decode c_X7_union 0 = .ok (.iconst 0, 1) by decide +kernel) (by decide +kernel),
  List.forall_mem_cons.mpr ⟨qz_istore_n C (show decode c_X7_union 1 = .ok (.istore_n 3, 1) by decide +kernel) rfl,
  List.forall_mem_cons.mpr ⟨qz_iconst C (show decode c_X7_union 2 = .ok (.iconst 0, 1) by decide +kernel) (by decide +kernel),
  List.forall_mem_cons.mpr ⟨qz_istore C (show decode c_X7_union 3 = .ok (.istore 4, 2) by decide +kernel),
  List.forall_mem_cons.mpr ⟨qz_iload C (show decode c_X7_union 5 = .ok (.iload 4, 2) by decide +kernel),
  List.forall_mem_cons.mpr ⟨qz_bipush C (show decode c_X7_union 7 = .ok (.bipush 10, 2) by decide +kernel) (by decide +kernel),
  List.forall_mem_cons.mpr ⟨qz_icge C (show decode c_X7_union 9 = .ok (.if_icmp .ge 37, 3) by decide +kernel) (by decide),
  List.forall_mem_cons.mpr ⟨qz_iload_n C (show decode c_X7_union 12 = .ok (.iload_n 2, 1) by decide +kernel) rfl,
  List.forall_mem_cons.mpr ⟨qz_iload C (show decode c_X7_union 13 = .ok (.iload 4, 2) by decide +kernel),
  List.forall_mem_cons.mpr ⟨qz_ishr C (show decode c_X7_union 15 = .ok (.ishr, 1) by decide +kernel),
  List.forall_mem_cons.mpr ⟨qz_ifeq C (show decode c_X7_union 16 = .ok (.ifCond .eq 30, 3) by decide +kernel) (by decide),
  List.forall_mem_cons.mpr ⟨qz_iload_n C (show decode c_X7_union 19 = .ok (.iload_n 2, 1) by decide +kernel) rfl,
  List.forall_mem_cons.mpr ⟨qz_iload C (show decode c_X7_union 20 = .ok (.iload 4, 2) by decide +kernel),
  List.forall_mem_cons.mpr ⟨qz_ishr C (show decode c_X7_union 22 = .ok (.ishr, 1) by decide +kernel),
  List.forall_mem_cons.mpr ⟨qz_iconst C (show decode c_X7_union 23 = .ok (.iconst 1, 1) by decide +kernel) (by decide +kernel),
  List.forall_mem_cons.mpr ⟨qz_iand C (show decode c_X7_union 24 = .ok (.iand, 1) by decide +kernel),
  List.forall_mem_cons.mpr ⟨qz_ifeq C (show decode c_X7_union 25 = .ok (.ifCond .eq 15, 3) by decide +kernel) (by decide),
  List.forall_mem_cons.mpr ⟨qz_iload_n C (show decode c_X7_union 28 = .ok (.iload_n 3, 1) by decide +kernel) rfl,
  List.forall_mem_cons.mpr ⟨qz_aload_n C (show decode c_X7_union 29 = .ok (.aload_n 0, 1) by decide +kernel) rfl,
  List.forall_mem_cons.mpr ⟨qz_iload_n C (show decode c_X7_union 30 = .ok (.iload_n 1, 1) by decide +kernel) rfl,
  List.forall_mem_cons.mpr ⟨qz_bipush C (show decode c_X7_union 31 = .ok (.bipush 10, 2) by decide +kernel) (by decide +kernel),
  List.forall_mem_cons.mpr ⟨qz_imul C (show decode c_X7_union 33 = .ok (.imul, 1) by decide +kernel),
  List.forall_mem_cons.mpr ⟨qz_iload C (show decode c_X7_union 34 = .ok (.iload 4, 2) by decide +kernel),
  List.forall_mem_cons.mpr ⟨qz_iadd C (show decode c_X7_union 36 = .ok (.iadd, 1) by decide +kernel),
  List.forall_mem_cons.mpr ⟨qz_iald C (show decode c_X7_union 37 = .ok (.iaload, 1) by decide +kernel),
  List.forall_mem_cons.mpr ⟨qz_ior C (show decode c_X7_union 38 = .ok (.ior, 1) by decide +kernel),
  List.forall_mem_cons.mpr ⟨qz_istore_n C (show decode c_X7_union 39 = .ok (.istore_n 3, 1) by decide +kernel) rfl,
  List.forall_mem_cons.mpr ⟨qz_iinc C (show decode c_X7_union 40 = .ok (.iinc 4 1, 3) by decide +kernel) (by decide +kernel),
  List.forall_mem_cons.mpr ⟨qz_goto C (show decode c_X7_union 43 = .ok (.goto (-38), 3) by decide +kernel) (by decide),
  List.forall_mem_cons.mpr ⟨qz_iload_n C (show decode c_X7_union 46 = .ok (.iload_n 3, 1) by decide +kernel) rfl,
  List.forall_mem_cons.mpr ⟨qz_iret C (show decode c_X7_union 47 = .ok (.ireturn, 1) by decide +kernel) rfl,
  (fun q h => by cases h)⟩⟩⟩⟩⟩⟩⟩⟩⟩⟩⟩⟩⟩⟩⟩⟩⟩⟩⟩⟩⟩⟩⟩⟩⟩⟩⟩⟩⟩⟩⟩
theorem sd_X7_union {G : pj_E} {A : Nat → Prop} {P : pj_P} {S : pj_U} {Z : pj_Z} (C : pj_C (G, A, (c_X7_union, y_X7_union.cls, 5, (some .int), 1), P, S, Z)) : ∀ q ∈ tb_X7_union, pj_S (G, A, (c_X7_union, y_X7_union.cls, 5, (some .int), 1), P, S, Z) pj_eI q.1 q.2 := sd_X7_union_0 C
noncomputable def C_X7_union_5 (f : Nat → Nat → Int32 → Int32 → Int32 → Int32 → pj_M → Option (Int32 × pj_M)) : pj_N (Int32 × pj_M) := fun L st m => match L, st with
  | [some (.inr (.inr (t0, n0, a0))), some (.inl x1), some (.inl x2), some (.inl x3), some (.inl x4)], [] => (match Nat.beq t0 1 with
    | true => f n0 a0 x1 x2 x3 x4 m
    | false => none)
  | _, _ => none
set_option maxRecDepth 20000 in
theorem eq_X7_union_5 (n1 : Nat) (n0 : Nat) (a0 : Nat) (x1 : Int32) (x2 : Int32) (x3 : Int32) (x4 : Int32) (m : pj_M) : pj_run tb_X7_union [(5, C_X7_union_5 (H_X7_union_5 n1))] 33 5 [some (.inr (.inr (1, n0, a0))), some (.inl x1), some (.inl x2), some (.inl x3), some (.inl x4)] [] m = H_X7_union_5 (n1 + 1) n0 a0 x1 x2 x3 x4 m := by rfl
theorem sg_X7_union_5 {G : pj_E} {A : Nat → Prop} {P : pj_P} {S : pj_U} {Z : pj_Z} (C : pj_C (G, A, (c_X7_union, y_X7_union.cls, 5, (some .int), 1), P, S, Z)) : ∀ n1, pj_G (G, A, (c_X7_union, y_X7_union.cls, 5, (some .int), 1), P, S, Z) pj_eI 5 (C_X7_union_5 (H_X7_union_5 n1)) := by
  intro n1
  induction n1 with
  | zero =>
    intro L st m r h hR
    unfold C_X7_union_5 at h
    split at h
    · split at h
      · cases h
      · cases h
    · cases h
  | succ n1 ih1 =>
    intro L st m r h hR
    unfold C_X7_union_5 at h
    split at h
    · split at h
      · rename_i hbq
        simp only [Bool.and_eq_true, Nat.beq_eq] at hbq
        subst hbq
        exact pj_run_ok (sd_X7_union C) (List.forall_mem_cons.mpr ⟨ih1, fun q h => by cases h⟩) 33 5 _ _ _ _ ((eq_X7_union_5 _ _ _ _ _ _ _ _).trans h) hR
      · cases h
    · cases h
set_option maxRecDepth 20000 in
theorem eq_X7_union (n0 : Nat) (a0 : Nat) (x1 : Int32) (x2 : Int32) (m : pj_M) : pj_run tb_X7_union [(5, C_X7_union_5 (H_X7_union_5  pj_z))] 33 0 [some (.inr (.inr (1, n0, a0))), some (.inl x1), some (.inl x2), none, none] [] m = F_X7_union n0 a0 x1 x2 m := by rfl
theorem ct_X7_union : pj_Ct pj_eI y_X7_union c_X7_union 5 (some .int) 1 W_X7_union := by
  refine pj_ct_of (by decide +kernel) ?_ ?_
  · intro as m r h
    unfold W_X7_union at h
    split at h
    · simp [pj_l0]
    · cases h
  · intro G A P S Z C as m r h hR
    unfold W_X7_union at h
    split at h
    · split at h
      · rename_i hbq
        simp only [Bool.and_eq_true, Nat.beq_eq] at hbq
        subst hbq
        exact pj_run_ok (sd_X7_union C) (List.forall_mem_cons.mpr ⟨sg_X7_union_5 C  pj_z, fun q h => by cases h⟩) 33 0 _ _ _ _ ((eq_X7_union _ _ _ _ _).trans h) hR
      · cases h
    · cases h
/-! AlikeSteps$Steps.silentlyWithin(II)I -/
abbrev c_X7_silentlyWithin : ByteArray := prog_9_method_6_code
def y_X7_silentlyWithin : MethodName := ⟨RX7, "silentlyWithin", "(II)I"⟩
noncomputable def H_X7_silentlyWithin_7 : Nat → Nat → Int32 → Int32 → Int32 → pj_M → Option (Int32 × pj_M)
  | 0, _, _, _, _, _ => none
  | n1 + 1, a0, x2, x3, x4, m => (if x4 < 10 then ((F_X7_union 40 (a0 + 1) 0 x3 m).bind fun q1 => (if (x3 ||| (q1.1 &&& x2)) = x3 then (some (x3, q1.2)) else (H_X7_silentlyWithin_7 n1 a0 x2 (x3 ||| (q1.1 &&& x2)) (x4 + 1) q1.2))) else (some (x3, m)))
noncomputable def F_X7_silentlyWithin (a0 : Nat) (x1 : Int32) (x2 : Int32) (m : pj_M) : Option (Int32 × pj_M) := (H_X7_silentlyWithin_7 pj_z a0 x2 (1 <<< (x1 &&& 31)) 0 m)
noncomputable def W_X7_silentlyWithin : List pj_V → pj_M → Option (Int32 × pj_M) := fun as m => match as with
  | [.inr (.inr (t0, w0, a0)), .inl x1, .inl x2] => (match Nat.beq t0 0 && (Nat.beq w0 7) with
    | true => F_X7_silentlyWithin a0 x1 x2 m
    | false => none)
  | _ => none
noncomputable def tb_X7_silentlyWithin_0 : List (Nat × pj_T (Int32 × pj_M)) := [(0, qs_ci 1 1), (1, qs_ldi 1 2), (2, qs_b2 (fun x y => x <<< (y &&& 31)) 3), (3, qs_sti 3 4), (4, qs_ci 0 5), (5, qs_sti 4 7), (7, qs_ldi 4 9), (9, qs_ci 10 11), (11, qs_icge 47 14), (14, qs_ldi 3 15), (15, qs_lda 0 16), (16, qs_gf 7 0 19), (19, qs_ci 0 20), (20, qs_ldi 3 21), (21, qs_sI 3 W_X7_union 24), (24, qs_ldi 2 25), (25, qs_b2 (fun x y => x &&& y) 26), (26, qs_b2 (fun x y => x ||| y) 27), (27, qs_sti 5 29), (29, qs_ldi 5 31), (31, qs_ldi 3 32), (32, qs_icne 38 35), (35, qs_go 47), (38, qs_ldi 5 40), (40, qs_sti 3 41), (41, qs_inc 4 1 44), (44, qs_go 7), (47, qs_ldi 3 48), (48, qs_iret)]
noncomputable abbrev tb_X7_silentlyWithin : List (Nat × pj_T (Int32 × pj_M)) := tb_X7_silentlyWithin_0
theorem mv_X7_silentlyWithin : pj_mv y_X7_silentlyWithin c_X7_silentlyWithin 6 (some .int) 2 := ⟨⟨cw_662, cw_660, cw_661, cw_87⟩, by decide +kernel, by decide⟩
set_option maxRecDepth 20000 in
theorem sd_X7_silentlyWithin_0 {G : pj_E} {A : Nat → Prop} {P : pj_P} {S : pj_U} {Z : pj_Z} (C : pj_C (G, A, (c_X7_silentlyWithin, y_X7_silentlyWithin.cls, 6, (some .int), 2), P, S, Z)) : ∀ q ∈ tb_X7_silentlyWithin_0, pj_S (G, A, (c_X7_silentlyWithin, y_X7_silentlyWithin.cls, 6, (some .int), 2), P, S, Z) pj_eI q.1 q.2 :=
  List.forall_mem_cons.mpr ⟨qz_iconst C (show decode c_X7_silentlyWithin 0 = .ok (.iconst 1, 1) by decide +kernel) (by decide +kernel),
  List.forall_mem_cons.mpr ⟨qz_iload_n C (show decode c_X7_silentlyWithin 1 = .ok (.iload_n 1, 1) by decide +kernel) rfl,
  List.forall_mem_cons.mpr ⟨qz_ishl C (show decode c_X7_silentlyWithin 2 = .ok (.ishl, 1) by decide +kernel),
  List.forall_mem_cons.mpr ⟨qz_istore_n C (show decode c_X7_silentlyWithin 3 = .ok (.istore_n 3, 1) by decide +kernel) rfl,
  List.forall_mem_cons.mpr ⟨qz_iconst C (show decode c_X7_silentlyWithin 4 = .ok (.iconst 0, 1) by decide +kernel) (by decide +kernel),
  List.forall_mem_cons.mpr ⟨qz_istore C (show decode c_X7_silentlyWithin 5 = .ok (.istore 4, 2) by decide +kernel),
  List.forall_mem_cons.mpr ⟨qz_iload C (show decode c_X7_silentlyWithin 7 = .ok (.iload 4, 2) by decide +kernel),
  List.forall_mem_cons.mpr ⟨qz_bipush C (show decode c_X7_silentlyWithin 9 = .ok (.bipush 10, 2) by decide +kernel) (by decide +kernel),
  List.forall_mem_cons.mpr ⟨qz_icge C (show decode c_X7_silentlyWithin 11 = .ok (.if_icmp .ge 36, 3) by decide +kernel) (by decide),
  List.forall_mem_cons.mpr ⟨qz_iload_n C (show decode c_X7_silentlyWithin 14 = .ok (.iload_n 3, 1) by decide +kernel) rfl,
  List.forall_mem_cons.mpr ⟨qz_aload_n C (show decode c_X7_silentlyWithin 15 = .ok (.aload_n 0, 1) by decide +kernel) rfl,
  List.forall_mem_cons.mpr ⟨qz_gf (k := 0) C (show decode c_X7_silentlyWithin 16 = .ok (.getfield 9, 3) by decide +kernel) vcX7 wiX7 (by decide) cw_185,
  List.forall_mem_cons.mpr ⟨qz_iconst C (show decode c_X7_silentlyWithin 19 = .ok (.iconst 0, 1) by decide +kernel) (by decide +kernel),
  List.forall_mem_cons.mpr ⟨qz_iload_n C (show decode c_X7_silentlyWithin 20 = .ok (.iload_n 3, 1) by decide +kernel) rfl,
  List.forall_mem_cons.mpr ⟨qz_sI C (show decode c_X7_silentlyWithin 21 = .ok (.invokestatic 45, 3) by decide +kernel) ct_X7_union mv_X7_union (Or.inl cw_663) (show 1 < 2 by omega),
  List.forall_mem_cons.mpr ⟨qz_iload_n C (show decode c_X7_silentlyWithin 24 = .ok (.iload_n 2, 1) by decide +kernel) rfl,
  List.forall_mem_cons.mpr ⟨qz_iand C (show decode c_X7_silentlyWithin 25 = .ok (.iand, 1) by decide +kernel),
  List.forall_mem_cons.mpr ⟨qz_ior C (show decode c_X7_silentlyWithin 26 = .ok (.ior, 1) by decide +kernel),
  List.forall_mem_cons.mpr ⟨qz_istore C (show decode c_X7_silentlyWithin 27 = .ok (.istore 5, 2) by decide +kernel),
  List.forall_mem_cons.mpr ⟨qz_iload C (show decode c_X7_silentlyWithin 29 = .ok (.iload 5, 2) by decide +kernel),
  List.forall_mem_cons.mpr ⟨qz_iload_n C (show decode c_X7_silentlyWithin 31 = .ok (.iload_n 3, 1) by decide +kernel) rfl,
  List.forall_mem_cons.mpr ⟨qz_icne C (show decode c_X7_silentlyWithin 32 = .ok (.if_icmp .ne 6, 3) by decide +kernel) (by decide),
  List.forall_mem_cons.mpr ⟨qz_goto C (show decode c_X7_silentlyWithin 35 = .ok (.goto 12, 3) by decide +kernel) (by decide),
  List.forall_mem_cons.mpr ⟨qz_iload C (show decode c_X7_silentlyWithin 38 = .ok (.iload 5, 2) by decide +kernel),
  List.forall_mem_cons.mpr ⟨qz_istore_n C (show decode c_X7_silentlyWithin 40 = .ok (.istore_n 3, 1) by decide +kernel) rfl,
  List.forall_mem_cons.mpr ⟨qz_iinc C (show decode c_X7_silentlyWithin 41 = .ok (.iinc 4 1, 3) by decide +kernel) (by decide +kernel),
  List.forall_mem_cons.mpr ⟨qz_goto C (show decode c_X7_silentlyWithin 44 = .ok (.goto (-37), 3) by decide +kernel) (by decide),
  List.forall_mem_cons.mpr ⟨qz_iload_n C (show decode c_X7_silentlyWithin 47 = .ok (.iload_n 3, 1) by decide +kernel) rfl,
  List.forall_mem_cons.mpr ⟨qz_iret C (show decode c_X7_silentlyWithin 48 = .ok (.ireturn, 1) by decide +kernel) rfl,
  (fun q h => by cases h)⟩⟩⟩⟩⟩⟩⟩⟩⟩⟩⟩⟩⟩⟩⟩⟩⟩⟩⟩⟩⟩⟩⟩⟩⟩⟩⟩⟩⟩
theorem sd_X7_silentlyWithin {G : pj_E} {A : Nat → Prop} {P : pj_P} {S : pj_U} {Z : pj_Z} (C : pj_C (G, A, (c_X7_silentlyWithin, y_X7_silentlyWithin.cls, 6, (some .int), 2), P, S, Z)) : ∀ q ∈ tb_X7_silentlyWithin, pj_S (G, A, (c_X7_silentlyWithin, y_X7_silentlyWithin.cls, 6, (some .int), 2), P, S, Z) pj_eI q.1 q.2 := sd_X7_silentlyWithin_0 C
noncomputable def C_X7_silentlyWithin_7 (f : Nat → Int32 → Int32 → Int32 → pj_M → Option (Int32 × pj_M)) : pj_N (Int32 × pj_M) := fun L st m => match L, st with
  | [some (.inr (.inr (t0, w0, a0))), _, some (.inl x2), some (.inl x3), some (.inl x4), _], [] => (match Nat.beq t0 0 && (Nat.beq w0 7) with
    | true => f a0 x2 x3 x4 m
    | false => none)
  | _, _ => none
set_option maxRecDepth 20000 in
theorem eq_X7_silentlyWithin_7 (n1 : Nat) (a0 : Nat) (x2 : Int32) (x3 : Int32) (x4 : Int32) (d1 d5 : Option pj_V) (m : pj_M) : pj_run tb_X7_silentlyWithin [(7, C_X7_silentlyWithin_7 (H_X7_silentlyWithin_7 n1))] 31 7 [some (.inr (.inr (0, 7, a0))), d1, some (.inl x2), some (.inl x3), some (.inl x4), d5] [] m = H_X7_silentlyWithin_7 (n1 + 1) a0 x2 x3 x4 m := by rfl
theorem sg_X7_silentlyWithin_7 {G : pj_E} {A : Nat → Prop} {P : pj_P} {S : pj_U} {Z : pj_Z} (C : pj_C (G, A, (c_X7_silentlyWithin, y_X7_silentlyWithin.cls, 6, (some .int), 2), P, S, Z)) : ∀ n1, pj_G (G, A, (c_X7_silentlyWithin, y_X7_silentlyWithin.cls, 6, (some .int), 2), P, S, Z) pj_eI 7 (C_X7_silentlyWithin_7 (H_X7_silentlyWithin_7 n1)) := by
  intro n1
  induction n1 with
  | zero =>
    intro L st m r h hR
    unfold C_X7_silentlyWithin_7 at h
    split at h
    · split at h
      · cases h
      · cases h
    · cases h
  | succ n1 ih1 =>
    intro L st m r h hR
    unfold C_X7_silentlyWithin_7 at h
    split at h
    · split at h
      · rename_i hbq
        simp only [Bool.and_eq_true, Nat.beq_eq] at hbq
        obtain ⟨rfl, rfl⟩ := hbq
        exact pj_run_ok (sd_X7_silentlyWithin C) (List.forall_mem_cons.mpr ⟨ih1, fun q h => by cases h⟩) 31 7 _ _ _ _ ((eq_X7_silentlyWithin_7 _ _ _ _ _ _ _ _).trans h) hR
      · cases h
    · cases h
set_option maxRecDepth 20000 in
theorem eq_X7_silentlyWithin (a0 : Nat) (x1 : Int32) (x2 : Int32) (m : pj_M) : pj_run tb_X7_silentlyWithin [(7, C_X7_silentlyWithin_7 (H_X7_silentlyWithin_7  pj_z))] 31 0 [some (.inr (.inr (0, 7, a0))), some (.inl x1), some (.inl x2), none, none, none] [] m = F_X7_silentlyWithin a0 x1 x2 m := by rfl
theorem ct_X7_silentlyWithin : pj_Ct pj_eI y_X7_silentlyWithin c_X7_silentlyWithin 6 (some .int) 2 W_X7_silentlyWithin := by
  refine pj_ct_of (by decide +kernel) ?_ ?_
  · intro as m r h
    unfold W_X7_silentlyWithin at h
    split at h
    · simp [pj_l0]
    · cases h
  · intro G A P S Z C as m r h hR
    unfold W_X7_silentlyWithin at h
    split at h
    · split at h
      · rename_i hbq
        simp only [Bool.and_eq_true, Nat.beq_eq] at hbq
        obtain ⟨rfl, rfl⟩ := hbq
        exact pj_run_ok (sd_X7_silentlyWithin C) (List.forall_mem_cons.mpr ⟨sg_X7_silentlyWithin_7 C  pj_z, fun q h => by cases h⟩) 31 0 _ _ _ _ ((eq_X7_silentlyWithin _ _ _ _).trans h) hR
      · cases h
    · cases h
/-! AlikeSteps$Steps.closeSilent()V -/
abbrev c_X7_closeSilent : ByteArray := prog_9_method_13_code
def y_X7_closeSilent : MethodName := ⟨RX7, "closeSilent", "()V"⟩
noncomputable def H_X7_closeSilent_2 : Nat → Nat → Int32 → pj_M → Option (pj_M)
  | 0, _, _, _ => none
  | n1 + 1, a0, x1, m => (if x1 < 10 then ((F_X7_silentlyWithin a0 x1 (-1) m).bind fun q1 => (if x1 < 0 ∨ 40 ≤ x1.toNatClampNeg then none else (H_X7_closeSilent_2 n1 a0 (x1 + 1) (pj_wr q1.2 (a0 + 2) x1.toNatClampNeg q1.1)))) else (some m))
noncomputable def F_X7_closeSilent (a0 : Nat) (m : pj_M) : Option (pj_M) := (H_X7_closeSilent_2 pj_z a0 0 m)
noncomputable def W_X7_closeSilent : List pj_V → pj_M → Option (pj_M) := fun as m => match as with
  | [.inr (.inr (t0, w0, a0))] => (match Nat.beq t0 0 && (Nat.beq w0 7) with
    | true => F_X7_closeSilent a0 m
    | false => none)
  | _ => none
noncomputable def tb_X7_closeSilent_0 : List (Nat × pj_T (pj_M)) := [(0, qs_ci 0 1), (1, qs_sti 1 2), (2, qs_ldi 1 3), (3, qs_ci 10 5), (5, qs_icge 26 8), (8, qs_lda 0 9), (9, qs_gf 7 1 12), (12, qs_ldi 1 13), (13, qs_lda 0 14), (14, qs_ldi 1 15), (15, qs_ci (-1) 16), (16, qs_vI 7 3 W_X7_silentlyWithin 19), (19, qs_iast 20), (20, qs_inc 1 1 23), (23, qs_go 2), (26, qs_vret)]
noncomputable abbrev tb_X7_closeSilent : List (Nat × pj_T (pj_M)) := tb_X7_closeSilent_0
theorem mv_X7_closeSilent : pj_mv y_X7_closeSilent c_X7_closeSilent 2 none 0 := ⟨⟨cw_658, cw_657, cw_12, cw_87⟩, by decide +kernel, by decide⟩
set_option maxRecDepth 20000 in
theorem sd_X7_closeSilent_0 {G : pj_E} {A : Nat → Prop} {P : pj_P} {S : pj_U} {Z : pj_Z} (C : pj_C (G, A, (c_X7_closeSilent, y_X7_closeSilent.cls, 2, none, 3), P, S, Z)) : ∀ q ∈ tb_X7_closeSilent_0, pj_S (G, A, (c_X7_closeSilent, y_X7_closeSilent.cls, 2, none, 3), P, S, Z) pj_eV q.1 q.2 :=
  List.forall_mem_cons.mpr ⟨qz_iconst C (show decode c_X7_closeSilent 0 = .ok (.iconst 0, 1) by decide +kernel) (by decide +kernel),
  List.forall_mem_cons.mpr ⟨qz_istore_n C (show decode c_X7_closeSilent 1 = .ok (.istore_n 1, 1) by decide +kernel) rfl,
  List.forall_mem_cons.mpr ⟨qz_iload_n C (show decode c_X7_closeSilent 2 = .ok (.iload_n 1, 1) by decide +kernel) rfl,
  List.forall_mem_cons.mpr ⟨qz_bipush C (show decode c_X7_closeSilent 3 = .ok (.bipush 10, 2) by decide +kernel) (by decide +kernel),
  List.forall_mem_cons.mpr ⟨qz_icge C (show decode c_X7_closeSilent 5 = .ok (.if_icmp .ge 21, 3) by decide +kernel) (by decide),
  List.forall_mem_cons.mpr ⟨qz_aload_n C (show decode c_X7_closeSilent 8 = .ok (.aload_n 0, 1) by decide +kernel) rfl,
  List.forall_mem_cons.mpr ⟨qz_gf (k := 1) C (show decode c_X7_closeSilent 9 = .ok (.getfield 15, 3) by decide +kernel) vcX7 wiX7 (by decide) cw_186,
  List.forall_mem_cons.mpr ⟨qz_iload_n C (show decode c_X7_closeSilent 12 = .ok (.iload_n 1, 1) by decide +kernel) rfl,
  List.forall_mem_cons.mpr ⟨qz_aload_n C (show decode c_X7_closeSilent 13 = .ok (.aload_n 0, 1) by decide +kernel) rfl,
  List.forall_mem_cons.mpr ⟨qz_iload_n C (show decode c_X7_closeSilent 14 = .ok (.iload_n 1, 1) by decide +kernel) rfl,
  List.forall_mem_cons.mpr ⟨qz_iconst C (show decode c_X7_closeSilent 15 = .ok (.iconst (-1), 1) by decide +kernel) (by decide +kernel),
  List.forall_mem_cons.mpr ⟨qz_vI C (show decode c_X7_closeSilent 16 = .ok (.invokevirtual 82, 3) by decide +kernel) ct_X7_silentlyWithin mv_X7_silentlyWithin cw_659 vcX7 (show 2 < 3 by omega),
  List.forall_mem_cons.mpr ⟨qz_iast C (show decode c_X7_closeSilent 19 = .ok (.iastore, 1) by decide +kernel),
  List.forall_mem_cons.mpr ⟨qz_iinc C (show decode c_X7_closeSilent 20 = .ok (.iinc 1 1, 3) by decide +kernel) (by decide +kernel),
  List.forall_mem_cons.mpr ⟨qz_goto C (show decode c_X7_closeSilent 23 = .ok (.goto (-21), 3) by decide +kernel) (by decide),
  List.forall_mem_cons.mpr ⟨qz_vret C (show decode c_X7_closeSilent 26 = .ok (.return_, 1) by decide +kernel) rfl,
  (fun q h => by cases h)⟩⟩⟩⟩⟩⟩⟩⟩⟩⟩⟩⟩⟩⟩⟩⟩
theorem sd_X7_closeSilent {G : pj_E} {A : Nat → Prop} {P : pj_P} {S : pj_U} {Z : pj_Z} (C : pj_C (G, A, (c_X7_closeSilent, y_X7_closeSilent.cls, 2, none, 3), P, S, Z)) : ∀ q ∈ tb_X7_closeSilent, pj_S (G, A, (c_X7_closeSilent, y_X7_closeSilent.cls, 2, none, 3), P, S, Z) pj_eV q.1 q.2 := sd_X7_closeSilent_0 C
noncomputable def C_X7_closeSilent_2 (f : Nat → Int32 → pj_M → Option (pj_M)) : pj_N (pj_M) := fun L st m => match L, st with
  | [some (.inr (.inr (t0, w0, a0))), some (.inl x1)], [] => (match Nat.beq t0 0 && (Nat.beq w0 7) with
    | true => f a0 x1 m
    | false => none)
  | _, _ => none
set_option maxRecDepth 20000 in
theorem eq_X7_closeSilent_2 (n1 : Nat) (a0 : Nat) (x1 : Int32) (m : pj_M) : pj_run tb_X7_closeSilent [(2, C_X7_closeSilent_2 (H_X7_closeSilent_2 n1))] 18 2 [some (.inr (.inr (0, 7, a0))), some (.inl x1)] [] m = H_X7_closeSilent_2 (n1 + 1) a0 x1 m := by rfl
theorem sg_X7_closeSilent_2 {G : pj_E} {A : Nat → Prop} {P : pj_P} {S : pj_U} {Z : pj_Z} (C : pj_C (G, A, (c_X7_closeSilent, y_X7_closeSilent.cls, 2, none, 3), P, S, Z)) : ∀ n1, pj_G (G, A, (c_X7_closeSilent, y_X7_closeSilent.cls, 2, none, 3), P, S, Z) pj_eV 2 (C_X7_closeSilent_2 (H_X7_closeSilent_2 n1)) := by
  intro n1
  induction n1 with
  | zero =>
    intro L st m r h hR
    unfold C_X7_closeSilent_2 at h
    split at h
    · split at h
      · cases h
      · cases h
    · cases h
  | succ n1 ih1 =>
    intro L st m r h hR
    unfold C_X7_closeSilent_2 at h
    split at h
    · split at h
      · rename_i hbq
        simp only [Bool.and_eq_true, Nat.beq_eq] at hbq
        obtain ⟨rfl, rfl⟩ := hbq
        exact pj_run_ok (sd_X7_closeSilent C) (List.forall_mem_cons.mpr ⟨ih1, fun q h => by cases h⟩) 18 2 _ _ _ _ ((eq_X7_closeSilent_2 _ _ _ _).trans h) hR
      · cases h
    · cases h
set_option maxRecDepth 20000 in
theorem eq_X7_closeSilent (a0 : Nat) (m : pj_M) : pj_run tb_X7_closeSilent [(2, C_X7_closeSilent_2 (H_X7_closeSilent_2  pj_z))] 18 0 [some (.inr (.inr (0, 7, a0))), none] [] m = F_X7_closeSilent a0 m := by rfl
theorem ct_X7_closeSilent : pj_Ct pj_eV y_X7_closeSilent c_X7_closeSilent 2 none 3 W_X7_closeSilent := by
  refine pj_ct_of (by decide +kernel) ?_ ?_
  · intro as m r h
    unfold W_X7_closeSilent at h
    split at h
    · simp [pj_l0]
    · cases h
  · intro G A P S Z C as m r h hR
    unfold W_X7_closeSilent at h
    split at h
    · split at h
      · rename_i hbq
        simp only [Bool.and_eq_true, Nat.beq_eq] at hbq
        obtain ⟨rfl, rfl⟩ := hbq
        exact pj_run_ok (sd_X7_closeSilent C) (List.forall_mem_cons.mpr ⟨sg_X7_closeSilent_2 C  pj_z, fun q h => by cases h⟩) 18 0 _ _ _ _ ((eq_X7_closeSilent _ _).trans h) hR
      · cases h
    · cases h
/-! AlikeSteps$Steps.goneFrom(II)I -/
abbrev c_X7_goneFrom : ByteArray := prog_9_method_5_code
def y_X7_goneFrom : MethodName := ⟨RX7, "goneFrom", "(II)I"⟩
noncomputable def F_X7_goneFrom (a0 : Nat) (x1 : Int32) (x2 : Int32) (m : pj_M) : Option (Int32 × pj_M) := ((F_X7_union 40 (a0 + 1) x1 x2 m).bind fun q1 => (some (q1.1, q1.2)))
noncomputable def W_X7_goneFrom : List pj_V → pj_M → Option (Int32 × pj_M) := fun as m => match as with
  | [.inr (.inr (t0, w0, a0)), .inl x1, .inl x2] => (match Nat.beq t0 0 && (Nat.beq w0 7) with
    | true => F_X7_goneFrom a0 x1 x2 m
    | false => none)
  | _ => none
noncomputable def tb_X7_goneFrom_0 : List (Nat × pj_T (Int32 × pj_M)) := [(0, qs_lda 0 1), (1, qs_gf 7 0 4), (4, qs_ldi 1 5), (5, qs_ldi 2 6), (6, qs_sI 3 W_X7_union 9), (9, qs_iret)]
noncomputable abbrev tb_X7_goneFrom : List (Nat × pj_T (Int32 × pj_M)) := tb_X7_goneFrom_0
theorem mv_X7_goneFrom : pj_mv y_X7_goneFrom c_X7_goneFrom 3 (some .int) 2 := ⟨⟨cw_673, cw_671, cw_672, cw_87⟩, by decide +kernel, by decide⟩
set_option maxRecDepth 20000 in
theorem sd_X7_goneFrom_0 {G : pj_E} {A : Nat → Prop} {P : pj_P} {S : pj_U} {Z : pj_Z} (C : pj_C (G, A, (c_X7_goneFrom, y_X7_goneFrom.cls, 3, (some .int), 2), P, S, Z)) : ∀ q ∈ tb_X7_goneFrom_0, pj_S (G, A, (c_X7_goneFrom, y_X7_goneFrom.cls, 3, (some .int), 2), P, S, Z) pj_eI q.1 q.2 :=
  List.forall_mem_cons.mpr ⟨qz_aload_n C (show decode c_X7_goneFrom 0 = .ok (.aload_n 0, 1) by decide +kernel) rfl,
  List.forall_mem_cons.mpr ⟨qz_gf (k := 0) C (show decode c_X7_goneFrom 1 = .ok (.getfield 9, 3) by decide +kernel) vcX7 wiX7 (by decide) cw_185,
  List.forall_mem_cons.mpr ⟨qz_iload_n C (show decode c_X7_goneFrom 4 = .ok (.iload_n 1, 1) by decide +kernel) rfl,
  List.forall_mem_cons.mpr ⟨qz_iload_n C (show decode c_X7_goneFrom 5 = .ok (.iload_n 2, 1) by decide +kernel) rfl,
  List.forall_mem_cons.mpr ⟨qz_sI C (show decode c_X7_goneFrom 6 = .ok (.invokestatic 45, 3) by decide +kernel) ct_X7_union mv_X7_union (Or.inl cw_663) (show 1 < 2 by omega),
  List.forall_mem_cons.mpr ⟨qz_iret C (show decode c_X7_goneFrom 9 = .ok (.ireturn, 1) by decide +kernel) rfl,
  (fun q h => by cases h)⟩⟩⟩⟩⟩⟩
theorem sd_X7_goneFrom {G : pj_E} {A : Nat → Prop} {P : pj_P} {S : pj_U} {Z : pj_Z} (C : pj_C (G, A, (c_X7_goneFrom, y_X7_goneFrom.cls, 3, (some .int), 2), P, S, Z)) : ∀ q ∈ tb_X7_goneFrom, pj_S (G, A, (c_X7_goneFrom, y_X7_goneFrom.cls, 3, (some .int), 2), P, S, Z) pj_eI q.1 q.2 := sd_X7_goneFrom_0 C
set_option maxRecDepth 20000 in
theorem eq_X7_goneFrom (a0 : Nat) (x1 : Int32) (x2 : Int32) (m : pj_M) : pj_run tb_X7_goneFrom [] 8 0 [some (.inr (.inr (0, 7, a0))), some (.inl x1), some (.inl x2)] [] m = F_X7_goneFrom a0 x1 x2 m := by rfl
theorem ct_X7_goneFrom : pj_Ct pj_eI y_X7_goneFrom c_X7_goneFrom 3 (some .int) 2 W_X7_goneFrom := by
  refine pj_ct_of (by decide +kernel) ?_ ?_
  · intro as m r h
    unfold W_X7_goneFrom at h
    split at h
    · simp [pj_l0]
    · cases h
  · intro G A P S Z C as m r h hR
    unfold W_X7_goneFrom at h
    split at h
    · split at h
      · rename_i hbq
        simp only [Bool.and_eq_true, Nat.beq_eq] at hbq
        obtain ⟨rfl, rfl⟩ := hbq
        exact pj_run_ok (sd_X7_goneFrom C) (fun q h => by cases h) 8 0 _ _ _ _ ((eq_X7_goneFrom _ _ _ _).trans h) hR
      · cases h
    · cases h
/-! AlikeSteps$Steps.closeLetters()V -/
abbrev c_X7_closeLetters : ByteArray := prog_9_method_14_code
def y_X7_closeLetters : MethodName := ⟨RX7, "closeLetters", "()V"⟩
noncomputable def H_X7_closeLetters_9 (k2 : Nat → Int32 → pj_M → Option (pj_M)) : Nat → Nat → Int32 → Int32 → pj_M → Option (pj_M)
  | 0, _, _, _, _ => none
  | n1 + 1, a0, x1, x2, m => (if x2 < 10 then (if x2 < 0 ∨ 40 ≤ x2.toNatClampNeg then none else ((F_X7_goneFrom a0 x1 (m.1 (a0 + 2) x2.toNatClampNeg) m).bind fun q1 => ((F_X7_union 40 (a0 + 2) 0 q1.1 q1.2).bind fun q2 => (if ((x1 * 10) + x2) < 0 ∨ 40 ≤ ((x1 * 10) + x2).toNatClampNeg then none else (H_X7_closeLetters_9 k2 n1 a0 x1 (x2 + 1) (pj_wr q2.2 (a0 + 2) ((x1 * 10) + x2).toNatClampNeg q2.1)))))) else (k2 a0 (x1 + 1) m))
noncomputable def H_X7_closeLetters_2 : Nat → Nat → Int32 → pj_M → Option (pj_M)
  | 0, _, _, _ => none
  | n1 + 1, a0, x1, m => (if x1 < 4 then (H_X7_closeLetters_9 (H_X7_closeLetters_2 n1) pj_z a0 x1 0 m) else (some m))
noncomputable def F_X7_closeLetters (a0 : Nat) (m : pj_M) : Option (pj_M) := (H_X7_closeLetters_2 pj_z a0 1 m)
noncomputable def W_X7_closeLetters : List pj_V → pj_M → Option (pj_M) := fun as m => match as with
  | [.inr (.inr (t0, w0, a0))] => (match Nat.beq t0 0 && (Nat.beq w0 7) with
    | true => F_X7_closeLetters a0 m
    | false => none)
  | _ => none
noncomputable def tb_X7_closeLetters_0 : List (Nat × pj_T (pj_M)) := [(0, qs_ci 1 1), (1, qs_sti 1 2), (2, qs_ldi 1 3), (3, qs_ci 4 4), (4, qs_icge 59 7), (7, qs_ci 0 8), (8, qs_sti 2 9), (9, qs_ldi 2 10), (10, qs_ci 10 12), (12, qs_icge 53 15), (15, qs_lda 0 16), (16, qs_ldi 1 17), (17, qs_lda 0 18), (18, qs_gf 7 1 21), (21, qs_ldi 2 22), (22, qs_iald 23), (23, qs_vI 7 3 W_X7_goneFrom 26), (26, qs_sti 3 27), (27, qs_lda 0 28), (28, qs_gf 7 1 31), (31, qs_ldi 1 32), (32, qs_ci 10 34), (34, qs_b2 (fun x y => x * y) 35), (35, qs_ldi 2 36), (36, qs_b2 (fun x y => x + y) 37), (37, qs_lda 0 38), (38, qs_gf 7 1 41), (41, qs_ci 0 42), (42, qs_ldi 3 43), (43, qs_sI 3 W_X7_union 46), (46, qs_iast 47), (47, qs_inc 2 1 50), (50, qs_go 9), (53, qs_inc 1 1 56), (56, qs_go 2), (59, qs_vret)]
noncomputable abbrev tb_X7_closeLetters : List (Nat × pj_T (pj_M)) := tb_X7_closeLetters_0
theorem mv_X7_closeLetters : pj_mv y_X7_closeLetters c_X7_closeLetters 4 none 0 := ⟨⟨cw_669, cw_668, cw_13, cw_87⟩, by decide +kernel, by decide⟩
set_option maxRecDepth 20000 in
theorem sd_X7_closeLetters_0 {G : pj_E} {A : Nat → Prop} {P : pj_P} {S : pj_U} {Z : pj_Z} (C : pj_C (G, A, (c_X7_closeLetters, y_X7_closeLetters.cls, 4, none, 3), P, S, Z)) : ∀ q ∈ tb_X7_closeLetters_0, pj_S (G, A, (c_X7_closeLetters, y_X7_closeLetters.cls, 4, none, 3), P, S, Z) pj_eV q.1 q.2 :=
  List.forall_mem_cons.mpr ⟨qz_iconst C (show decode c_X7_closeLetters 0 = .ok (.iconst 1, 1) by decide +kernel) (by decide +kernel),
  List.forall_mem_cons.mpr ⟨qz_istore_n C (show decode c_X7_closeLetters 1 = .ok (.istore_n 1, 1) by decide +kernel) rfl,
  List.forall_mem_cons.mpr ⟨qz_iload_n C (show decode c_X7_closeLetters 2 = .ok (.iload_n 1, 1) by decide +kernel) rfl,
  List.forall_mem_cons.mpr ⟨qz_iconst C (show decode c_X7_closeLetters 3 = .ok (.iconst 4, 1) by decide +kernel) (by decide +kernel),
  List.forall_mem_cons.mpr ⟨qz_icge C (show decode c_X7_closeLetters 4 = .ok (.if_icmp .ge 55, 3) by decide +kernel) (by decide),
  List.forall_mem_cons.mpr ⟨qz_iconst C (show decode c_X7_closeLetters 7 = .ok (.iconst 0, 1) by decide +kernel) (by decide +kernel),
  List.forall_mem_cons.mpr ⟨qz_istore_n C (show decode c_X7_closeLetters 8 = .ok (.istore_n 2, 1) by decide +kernel) rfl,
  List.forall_mem_cons.mpr ⟨qz_iload_n C (show decode c_X7_closeLetters 9 = .ok (.iload_n 2, 1) by decide +kernel) rfl,
  List.forall_mem_cons.mpr ⟨qz_bipush C (show decode c_X7_closeLetters 10 = .ok (.bipush 10, 2) by decide +kernel) (by decide +kernel),
  List.forall_mem_cons.mpr ⟨qz_icge C (show decode c_X7_closeLetters 12 = .ok (.if_icmp .ge 41, 3) by decide +kernel) (by decide),
  List.forall_mem_cons.mpr ⟨qz_aload_n C (show decode c_X7_closeLetters 15 = .ok (.aload_n 0, 1) by decide +kernel) rfl,
  List.forall_mem_cons.mpr ⟨qz_iload_n C (show decode c_X7_closeLetters 16 = .ok (.iload_n 1, 1) by decide +kernel) rfl,
  List.forall_mem_cons.mpr ⟨qz_aload_n C (show decode c_X7_closeLetters 17 = .ok (.aload_n 0, 1) by decide +kernel) rfl,
  List.forall_mem_cons.mpr ⟨qz_gf (k := 1) C (show decode c_X7_closeLetters 18 = .ok (.getfield 15, 3) by decide +kernel) vcX7 wiX7 (by decide) cw_186,
  List.forall_mem_cons.mpr ⟨qz_iload_n C (show decode c_X7_closeLetters 21 = .ok (.iload_n 2, 1) by decide +kernel) rfl,
  List.forall_mem_cons.mpr ⟨qz_iald C (show decode c_X7_closeLetters 22 = .ok (.iaload, 1) by decide +kernel),
  List.forall_mem_cons.mpr ⟨qz_vI C (show decode c_X7_closeLetters 23 = .ok (.invokevirtual 85, 3) by decide +kernel) ct_X7_goneFrom mv_X7_goneFrom cw_670 vcX7 (show 2 < 3 by omega),
  List.forall_mem_cons.mpr ⟨qz_istore_n C (show decode c_X7_closeLetters 26 = .ok (.istore_n 3, 1) by decide +kernel) rfl,
  List.forall_mem_cons.mpr ⟨qz_aload_n C (show decode c_X7_closeLetters 27 = .ok (.aload_n 0, 1) by decide +kernel) rfl,
  List.forall_mem_cons.mpr ⟨qz_gf (k := 1) C (show decode c_X7_closeLetters 28 = .ok (.getfield 15, 3) by decide +kernel) vcX7 wiX7 (by decide) cw_186,
  List.forall_mem_cons.mpr ⟨qz_iload_n C (show decode c_X7_closeLetters 31 = .ok (.iload_n 1, 1) by decide +kernel) rfl,
  List.forall_mem_cons.mpr ⟨qz_bipush C (show decode c_X7_closeLetters 32 = .ok (.bipush 10, 2) by decide +kernel) (by decide +kernel),
  List.forall_mem_cons.mpr ⟨qz_imul C (show decode c_X7_closeLetters 34 = .ok (.imul, 1) by decide +kernel),
  List.forall_mem_cons.mpr ⟨qz_iload_n C (show decode c_X7_closeLetters 35 = .ok (.iload_n 2, 1) by decide +kernel) rfl,
  List.forall_mem_cons.mpr ⟨qz_iadd C (show decode c_X7_closeLetters 36 = .ok (.iadd, 1) by decide +kernel),
  List.forall_mem_cons.mpr ⟨qz_aload_n C (show decode c_X7_closeLetters 37 = .ok (.aload_n 0, 1) by decide +kernel) rfl,
  List.forall_mem_cons.mpr ⟨qz_gf (k := 1) C (show decode c_X7_closeLetters 38 = .ok (.getfield 15, 3) by decide +kernel) vcX7 wiX7 (by decide) cw_186,
  List.forall_mem_cons.mpr ⟨qz_iconst C (show decode c_X7_closeLetters 41 = .ok (.iconst 0, 1) by decide +kernel) (by decide +kernel),
  List.forall_mem_cons.mpr ⟨qz_iload_n C (show decode c_X7_closeLetters 42 = .ok (.iload_n 3, 1) by decide +kernel) rfl,
  List.forall_mem_cons.mpr ⟨qz_sI C (show decode c_X7_closeLetters 43 = .ok (.invokestatic 45, 3) by decide +kernel) ct_X7_union mv_X7_union (Or.inl cw_663) (show 1 < 3 by omega),
  List.forall_mem_cons.mpr ⟨qz_iast C (show decode c_X7_closeLetters 46 = .ok (.iastore, 1) by decide +kernel),
  List.forall_mem_cons.mpr ⟨qz_iinc C (show decode c_X7_closeLetters 47 = .ok (.iinc 2 1, 3) by decide +kernel) (by decide +kernel),
  List.forall_mem_cons.mpr ⟨qz_goto C (show decode c_X7_closeLetters 50 = .ok (.goto (-41), 3) by decide +kernel) (by decide),
  List.forall_mem_cons.mpr ⟨qz_iinc C (show decode c_X7_closeLetters 53 = .ok (.iinc 1 1, 3) by decide +kernel) (by decide +kernel),
  List.forall_mem_cons.mpr ⟨qz_goto C (show decode c_X7_closeLetters 56 = .ok (.goto (-54), 3) by decide +kernel) (by decide),
  List.forall_mem_cons.mpr ⟨qz_vret C (show decode c_X7_closeLetters 59 = .ok (.return_, 1) by decide +kernel) rfl,
  (fun q h => by cases h)⟩⟩⟩⟩⟩⟩⟩⟩⟩⟩⟩⟩⟩⟩⟩⟩⟩⟩⟩⟩⟩⟩⟩⟩⟩⟩⟩⟩⟩⟩⟩⟩⟩⟩⟩⟩
theorem sd_X7_closeLetters {G : pj_E} {A : Nat → Prop} {P : pj_P} {S : pj_U} {Z : pj_Z} (C : pj_C (G, A, (c_X7_closeLetters, y_X7_closeLetters.cls, 4, none, 3), P, S, Z)) : ∀ q ∈ tb_X7_closeLetters, pj_S (G, A, (c_X7_closeLetters, y_X7_closeLetters.cls, 4, none, 3), P, S, Z) pj_eV q.1 q.2 := sd_X7_closeLetters_0 C
noncomputable def C_X7_closeLetters_9 (f : Nat → Int32 → Int32 → pj_M → Option (pj_M)) : pj_N (pj_M) := fun L st m => match L, st with
  | [some (.inr (.inr (t0, w0, a0))), some (.inl x1), some (.inl x2), _], [] => (match Nat.beq t0 0 && (Nat.beq w0 7) with
    | true => f a0 x1 x2 m
    | false => none)
  | _, _ => none
noncomputable def C_X7_closeLetters_2 (f : Nat → Int32 → pj_M → Option (pj_M)) : pj_N (pj_M) := fun L st m => match L, st with
  | [some (.inr (.inr (t0, w0, a0))), some (.inl x1), _, _], [] => (match Nat.beq t0 0 && (Nat.beq w0 7) with
    | true => f a0 x1 m
    | false => none)
  | _, _ => none
set_option maxRecDepth 20000 in
theorem eq_X7_closeLetters_9 (k2 : Nat → Int32 → pj_M → Option (pj_M)) (n1 : Nat) (a0 : Nat) (x1 : Int32) (x2 : Int32) (d3 : Option pj_V) (m : pj_M) : pj_run tb_X7_closeLetters [(2, C_X7_closeLetters_2 k2), (9, C_X7_closeLetters_9 (H_X7_closeLetters_9 k2 n1))] 38 9 [some (.inr (.inr (0, 7, a0))), some (.inl x1), some (.inl x2), d3] [] m = H_X7_closeLetters_9 k2 (n1 + 1) a0 x1 x2 m := by rfl
theorem sg_X7_closeLetters_9 {G : pj_E} {A : Nat → Prop} {P : pj_P} {S : pj_U} {Z : pj_Z} (C : pj_C (G, A, (c_X7_closeLetters, y_X7_closeLetters.cls, 4, none, 3), P, S, Z)) {k2 : Nat → Int32 → pj_M → Option (pj_M)} (hk2 : pj_G (G, A, (c_X7_closeLetters, y_X7_closeLetters.cls, 4, none, 3), P, S, Z) pj_eV 2 (C_X7_closeLetters_2 k2)) : ∀ n1, pj_G (G, A, (c_X7_closeLetters, y_X7_closeLetters.cls, 4, none, 3), P, S, Z) pj_eV 9 (C_X7_closeLetters_9 (H_X7_closeLetters_9 k2 n1)) := by
  intro n1
  induction n1 with
  | zero =>
    intro L st m r h hR
    unfold C_X7_closeLetters_9 at h
    split at h
    · split at h
      · cases h
      · cases h
    · cases h
  | succ n1 ih1 =>
    intro L st m r h hR
    unfold C_X7_closeLetters_9 at h
    split at h
    · split at h
      · rename_i hbq
        simp only [Bool.and_eq_true, Nat.beq_eq] at hbq
        obtain ⟨rfl, rfl⟩ := hbq
        exact pj_run_ok (sd_X7_closeLetters C) (List.forall_mem_cons.mpr ⟨hk2, List.forall_mem_cons.mpr ⟨ih1, fun q h => by cases h⟩⟩) 38 9 _ _ _ _ ((eq_X7_closeLetters_9 _ _ _ _ _ _ _).trans h) hR
      · cases h
    · cases h
set_option maxRecDepth 20000 in
theorem eq_X7_closeLetters_2 (n1 : Nat) (a0 : Nat) (x1 : Int32) (d2 d3 : Option pj_V) (m : pj_M) : pj_run tb_X7_closeLetters [(9, C_X7_closeLetters_9 (H_X7_closeLetters_9 (H_X7_closeLetters_2 n1) pj_z))] 38 2 [some (.inr (.inr (0, 7, a0))), some (.inl x1), d2, d3] [] m = H_X7_closeLetters_2 (n1 + 1) a0 x1 m := by rfl
theorem sg_X7_closeLetters_2 {G : pj_E} {A : Nat → Prop} {P : pj_P} {S : pj_U} {Z : pj_Z} (C : pj_C (G, A, (c_X7_closeLetters, y_X7_closeLetters.cls, 4, none, 3), P, S, Z)) : ∀ n1, pj_G (G, A, (c_X7_closeLetters, y_X7_closeLetters.cls, 4, none, 3), P, S, Z) pj_eV 2 (C_X7_closeLetters_2 (H_X7_closeLetters_2 n1)) := by
  intro n1
  induction n1 with
  | zero =>
    intro L st m r h hR
    unfold C_X7_closeLetters_2 at h
    split at h
    · split at h
      · cases h
      · cases h
    · cases h
  | succ n1 ih1 =>
    intro L st m r h hR
    unfold C_X7_closeLetters_2 at h
    split at h
    · split at h
      · rename_i hbq
        simp only [Bool.and_eq_true, Nat.beq_eq] at hbq
        obtain ⟨rfl, rfl⟩ := hbq
        exact pj_run_ok (sd_X7_closeLetters C) (List.forall_mem_cons.mpr ⟨sg_X7_closeLetters_9 C ih1 pj_z, fun q h => by cases h⟩) 38 2 _ _ _ _ ((eq_X7_closeLetters_2 _ _ _ _ _ _).trans h) hR
      · cases h
    · cases h
set_option maxRecDepth 20000 in
theorem eq_X7_closeLetters (a0 : Nat) (m : pj_M) : pj_run tb_X7_closeLetters [(2, C_X7_closeLetters_2 (H_X7_closeLetters_2  pj_z))] 38 0 [some (.inr (.inr (0, 7, a0))), none, none, none] [] m = F_X7_closeLetters a0 m := by rfl
theorem ct_X7_closeLetters : pj_Ct pj_eV y_X7_closeLetters c_X7_closeLetters 4 none 3 W_X7_closeLetters := by
  refine pj_ct_of (by decide +kernel) ?_ ?_
  · intro as m r h
    unfold W_X7_closeLetters at h
    split at h
    · simp [pj_l0]
    · cases h
  · intro G A P S Z C as m r h hR
    unfold W_X7_closeLetters at h
    split at h
    · split at h
      · rename_i hbq
        simp only [Bool.and_eq_true, Nat.beq_eq] at hbq
        obtain ⟨rfl, rfl⟩ := hbq
        exact pj_run_ok (sd_X7_closeLetters C) (List.forall_mem_cons.mpr ⟨sg_X7_closeLetters_2 C  pj_z, fun q h => by cases h⟩) 38 0 _ _ _ _ ((eq_X7_closeLetters _ _).trans h) hR
      · cases h
    · cases h
/-! AlikeSteps$Steps.follow(LAlikeSteps$Net;)V -/
abbrev c_X7_follow : ByteArray := prog_9_method_2_code
def y_X7_follow : MethodName := ⟨RX7, "follow", "(LAlikeSteps$Net;)V"⟩
noncomputable def J_X7_follow_66 (a0 : Nat) (m : pj_M) : Option (pj_M) := ((F_X7_closeSilent a0 m).bind fun q1 => ((F_X7_closeLetters a0 q1).bind fun q2 => (some q2)))
noncomputable def H_X7_follow_46 : Nat → Nat → Nat → Int32 → pj_M → Option (pj_M)
  | 0, _, _, _, _ => none
  | n1 + 1, a0, a1, x2, m => ((F_X4_arcTotal a1 m).bind fun q1 => (if x2 < q1.1 then ((F_X7_openArc a0 a1 x2 q1.2).bind fun q2 => (H_X7_follow_46 n1 a0 a1 (x2 + 1) q2)) else (J_X7_follow_66 a0 q1.2)))
noncomputable def H_X7_follow_22 : Nat → Nat → Nat → Int32 → pj_M → Option (pj_M)
  | 0, _, _, _, _ => none
  | n1 + 1, a0, a1, x2, m => (if x2 < (Int32.ofNat 40) then (if x2 < 0 ∨ 40 ≤ x2.toNatClampNeg then none else (H_X7_follow_22 n1 a0 a1 (x2 + 1) (pj_wr m (a0 + 1) x2.toNatClampNeg 0))) else (H_X7_follow_46 pj_z a0 a1 0 m))
noncomputable def F_X7_follow (a0 : Nat) (a1 : Nat) (m : pj_M) : Option (pj_M) := ((F_X4_version a1 m).bind fun q1 => (if (m.1 a0 2) = q1.1 then (some q1.2) else ((F_X4_version a1 q1.2).bind fun q2 => (H_X7_follow_22 pj_z a0 a1 0 (pj_wr q2.2 a0 2 q2.1)))))
noncomputable def W_X7_follow : List pj_V → pj_M → Option (pj_M) := fun as m => match as with
  | [.inr (.inr (t0, w0, a0)), .inr (.inr (t1, w1, a1))] => (match Nat.beq t0 0 && (Nat.beq w0 7 && (Nat.beq t1 0 && (Nat.beq w1 4))) with
    | true => F_X7_follow a0 a1 m
    | false => none)
  | _ => none
noncomputable def tb_X7_follow_0 : List (Nat × pj_T (pj_M)) := [(0, qs_lda 0 1), (1, qs_gf 7 2 4), (4, qs_lda 1 5), (5, qs_vI 4 1 W_X4_version 8), (8, qs_icne 12 11), (11, qs_vret), (12, qs_lda 0 13), (13, qs_lda 1 14), (14, qs_vI 4 1 W_X4_version 17), (17, qs_pf 7 2 20), (20, qs_ci 0 21), (21, qs_sti 2 22), (22, qs_ldi 2 23), (23, qs_lda 0 24), (24, qs_gf 7 0 27), (27, qs_alen 28), (28, qs_icge 44 31), (31, qs_lda 0 32), (32, qs_gf 7 0 35), (35, qs_ldi 2 36), (36, qs_ci 0 37), (37, qs_iast 38), (38, qs_inc 2 1 41), (41, qs_go 22), (44, qs_ci 0 45), (45, qs_sti 2 46), (46, qs_ldi 2 47), (47, qs_lda 1 48), (48, qs_vI 4 1 W_X4_arcTotal 51), (51, qs_icge 66 54), (54, qs_lda 0 55), (55, qs_lda 1 56), (56, qs_ldi 2 57), (57, qs_vV 7 3 W_X7_openArc 60), (60, qs_inc 2 1 63), (63, qs_go 46), (66, qs_lda 0 67), (67, qs_vV 7 1 W_X7_closeSilent 70), (70, qs_lda 0 71), (71, qs_vV 7 1 W_X7_closeLetters 74)]
noncomputable def tb_X7_follow_1 : List (Nat × pj_T (pj_M)) := [(74, qs_vret)]
noncomputable def tb_X7_follow : List (Nat × pj_T (pj_M)) := tb_X7_follow_0 ++ (tb_X7_follow_1)
theorem mv_X7_follow : pj_mv y_X7_follow c_X7_follow 3 none 1 := ⟨⟨cw_637, cw_635, cw_636, cw_87⟩, by decide +kernel, by decide⟩
set_option maxRecDepth 20000 in
theorem sd_X7_follow_0 {G : pj_E} {A : Nat → Prop} {P : pj_P} {S : pj_U} {Z : pj_Z} (C : pj_C (G, A, (c_X7_follow, y_X7_follow.cls, 3, none, 4), P, S, Z)) : ∀ q ∈ tb_X7_follow_0, pj_S (G, A, (c_X7_follow, y_X7_follow.cls, 3, none, 4), P, S, Z) pj_eV q.1 q.2 :=
  List.forall_mem_cons.mpr ⟨qz_aload_n C (show decode c_X7_follow 0 = .ok (.aload_n 0, 1) by decide +kernel) rfl,
  List.forall_mem_cons.mpr ⟨qz_gf (k := 2) C (show decode c_X7_follow 1 = .ok (.getfield 18, 3) by decide +kernel) vcX7 wiX7 (by decide) cw_187,
  List.forall_mem_cons.mpr ⟨qz_aload_n C (show decode c_X7_follow 4 = .ok (.aload_n 1, 1) by decide +kernel) rfl,
  List.forall_mem_cons.mpr ⟨qz_vI C (show decode c_X7_follow 5 = .ok (.invokevirtual 22, 3) by decide +kernel) ct_X4_version mv_X4_version cw_638 vcX4 (show 1 < 4 by omega),
  List.forall_mem_cons.mpr ⟨qz_icne C (show decode c_X7_follow 8 = .ok (.if_icmp .ne 4, 3) by decide +kernel) (by decide),
  List.forall_mem_cons.mpr ⟨qz_vret C (show decode c_X7_follow 11 = .ok (.return_, 1) by decide +kernel) rfl,
  List.forall_mem_cons.mpr ⟨qz_aload_n C (show decode c_X7_follow 12 = .ok (.aload_n 0, 1) by decide +kernel) rfl,
  List.forall_mem_cons.mpr ⟨qz_aload_n C (show decode c_X7_follow 13 = .ok (.aload_n 1, 1) by decide +kernel) rfl,
  List.forall_mem_cons.mpr ⟨qz_vI C (show decode c_X7_follow 14 = .ok (.invokevirtual 22, 3) by decide +kernel) ct_X4_version mv_X4_version cw_638 vcX4 (show 1 < 4 by omega),
  List.forall_mem_cons.mpr ⟨qz_pf (k := 2) C (show decode c_X7_follow 17 = .ok (.putfield 18, 3) by decide +kernel) vcX7 wiX7 tyX7_ok nmX7 (by decide) cw_187 rfl rfl,
  List.forall_mem_cons.mpr ⟨qz_iconst C (show decode c_X7_follow 20 = .ok (.iconst 0, 1) by decide +kernel) (by decide +kernel),
  List.forall_mem_cons.mpr ⟨qz_istore_n C (show decode c_X7_follow 21 = .ok (.istore_n 2, 1) by decide +kernel) rfl,
  List.forall_mem_cons.mpr ⟨qz_iload_n C (show decode c_X7_follow 22 = .ok (.iload_n 2, 1) by decide +kernel) rfl,
  List.forall_mem_cons.mpr ⟨qz_aload_n C (show decode c_X7_follow 23 = .ok (.aload_n 0, 1) by decide +kernel) rfl,
  List.forall_mem_cons.mpr ⟨qz_gf (k := 0) C (show decode c_X7_follow 24 = .ok (.getfield 9, 3) by decide +kernel) vcX7 wiX7 (by decide) cw_185,
  List.forall_mem_cons.mpr ⟨qz_alen C (show decode c_X7_follow 27 = .ok (.arraylength, 1) by decide +kernel),
  List.forall_mem_cons.mpr ⟨qz_icge C (show decode c_X7_follow 28 = .ok (.if_icmp .ge 16, 3) by decide +kernel) (by decide),
  List.forall_mem_cons.mpr ⟨qz_aload_n C (show decode c_X7_follow 31 = .ok (.aload_n 0, 1) by decide +kernel) rfl,
  List.forall_mem_cons.mpr ⟨qz_gf (k := 0) C (show decode c_X7_follow 32 = .ok (.getfield 9, 3) by decide +kernel) vcX7 wiX7 (by decide) cw_185,
  List.forall_mem_cons.mpr ⟨qz_iload_n C (show decode c_X7_follow 35 = .ok (.iload_n 2, 1) by decide +kernel) rfl,
  List.forall_mem_cons.mpr ⟨qz_iconst C (show decode c_X7_follow 36 = .ok (.iconst 0, 1) by decide +kernel) (by decide +kernel),
  List.forall_mem_cons.mpr ⟨qz_iast C (show decode c_X7_follow 37 = .ok (.iastore, 1) by decide +kernel),
  List.forall_mem_cons.mpr ⟨qz_iinc C (show decode c_X7_follow 38 = .ok (.iinc 2 1, 3) by decide +kernel) (by decide +kernel),
  List.forall_mem_cons.mpr ⟨qz_goto C (show decode c_X7_follow 41 = .ok (.goto (-19), 3) by decide +kernel) (by decide),
  List.forall_mem_cons.mpr ⟨qz_iconst C (show decode c_X7_follow 44 = .ok (.iconst 0, 1) by decide +kernel) (by decide +kernel),
  List.forall_mem_cons.mpr ⟨qz_istore_n C (show decode c_X7_follow 45 = .ok (.istore_n 2, 1) by decide +kernel) rfl,
  List.forall_mem_cons.mpr ⟨qz_iload_n C (show decode c_X7_follow 46 = .ok (.iload_n 2, 1) by decide +kernel) rfl,
  List.forall_mem_cons.mpr ⟨qz_aload_n C (show decode c_X7_follow 47 = .ok (.aload_n 1, 1) by decide +kernel) rfl,
  List.forall_mem_cons.mpr ⟨qz_vI C (show decode c_X7_follow 48 = .ok (.invokevirtual 28, 3) by decide +kernel) ct_X4_arcTotal mv_X4_arcTotal cw_642 vcX4 (show 1 < 4 by omega),
  List.forall_mem_cons.mpr ⟨qz_icge C (show decode c_X7_follow 51 = .ok (.if_icmp .ge 15, 3) by decide +kernel) (by decide),
  List.forall_mem_cons.mpr ⟨qz_aload_n C (show decode c_X7_follow 54 = .ok (.aload_n 0, 1) by decide +kernel) rfl,
  List.forall_mem_cons.mpr ⟨qz_aload_n C (show decode c_X7_follow 55 = .ok (.aload_n 1, 1) by decide +kernel) rfl,
  List.forall_mem_cons.mpr ⟨qz_iload_n C (show decode c_X7_follow 56 = .ok (.iload_n 2, 1) by decide +kernel) rfl,
  List.forall_mem_cons.mpr ⟨qz_vV C (show decode c_X7_follow 57 = .ok (.invokevirtual 31, 3) by decide +kernel) ct_X7_openArc mv_X7_openArc cw_643 vcX7 (show 3 < 4 by omega),
  List.forall_mem_cons.mpr ⟨qz_iinc C (show decode c_X7_follow 60 = .ok (.iinc 2 1, 3) by decide +kernel) (by decide +kernel),
  List.forall_mem_cons.mpr ⟨qz_goto C (show decode c_X7_follow 63 = .ok (.goto (-17), 3) by decide +kernel) (by decide),
  List.forall_mem_cons.mpr ⟨qz_aload_n C (show decode c_X7_follow 66 = .ok (.aload_n 0, 1) by decide +kernel) rfl,
  List.forall_mem_cons.mpr ⟨qz_vV C (show decode c_X7_follow 67 = .ok (.invokevirtual 35, 3) by decide +kernel) ct_X7_closeSilent mv_X7_closeSilent cw_655 vcX7 (show 3 < 4 by omega),
  List.forall_mem_cons.mpr ⟨qz_aload_n C (show decode c_X7_follow 70 = .ok (.aload_n 0, 1) by decide +kernel) rfl,
  List.forall_mem_cons.mpr ⟨qz_vV C (show decode c_X7_follow 71 = .ok (.invokevirtual 38, 3) by decide +kernel) ct_X7_closeLetters mv_X7_closeLetters cw_666 vcX7 (show 3 < 4 by omega),
  (fun q h => by cases h)⟩⟩⟩⟩⟩⟩⟩⟩⟩⟩⟩⟩⟩⟩⟩⟩⟩⟩⟩⟩⟩⟩⟩⟩⟩⟩⟩⟩⟩⟩⟩⟩⟩⟩⟩⟩⟩⟩⟩⟩
set_option maxRecDepth 20000 in
theorem sd_X7_follow_1 {G : pj_E} {A : Nat → Prop} {P : pj_P} {S : pj_U} {Z : pj_Z} (C : pj_C (G, A, (c_X7_follow, y_X7_follow.cls, 3, none, 4), P, S, Z)) : ∀ q ∈ tb_X7_follow_1, pj_S (G, A, (c_X7_follow, y_X7_follow.cls, 3, none, 4), P, S, Z) pj_eV q.1 q.2 :=
  List.forall_mem_cons.mpr ⟨qz_vret C (show decode c_X7_follow 74 = .ok (.return_, 1) by decide +kernel) rfl,
  (fun q h => by cases h)⟩
theorem sd_X7_follow {G : pj_E} {A : Nat → Prop} {P : pj_P} {S : pj_U} {Z : pj_Z} (C : pj_C (G, A, (c_X7_follow, y_X7_follow.cls, 3, none, 4), P, S, Z)) : ∀ q ∈ tb_X7_follow, pj_S (G, A, (c_X7_follow, y_X7_follow.cls, 3, none, 4), P, S, Z) pj_eV q.1 q.2 := List.forall_mem_append.mpr ⟨sd_X7_follow_0 C, sd_X7_follow_1 C⟩
noncomputable def C_X7_follow_66 (f : Nat → pj_M → Option (pj_M)) : pj_N (pj_M) := fun L st m => match L, st with
  | [some (.inr (.inr (t0, w0, a0))), _, _], [] => (match Nat.beq t0 0 && (Nat.beq w0 7) with
    | true => f a0 m
    | false => none)
  | _, _ => none
noncomputable def C_X7_follow_46 (f : Nat → Nat → Int32 → pj_M → Option (pj_M)) : pj_N (pj_M) := fun L st m => match L, st with
  | [some (.inr (.inr (t0, w0, a0))), some (.inr (.inr (t1, w1, a1))), some (.inl x2)], [] => (match Nat.beq t0 0 && (Nat.beq w0 7 && (Nat.beq t1 0 && (Nat.beq w1 4))) with
    | true => f a0 a1 x2 m
    | false => none)
  | _, _ => none
noncomputable def C_X7_follow_22 (f : Nat → Nat → Int32 → pj_M → Option (pj_M)) : pj_N (pj_M) := fun L st m => match L, st with
  | [some (.inr (.inr (t0, w0, a0))), some (.inr (.inr (t1, w1, a1))), some (.inl x2)], [] => (match Nat.beq t0 0 && (Nat.beq w0 7 && (Nat.beq t1 0 && (Nat.beq w1 4))) with
    | true => f a0 a1 x2 m
    | false => none)
  | _, _ => none
set_option maxRecDepth 20000 in
theorem eq_X7_follow_66 (a0 : Nat) (d1 d2 : Option pj_V) (m : pj_M) : pj_run tb_X7_follow [] 43 66 [some (.inr (.inr (0, 7, a0))), d1, d2] [] m = J_X7_follow_66 a0 m := by rfl
theorem sg_X7_follow_66 {G : pj_E} {A : Nat → Prop} {P : pj_P} {S : pj_U} {Z : pj_Z} (C : pj_C (G, A, (c_X7_follow, y_X7_follow.cls, 3, none, 4), P, S, Z)) : pj_G (G, A, (c_X7_follow, y_X7_follow.cls, 3, none, 4), P, S, Z) pj_eV 66 (C_X7_follow_66 (J_X7_follow_66)) := by
  intro L st m r h hR
  unfold C_X7_follow_66 at h
  split at h
  · split at h
    · rename_i hbq
      simp only [Bool.and_eq_true, Nat.beq_eq] at hbq
      obtain ⟨rfl, rfl⟩ := hbq
      exact pj_run_ok (sd_X7_follow C) (fun q h => by cases h) 43 66 _ _ _ _ ((eq_X7_follow_66 _ _ _ _).trans h) hR
    · cases h
  · cases h
set_option maxRecDepth 20000 in
theorem eq_X7_follow_46 (n1 : Nat) (a0 : Nat) (a1 : Nat) (x2 : Int32) (m : pj_M) : pj_run tb_X7_follow [(46, C_X7_follow_46 (H_X7_follow_46 n1)), (66, C_X7_follow_66 (J_X7_follow_66 ))] 43 46 [some (.inr (.inr (0, 7, a0))), some (.inr (.inr (0, 4, a1))), some (.inl x2)] [] m = H_X7_follow_46 (n1 + 1) a0 a1 x2 m := by rfl
theorem sg_X7_follow_46 {G : pj_E} {A : Nat → Prop} {P : pj_P} {S : pj_U} {Z : pj_Z} (C : pj_C (G, A, (c_X7_follow, y_X7_follow.cls, 3, none, 4), P, S, Z)) : ∀ n1, pj_G (G, A, (c_X7_follow, y_X7_follow.cls, 3, none, 4), P, S, Z) pj_eV 46 (C_X7_follow_46 (H_X7_follow_46 n1)) := by
  intro n1
  induction n1 with
  | zero =>
    intro L st m r h hR
    unfold C_X7_follow_46 at h
    split at h
    · split at h
      · cases h
      · cases h
    · cases h
  | succ n1 ih1 =>
    intro L st m r h hR
    unfold C_X7_follow_46 at h
    split at h
    · split at h
      · rename_i hbq
        simp only [Bool.and_eq_true, Nat.beq_eq] at hbq
        obtain ⟨rfl, rfl, rfl, rfl⟩ := hbq
        exact pj_run_ok (sd_X7_follow C) (List.forall_mem_cons.mpr ⟨ih1, List.forall_mem_cons.mpr ⟨sg_X7_follow_66 C , fun q h => by cases h⟩⟩) 43 46 _ _ _ _ ((eq_X7_follow_46 _ _ _ _ _).trans h) hR
      · cases h
    · cases h
set_option maxRecDepth 20000 in
theorem eq_X7_follow_22 (n1 : Nat) (a0 : Nat) (a1 : Nat) (x2 : Int32) (m : pj_M) : pj_run tb_X7_follow [(22, C_X7_follow_22 (H_X7_follow_22 n1)), (46, C_X7_follow_46 (H_X7_follow_46  pj_z))] 43 22 [some (.inr (.inr (0, 7, a0))), some (.inr (.inr (0, 4, a1))), some (.inl x2)] [] m = H_X7_follow_22 (n1 + 1) a0 a1 x2 m := by rfl
theorem sg_X7_follow_22 {G : pj_E} {A : Nat → Prop} {P : pj_P} {S : pj_U} {Z : pj_Z} (C : pj_C (G, A, (c_X7_follow, y_X7_follow.cls, 3, none, 4), P, S, Z)) : ∀ n1, pj_G (G, A, (c_X7_follow, y_X7_follow.cls, 3, none, 4), P, S, Z) pj_eV 22 (C_X7_follow_22 (H_X7_follow_22 n1)) := by
  intro n1
  induction n1 with
  | zero =>
    intro L st m r h hR
    unfold C_X7_follow_22 at h
    split at h
    · split at h
      · cases h
      · cases h
    · cases h
  | succ n1 ih1 =>
    intro L st m r h hR
    unfold C_X7_follow_22 at h
    split at h
    · split at h
      · rename_i hbq
        simp only [Bool.and_eq_true, Nat.beq_eq] at hbq
        obtain ⟨rfl, rfl, rfl, rfl⟩ := hbq
        exact pj_run_ok (sd_X7_follow C) (List.forall_mem_cons.mpr ⟨ih1, List.forall_mem_cons.mpr ⟨sg_X7_follow_46 C  pj_z, fun q h => by cases h⟩⟩) 43 22 _ _ _ _ ((eq_X7_follow_22 _ _ _ _ _).trans h) hR
      · cases h
    · cases h
set_option maxRecDepth 20000 in
theorem eq_X7_follow (a0 : Nat) (a1 : Nat) (m : pj_M) : pj_run tb_X7_follow [(22, C_X7_follow_22 (H_X7_follow_22  pj_z))] 43 0 [some (.inr (.inr (0, 7, a0))), some (.inr (.inr (0, 4, a1))), none] [] m = F_X7_follow a0 a1 m := by rfl
theorem ct_X7_follow : pj_Ct pj_eV y_X7_follow c_X7_follow 3 none 4 W_X7_follow := by
  refine pj_ct_of (by decide +kernel) ?_ ?_
  · intro as m r h
    unfold W_X7_follow at h
    split at h
    · simp [pj_l0]
    · cases h
  · intro G A P S Z C as m r h hR
    unfold W_X7_follow at h
    split at h
    · split at h
      · rename_i hbq
        simp only [Bool.and_eq_true, Nat.beq_eq] at hbq
        obtain ⟨rfl, rfl, rfl, rfl⟩ := hbq
        exact pj_run_ok (sd_X7_follow C) (List.forall_mem_cons.mpr ⟨sg_X7_follow_22 C  pj_z, fun q h => by cases h⟩) 43 0 _ _ _ _ ((eq_X7_follow _ _ _).trans h) hR
      · cases h
    · cases h
/-! AlikeSteps$Steps.gone(II)I -/
abbrev c_X7_gone : ByteArray := prog_9_method_4_code
def y_X7_gone : MethodName := ⟨RX7, "gone", "(II)I"⟩
noncomputable def F_X7_gone (a0 : Nat) (x1 : Int32) (x2 : Int32) (m : pj_M) : Option (Int32 × pj_M) := (if ((x1 * 10) + x2) < 0 ∨ 40 ≤ ((x1 * 10) + x2).toNatClampNeg then none else (some (m.1 (a0 + 1) ((x1 * 10) + x2).toNatClampNeg, m)))
noncomputable def W_X7_gone : List pj_V → pj_M → Option (Int32 × pj_M) := fun as m => match as with
  | [.inr (.inr (t0, w0, a0)), .inl x1, .inl x2] => (match Nat.beq t0 0 && (Nat.beq w0 7) with
    | true => F_X7_gone a0 x1 x2 m
    | false => none)
  | _ => none
noncomputable def tb_X7_gone_0 : List (Nat × pj_T (Int32 × pj_M)) := [(0, qs_lda 0 1), (1, qs_gf 7 0 4), (4, qs_ldi 1 5), (5, qs_ci 10 7), (7, qs_b2 (fun x y => x * y) 8), (8, qs_ldi 2 9), (9, qs_b2 (fun x y => x + y) 10), (10, qs_iald 11), (11, qs_iret)]
noncomputable abbrev tb_X7_gone : List (Nat × pj_T (Int32 × pj_M)) := tb_X7_gone_0
theorem mv_X7_gone : pj_mv y_X7_gone c_X7_gone 3 (some .int) 2 := ⟨⟨cw_681, cw_679, cw_680, cw_87⟩, by decide +kernel, by decide⟩
set_option maxRecDepth 20000 in
theorem sd_X7_gone_0 {G : pj_E} {A : Nat → Prop} {P : pj_P} {S : pj_U} {Z : pj_Z} (C : pj_C (G, A, (c_X7_gone, y_X7_gone.cls, 3, (some .int), 1), P, S, Z)) : ∀ q ∈ tb_X7_gone_0, pj_S (G, A, (c_X7_gone, y_X7_gone.cls, 3, (some .int), 1), P, S, Z) pj_eI q.1 q.2 :=
  List.forall_mem_cons.mpr ⟨qz_aload_n C (show decode c_X7_gone 0 = .ok (.aload_n 0, 1) by decide +kernel) rfl,
  List.forall_mem_cons.mpr ⟨qz_gf (k := 0) C (show decode c_X7_gone 1 = .ok (.getfield 9, 3) by decide +kernel) vcX7 wiX7 (by decide) cw_185,
  List.forall_mem_cons.mpr ⟨qz_iload_n C (show decode c_X7_gone 4 = .ok (.iload_n 1, 1) by decide +kernel) rfl,
  List.forall_mem_cons.mpr ⟨qz_bipush C (show decode c_X7_gone 5 = .ok (.bipush 10, 2) by decide +kernel) (by decide +kernel),
  List.forall_mem_cons.mpr ⟨qz_imul C (show decode c_X7_gone 7 = .ok (.imul, 1) by decide +kernel),
  List.forall_mem_cons.mpr ⟨qz_iload_n C (show decode c_X7_gone 8 = .ok (.iload_n 2, 1) by decide +kernel) rfl,
  List.forall_mem_cons.mpr ⟨qz_iadd C (show decode c_X7_gone 9 = .ok (.iadd, 1) by decide +kernel),
  List.forall_mem_cons.mpr ⟨qz_iald C (show decode c_X7_gone 10 = .ok (.iaload, 1) by decide +kernel),
  List.forall_mem_cons.mpr ⟨qz_iret C (show decode c_X7_gone 11 = .ok (.ireturn, 1) by decide +kernel) rfl,
  (fun q h => by cases h)⟩⟩⟩⟩⟩⟩⟩⟩⟩
theorem sd_X7_gone {G : pj_E} {A : Nat → Prop} {P : pj_P} {S : pj_U} {Z : pj_Z} (C : pj_C (G, A, (c_X7_gone, y_X7_gone.cls, 3, (some .int), 1), P, S, Z)) : ∀ q ∈ tb_X7_gone, pj_S (G, A, (c_X7_gone, y_X7_gone.cls, 3, (some .int), 1), P, S, Z) pj_eI q.1 q.2 := sd_X7_gone_0 C
set_option maxRecDepth 20000 in
theorem eq_X7_gone (a0 : Nat) (x1 : Int32) (x2 : Int32) (m : pj_M) : pj_run tb_X7_gone [] 11 0 [some (.inr (.inr (0, 7, a0))), some (.inl x1), some (.inl x2)] [] m = F_X7_gone a0 x1 x2 m := by rfl
theorem ct_X7_gone : pj_Ct pj_eI y_X7_gone c_X7_gone 3 (some .int) 1 W_X7_gone := by
  refine pj_ct_of (by decide +kernel) ?_ ?_
  · intro as m r h
    unfold W_X7_gone at h
    split at h
    · simp [pj_l0]
    · cases h
  · intro G A P S Z C as m r h hR
    unfold W_X7_gone at h
    split at h
    · split at h
      · rename_i hbq
        simp only [Bool.and_eq_true, Nat.beq_eq] at hbq
        obtain ⟨rfl, rfl⟩ := hbq
        exact pj_run_ok (sd_X7_gone C) (fun q h => by cases h) 11 0 _ _ _ _ ((eq_X7_gone _ _ _ _).trans h) hR
      · cases h
    · cases h
/-! AlikeSteps$Steps.moved(III)I -/
abbrev c_X7_moved : ByteArray := prog_9_method_3_code
def y_X7_moved : MethodName := ⟨RX7, "moved", "(III)I"⟩
noncomputable def F_X7_moved (a0 : Nat) (x1 : Int32) (x2 : Int32) (x3 : Int32) (m : pj_M) : Option (Int32 × pj_M) := (if x1 = 1 then (if ((x2 * 10) + x3) < 0 ∨ 40 ≤ ((x2 * 10) + x3).toNatClampNeg then none else (some (m.1 (a0 + 2) ((x2 * 10) + x3).toNatClampNeg, m))) else ((F_X7_gone a0 x2 x3 m).bind fun q1 => (some (q1.1, q1.2))))
noncomputable def W_X7_moved : List pj_V → pj_M → Option (Int32 × pj_M) := fun as m => match as with
  | [.inr (.inr (t0, w0, a0)), .inl x1, .inl x2, .inl x3] => (match Nat.beq t0 0 && (Nat.beq w0 7) with
    | true => F_X7_moved a0 x1 x2 x3 m
    | false => none)
  | _ => none
noncomputable def tb_X7_moved_0 : List (Nat × pj_T (Int32 × pj_M)) := [(0, qs_ldi 1 1), (1, qs_ci 1 2), (2, qs_icne 19 5), (5, qs_lda 0 6), (6, qs_gf 7 1 9), (9, qs_ldi 2 10), (10, qs_ci 10 12), (12, qs_b2 (fun x y => x * y) 13), (13, qs_ldi 3 14), (14, qs_b2 (fun x y => x + y) 15), (15, qs_iald 16), (16, qs_go 25), (19, qs_lda 0 20), (20, qs_ldi 2 21), (21, qs_ldi 3 22), (22, qs_vI 7 3 W_X7_gone 25), (25, qs_iret)]
noncomputable abbrev tb_X7_moved : List (Nat × pj_T (Int32 × pj_M)) := tb_X7_moved_0
theorem mv_X7_moved : pj_mv y_X7_moved c_X7_moved 4 (some .int) 3 := ⟨⟨cw_677, cw_675, cw_676, cw_87⟩, by decide +kernel, by decide⟩
set_option maxRecDepth 20000 in
theorem sd_X7_moved_0 {G : pj_E} {A : Nat → Prop} {P : pj_P} {S : pj_U} {Z : pj_Z} (C : pj_C (G, A, (c_X7_moved, y_X7_moved.cls, 4, (some .int), 2), P, S, Z)) : ∀ q ∈ tb_X7_moved_0, pj_S (G, A, (c_X7_moved, y_X7_moved.cls, 4, (some .int), 2), P, S, Z) pj_eI q.1 q.2 :=
  List.forall_mem_cons.mpr ⟨qz_iload_n C (show decode c_X7_moved 0 = .ok (.iload_n 1, 1) by decide +kernel) rfl,
  List.forall_mem_cons.mpr ⟨qz_iconst C (show decode c_X7_moved 1 = .ok (.iconst 1, 1) by decide +kernel) (by decide +kernel),
  List.forall_mem_cons.mpr ⟨qz_icne C (show decode c_X7_moved 2 = .ok (.if_icmp .ne 17, 3) by decide +kernel) (by decide),
  List.forall_mem_cons.mpr ⟨qz_aload_n C (show decode c_X7_moved 5 = .ok (.aload_n 0, 1) by decide +kernel) rfl,
  List.forall_mem_cons.mpr ⟨qz_gf (k := 1) C (show decode c_X7_moved 6 = .ok (.getfield 15, 3) by decide +kernel) vcX7 wiX7 (by decide) cw_186,
  List.forall_mem_cons.mpr ⟨qz_iload_n C (show decode c_X7_moved 9 = .ok (.iload_n 2, 1) by decide +kernel) rfl,
  List.forall_mem_cons.mpr ⟨qz_bipush C (show decode c_X7_moved 10 = .ok (.bipush 10, 2) by decide +kernel) (by decide +kernel),
  List.forall_mem_cons.mpr ⟨qz_imul C (show decode c_X7_moved 12 = .ok (.imul, 1) by decide +kernel),
  List.forall_mem_cons.mpr ⟨qz_iload_n C (show decode c_X7_moved 13 = .ok (.iload_n 3, 1) by decide +kernel) rfl,
  List.forall_mem_cons.mpr ⟨qz_iadd C (show decode c_X7_moved 14 = .ok (.iadd, 1) by decide +kernel),
  List.forall_mem_cons.mpr ⟨qz_iald C (show decode c_X7_moved 15 = .ok (.iaload, 1) by decide +kernel),
  List.forall_mem_cons.mpr ⟨qz_goto C (show decode c_X7_moved 16 = .ok (.goto 9, 3) by decide +kernel) (by decide),
  List.forall_mem_cons.mpr ⟨qz_aload_n C (show decode c_X7_moved 19 = .ok (.aload_n 0, 1) by decide +kernel) rfl,
  List.forall_mem_cons.mpr ⟨qz_iload_n C (show decode c_X7_moved 20 = .ok (.iload_n 2, 1) by decide +kernel) rfl,
  List.forall_mem_cons.mpr ⟨qz_iload_n C (show decode c_X7_moved 21 = .ok (.iload_n 3, 1) by decide +kernel) rfl,
  List.forall_mem_cons.mpr ⟨qz_vI C (show decode c_X7_moved 22 = .ok (.invokevirtual 41, 3) by decide +kernel) ct_X7_gone mv_X7_gone cw_678 vcX7 (show 1 < 2 by omega),
  List.forall_mem_cons.mpr ⟨qz_iret C (show decode c_X7_moved 25 = .ok (.ireturn, 1) by decide +kernel) rfl,
  (fun q h => by cases h)⟩⟩⟩⟩⟩⟩⟩⟩⟩⟩⟩⟩⟩⟩⟩⟩⟩
theorem sd_X7_moved {G : pj_E} {A : Nat → Prop} {P : pj_P} {S : pj_U} {Z : pj_Z} (C : pj_C (G, A, (c_X7_moved, y_X7_moved.cls, 4, (some .int), 2), P, S, Z)) : ∀ q ∈ tb_X7_moved, pj_S (G, A, (c_X7_moved, y_X7_moved.cls, 4, (some .int), 2), P, S, Z) pj_eI q.1 q.2 := sd_X7_moved_0 C
set_option maxRecDepth 20000 in
theorem eq_X7_moved (a0 : Nat) (x1 : Int32) (x2 : Int32) (x3 : Int32) (m : pj_M) : pj_run tb_X7_moved [] 19 0 [some (.inr (.inr (0, 7, a0))), some (.inl x1), some (.inl x2), some (.inl x3)] [] m = F_X7_moved a0 x1 x2 x3 m := by rfl
theorem ct_X7_moved : pj_Ct pj_eI y_X7_moved c_X7_moved 4 (some .int) 2 W_X7_moved := by
  refine pj_ct_of (by decide +kernel) ?_ ?_
  · intro as m r h
    unfold W_X7_moved at h
    split at h
    · simp [pj_l0]
    · cases h
  · intro G A P S Z C as m r h hR
    unfold W_X7_moved at h
    split at h
    · split at h
      · rename_i hbq
        simp only [Bool.and_eq_true, Nat.beq_eq] at hbq
        obtain ⟨rfl, rfl⟩ := hbq
        exact pj_run_ok (sd_X7_moved C) (fun q h => by cases h) 19 0 _ _ _ _ ((eq_X7_moved _ _ _ _ _).trans h) hR
      · cases h
    · cases h
/-! AlikeSteps$Steps.movingTo(III)I -/
abbrev c_X7_movingTo : ByteArray := prog_9_method_7_code
def y_X7_movingTo : MethodName := ⟨RX7, "movingTo", "(III)I"⟩
noncomputable def H_X7_movingTo_6 : Nat → Nat → Int32 → Int32 → Int32 → Int32 → Int32 → pj_M → Option (Int32 × pj_M)
  | 0, _, _, _, _, _, _, _ => none
  | n1 + 1, a0, x1, x2, x3, x4, x5, m => (if x5 < 10 then ((F_X7_moved a0 x1 x2 x5 m).bind fun q1 => (if (q1.1 &&& x3) = 0 then (H_X7_movingTo_6 n1 a0 x1 x2 x3 x4 (x5 + 1) q1.2) else (H_X7_movingTo_6 n1 a0 x1 x2 x3 (x4 ||| (1 <<< (x5 &&& 31))) (x5 + 1) q1.2))) else (some (x4, m)))
noncomputable def F_X7_movingTo (a0 : Nat) (x1 : Int32) (x2 : Int32) (x3 : Int32) (m : pj_M) : Option (Int32 × pj_M) := (H_X7_movingTo_6 pj_z a0 x1 x2 x3 0 0 m)
noncomputable def W_X7_movingTo : List pj_V → pj_M → Option (Int32 × pj_M) := fun as m => match as with
  | [.inr (.inr (t0, w0, a0)), .inl x1, .inl x2, .inl x3] => (match Nat.beq t0 0 && (Nat.beq w0 7) with
    | true => F_X7_movingTo a0 x1 x2 x3 m
    | false => none)
  | _ => none
noncomputable def tb_X7_movingTo_0 : List (Nat × pj_T (Int32 × pj_M)) := [(0, qs_ci 0 1), (1, qs_sti 4 3), (3, qs_ci 0 4), (4, qs_sti 5 6), (6, qs_ldi 5 8), (8, qs_ci 10 10), (10, qs_icge 41 13), (13, qs_lda 0 14), (14, qs_ldi 1 15), (15, qs_ldi 2 16), (16, qs_ldi 5 18), (18, qs_vI 7 4 W_X7_moved 21), (21, qs_ldi 3 22), (22, qs_b2 (fun x y => x &&& y) 23), (23, qs_ifeq 35 26), (26, qs_ldi 4 28), (28, qs_ci 1 29), (29, qs_ldi 5 31), (31, qs_b2 (fun x y => x <<< (y &&& 31)) 32), (32, qs_b2 (fun x y => x ||| y) 33), (33, qs_sti 4 35), (35, qs_inc 5 1 38), (38, qs_go 6), (41, qs_ldi 4 43), (43, qs_iret)]
noncomputable abbrev tb_X7_movingTo : List (Nat × pj_T (Int32 × pj_M)) := tb_X7_movingTo_0
theorem mv_X7_movingTo : pj_mv y_X7_movingTo c_X7_movingTo 6 (some .int) 3 := ⟨⟨cw_863, cw_861, cw_862, cw_87⟩, by decide +kernel, by decide⟩
set_option maxRecDepth 20000 in
theorem sd_X7_movingTo_0 {G : pj_E} {A : Nat → Prop} {P : pj_P} {S : pj_U} {Z : pj_Z} (C : pj_C (G, A, (c_X7_movingTo, y_X7_movingTo.cls, 6, (some .int), 3), P, S, Z)) : ∀ q ∈ tb_X7_movingTo_0, pj_S (G, A, (c_X7_movingTo, y_X7_movingTo.cls, 6, (some .int), 3), P, S, Z) pj_eI q.1 q.2 :=
  List.forall_mem_cons.mpr ⟨qz_iconst C (show decode c_X7_movingTo 0 = .ok (.iconst 0, 1) by decide +kernel) (by decide +kernel),
  List.forall_mem_cons.mpr ⟨qz_istore C (show decode c_X7_movingTo 1 = .ok (.istore 4, 2) by decide +kernel),
  List.forall_mem_cons.mpr ⟨qz_iconst C (show decode c_X7_movingTo 3 = .ok (.iconst 0, 1) by decide +kernel) (by decide +kernel),
  List.forall_mem_cons.mpr ⟨qz_istore C (show decode c_X7_movingTo 4 = .ok (.istore 5, 2) by decide +kernel),
  List.forall_mem_cons.mpr ⟨qz_iload C (show decode c_X7_movingTo 6 = .ok (.iload 5, 2) by decide +kernel),
  List.forall_mem_cons.mpr ⟨qz_bipush C (show decode c_X7_movingTo 8 = .ok (.bipush 10, 2) by decide +kernel) (by decide +kernel),
  List.forall_mem_cons.mpr ⟨qz_icge C (show decode c_X7_movingTo 10 = .ok (.if_icmp .ge 31, 3) by decide +kernel) (by decide),
  List.forall_mem_cons.mpr ⟨qz_aload_n C (show decode c_X7_movingTo 13 = .ok (.aload_n 0, 1) by decide +kernel) rfl,
  List.forall_mem_cons.mpr ⟨qz_iload_n C (show decode c_X7_movingTo 14 = .ok (.iload_n 1, 1) by decide +kernel) rfl,
  List.forall_mem_cons.mpr ⟨qz_iload_n C (show decode c_X7_movingTo 15 = .ok (.iload_n 2, 1) by decide +kernel) rfl,
  List.forall_mem_cons.mpr ⟨qz_iload C (show decode c_X7_movingTo 16 = .ok (.iload 5, 2) by decide +kernel),
  List.forall_mem_cons.mpr ⟨qz_vI C (show decode c_X7_movingTo 18 = .ok (.invokevirtual 49, 3) by decide +kernel) ct_X7_moved mv_X7_moved cw_864 vcX7 (show 2 < 3 by omega),
  List.forall_mem_cons.mpr ⟨qz_iload_n C (show decode c_X7_movingTo 21 = .ok (.iload_n 3, 1) by decide +kernel) rfl,
  List.forall_mem_cons.mpr ⟨qz_iand C (show decode c_X7_movingTo 22 = .ok (.iand, 1) by decide +kernel),
  List.forall_mem_cons.mpr ⟨qz_ifeq C (show decode c_X7_movingTo 23 = .ok (.ifCond .eq 12, 3) by decide +kernel) (by decide),
  List.forall_mem_cons.mpr ⟨qz_iload C (show decode c_X7_movingTo 26 = .ok (.iload 4, 2) by decide +kernel),
  List.forall_mem_cons.mpr ⟨qz_iconst C (show decode c_X7_movingTo 28 = .ok (.iconst 1, 1) by decide +kernel) (by decide +kernel),
  List.forall_mem_cons.mpr ⟨qz_iload C (show decode c_X7_movingTo 29 = .ok (.iload 5, 2) by decide +kernel),
  List.forall_mem_cons.mpr ⟨qz_ishl C (show decode c_X7_movingTo 31 = .ok (.ishl, 1) by decide +kernel),
  List.forall_mem_cons.mpr ⟨qz_ior C (show decode c_X7_movingTo 32 = .ok (.ior, 1) by decide +kernel),
  List.forall_mem_cons.mpr ⟨qz_istore C (show decode c_X7_movingTo 33 = .ok (.istore 4, 2) by decide +kernel),
  List.forall_mem_cons.mpr ⟨qz_iinc C (show decode c_X7_movingTo 35 = .ok (.iinc 5 1, 3) by decide +kernel) (by decide +kernel),
  List.forall_mem_cons.mpr ⟨qz_goto C (show decode c_X7_movingTo 38 = .ok (.goto (-32), 3) by decide +kernel) (by decide),
  List.forall_mem_cons.mpr ⟨qz_iload C (show decode c_X7_movingTo 41 = .ok (.iload 4, 2) by decide +kernel),
  List.forall_mem_cons.mpr ⟨qz_iret C (show decode c_X7_movingTo 43 = .ok (.ireturn, 1) by decide +kernel) rfl,
  (fun q h => by cases h)⟩⟩⟩⟩⟩⟩⟩⟩⟩⟩⟩⟩⟩⟩⟩⟩⟩⟩⟩⟩⟩⟩⟩⟩⟩
theorem sd_X7_movingTo {G : pj_E} {A : Nat → Prop} {P : pj_P} {S : pj_U} {Z : pj_Z} (C : pj_C (G, A, (c_X7_movingTo, y_X7_movingTo.cls, 6, (some .int), 3), P, S, Z)) : ∀ q ∈ tb_X7_movingTo, pj_S (G, A, (c_X7_movingTo, y_X7_movingTo.cls, 6, (some .int), 3), P, S, Z) pj_eI q.1 q.2 := sd_X7_movingTo_0 C
noncomputable def C_X7_movingTo_6 (f : Nat → Int32 → Int32 → Int32 → Int32 → Int32 → pj_M → Option (Int32 × pj_M)) : pj_N (Int32 × pj_M) := fun L st m => match L, st with
  | [some (.inr (.inr (t0, w0, a0))), some (.inl x1), some (.inl x2), some (.inl x3), some (.inl x4), some (.inl x5)], [] => (match Nat.beq t0 0 && (Nat.beq w0 7) with
    | true => f a0 x1 x2 x3 x4 x5 m
    | false => none)
  | _, _ => none
set_option maxRecDepth 20000 in
theorem eq_X7_movingTo_6 (n1 : Nat) (a0 : Nat) (x1 : Int32) (x2 : Int32) (x3 : Int32) (x4 : Int32) (x5 : Int32) (m : pj_M) : pj_run tb_X7_movingTo [(6, C_X7_movingTo_6 (H_X7_movingTo_6 n1))] 27 6 [some (.inr (.inr (0, 7, a0))), some (.inl x1), some (.inl x2), some (.inl x3), some (.inl x4), some (.inl x5)] [] m = H_X7_movingTo_6 (n1 + 1) a0 x1 x2 x3 x4 x5 m := by rfl
theorem sg_X7_movingTo_6 {G : pj_E} {A : Nat → Prop} {P : pj_P} {S : pj_U} {Z : pj_Z} (C : pj_C (G, A, (c_X7_movingTo, y_X7_movingTo.cls, 6, (some .int), 3), P, S, Z)) : ∀ n1, pj_G (G, A, (c_X7_movingTo, y_X7_movingTo.cls, 6, (some .int), 3), P, S, Z) pj_eI 6 (C_X7_movingTo_6 (H_X7_movingTo_6 n1)) := by
  intro n1
  induction n1 with
  | zero =>
    intro L st m r h hR
    unfold C_X7_movingTo_6 at h
    split at h
    · split at h
      · cases h
      · cases h
    · cases h
  | succ n1 ih1 =>
    intro L st m r h hR
    unfold C_X7_movingTo_6 at h
    split at h
    · split at h
      · rename_i hbq
        simp only [Bool.and_eq_true, Nat.beq_eq] at hbq
        obtain ⟨rfl, rfl⟩ := hbq
        exact pj_run_ok (sd_X7_movingTo C) (List.forall_mem_cons.mpr ⟨ih1, fun q h => by cases h⟩) 27 6 _ _ _ _ ((eq_X7_movingTo_6 _ _ _ _ _ _ _ _).trans h) hR
      · cases h
    · cases h
set_option maxRecDepth 20000 in
theorem eq_X7_movingTo (a0 : Nat) (x1 : Int32) (x2 : Int32) (x3 : Int32) (m : pj_M) : pj_run tb_X7_movingTo [(6, C_X7_movingTo_6 (H_X7_movingTo_6  pj_z))] 27 0 [some (.inr (.inr (0, 7, a0))), some (.inl x1), some (.inl x2), some (.inl x3), none, none] [] m = F_X7_movingTo a0 x1 x2 x3 m := by rfl
theorem ct_X7_movingTo : pj_Ct pj_eI y_X7_movingTo c_X7_movingTo 6 (some .int) 3 W_X7_movingTo := by
  refine pj_ct_of (by decide +kernel) ?_ ?_
  · intro as m r h
    unfold W_X7_movingTo at h
    split at h
    · simp [pj_l0]
    · cases h
  · intro G A P S Z C as m r h hR
    unfold W_X7_movingTo at h
    split at h
    · split at h
      · rename_i hbq
        simp only [Bool.and_eq_true, Nat.beq_eq] at hbq
        obtain ⟨rfl, rfl⟩ := hbq
        exact pj_run_ok (sd_X7_movingTo C) (List.forall_mem_cons.mpr ⟨sg_X7_movingTo_6 C  pj_z, fun q h => by cases h⟩) 27 0 _ _ _ _ ((eq_X7_movingTo _ _ _ _ _).trans h) hR
      · cases h
    · cases h
/-! AlikeSteps$Steps.spelt([III)I -/
abbrev c_X7_spelt : ByteArray := prog_9_method_15_code
def y_X7_spelt : MethodName := ⟨RX7, "spelt", "([III)I"⟩
noncomputable def H_X7_spelt_27 (fs : Nat → Nat → Int32 → Int32 → pj_M → Option (Int32 × pj_M)) : Nat → Nat → Nat → Int32 → Int32 → Int32 → Int32 → pj_M → Option (Int32 × pj_M)
  | 0, _, _, _, _, _, _, _ => none
  | n1 + 1, n0, a0, x1, x2, x3, x4, m => (if x4 < 4 then ((F_X7_union n0 a0 x4 x1 m).bind fun q1 => ((fs n0 a0 q1.1 (x2 - 1) q1.2).bind fun q2 => (H_X7_spelt_27 fs n1 n0 a0 x1 x2 (x3 + q2.1) (x4 + 1) q2.2))) else (some (x3, m)))
noncomputable def F_X7_spelt : Nat → Nat → Nat → Int32 → Int32 → pj_M → Option (Int32 × pj_M)
  | 0, _, _, _, _, _ => none
  | n + 1, n0, a0, x1, x2, m => (if x1 = 0 then (some (0, m)) else (if x2 < 0 then (some (0, m)) else (if (6 : Int32) < x2 then (some (0, m)) else (if x2 = 0 then (some (1, m)) else (H_X7_spelt_27 (F_X7_spelt n) pj_z n0 a0 x1 x2 0 1 m)))))
noncomputable def W_X7_spelt (n : Nat) : List pj_V → pj_M → Option (Int32 × pj_M) := fun as m => match as with
  | [.inr (.inr (t0, n0, a0)), .inl x1, .inl x2] => (match Nat.beq t0 1 with
    | true => F_X7_spelt n n0 a0 x1 x2 m
    | false => none)
  | _ => none
noncomputable def tb_X7_spelt_0 (n : Nat) : List (Nat × pj_T (Int32 × pj_M)) := [(0, qs_ldi 1 1), (1, qs_ifeq 14 4), (4, qs_ldi 2 5), (5, qs_iflt 14 8), (8, qs_ldi 2 9), (9, qs_ci 6 11), (11, qs_icle 16 14), (14, qs_ci 0 15), (15, qs_iret), (16, qs_ldi 2 17), (17, qs_ifne 22 20), (20, qs_ci 1 21), (21, qs_iret), (22, qs_ci 0 23), (23, qs_sti 3 24), (24, qs_ci 1 25), (25, qs_sti 4 27), (27, qs_ldi 4 29), (29, qs_ci 4 30), (30, qs_icge 56 33), (33, qs_ldi 3 34), (34, qs_lda 0 35), (35, qs_lda 0 36), (36, qs_ldi 4 38), (38, qs_ldi 1 39), (39, qs_sI 3 W_X7_union 42), (42, qs_ldi 2 43), (43, qs_ci 1 44), (44, qs_b2 (fun x y => x - y) 45), (45, qs_sI 3 (W_X7_spelt n) 48), (48, qs_b2 (fun x y => x + y) 49), (49, qs_sti 3 50), (50, qs_inc 4 1 53), (53, qs_go 27), (56, qs_ldi 3 57), (57, qs_iret)]
noncomputable abbrev tb_X7_spelt (n : Nat) : List (Nat × pj_T (Int32 × pj_M)) := tb_X7_spelt_0 n
theorem mv_X7_spelt : pj_ms y_X7_spelt c_X7_spelt 5 (some .int) 3 := ⟨⟨cw_909, cw_908, cw_87⟩, by decide +kernel, by decide⟩
set_option maxRecDepth 20000 in
theorem sd_X7_spelt_0 (n : Nat) (ih : pj_Ct pj_eI y_X7_spelt c_X7_spelt 5 (some .int) (2 + n) (W_X7_spelt n)) {G : pj_E} {A : Nat → Prop} {P : pj_P} {S : pj_U} {Z : pj_Z} (C : pj_C (G, A, (c_X7_spelt, y_X7_spelt.cls, 5, (some .int), 2 + (n + 1)), P, S, Z)) : ∀ q ∈ tb_X7_spelt_0 n, pj_S (G, A, (c_X7_spelt, y_X7_spelt.cls, 5, (some .int), 2 + (n + 1)), P, S, Z) pj_eI q.1 q.2 :=
  List.forall_mem_cons.mpr ⟨qz_iload_n C (show decode c_X7_spelt 0 = .ok (.iload_n 1, 1) by decide +kernel) rfl,
  List.forall_mem_cons.mpr ⟨qz_ifeq C (show decode c_X7_spelt 1 = .ok (.ifCond .eq 13, 3) by decide +kernel) (by decide),
  List.forall_mem_cons.mpr ⟨qz_iload_n C (show decode c_X7_spelt 4 = .ok (.iload_n 2, 1) by decide +kernel) rfl,
  List.forall_mem_cons.mpr ⟨qz_iflt C (show decode c_X7_spelt 5 = .ok (.ifCond .lt 9, 3) by decide +kernel) (by decide),
  List.forall_mem_cons.mpr ⟨qz_iload_n C (show decode c_X7_spelt 8 = .ok (.iload_n 2, 1) by decide +kernel) rfl,
  List.forall_mem_cons.mpr ⟨qz_bipush C (show decode c_X7_spelt 9 = .ok (.bipush 6, 2) by decide +kernel) (by decide +kernel),
  List.forall_mem_cons.mpr ⟨qz_icle C (show decode c_X7_spelt 11 = .ok (.if_icmp .le 5, 3) by decide +kernel) (by decide),
  List.forall_mem_cons.mpr ⟨qz_iconst C (show decode c_X7_spelt 14 = .ok (.iconst 0, 1) by decide +kernel) (by decide +kernel),
  List.forall_mem_cons.mpr ⟨qz_iret C (show decode c_X7_spelt 15 = .ok (.ireturn, 1) by decide +kernel) rfl,
  List.forall_mem_cons.mpr ⟨qz_iload_n C (show decode c_X7_spelt 16 = .ok (.iload_n 2, 1) by decide +kernel) rfl,
  List.forall_mem_cons.mpr ⟨qz_ifne C (show decode c_X7_spelt 17 = .ok (.ifCond .ne 5, 3) by decide +kernel) (by decide),
  List.forall_mem_cons.mpr ⟨qz_iconst C (show decode c_X7_spelt 20 = .ok (.iconst 1, 1) by decide +kernel) (by decide +kernel),
  List.forall_mem_cons.mpr ⟨qz_iret C (show decode c_X7_spelt 21 = .ok (.ireturn, 1) by decide +kernel) rfl,
  List.forall_mem_cons.mpr ⟨qz_iconst C (show decode c_X7_spelt 22 = .ok (.iconst 0, 1) by decide +kernel) (by decide +kernel),
  List.forall_mem_cons.mpr ⟨qz_istore_n C (show decode c_X7_spelt 23 = .ok (.istore_n 3, 1) by decide +kernel) rfl,
  List.forall_mem_cons.mpr ⟨qz_iconst C (show decode c_X7_spelt 24 = .ok (.iconst 1, 1) by decide +kernel) (by decide +kernel),
  List.forall_mem_cons.mpr ⟨qz_istore C (show decode c_X7_spelt 25 = .ok (.istore 4, 2) by decide +kernel),
  List.forall_mem_cons.mpr ⟨qz_iload C (show decode c_X7_spelt 27 = .ok (.iload 4, 2) by decide +kernel),
  List.forall_mem_cons.mpr ⟨qz_iconst C (show decode c_X7_spelt 29 = .ok (.iconst 4, 1) by decide +kernel) (by decide +kernel),
  List.forall_mem_cons.mpr ⟨qz_icge C (show decode c_X7_spelt 30 = .ok (.if_icmp .ge 26, 3) by decide +kernel) (by decide),
  List.forall_mem_cons.mpr ⟨qz_iload_n C (show decode c_X7_spelt 33 = .ok (.iload_n 3, 1) by decide +kernel) rfl,
  List.forall_mem_cons.mpr ⟨qz_aload_n C (show decode c_X7_spelt 34 = .ok (.aload_n 0, 1) by decide +kernel) rfl,
  List.forall_mem_cons.mpr ⟨qz_aload_n C (show decode c_X7_spelt 35 = .ok (.aload_n 0, 1) by decide +kernel) rfl,
  List.forall_mem_cons.mpr ⟨qz_iload C (show decode c_X7_spelt 36 = .ok (.iload 4, 2) by decide +kernel),
  List.forall_mem_cons.mpr ⟨qz_iload_n C (show decode c_X7_spelt 38 = .ok (.iload_n 1, 1) by decide +kernel) rfl,
  List.forall_mem_cons.mpr ⟨qz_sI C (show decode c_X7_spelt 39 = .ok (.invokestatic 45, 3) by decide +kernel) ct_X7_union mv_X7_union (Or.inl cw_663) (show 1 < 2 + (n + 1) by omega),
  List.forall_mem_cons.mpr ⟨qz_iload_n C (show decode c_X7_spelt 42 = .ok (.iload_n 2, 1) by decide +kernel) rfl,
  List.forall_mem_cons.mpr ⟨qz_iconst C (show decode c_X7_spelt 43 = .ok (.iconst 1, 1) by decide +kernel) (by decide +kernel),
  List.forall_mem_cons.mpr ⟨qz_isub C (show decode c_X7_spelt 44 = .ok (.isub, 1) by decide +kernel),
  List.forall_mem_cons.mpr ⟨qz_sI C (show decode c_X7_spelt 45 = .ok (.invokestatic 53, 3) by decide +kernel) ih mv_X7_spelt (Or.inl cw_907) (show 2 + n < 2 + (n + 1) by omega),
  List.forall_mem_cons.mpr ⟨qz_iadd C (show decode c_X7_spelt 48 = .ok (.iadd, 1) by decide +kernel),
  List.forall_mem_cons.mpr ⟨qz_istore_n C (show decode c_X7_spelt 49 = .ok (.istore_n 3, 1) by decide +kernel) rfl,
  List.forall_mem_cons.mpr ⟨qz_iinc C (show decode c_X7_spelt 50 = .ok (.iinc 4 1, 3) by decide +kernel) (by decide +kernel),
  List.forall_mem_cons.mpr ⟨qz_goto C (show decode c_X7_spelt 53 = .ok (.goto (-26), 3) by decide +kernel) (by decide),
  List.forall_mem_cons.mpr ⟨qz_iload_n C (show decode c_X7_spelt 56 = .ok (.iload_n 3, 1) by decide +kernel) rfl,
  List.forall_mem_cons.mpr ⟨qz_iret C (show decode c_X7_spelt 57 = .ok (.ireturn, 1) by decide +kernel) rfl,
  (fun q h => by cases h)⟩⟩⟩⟩⟩⟩⟩⟩⟩⟩⟩⟩⟩⟩⟩⟩⟩⟩⟩⟩⟩⟩⟩⟩⟩⟩⟩⟩⟩⟩⟩⟩⟩⟩⟩⟩
theorem sd_X7_spelt (n : Nat) (ih : pj_Ct pj_eI y_X7_spelt c_X7_spelt 5 (some .int) (2 + n) (W_X7_spelt n)) {G : pj_E} {A : Nat → Prop} {P : pj_P} {S : pj_U} {Z : pj_Z} (C : pj_C (G, A, (c_X7_spelt, y_X7_spelt.cls, 5, (some .int), 2 + (n + 1)), P, S, Z)) : ∀ q ∈ (tb_X7_spelt n), pj_S (G, A, (c_X7_spelt, y_X7_spelt.cls, 5, (some .int), 2 + (n + 1)), P, S, Z) pj_eI q.1 q.2 := sd_X7_spelt_0 n ih C
noncomputable def C_X7_spelt_27 (f : Nat → Nat → Int32 → Int32 → Int32 → Int32 → pj_M → Option (Int32 × pj_M)) : pj_N (Int32 × pj_M) := fun L st m => match L, st with
  | [some (.inr (.inr (t0, n0, a0))), some (.inl x1), some (.inl x2), some (.inl x3), some (.inl x4)], [] => (match Nat.beq t0 1 with
    | true => f n0 a0 x1 x2 x3 x4 m
    | false => none)
  | _, _ => none
set_option maxRecDepth 20000 in
theorem eq_X7_spelt_27 (n : Nat) (n1 : Nat) (n0 : Nat) (a0 : Nat) (x1 : Int32) (x2 : Int32) (x3 : Int32) (x4 : Int32) (m : pj_M) : pj_run (tb_X7_spelt n) [(27, C_X7_spelt_27 (H_X7_spelt_27 (F_X7_spelt n) n1))] 38 27 [some (.inr (.inr (1, n0, a0))), some (.inl x1), some (.inl x2), some (.inl x3), some (.inl x4)] [] m = H_X7_spelt_27 (F_X7_spelt n) (n1 + 1) n0 a0 x1 x2 x3 x4 m := by rfl
theorem sg_X7_spelt_27 (n : Nat) (ih : pj_Ct pj_eI y_X7_spelt c_X7_spelt 5 (some .int) (2 + n) (W_X7_spelt n)) {G : pj_E} {A : Nat → Prop} {P : pj_P} {S : pj_U} {Z : pj_Z} (C : pj_C (G, A, (c_X7_spelt, y_X7_spelt.cls, 5, (some .int), 2 + (n + 1)), P, S, Z)) : ∀ n1, pj_G (G, A, (c_X7_spelt, y_X7_spelt.cls, 5, (some .int), 2 + (n + 1)), P, S, Z) pj_eI 27 (C_X7_spelt_27 (H_X7_spelt_27 (F_X7_spelt n) n1)) := by
  intro n1
  induction n1 with
  | zero =>
    intro L st m r h hR
    unfold C_X7_spelt_27 at h
    split at h
    · split at h
      · cases h
      · cases h
    · cases h
  | succ n1 ih1 =>
    intro L st m r h hR
    unfold C_X7_spelt_27 at h
    split at h
    · split at h
      · rename_i hbq
        simp only [Bool.and_eq_true, Nat.beq_eq] at hbq
        subst hbq
        exact pj_run_ok (sd_X7_spelt n ih C) (List.forall_mem_cons.mpr ⟨ih1, fun q h => by cases h⟩) 38 27 _ _ _ _ ((eq_X7_spelt_27 _ _ _ _ _ _ _ _ _).trans h) hR
      · cases h
    · cases h
set_option maxRecDepth 20000 in
theorem eq_X7_spelt (n : Nat) (n0 : Nat) (a0 : Nat) (x1 : Int32) (x2 : Int32) (m : pj_M) : pj_run (tb_X7_spelt n) [(27, C_X7_spelt_27 (H_X7_spelt_27 (F_X7_spelt n)  pj_z))] 38 0 [some (.inr (.inr (1, n0, a0))), some (.inl x1), some (.inl x2), none, none] [] m = F_X7_spelt (n + 1) n0 a0 x1 x2 m := by rfl
theorem ct_X7_spelt : ∀ n, pj_Ct pj_eI y_X7_spelt c_X7_spelt 5 (some .int) (2 + n) (W_X7_spelt n) := by
  intro n
  induction n with
  | zero =>
    intro l G as m r h
    unfold W_X7_spelt at h
    split at h
    · split at h
      · cases h
      · cases h
    · cases h
  | succ n ih =>
    refine pj_ct_of (by decide +kernel) ?_ ?_
    · intro as m r h
      unfold W_X7_spelt at h
      split at h
      · simp [pj_l0]
      · cases h
    · intro G A P S Z C as m r h hR
      unfold W_X7_spelt at h
      split at h
      · split at h
        · rename_i hbq
          simp only [Bool.and_eq_true, Nat.beq_eq] at hbq
          subst hbq
          exact pj_run_ok (sd_X7_spelt n ih C) (List.forall_mem_cons.mpr ⟨sg_X7_spelt_27 n ih C  pj_z, fun q h => by cases h⟩) 38 0 _ _ _ _ ((eq_X7_spelt _ _ _ _ _ _).trans h) hR
        · cases h
      · cases h
/-! AlikeSteps$Steps.wordsFrom(II)I -/
abbrev c_X7_wordsFrom : ByteArray := prog_9_method_8_code
def y_X7_wordsFrom : MethodName := ⟨RX7, "wordsFrom", "(II)I"⟩
noncomputable def F_X7_wordsFrom (a0 : Nat) (x1 : Int32) (x2 : Int32) (m : pj_M) : Option (Int32 × pj_M) := ((F_X7_spelt 8 40 (a0 + 2) (1 <<< (x1 &&& 31)) x2 m).bind fun q1 => (some (q1.1, q1.2)))
noncomputable def W_X7_wordsFrom : List pj_V → pj_M → Option (Int32 × pj_M) := fun as m => match as with
  | [.inr (.inr (t0, w0, a0)), .inl x1, .inl x2] => (match Nat.beq t0 0 && (Nat.beq w0 7) with
    | true => F_X7_wordsFrom a0 x1 x2 m
    | false => none)
  | _ => none
noncomputable def tb_X7_wordsFrom_0 : List (Nat × pj_T (Int32 × pj_M)) := [(0, qs_lda 0 1), (1, qs_gf 7 1 4), (4, qs_ci 1 5), (5, qs_ldi 1 6), (6, qs_b2 (fun x y => x <<< (y &&& 31)) 7), (7, qs_ldi 2 8), (8, qs_sI 3 (W_X7_spelt 8) 11), (11, qs_iret)]
noncomputable abbrev tb_X7_wordsFrom : List (Nat × pj_T (Int32 × pj_M)) := tb_X7_wordsFrom_0
theorem mv_X7_wordsFrom : pj_mv y_X7_wordsFrom c_X7_wordsFrom 3 (some .int) 2 := ⟨⟨cw_906, cw_904, cw_905, cw_87⟩, by decide +kernel, by decide⟩
set_option maxRecDepth 20000 in
theorem sd_X7_wordsFrom_0 {G : pj_E} {A : Nat → Prop} {P : pj_P} {S : pj_U} {Z : pj_Z} (C : pj_C (G, A, (c_X7_wordsFrom, y_X7_wordsFrom.cls, 3, (some .int), 11), P, S, Z)) : ∀ q ∈ tb_X7_wordsFrom_0, pj_S (G, A, (c_X7_wordsFrom, y_X7_wordsFrom.cls, 3, (some .int), 11), P, S, Z) pj_eI q.1 q.2 :=
  List.forall_mem_cons.mpr ⟨qz_aload_n C (show decode c_X7_wordsFrom 0 = .ok (.aload_n 0, 1) by decide +kernel) rfl,
  List.forall_mem_cons.mpr ⟨qz_gf (k := 1) C (show decode c_X7_wordsFrom 1 = .ok (.getfield 15, 3) by decide +kernel) vcX7 wiX7 (by decide) cw_186,
  List.forall_mem_cons.mpr ⟨qz_iconst C (show decode c_X7_wordsFrom 4 = .ok (.iconst 1, 1) by decide +kernel) (by decide +kernel),
  List.forall_mem_cons.mpr ⟨qz_iload_n C (show decode c_X7_wordsFrom 5 = .ok (.iload_n 1, 1) by decide +kernel) rfl,
  List.forall_mem_cons.mpr ⟨qz_ishl C (show decode c_X7_wordsFrom 6 = .ok (.ishl, 1) by decide +kernel),
  List.forall_mem_cons.mpr ⟨qz_iload_n C (show decode c_X7_wordsFrom 7 = .ok (.iload_n 2, 1) by decide +kernel) rfl,
  List.forall_mem_cons.mpr ⟨qz_sI C (show decode c_X7_wordsFrom 8 = .ok (.invokestatic 53, 3) by decide +kernel) (ct_X7_spelt 8) mv_X7_spelt (Or.inl cw_907) (show 2 + 8 < 11 by omega),
  List.forall_mem_cons.mpr ⟨qz_iret C (show decode c_X7_wordsFrom 11 = .ok (.ireturn, 1) by decide +kernel) rfl,
  (fun q h => by cases h)⟩⟩⟩⟩⟩⟩⟩⟩
theorem sd_X7_wordsFrom {G : pj_E} {A : Nat → Prop} {P : pj_P} {S : pj_U} {Z : pj_Z} (C : pj_C (G, A, (c_X7_wordsFrom, y_X7_wordsFrom.cls, 3, (some .int), 11), P, S, Z)) : ∀ q ∈ tb_X7_wordsFrom, pj_S (G, A, (c_X7_wordsFrom, y_X7_wordsFrom.cls, 3, (some .int), 11), P, S, Z) pj_eI q.1 q.2 := sd_X7_wordsFrom_0 C
set_option maxRecDepth 20000 in
theorem eq_X7_wordsFrom (a0 : Nat) (x1 : Int32) (x2 : Int32) (m : pj_M) : pj_run tb_X7_wordsFrom [] 10 0 [some (.inr (.inr (0, 7, a0))), some (.inl x1), some (.inl x2)] [] m = F_X7_wordsFrom a0 x1 x2 m := by rfl
theorem ct_X7_wordsFrom : pj_Ct pj_eI y_X7_wordsFrom c_X7_wordsFrom 3 (some .int) 11 W_X7_wordsFrom := by
  refine pj_ct_of (by decide +kernel) ?_ ?_
  · intro as m r h
    unfold W_X7_wordsFrom at h
    split at h
    · simp [pj_l0]
    · cases h
  · intro G A P S Z C as m r h hR
    unfold W_X7_wordsFrom at h
    split at h
    · split at h
      · rename_i hbq
        simp only [Bool.and_eq_true, Nat.beq_eq] at hbq
        obtain ⟨rfl, rfl⟩ := hbq
        exact pj_run_ok (sd_X7_wordsFrom C) (fun q h => by cases h) 10 0 _ _ _ _ ((eq_X7_wordsFrom _ _ _ _).trans h) hR
      · cases h
    · cases h
/-! java/lang/Integer.bitCount(I)I -/
abbrev c_J6_bitCount_0f7a4 : ByteArray := prog_14_method_49_code
def y_J6_bitCount_0f7a4 : MethodName := ⟨RJ6, "bitCount", "(I)I"⟩
noncomputable def F_J6_bitCount_0f7a4 (x0 : Int32) (m : pj_M) : Option (Int32 × pj_M) := (some ((((((((x0 - (((x0.toUInt32 >>> ((1 : Int32).toUInt32 &&& Int32.toUInt32 31)).toInt32) &&& 1431655765)) &&& 858993459) + ((((x0 - (((x0.toUInt32 >>> ((1 : Int32).toUInt32 &&& Int32.toUInt32 31)).toInt32) &&& 1431655765)).toUInt32 >>> ((2 : Int32).toUInt32 &&& Int32.toUInt32 31)).toInt32) &&& 858993459)) + (((((x0 - (((x0.toUInt32 >>> ((1 : Int32).toUInt32 &&& Int32.toUInt32 31)).toInt32) &&& 1431655765)) &&& 858993459) + ((((x0 - (((x0.toUInt32 >>> ((1 : Int32).toUInt32 &&& Int32.toUInt32 31)).toInt32) &&& 1431655765)).toUInt32 >>> ((2 : Int32).toUInt32 &&& Int32.toUInt32 31)).toInt32) &&& 858993459)).toUInt32 >>> ((4 : Int32).toUInt32 &&& Int32.toUInt32 31)).toInt32)) &&& 252645135) + (((((((x0 - (((x0.toUInt32 >>> ((1 : Int32).toUInt32 &&& Int32.toUInt32 31)).toInt32) &&& 1431655765)) &&& 858993459) + ((((x0 - (((x0.toUInt32 >>> ((1 : Int32).toUInt32 &&& Int32.toUInt32 31)).toInt32) &&& 1431655765)).toUInt32 >>> ((2 : Int32).toUInt32 &&& Int32.toUInt32 31)).toInt32) &&& 858993459)) + (((((x0 - (((x0.toUInt32 >>> ((1 : Int32).toUInt32 &&& Int32.toUInt32 31)).toInt32) &&& 1431655765)) &&& 858993459) + ((((x0 - (((x0.toUInt32 >>> ((1 : Int32).toUInt32 &&& Int32.toUInt32 31)).toInt32) &&& 1431655765)).toUInt32 >>> ((2 : Int32).toUInt32 &&& Int32.toUInt32 31)).toInt32) &&& 858993459)).toUInt32 >>> ((4 : Int32).toUInt32 &&& Int32.toUInt32 31)).toInt32)) &&& 252645135).toUInt32 >>> ((8 : Int32).toUInt32 &&& Int32.toUInt32 31)).toInt32)) + ((((((((x0 - (((x0.toUInt32 >>> ((1 : Int32).toUInt32 &&& Int32.toUInt32 31)).toInt32) &&& 1431655765)) &&& 858993459) + ((((x0 - (((x0.toUInt32 >>> ((1 : Int32).toUInt32 &&& Int32.toUInt32 31)).toInt32) &&& 1431655765)).toUInt32 >>> ((2 : Int32).toUInt32 &&& Int32.toUInt32 31)).toInt32) &&& 858993459)) + (((((x0 - (((x0.toUInt32 >>> ((1 : Int32).toUInt32 &&& Int32.toUInt32 31)).toInt32) &&& 1431655765)) &&& 858993459) + ((((x0 - (((x0.toUInt32 >>> ((1 : Int32).toUInt32 &&& Int32.toUInt32 31)).toInt32) &&& 1431655765)).toUInt32 >>> ((2 : Int32).toUInt32 &&& Int32.toUInt32 31)).toInt32) &&& 858993459)).toUInt32 >>> ((4 : Int32).toUInt32 &&& Int32.toUInt32 31)).toInt32)) &&& 252645135) + (((((((x0 - (((x0.toUInt32 >>> ((1 : Int32).toUInt32 &&& Int32.toUInt32 31)).toInt32) &&& 1431655765)) &&& 858993459) + ((((x0 - (((x0.toUInt32 >>> ((1 : Int32).toUInt32 &&& Int32.toUInt32 31)).toInt32) &&& 1431655765)).toUInt32 >>> ((2 : Int32).toUInt32 &&& Int32.toUInt32 31)).toInt32) &&& 858993459)) + (((((x0 - (((x0.toUInt32 >>> ((1 : Int32).toUInt32 &&& Int32.toUInt32 31)).toInt32) &&& 1431655765)) &&& 858993459) + ((((x0 - (((x0.toUInt32 >>> ((1 : Int32).toUInt32 &&& Int32.toUInt32 31)).toInt32) &&& 1431655765)).toUInt32 >>> ((2 : Int32).toUInt32 &&& Int32.toUInt32 31)).toInt32) &&& 858993459)).toUInt32 >>> ((4 : Int32).toUInt32 &&& Int32.toUInt32 31)).toInt32)) &&& 252645135).toUInt32 >>> ((8 : Int32).toUInt32 &&& Int32.toUInt32 31)).toInt32)).toUInt32 >>> ((16 : Int32).toUInt32 &&& Int32.toUInt32 31)).toInt32)) &&& 63, m))
noncomputable def W_J6_bitCount_0f7a4 : List pj_V → pj_M → Option (Int32 × pj_M) := fun as m => match as with
  | [.inl x0] => F_J6_bitCount_0f7a4 x0 m
  | _ => none
noncomputable def tb_J6_bitCount_0f7a4_0 : List (Nat × pj_T (Int32 × pj_M)) := [(0, qs_ldi 0 1), (1, qs_ldi 0 2), (2, qs_ci 1 3), (3, qs_b2 (fun x y => (x.toUInt32 >>> (y.toUInt32 &&& Int32.toUInt32 31)).toInt32) 4), (4, qs_ci 1431655765 7), (7, qs_b2 (fun x y => x &&& y) 8), (8, qs_b2 (fun x y => x - y) 9), (9, qs_sti 0 10), (10, qs_ldi 0 11), (11, qs_ci 858993459 14), (14, qs_b2 (fun x y => x &&& y) 15), (15, qs_ldi 0 16), (16, qs_ci 2 17), (17, qs_b2 (fun x y => (x.toUInt32 >>> (y.toUInt32 &&& Int32.toUInt32 31)).toInt32) 18), (18, qs_ci 858993459 21), (21, qs_b2 (fun x y => x &&& y) 22), (22, qs_b2 (fun x y => x + y) 23), (23, qs_sti 0 24), (24, qs_ldi 0 25), (25, qs_ldi 0 26), (26, qs_ci 4 27), (27, qs_b2 (fun x y => (x.toUInt32 >>> (y.toUInt32 &&& Int32.toUInt32 31)).toInt32) 28), (28, qs_b2 (fun x y => x + y) 29), (29, qs_ci 252645135 32), (32, qs_b2 (fun x y => x &&& y) 33), (33, qs_sti 0 34), (34, qs_ldi 0 35), (35, qs_ldi 0 36), (36, qs_ci 8 38), (38, qs_b2 (fun x y => (x.toUInt32 >>> (y.toUInt32 &&& Int32.toUInt32 31)).toInt32) 39), (39, qs_b2 (fun x y => x + y) 40), (40, qs_sti 0 41), (41, qs_ldi 0 42), (42, qs_ldi 0 43), (43, qs_ci 16 45), (45, qs_b2 (fun x y => (x.toUInt32 >>> (y.toUInt32 &&& Int32.toUInt32 31)).toInt32) 46), (46, qs_b2 (fun x y => x + y) 47), (47, qs_sti 0 48), (48, qs_ldi 0 49), (49, qs_ci 63 51)]
noncomputable def tb_J6_bitCount_0f7a4_1 : List (Nat × pj_T (Int32 × pj_M)) := [(51, qs_b2 (fun x y => x &&& y) 52), (52, qs_iret)]
noncomputable def tb_J6_bitCount_0f7a4 : List (Nat × pj_T (Int32 × pj_M)) := tb_J6_bitCount_0f7a4_0 ++ (tb_J6_bitCount_0f7a4_1)
theorem mv_J6_bitCount_0f7a4 : pj_ms y_J6_bitCount_0f7a4 c_J6_bitCount_0f7a4 1 (some .int) 1 := ⟨⟨cw_826, cw_825, cw_95⟩, by decide +kernel, by decide⟩
set_option maxRecDepth 20000 in
theorem sd_J6_bitCount_0f7a4_0 {G : pj_E} {A : Nat → Prop} {P : pj_P} {S : pj_U} {Z : pj_Z} (C : pj_C (G, A, (c_J6_bitCount_0f7a4, y_J6_bitCount_0f7a4.cls, 1, (some .int), 1), P, S, Z)) : ∀ q ∈ tb_J6_bitCount_0f7a4_0, pj_S (G, A, (c_J6_bitCount_0f7a4, y_J6_bitCount_0f7a4.cls, 1, (some .int), 1), P, S, Z) pj_eI q.1 q.2 :=
  List.forall_mem_cons.mpr ⟨qz_iload_n C (show decode c_J6_bitCount_0f7a4 0 = .ok (.iload_n 0, 1) by decide +kernel) rfl,
  List.forall_mem_cons.mpr ⟨qz_iload_n C (show decode c_J6_bitCount_0f7a4 1 = .ok (.iload_n 0, 1) by decide +kernel) rfl,
  List.forall_mem_cons.mpr ⟨qz_iconst C (show decode c_J6_bitCount_0f7a4 2 = .ok (.iconst 1, 1) by decide +kernel) (by decide +kernel),
  List.forall_mem_cons.mpr ⟨qz_iushr C (show decode c_J6_bitCount_0f7a4 3 = .ok (.iushr, 1) by decide +kernel),
  List.forall_mem_cons.mpr ⟨qz_ldcw C (show decode c_J6_bitCount_0f7a4 4 = .ok (.ldc_w 265, 3) by decide +kernel) cw_827,
  List.forall_mem_cons.mpr ⟨qz_iand C (show decode c_J6_bitCount_0f7a4 7 = .ok (.iand, 1) by decide +kernel),
  List.forall_mem_cons.mpr ⟨qz_isub C (show decode c_J6_bitCount_0f7a4 8 = .ok (.isub, 1) by decide +kernel),
  List.forall_mem_cons.mpr ⟨qz_istore_n C (show decode c_J6_bitCount_0f7a4 9 = .ok (.istore_n 0, 1) by decide +kernel) rfl,
  List.forall_mem_cons.mpr ⟨qz_iload_n C (show decode c_J6_bitCount_0f7a4 10 = .ok (.iload_n 0, 1) by decide +kernel) rfl,
  List.forall_mem_cons.mpr ⟨qz_ldcw C (show decode c_J6_bitCount_0f7a4 11 = .ok (.ldc_w 266, 3) by decide +kernel) cw_828,
  List.forall_mem_cons.mpr ⟨qz_iand C (show decode c_J6_bitCount_0f7a4 14 = .ok (.iand, 1) by decide +kernel),
  List.forall_mem_cons.mpr ⟨qz_iload_n C (show decode c_J6_bitCount_0f7a4 15 = .ok (.iload_n 0, 1) by decide +kernel) rfl,
  List.forall_mem_cons.mpr ⟨qz_iconst C (show decode c_J6_bitCount_0f7a4 16 = .ok (.iconst 2, 1) by decide +kernel) (by decide +kernel),
  List.forall_mem_cons.mpr ⟨qz_iushr C (show decode c_J6_bitCount_0f7a4 17 = .ok (.iushr, 1) by decide +kernel),
  List.forall_mem_cons.mpr ⟨qz_ldcw C (show decode c_J6_bitCount_0f7a4 18 = .ok (.ldc_w 266, 3) by decide +kernel) cw_828,
  List.forall_mem_cons.mpr ⟨qz_iand C (show decode c_J6_bitCount_0f7a4 21 = .ok (.iand, 1) by decide +kernel),
  List.forall_mem_cons.mpr ⟨qz_iadd C (show decode c_J6_bitCount_0f7a4 22 = .ok (.iadd, 1) by decide +kernel),
  List.forall_mem_cons.mpr ⟨qz_istore_n C (show decode c_J6_bitCount_0f7a4 23 = .ok (.istore_n 0, 1) by decide +kernel) rfl,
  List.forall_mem_cons.mpr ⟨qz_iload_n C (show decode c_J6_bitCount_0f7a4 24 = .ok (.iload_n 0, 1) by decide +kernel) rfl,
  List.forall_mem_cons.mpr ⟨qz_iload_n C (show decode c_J6_bitCount_0f7a4 25 = .ok (.iload_n 0, 1) by decide +kernel) rfl,
  List.forall_mem_cons.mpr ⟨qz_iconst C (show decode c_J6_bitCount_0f7a4 26 = .ok (.iconst 4, 1) by decide +kernel) (by decide +kernel),
  List.forall_mem_cons.mpr ⟨qz_iushr C (show decode c_J6_bitCount_0f7a4 27 = .ok (.iushr, 1) by decide +kernel),
  List.forall_mem_cons.mpr ⟨qz_iadd C (show decode c_J6_bitCount_0f7a4 28 = .ok (.iadd, 1) by decide +kernel),
  List.forall_mem_cons.mpr ⟨qz_ldcw C (show decode c_J6_bitCount_0f7a4 29 = .ok (.ldc_w 267, 3) by decide +kernel) cw_829,
  List.forall_mem_cons.mpr ⟨qz_iand C (show decode c_J6_bitCount_0f7a4 32 = .ok (.iand, 1) by decide +kernel),
  List.forall_mem_cons.mpr ⟨qz_istore_n C (show decode c_J6_bitCount_0f7a4 33 = .ok (.istore_n 0, 1) by decide +kernel) rfl,
  List.forall_mem_cons.mpr ⟨qz_iload_n C (show decode c_J6_bitCount_0f7a4 34 = .ok (.iload_n 0, 1) by decide +kernel) rfl,
  List.forall_mem_cons.mpr ⟨qz_iload_n C (show decode c_J6_bitCount_0f7a4 35 = .ok (.iload_n 0, 1) by decide +kernel) rfl,
  List.forall_mem_cons.mpr ⟨qz_bipush C (show decode c_J6_bitCount_0f7a4 36 = .ok (.bipush 8, 2) by decide +kernel) (by decide +kernel),
  List.forall_mem_cons.mpr ⟨qz_iushr C (show decode c_J6_bitCount_0f7a4 38 = .ok (.iushr, 1) by decide +kernel),
  List.forall_mem_cons.mpr ⟨qz_iadd C (show decode c_J6_bitCount_0f7a4 39 = .ok (.iadd, 1) by decide +kernel),
  List.forall_mem_cons.mpr ⟨qz_istore_n C (show decode c_J6_bitCount_0f7a4 40 = .ok (.istore_n 0, 1) by decide +kernel) rfl,
  List.forall_mem_cons.mpr ⟨qz_iload_n C (show decode c_J6_bitCount_0f7a4 41 = .ok (.iload_n 0, 1) by decide +kernel) rfl,
  List.forall_mem_cons.mpr ⟨qz_iload_n C (show decode c_J6_bitCount_0f7a4 42 = .ok (.iload_n 0, 1) by decide +kernel) rfl,
  List.forall_mem_cons.mpr ⟨qz_bipush C (show decode c_J6_bitCount_0f7a4 43 = .ok (.bipush 16, 2) by decide +kernel) (by decide +kernel),
  List.forall_mem_cons.mpr ⟨qz_iushr C (show decode c_J6_bitCount_0f7a4 45 = .ok (.iushr, 1) by decide +kernel),
  List.forall_mem_cons.mpr ⟨qz_iadd C (show decode c_J6_bitCount_0f7a4 46 = .ok (.iadd, 1) by decide +kernel),
  List.forall_mem_cons.mpr ⟨qz_istore_n C (show decode c_J6_bitCount_0f7a4 47 = .ok (.istore_n 0, 1) by decide +kernel) rfl,
  List.forall_mem_cons.mpr ⟨qz_iload_n C (show decode c_J6_bitCount_0f7a4 48 = .ok (.iload_n 0, 1) by decide +kernel) rfl,
  List.forall_mem_cons.mpr ⟨qz_bipush C (show decode c_J6_bitCount_0f7a4 49 = .ok (.bipush 63, 2) by decide +kernel) (by decide +kernel),
  (fun q h => by cases h)⟩⟩⟩⟩⟩⟩⟩⟩⟩⟩⟩⟩⟩⟩⟩⟩⟩⟩⟩⟩⟩⟩⟩⟩⟩⟩⟩⟩⟩⟩⟩⟩⟩⟩⟩⟩⟩⟩⟩⟩
set_option maxRecDepth 20000 in
theorem sd_J6_bitCount_0f7a4_1 {G : pj_E} {A : Nat → Prop} {P : pj_P} {S : pj_U} {Z : pj_Z} (C : pj_C (G, A, (c_J6_bitCount_0f7a4, y_J6_bitCount_0f7a4.cls, 1, (some .int), 1), P, S, Z)) : ∀ q ∈ tb_J6_bitCount_0f7a4_1, pj_S (G, A, (c_J6_bitCount_0f7a4, y_J6_bitCount_0f7a4.cls, 1, (some .int), 1), P, S, Z) pj_eI q.1 q.2 :=
  List.forall_mem_cons.mpr ⟨qz_iand C (show decode c_J6_bitCount_0f7a4 51 = .ok (.iand, 1) by decide +kernel),
  List.forall_mem_cons.mpr ⟨qz_iret C (show decode c_J6_bitCount_0f7a4 52 = .ok (.ireturn, 1) by decide +kernel) rfl,
  (fun q h => by cases h)⟩⟩
theorem sd_J6_bitCount_0f7a4 {G : pj_E} {A : Nat → Prop} {P : pj_P} {S : pj_U} {Z : pj_Z} (C : pj_C (G, A, (c_J6_bitCount_0f7a4, y_J6_bitCount_0f7a4.cls, 1, (some .int), 1), P, S, Z)) : ∀ q ∈ tb_J6_bitCount_0f7a4, pj_S (G, A, (c_J6_bitCount_0f7a4, y_J6_bitCount_0f7a4.cls, 1, (some .int), 1), P, S, Z) pj_eI q.1 q.2 := List.forall_mem_append.mpr ⟨sd_J6_bitCount_0f7a4_0 C, sd_J6_bitCount_0f7a4_1 C⟩
set_option maxRecDepth 20000 in
theorem eq_J6_bitCount_0f7a4 (x0 : Int32) (m : pj_M) : pj_run tb_J6_bitCount_0f7a4 [] 44 0 [some (.inl x0)] [] m = F_J6_bitCount_0f7a4 x0 m := by rfl
theorem ct_J6_bitCount_0f7a4 : pj_Ct pj_eI y_J6_bitCount_0f7a4 c_J6_bitCount_0f7a4 1 (some .int) 1 W_J6_bitCount_0f7a4 := by
  refine pj_ct_of (by decide +kernel) ?_ ?_
  · intro as m r h
    unfold W_J6_bitCount_0f7a4 at h
    split at h
    · simp [pj_l0]
    · cases h
  · intro G A P S Z C as m r h hR
    unfold W_J6_bitCount_0f7a4 at h
    split at h
    · exact pj_run_ok (sd_J6_bitCount_0f7a4 C) (fun q h => by cases h) 44 0 _ _ _ _ ((eq_J6_bitCount_0f7a4 _ _).trans h) hR
    · cases h
/-! AlikeSteps$Steps.ways(I)I -/
abbrev c_X7_ways : ByteArray := prog_9_method_10_code
def y_X7_ways : MethodName := ⟨RX7, "ways", "(I)I"⟩
noncomputable def H_X7_ways_4 : Nat → Nat → Int32 → Int32 → Int32 → pj_M → Option (Int32 × pj_M)
  | 0, _, _, _, _, _ => none
  | n1 + 1, a0, x1, x2, x3, m => (if x3 < 4 then ((F_X7_gone a0 x3 x1 m).bind fun q1 => ((F_J6_bitCount_0f7a4 q1.1 q1.2).bind fun q2 => (H_X7_ways_4 n1 a0 x1 (x2 + q2.1) (x3 + 1) q2.2))) else (some (x2, m)))
noncomputable def F_X7_ways (a0 : Nat) (x1 : Int32) (m : pj_M) : Option (Int32 × pj_M) := (H_X7_ways_4 pj_z a0 x1 0 0 m)
noncomputable def W_X7_ways : List pj_V → pj_M → Option (Int32 × pj_M) := fun as m => match as with
  | [.inr (.inr (t0, w0, a0)), .inl x1] => (match Nat.beq t0 0 && (Nat.beq w0 7) with
    | true => F_X7_ways a0 x1 m
    | false => none)
  | _ => none
noncomputable def tb_X7_ways_0 : List (Nat × pj_T (Int32 × pj_M)) := [(0, qs_ci 0 1), (1, qs_sti 2 2), (2, qs_ci 0 3), (3, qs_sti 3 4), (4, qs_ldi 3 5), (5, qs_ci 4 6), (6, qs_icge 27 9), (9, qs_ldi 2 10), (10, qs_lda 0 11), (11, qs_ldi 3 12), (12, qs_ldi 1 13), (13, qs_vI 7 3 W_X7_gone 16), (16, qs_sI 1 W_J6_bitCount_0f7a4 19), (19, qs_b2 (fun x y => x + y) 20), (20, qs_sti 2 21), (21, qs_inc 3 1 24), (24, qs_go 4), (27, qs_ldi 2 28), (28, qs_iret)]
noncomputable abbrev tb_X7_ways : List (Nat × pj_T (Int32 × pj_M)) := tb_X7_ways_0
theorem mv_X7_ways : pj_mv y_X7_ways c_X7_ways 4 (some .int) 1 := ⟨⟨cw_924, cw_922, cw_923, cw_87⟩, by decide +kernel, by decide⟩
set_option maxRecDepth 20000 in
theorem sd_X7_ways_0 {G : pj_E} {A : Nat → Prop} {P : pj_P} {S : pj_U} {Z : pj_Z} (C : pj_C (G, A, (c_X7_ways, y_X7_ways.cls, 4, (some .int), 2), P, S, Z)) : ∀ q ∈ tb_X7_ways_0, pj_S (G, A, (c_X7_ways, y_X7_ways.cls, 4, (some .int), 2), P, S, Z) pj_eI q.1 q.2 :=
  List.forall_mem_cons.mpr ⟨qz_iconst C (show decode c_X7_ways 0 = .ok (.iconst 0, 1) by decide +kernel) (by decide +kernel),
  List.forall_mem_cons.mpr ⟨qz_istore_n C (show decode c_X7_ways 1 = .ok (.istore_n 2, 1) by decide +kernel) rfl,
  List.forall_mem_cons.mpr ⟨qz_iconst C (show decode c_X7_ways 2 = .ok (.iconst 0, 1) by decide +kernel) (by decide +kernel),
  List.forall_mem_cons.mpr ⟨qz_istore_n C (show decode c_X7_ways 3 = .ok (.istore_n 3, 1) by decide +kernel) rfl,
  List.forall_mem_cons.mpr ⟨qz_iload_n C (show decode c_X7_ways 4 = .ok (.iload_n 3, 1) by decide +kernel) rfl,
  List.forall_mem_cons.mpr ⟨qz_iconst C (show decode c_X7_ways 5 = .ok (.iconst 4, 1) by decide +kernel) (by decide +kernel),
  List.forall_mem_cons.mpr ⟨qz_icge C (show decode c_X7_ways 6 = .ok (.if_icmp .ge 21, 3) by decide +kernel) (by decide),
  List.forall_mem_cons.mpr ⟨qz_iload_n C (show decode c_X7_ways 9 = .ok (.iload_n 2, 1) by decide +kernel) rfl,
  List.forall_mem_cons.mpr ⟨qz_aload_n C (show decode c_X7_ways 10 = .ok (.aload_n 0, 1) by decide +kernel) rfl,
  List.forall_mem_cons.mpr ⟨qz_iload_n C (show decode c_X7_ways 11 = .ok (.iload_n 3, 1) by decide +kernel) rfl,
  List.forall_mem_cons.mpr ⟨qz_iload_n C (show decode c_X7_ways 12 = .ok (.iload_n 1, 1) by decide +kernel) rfl,
  List.forall_mem_cons.mpr ⟨qz_vI C (show decode c_X7_ways 13 = .ok (.invokevirtual 41, 3) by decide +kernel) ct_X7_gone mv_X7_gone cw_678 vcX7 (show 1 < 2 by omega),
  List.forall_mem_cons.mpr ⟨qz_sI C (show decode c_X7_ways 16 = .ok (.invokestatic 67, 3) by decide +kernel) ct_J6_bitCount_0f7a4 mv_J6_bitCount_0f7a4 (Or.inl cw_925) (show 1 < 2 by omega),
  List.forall_mem_cons.mpr ⟨qz_iadd C (show decode c_X7_ways 19 = .ok (.iadd, 1) by decide +kernel),
  List.forall_mem_cons.mpr ⟨qz_istore_n C (show decode c_X7_ways 20 = .ok (.istore_n 2, 1) by decide +kernel) rfl,
  List.forall_mem_cons.mpr ⟨qz_iinc C (show decode c_X7_ways 21 = .ok (.iinc 3 1, 3) by decide +kernel) (by decide +kernel),
  List.forall_mem_cons.mpr ⟨qz_goto C (show decode c_X7_ways 24 = .ok (.goto (-20), 3) by decide +kernel) (by decide),
  List.forall_mem_cons.mpr ⟨qz_iload_n C (show decode c_X7_ways 27 = .ok (.iload_n 2, 1) by decide +kernel) rfl,
  List.forall_mem_cons.mpr ⟨qz_iret C (show decode c_X7_ways 28 = .ok (.ireturn, 1) by decide +kernel) rfl,
  (fun q h => by cases h)⟩⟩⟩⟩⟩⟩⟩⟩⟩⟩⟩⟩⟩⟩⟩⟩⟩⟩⟩
theorem sd_X7_ways {G : pj_E} {A : Nat → Prop} {P : pj_P} {S : pj_U} {Z : pj_Z} (C : pj_C (G, A, (c_X7_ways, y_X7_ways.cls, 4, (some .int), 2), P, S, Z)) : ∀ q ∈ tb_X7_ways, pj_S (G, A, (c_X7_ways, y_X7_ways.cls, 4, (some .int), 2), P, S, Z) pj_eI q.1 q.2 := sd_X7_ways_0 C
noncomputable def C_X7_ways_4 (f : Nat → Int32 → Int32 → Int32 → pj_M → Option (Int32 × pj_M)) : pj_N (Int32 × pj_M) := fun L st m => match L, st with
  | [some (.inr (.inr (t0, w0, a0))), some (.inl x1), some (.inl x2), some (.inl x3)], [] => (match Nat.beq t0 0 && (Nat.beq w0 7) with
    | true => f a0 x1 x2 x3 m
    | false => none)
  | _, _ => none
set_option maxRecDepth 20000 in
theorem eq_X7_ways_4 (n1 : Nat) (a0 : Nat) (x1 : Int32) (x2 : Int32) (x3 : Int32) (m : pj_M) : pj_run tb_X7_ways [(4, C_X7_ways_4 (H_X7_ways_4 n1))] 21 4 [some (.inr (.inr (0, 7, a0))), some (.inl x1), some (.inl x2), some (.inl x3)] [] m = H_X7_ways_4 (n1 + 1) a0 x1 x2 x3 m := by rfl
theorem sg_X7_ways_4 {G : pj_E} {A : Nat → Prop} {P : pj_P} {S : pj_U} {Z : pj_Z} (C : pj_C (G, A, (c_X7_ways, y_X7_ways.cls, 4, (some .int), 2), P, S, Z)) : ∀ n1, pj_G (G, A, (c_X7_ways, y_X7_ways.cls, 4, (some .int), 2), P, S, Z) pj_eI 4 (C_X7_ways_4 (H_X7_ways_4 n1)) := by
  intro n1
  induction n1 with
  | zero =>
    intro L st m r h hR
    unfold C_X7_ways_4 at h
    split at h
    · split at h
      · cases h
      · cases h
    · cases h
  | succ n1 ih1 =>
    intro L st m r h hR
    unfold C_X7_ways_4 at h
    split at h
    · split at h
      · rename_i hbq
        simp only [Bool.and_eq_true, Nat.beq_eq] at hbq
        obtain ⟨rfl, rfl⟩ := hbq
        exact pj_run_ok (sd_X7_ways C) (List.forall_mem_cons.mpr ⟨ih1, fun q h => by cases h⟩) 21 4 _ _ _ _ ((eq_X7_ways_4 _ _ _ _ _ _).trans h) hR
      · cases h
    · cases h
set_option maxRecDepth 20000 in
theorem eq_X7_ways (a0 : Nat) (x1 : Int32) (m : pj_M) : pj_run tb_X7_ways [(4, C_X7_ways_4 (H_X7_ways_4  pj_z))] 21 0 [some (.inr (.inr (0, 7, a0))), some (.inl x1), none, none] [] m = F_X7_ways a0 x1 m := by rfl
theorem ct_X7_ways : pj_Ct pj_eI y_X7_ways c_X7_ways 4 (some .int) 2 W_X7_ways := by
  refine pj_ct_of (by decide +kernel) ?_ ?_
  · intro as m r h
    unfold W_X7_ways at h
    split at h
    · simp [pj_l0]
    · cases h
  · intro G A P S Z C as m r h hR
    unfold W_X7_ways at h
    split at h
    · split at h
      · rename_i hbq
        simp only [Bool.and_eq_true, Nat.beq_eq] at hbq
        obtain ⟨rfl, rfl⟩ := hbq
        exact pj_run_ok (sd_X7_ways C) (List.forall_mem_cons.mpr ⟨sg_X7_ways_4 C  pj_z, fun q h => by cases h⟩) 21 0 _ _ _ _ ((eq_X7_ways _ _ _).trans h) hR
      · cases h
    · cases h
/-! AlikeSteps$Steps.way(II)I -/
abbrev c_X7_way : ByteArray := prog_9_method_11_code
def y_X7_way : MethodName := ⟨RX7, "way", "(II)I"⟩
noncomputable def H_X7_way_14 (k5 : Nat → Int32 → Int32 → Int32 → pj_M → Option (Int32 × pj_M)) : Nat → Nat → Int32 → Int32 → Int32 → Int32 → pj_M → Option (Int32 × pj_M)
  | 0, _, _, _, _, _, _ => none
  | n1 + 1, a0, x1, x3, x4, x5, m => (if x5 < 10 then ((F_X7_gone a0 x4 x1 m).bind fun q1 => (if ((q1.1 >>> (x5 &&& 31)) &&& 1) = 0 then (H_X7_way_14 k5 n1 a0 x1 x3 x4 (x5 + 1) q1.2) else (if x3 = 0 then (some (x5, q1.2)) else (H_X7_way_14 k5 n1 a0 x1 (x3 - 1) x4 (x5 + 1) q1.2)))) else (k5 a0 x1 x3 (x4 + 1) m))
noncomputable def H_X7_way_5 : Nat → Nat → Int32 → Int32 → Int32 → pj_M → Option (Int32 × pj_M)
  | 0, _, _, _, _, _ => none
  | n1 + 1, a0, x1, x3, x4, m => (if x4 < 4 then (H_X7_way_14 (H_X7_way_5 n1) pj_z a0 x1 x3 x4 0 m) else (some (x1, m)))
noncomputable def F_X7_way (a0 : Nat) (x1 : Int32) (x2 : Int32) (m : pj_M) : Option (Int32 × pj_M) := (H_X7_way_5 pj_z a0 x1 x2 0 m)
noncomputable def W_X7_way : List pj_V → pj_M → Option (Int32 × pj_M) := fun as m => match as with
  | [.inr (.inr (t0, w0, a0)), .inl x1, .inl x2] => (match Nat.beq t0 0 && (Nat.beq w0 7) with
    | true => F_X7_way a0 x1 x2 m
    | false => none)
  | _ => none
noncomputable def tb_X7_way_0 : List (Nat × pj_T (Int32 × pj_M)) := [(0, qs_ldi 2 1), (1, qs_sti 3 2), (2, qs_ci 0 3), (3, qs_sti 4 5), (5, qs_ldi 4 7), (7, qs_ci 4 8), (8, qs_icge 58 11), (11, qs_ci 0 12), (12, qs_sti 5 14), (14, qs_ldi 5 16), (16, qs_ci 10 18), (18, qs_icge 52 21), (21, qs_lda 0 22), (22, qs_ldi 4 24), (24, qs_ldi 1 25), (25, qs_vI 7 3 W_X7_gone 28), (28, qs_ldi 5 30), (30, qs_b2 (fun x y => x >>> (y &&& 31)) 31), (31, qs_ci 1 32), (32, qs_b2 (fun x y => x &&& y) 33), (33, qs_ifeq 46 36), (36, qs_ldi 3 37), (37, qs_ifne 43 40), (40, qs_ldi 5 42), (42, qs_iret), (43, qs_dec 3 1 46), (46, qs_inc 5 1 49), (49, qs_go 14), (52, qs_inc 4 1 55), (55, qs_go 5), (58, qs_ldi 1 59), (59, qs_iret)]
noncomputable abbrev tb_X7_way : List (Nat × pj_T (Int32 × pj_M)) := tb_X7_way_0
theorem mv_X7_way : pj_mv y_X7_way c_X7_way 6 (some .int) 2 := ⟨⟨cw_929, cw_928, cw_26, cw_87⟩, by decide +kernel, by decide⟩
set_option maxRecDepth 20000 in
theorem sd_X7_way_0 {G : pj_E} {A : Nat → Prop} {P : pj_P} {S : pj_U} {Z : pj_Z} (C : pj_C (G, A, (c_X7_way, y_X7_way.cls, 6, (some .int), 2), P, S, Z)) : ∀ q ∈ tb_X7_way_0, pj_S (G, A, (c_X7_way, y_X7_way.cls, 6, (some .int), 2), P, S, Z) pj_eI q.1 q.2 :=
  List.forall_mem_cons.mpr ⟨qz_iload_n C (show decode c_X7_way 0 = .ok (.iload_n 2, 1) by decide +kernel) rfl,
  List.forall_mem_cons.mpr ⟨qz_istore_n C (show decode c_X7_way 1 = .ok (.istore_n 3, 1) by decide +kernel) rfl,
  List.forall_mem_cons.mpr ⟨qz_iconst C (show decode c_X7_way 2 = .ok (.iconst 0, 1) by decide +kernel) (by decide +kernel),
  List.forall_mem_cons.mpr ⟨qz_istore C (show decode c_X7_way 3 = .ok (.istore 4, 2) by decide +kernel),
  List.forall_mem_cons.mpr ⟨qz_iload C (show decode c_X7_way 5 = .ok (.iload 4, 2) by decide +kernel),
  List.forall_mem_cons.mpr ⟨qz_iconst C (show decode c_X7_way 7 = .ok (.iconst 4, 1) by decide +kernel) (by decide +kernel),
  List.forall_mem_cons.mpr ⟨qz_icge C (show decode c_X7_way 8 = .ok (.if_icmp .ge 50, 3) by decide +kernel) (by decide),
  List.forall_mem_cons.mpr ⟨qz_iconst C (show decode c_X7_way 11 = .ok (.iconst 0, 1) by decide +kernel) (by decide +kernel),
  List.forall_mem_cons.mpr ⟨qz_istore C (show decode c_X7_way 12 = .ok (.istore 5, 2) by decide +kernel),
  List.forall_mem_cons.mpr ⟨qz_iload C (show decode c_X7_way 14 = .ok (.iload 5, 2) by decide +kernel),
  List.forall_mem_cons.mpr ⟨qz_bipush C (show decode c_X7_way 16 = .ok (.bipush 10, 2) by decide +kernel) (by decide +kernel),
  List.forall_mem_cons.mpr ⟨qz_icge C (show decode c_X7_way 18 = .ok (.if_icmp .ge 34, 3) by decide +kernel) (by decide),
  List.forall_mem_cons.mpr ⟨qz_aload_n C (show decode c_X7_way 21 = .ok (.aload_n 0, 1) by decide +kernel) rfl,
  List.forall_mem_cons.mpr ⟨qz_iload C (show decode c_X7_way 22 = .ok (.iload 4, 2) by decide +kernel),
  List.forall_mem_cons.mpr ⟨qz_iload_n C (show decode c_X7_way 24 = .ok (.iload_n 1, 1) by decide +kernel) rfl,
  List.forall_mem_cons.mpr ⟨qz_vI C (show decode c_X7_way 25 = .ok (.invokevirtual 41, 3) by decide +kernel) ct_X7_gone mv_X7_gone cw_678 vcX7 (show 1 < 2 by omega),
  List.forall_mem_cons.mpr ⟨qz_iload C (show decode c_X7_way 28 = .ok (.iload 5, 2) by decide +kernel),
  List.forall_mem_cons.mpr ⟨qz_ishr C (show decode c_X7_way 30 = .ok (.ishr, 1) by decide +kernel),
  List.forall_mem_cons.mpr ⟨qz_iconst C (show decode c_X7_way 31 = .ok (.iconst 1, 1) by decide +kernel) (by decide +kernel),
  List.forall_mem_cons.mpr ⟨qz_iand C (show decode c_X7_way 32 = .ok (.iand, 1) by decide +kernel),
  List.forall_mem_cons.mpr ⟨qz_ifeq C (show decode c_X7_way 33 = .ok (.ifCond .eq 13, 3) by decide +kernel) (by decide),
  List.forall_mem_cons.mpr ⟨qz_iload_n C (show decode c_X7_way 36 = .ok (.iload_n 3, 1) by decide +kernel) rfl,
  List.forall_mem_cons.mpr ⟨qz_ifne C (show decode c_X7_way 37 = .ok (.ifCond .ne 6, 3) by decide +kernel) (by decide),
  List.forall_mem_cons.mpr ⟨qz_iload C (show decode c_X7_way 40 = .ok (.iload 5, 2) by decide +kernel),
  List.forall_mem_cons.mpr ⟨qz_iret C (show decode c_X7_way 42 = .ok (.ireturn, 1) by decide +kernel) rfl,
  List.forall_mem_cons.mpr ⟨qz_idec C (show decode c_X7_way 43 = .ok (.iinc 3 (-1), 3) by decide +kernel) (by decide +kernel),
  List.forall_mem_cons.mpr ⟨qz_iinc C (show decode c_X7_way 46 = .ok (.iinc 5 1, 3) by decide +kernel) (by decide +kernel),
  List.forall_mem_cons.mpr ⟨qz_goto C (show decode c_X7_way 49 = .ok (.goto (-35), 3) by decide +kernel) (by decide),
  List.forall_mem_cons.mpr ⟨qz_iinc C (show decode c_X7_way 52 = .ok (.iinc 4 1, 3) by decide +kernel) (by decide +kernel),
  List.forall_mem_cons.mpr ⟨qz_goto C (show decode c_X7_way 55 = .ok (.goto (-50), 3) by decide +kernel) (by decide),
  List.forall_mem_cons.mpr ⟨qz_iload_n C (show decode c_X7_way 58 = .ok (.iload_n 1, 1) by decide +kernel) rfl,
  List.forall_mem_cons.mpr ⟨qz_iret C (show decode c_X7_way 59 = .ok (.ireturn, 1) by decide +kernel) rfl,
  (fun q h => by cases h)⟩⟩⟩⟩⟩⟩⟩⟩⟩⟩⟩⟩⟩⟩⟩⟩⟩⟩⟩⟩⟩⟩⟩⟩⟩⟩⟩⟩⟩⟩⟩⟩
theorem sd_X7_way {G : pj_E} {A : Nat → Prop} {P : pj_P} {S : pj_U} {Z : pj_Z} (C : pj_C (G, A, (c_X7_way, y_X7_way.cls, 6, (some .int), 2), P, S, Z)) : ∀ q ∈ tb_X7_way, pj_S (G, A, (c_X7_way, y_X7_way.cls, 6, (some .int), 2), P, S, Z) pj_eI q.1 q.2 := sd_X7_way_0 C
noncomputable def C_X7_way_14 (f : Nat → Int32 → Int32 → Int32 → Int32 → pj_M → Option (Int32 × pj_M)) : pj_N (Int32 × pj_M) := fun L st m => match L, st with
  | [some (.inr (.inr (t0, w0, a0))), some (.inl x1), _, some (.inl x3), some (.inl x4), some (.inl x5)], [] => (match Nat.beq t0 0 && (Nat.beq w0 7) with
    | true => f a0 x1 x3 x4 x5 m
    | false => none)
  | _, _ => none
noncomputable def C_X7_way_5 (f : Nat → Int32 → Int32 → Int32 → pj_M → Option (Int32 × pj_M)) : pj_N (Int32 × pj_M) := fun L st m => match L, st with
  | [some (.inr (.inr (t0, w0, a0))), some (.inl x1), _, some (.inl x3), some (.inl x4), _], [] => (match Nat.beq t0 0 && (Nat.beq w0 7) with
    | true => f a0 x1 x3 x4 m
    | false => none)
  | _, _ => none
set_option maxRecDepth 20000 in
theorem eq_X7_way_14 (k5 : Nat → Int32 → Int32 → Int32 → pj_M → Option (Int32 × pj_M)) (n1 : Nat) (a0 : Nat) (x1 : Int32) (x3 : Int32) (x4 : Int32) (x5 : Int32) (d2 : Option pj_V) (m : pj_M) : pj_run tb_X7_way [(5, C_X7_way_5 k5), (14, C_X7_way_14 (H_X7_way_14 k5 n1))] 34 14 [some (.inr (.inr (0, 7, a0))), some (.inl x1), d2, some (.inl x3), some (.inl x4), some (.inl x5)] [] m = H_X7_way_14 k5 (n1 + 1) a0 x1 x3 x4 x5 m := by rfl
theorem sg_X7_way_14 {G : pj_E} {A : Nat → Prop} {P : pj_P} {S : pj_U} {Z : pj_Z} (C : pj_C (G, A, (c_X7_way, y_X7_way.cls, 6, (some .int), 2), P, S, Z)) {k5 : Nat → Int32 → Int32 → Int32 → pj_M → Option (Int32 × pj_M)} (hk5 : pj_G (G, A, (c_X7_way, y_X7_way.cls, 6, (some .int), 2), P, S, Z) pj_eI 5 (C_X7_way_5 k5)) : ∀ n1, pj_G (G, A, (c_X7_way, y_X7_way.cls, 6, (some .int), 2), P, S, Z) pj_eI 14 (C_X7_way_14 (H_X7_way_14 k5 n1)) := by
  intro n1
  induction n1 with
  | zero =>
    intro L st m r h hR
    unfold C_X7_way_14 at h
    split at h
    · split at h
      · cases h
      · cases h
    · cases h
  | succ n1 ih1 =>
    intro L st m r h hR
    unfold C_X7_way_14 at h
    split at h
    · split at h
      · rename_i hbq
        simp only [Bool.and_eq_true, Nat.beq_eq] at hbq
        obtain ⟨rfl, rfl⟩ := hbq
        exact pj_run_ok (sd_X7_way C) (List.forall_mem_cons.mpr ⟨hk5, List.forall_mem_cons.mpr ⟨ih1, fun q h => by cases h⟩⟩) 34 14 _ _ _ _ ((eq_X7_way_14 _ _ _ _ _ _ _ _ _).trans h) hR
      · cases h
    · cases h
set_option maxRecDepth 20000 in
theorem eq_X7_way_5 (n1 : Nat) (a0 : Nat) (x1 : Int32) (x3 : Int32) (x4 : Int32) (d2 d5 : Option pj_V) (m : pj_M) : pj_run tb_X7_way [(14, C_X7_way_14 (H_X7_way_14 (H_X7_way_5 n1) pj_z))] 34 5 [some (.inr (.inr (0, 7, a0))), some (.inl x1), d2, some (.inl x3), some (.inl x4), d5] [] m = H_X7_way_5 (n1 + 1) a0 x1 x3 x4 m := by rfl
theorem sg_X7_way_5 {G : pj_E} {A : Nat → Prop} {P : pj_P} {S : pj_U} {Z : pj_Z} (C : pj_C (G, A, (c_X7_way, y_X7_way.cls, 6, (some .int), 2), P, S, Z)) : ∀ n1, pj_G (G, A, (c_X7_way, y_X7_way.cls, 6, (some .int), 2), P, S, Z) pj_eI 5 (C_X7_way_5 (H_X7_way_5 n1)) := by
  intro n1
  induction n1 with
  | zero =>
    intro L st m r h hR
    unfold C_X7_way_5 at h
    split at h
    · split at h
      · cases h
      · cases h
    · cases h
  | succ n1 ih1 =>
    intro L st m r h hR
    unfold C_X7_way_5 at h
    split at h
    · split at h
      · rename_i hbq
        simp only [Bool.and_eq_true, Nat.beq_eq] at hbq
        obtain ⟨rfl, rfl⟩ := hbq
        exact pj_run_ok (sd_X7_way C) (List.forall_mem_cons.mpr ⟨sg_X7_way_14 C ih1 pj_z, fun q h => by cases h⟩) 34 5 _ _ _ _ ((eq_X7_way_5 _ _ _ _ _ _ _ _).trans h) hR
      · cases h
    · cases h
set_option maxRecDepth 20000 in
theorem eq_X7_way (a0 : Nat) (x1 : Int32) (x2 : Int32) (m : pj_M) : pj_run tb_X7_way [(5, C_X7_way_5 (H_X7_way_5  pj_z))] 34 0 [some (.inr (.inr (0, 7, a0))), some (.inl x1), some (.inl x2), none, none, none] [] m = F_X7_way a0 x1 x2 m := by rfl
theorem ct_X7_way : pj_Ct pj_eI y_X7_way c_X7_way 6 (some .int) 2 W_X7_way := by
  refine pj_ct_of (by decide +kernel) ?_ ?_
  · intro as m r h
    unfold W_X7_way at h
    split at h
    · simp [pj_l0]
    · cases h
  · intro G A P S Z C as m r h hR
    unfold W_X7_way at h
    split at h
    · split at h
      · rename_i hbq
        simp only [Bool.and_eq_true, Nat.beq_eq] at hbq
        obtain ⟨rfl, rfl⟩ := hbq
        exact pj_run_ok (sd_X7_way C) (List.forall_mem_cons.mpr ⟨sg_X7_way_5 C  pj_z, fun q h => by cases h⟩) 34 0 _ _ _ _ ((eq_X7_way _ _ _ _).trans h) hR
      · cases h
    · cases h
/-! AlikeSteps$Steps.endOfWalk(III)I -/
abbrev c_X7_endOfWalk : ByteArray := prog_9_method_9_code
def y_X7_endOfWalk : MethodName := ⟨RX7, "endOfWalk", "(III)I"⟩
noncomputable def H_X7_endOfWalk_10 : Nat → Nat → Int32 → Int64 → Int32 → Int32 → pj_M → Option (Int32 × pj_M)
  | 0, _, _, _, _, _, _ => none
  | n1 + 1, a0, x2, l4, x6, x7, m => (if x7 < x2 then (if (2147483647 : Int64) = 0 then none else ((F_X7_ways a0 x6 m).bind fun q1 => (if (0 : Int32) < q1.1 then (if q1.1.toInt64 = 0 then none else ((F_X7_way a0 x6 ((((l4 * 16807) - (l4 * 16807) / 2147483647 * 2147483647) - ((l4 * 16807) - (l4 * 16807) / 2147483647 * 2147483647) / q1.1.toInt64 * q1.1.toInt64).toInt32) q1.2).bind fun q2 => (H_X7_endOfWalk_10 n1 a0 x2 ((l4 * 16807) - (l4 * 16807) / 2147483647 * 2147483647) q2.1 (x7 + 1) q2.2))) else (H_X7_endOfWalk_10 n1 a0 x2 ((l4 * 16807) - (l4 * 16807) / 2147483647 * 2147483647) x6 (x7 + 1) q1.2)))) else (some (x6, m)))
noncomputable def F_X7_endOfWalk (a0 : Nat) (x1 : Int32) (x2 : Int32) (x3 : Int32) (m : pj_M) : Option (Int32 × pj_M) := (H_X7_endOfWalk_10 pj_z a0 x2 x3.toInt64 x1 0 m)
noncomputable def W_X7_endOfWalk : List pj_V → pj_M → Option (Int32 × pj_M) := fun as m => match as with
  | [.inr (.inr (t0, w0, a0)), .inl x1, .inl x2, .inl x3] => (match Nat.beq t0 0 && (Nat.beq w0 7) with
    | true => F_X7_endOfWalk a0 x1 x2 x3 m
    | false => none)
  | _ => none
noncomputable def tb_X7_endOfWalk_0 : List (Nat × pj_T (Int32 × pj_M)) := [(0, qs_ldi 3 1), (1, qs_i2l 2), (2, qs_stl 4 4), (4, qs_ldi 1 5), (5, qs_sti 6 7), (7, qs_ci 0 8), (8, qs_sti 7 10), (10, qs_ldi 7 12), (12, qs_ldi 2 13), (13, qs_icge 62 16), (16, qs_ldl 4 18), (18, qs_cl 16807 21), (21, qs_l2 (fun x y => x * y) 22), (22, qs_cl 2147483647 25), (25, qs_ld2 (fun x y => x - x / y * y) 26), (26, qs_stl 4 28), (28, qs_lda 0 29), (29, qs_ldi 6 31), (31, qs_vI 7 2 W_X7_ways 34), (34, qs_sti 8 36), (36, qs_ldi 8 38), (38, qs_ifle 56 41), (41, qs_lda 0 42), (42, qs_ldi 6 44), (44, qs_ldl 4 46), (46, qs_ldi 8 48), (48, qs_i2l 49), (49, qs_ld2 (fun x y => x - x / y * y) 50), (50, qs_l2i 51), (51, qs_vI 7 3 W_X7_way 54), (54, qs_sti 6 56), (56, qs_inc 7 1 59), (59, qs_go 10), (62, qs_ldi 6 64), (64, qs_iret)]
noncomputable abbrev tb_X7_endOfWalk : List (Nat × pj_T (Int32 × pj_M)) := tb_X7_endOfWalk_0
theorem mv_X7_endOfWalk : pj_mv y_X7_endOfWalk c_X7_endOfWalk 9 (some .int) 3 := ⟨⟨cw_918, cw_916, cw_917, cw_87⟩, by decide +kernel, by decide⟩
set_option maxRecDepth 20000 in
theorem sd_X7_endOfWalk_0 {G : pj_E} {A : Nat → Prop} {P : pj_P} {S : pj_U} {Z : pj_Z} (C : pj_C (G, A, (c_X7_endOfWalk, y_X7_endOfWalk.cls, 9, (some .int), 3), P, S, Z)) : ∀ q ∈ tb_X7_endOfWalk_0, pj_S (G, A, (c_X7_endOfWalk, y_X7_endOfWalk.cls, 9, (some .int), 3), P, S, Z) pj_eI q.1 q.2 :=
  List.forall_mem_cons.mpr ⟨qz_iload_n C (show decode c_X7_endOfWalk 0 = .ok (.iload_n 3, 1) by decide +kernel) rfl,
  List.forall_mem_cons.mpr ⟨qz_i2l C (show decode c_X7_endOfWalk 1 = .ok (.i2l, 1) by decide +kernel),
  List.forall_mem_cons.mpr ⟨qz_lstore C (show decode c_X7_endOfWalk 2 = .ok (.lstore 4, 2) by decide +kernel),
  List.forall_mem_cons.mpr ⟨qz_iload_n C (show decode c_X7_endOfWalk 4 = .ok (.iload_n 1, 1) by decide +kernel) rfl,
  List.forall_mem_cons.mpr ⟨qz_istore C (show decode c_X7_endOfWalk 5 = .ok (.istore 6, 2) by decide +kernel),
  List.forall_mem_cons.mpr ⟨qz_iconst C (show decode c_X7_endOfWalk 7 = .ok (.iconst 0, 1) by decide +kernel) (by decide +kernel),
  List.forall_mem_cons.mpr ⟨qz_istore C (show decode c_X7_endOfWalk 8 = .ok (.istore 7, 2) by decide +kernel),
  List.forall_mem_cons.mpr ⟨qz_iload C (show decode c_X7_endOfWalk 10 = .ok (.iload 7, 2) by decide +kernel),
  List.forall_mem_cons.mpr ⟨qz_iload_n C (show decode c_X7_endOfWalk 12 = .ok (.iload_n 2, 1) by decide +kernel) rfl,
  List.forall_mem_cons.mpr ⟨qz_icge C (show decode c_X7_endOfWalk 13 = .ok (.if_icmp .ge 49, 3) by decide +kernel) (by decide),
  List.forall_mem_cons.mpr ⟨qz_lload C (show decode c_X7_endOfWalk 16 = .ok (.lload 4, 2) by decide +kernel),
  List.forall_mem_cons.mpr ⟨qz_ldc2 C (show decode c_X7_endOfWalk 18 = .ok (.ldc2_w 56, 3) by decide +kernel) cw_919,
  List.forall_mem_cons.mpr ⟨qz_lmul C (show decode c_X7_endOfWalk 21 = .ok (.lmul, 1) by decide +kernel),
  List.forall_mem_cons.mpr ⟨qz_ldc2 C (show decode c_X7_endOfWalk 22 = .ok (.ldc2_w 58, 3) by decide +kernel) cw_920,
  List.forall_mem_cons.mpr ⟨qz_lrem C (show decode c_X7_endOfWalk 25 = .ok (.lrem, 1) by decide +kernel),
  List.forall_mem_cons.mpr ⟨qz_lstore C (show decode c_X7_endOfWalk 26 = .ok (.lstore 4, 2) by decide +kernel),
  List.forall_mem_cons.mpr ⟨qz_aload_n C (show decode c_X7_endOfWalk 28 = .ok (.aload_n 0, 1) by decide +kernel) rfl,
  List.forall_mem_cons.mpr ⟨qz_iload C (show decode c_X7_endOfWalk 29 = .ok (.iload 6, 2) by decide +kernel),
  List.forall_mem_cons.mpr ⟨qz_vI C (show decode c_X7_endOfWalk 31 = .ok (.invokevirtual 60, 3) by decide +kernel) ct_X7_ways mv_X7_ways cw_921 vcX7 (show 2 < 3 by omega),
  List.forall_mem_cons.mpr ⟨qz_istore C (show decode c_X7_endOfWalk 34 = .ok (.istore 8, 2) by decide +kernel),
  List.forall_mem_cons.mpr ⟨qz_iload C (show decode c_X7_endOfWalk 36 = .ok (.iload 8, 2) by decide +kernel),
  List.forall_mem_cons.mpr ⟨qz_ifle C (show decode c_X7_endOfWalk 38 = .ok (.ifCond .le 18, 3) by decide +kernel) (by decide),
  List.forall_mem_cons.mpr ⟨qz_aload_n C (show decode c_X7_endOfWalk 41 = .ok (.aload_n 0, 1) by decide +kernel) rfl,
  List.forall_mem_cons.mpr ⟨qz_iload C (show decode c_X7_endOfWalk 42 = .ok (.iload 6, 2) by decide +kernel),
  List.forall_mem_cons.mpr ⟨qz_lload C (show decode c_X7_endOfWalk 44 = .ok (.lload 4, 2) by decide +kernel),
  List.forall_mem_cons.mpr ⟨qz_iload C (show decode c_X7_endOfWalk 46 = .ok (.iload 8, 2) by decide +kernel),
  List.forall_mem_cons.mpr ⟨qz_i2l C (show decode c_X7_endOfWalk 48 = .ok (.i2l, 1) by decide +kernel),
  List.forall_mem_cons.mpr ⟨qz_lrem C (show decode c_X7_endOfWalk 49 = .ok (.lrem, 1) by decide +kernel),
  List.forall_mem_cons.mpr ⟨qz_l2i C (show decode c_X7_endOfWalk 50 = .ok (.l2i, 1) by decide +kernel),
  List.forall_mem_cons.mpr ⟨qz_vI C (show decode c_X7_endOfWalk 51 = .ok (.invokevirtual 64, 3) by decide +kernel) ct_X7_way mv_X7_way cw_926 vcX7 (show 2 < 3 by omega),
  List.forall_mem_cons.mpr ⟨qz_istore C (show decode c_X7_endOfWalk 54 = .ok (.istore 6, 2) by decide +kernel),
  List.forall_mem_cons.mpr ⟨qz_iinc C (show decode c_X7_endOfWalk 56 = .ok (.iinc 7 1, 3) by decide +kernel) (by decide +kernel),
  List.forall_mem_cons.mpr ⟨qz_goto C (show decode c_X7_endOfWalk 59 = .ok (.goto (-49), 3) by decide +kernel) (by decide),
  List.forall_mem_cons.mpr ⟨qz_iload C (show decode c_X7_endOfWalk 62 = .ok (.iload 6, 2) by decide +kernel),
  List.forall_mem_cons.mpr ⟨qz_iret C (show decode c_X7_endOfWalk 64 = .ok (.ireturn, 1) by decide +kernel) rfl,
  (fun q h => by cases h)⟩⟩⟩⟩⟩⟩⟩⟩⟩⟩⟩⟩⟩⟩⟩⟩⟩⟩⟩⟩⟩⟩⟩⟩⟩⟩⟩⟩⟩⟩⟩⟩⟩⟩⟩
theorem sd_X7_endOfWalk {G : pj_E} {A : Nat → Prop} {P : pj_P} {S : pj_U} {Z : pj_Z} (C : pj_C (G, A, (c_X7_endOfWalk, y_X7_endOfWalk.cls, 9, (some .int), 3), P, S, Z)) : ∀ q ∈ tb_X7_endOfWalk, pj_S (G, A, (c_X7_endOfWalk, y_X7_endOfWalk.cls, 9, (some .int), 3), P, S, Z) pj_eI q.1 q.2 := sd_X7_endOfWalk_0 C
noncomputable def C_X7_endOfWalk_10 (f : Nat → Int32 → Int64 → Int32 → Int32 → pj_M → Option (Int32 × pj_M)) : pj_N (Int32 × pj_M) := fun L st m => match L, st with
  | [some (.inr (.inr (t0, w0, a0))), _, some (.inl x2), _, some (.inr (.inl l4)), _, some (.inl x6), some (.inl x7), _], [] => (match Nat.beq t0 0 && (Nat.beq w0 7) with
    | true => f a0 x2 l4 x6 x7 m
    | false => none)
  | _, _ => none
set_option maxRecDepth 20000 in
theorem eq_X7_endOfWalk_10 (n1 : Nat) (a0 : Nat) (x2 : Int32) (l4 : Int64) (x6 : Int32) (x7 : Int32) (d1 d3 d5 d8 : Option pj_V) (m : pj_M) : pj_run tb_X7_endOfWalk [(10, C_X7_endOfWalk_10 (H_X7_endOfWalk_10 n1))] 37 10 [some (.inr (.inr (0, 7, a0))), d1, some (.inl x2), d3, some (.inr (.inl l4)), d5, some (.inl x6), some (.inl x7), d8] [] m = H_X7_endOfWalk_10 (n1 + 1) a0 x2 l4 x6 x7 m := by rfl
theorem sg_X7_endOfWalk_10 {G : pj_E} {A : Nat → Prop} {P : pj_P} {S : pj_U} {Z : pj_Z} (C : pj_C (G, A, (c_X7_endOfWalk, y_X7_endOfWalk.cls, 9, (some .int), 3), P, S, Z)) : ∀ n1, pj_G (G, A, (c_X7_endOfWalk, y_X7_endOfWalk.cls, 9, (some .int), 3), P, S, Z) pj_eI 10 (C_X7_endOfWalk_10 (H_X7_endOfWalk_10 n1)) := by
  intro n1
  induction n1 with
  | zero =>
    intro L st m r h hR
    unfold C_X7_endOfWalk_10 at h
    split at h
    · split at h
      · cases h
      · cases h
    · cases h
  | succ n1 ih1 =>
    intro L st m r h hR
    unfold C_X7_endOfWalk_10 at h
    split at h
    · split at h
      · rename_i hbq
        simp only [Bool.and_eq_true, Nat.beq_eq] at hbq
        obtain ⟨rfl, rfl⟩ := hbq
        exact pj_run_ok (sd_X7_endOfWalk C) (List.forall_mem_cons.mpr ⟨ih1, fun q h => by cases h⟩) 37 10 _ _ _ _ ((eq_X7_endOfWalk_10 _ _ _ _ _ _ _ _ _ _ _).trans h) hR
      · cases h
    · cases h
set_option maxRecDepth 20000 in
theorem eq_X7_endOfWalk (a0 : Nat) (x1 : Int32) (x2 : Int32) (x3 : Int32) (m : pj_M) : pj_run tb_X7_endOfWalk [(10, C_X7_endOfWalk_10 (H_X7_endOfWalk_10  pj_z))] 37 0 [some (.inr (.inr (0, 7, a0))), some (.inl x1), some (.inl x2), some (.inl x3), none, none, none, none, none] [] m = F_X7_endOfWalk a0 x1 x2 x3 m := by rfl
theorem ct_X7_endOfWalk : pj_Ct pj_eI y_X7_endOfWalk c_X7_endOfWalk 9 (some .int) 3 W_X7_endOfWalk := by
  refine pj_ct_of (by decide +kernel) ?_ ?_
  · intro as m r h
    unfold W_X7_endOfWalk at h
    split at h
    · simp [pj_l0]
    · cases h
  · intro G A P S Z C as m r h hR
    unfold W_X7_endOfWalk at h
    split at h
    · split at h
      · rename_i hbq
        simp only [Bool.and_eq_true, Nat.beq_eq] at hbq
        obtain ⟨rfl, rfl⟩ := hbq
        exact pj_run_ok (sd_X7_endOfWalk C) (List.forall_mem_cons.mpr ⟨sg_X7_endOfWalk_10 C  pj_z, fun q h => by cases h⟩) 37 0 _ _ _ _ ((eq_X7_endOfWalk _ _ _ _ _).trans h) hR
      · cases h
    · cases h
