/-! AlikeSteps.found(I)I -/
abbrev c_X10_found : ByteArray := prog_1_method_37_code
def y_X10_found : MethodName := ⟨RX10, "found", "(I)I"⟩
noncomputable def F_X10_found (x1 : Int32) (m : pj_M) : Option (Int32 × pj_M) := (some ((-1000010) - x1, (pj_wr m 0 13 x1)))
noncomputable def W_X10_found : List pj_V → pj_M → Option (Int32 × pj_M) := fun as m => match as with
  | [.inr (.inr (t0, w0, a0)), .inl x1] => (match Nat.beq t0 0 && (Nat.beq w0 10 && (Nat.beq a0 0)) with
    | true => F_X10_found x1 m
    | false => none)
  | _ => none
noncomputable def tb_X10_found_0 : List (Nat × pj_T (Int32 × pj_M)) := [(0, qs_lda 0 1), (1, qs_ldi 1 2), (2, qs_pf 10 13 5), (5, qs_ci (-1000010) 8), (8, qs_ldi 1 9), (9, qs_b2 (fun x y => x - y) 10), (10, qs_iret)]
noncomputable abbrev tb_X10_found : List (Nat × pj_T (Int32 × pj_M)) := tb_X10_found_0
theorem mv_X10_found : pj_mv y_X10_found c_X10_found 2 (some .int) 1 := ⟨⟨cw_368, cw_367, cw_0, cw_81⟩, by decide +kernel, by decide⟩
set_option maxRecDepth 20000 in
theorem sd_X10_found_0 {G : pj_E} {A : Nat → Prop} {P : pj_P} {S : pj_U} {Z : pj_Z} (C : pj_C (G, A, (c_X10_found, y_X10_found.cls, 2, (some .int), 1), P, S, Z)) : ∀ q ∈ tb_X10_found_0, pj_S (G, A, (c_X10_found, y_X10_found.cls, 2, (some .int), 1), P, S, Z) pj_eI q.1 q.2 :=
  List.forall_mem_cons.mpr ⟨qz_aload_n C (show decode c_X10_found 0 = .ok (.aload_n 0, 1) by decide +kernel) rfl,
  List.forall_mem_cons.mpr ⟨qz_iload_n C (show decode c_X10_found 1 = .ok (.iload_n 1, 1) by decide +kernel) rfl,
  List.forall_mem_cons.mpr ⟨qz_pf (k := 13) C (show decode c_X10_found 2 = .ok (.putfield 81, 3) by decide +kernel) vcX10 wiX10 tyX10_ok nmX10 (by decide) cw_324 rfl rfl,
  List.forall_mem_cons.mpr ⟨qz_ldcw C (show decode c_X10_found 5 = .ok (.ldc_w 327, 3) by decide +kernel) cw_369,
  List.forall_mem_cons.mpr ⟨qz_iload_n C (show decode c_X10_found 8 = .ok (.iload_n 1, 1) by decide +kernel) rfl,
  List.forall_mem_cons.mpr ⟨qz_isub C (show decode c_X10_found 9 = .ok (.isub, 1) by decide +kernel),
  List.forall_mem_cons.mpr ⟨qz_iret C (show decode c_X10_found 10 = .ok (.ireturn, 1) by decide +kernel) rfl,
  (fun q h => by cases h)⟩⟩⟩⟩⟩⟩⟩
theorem sd_X10_found {G : pj_E} {A : Nat → Prop} {P : pj_P} {S : pj_U} {Z : pj_Z} (C : pj_C (G, A, (c_X10_found, y_X10_found.cls, 2, (some .int), 1), P, S, Z)) : ∀ q ∈ tb_X10_found, pj_S (G, A, (c_X10_found, y_X10_found.cls, 2, (some .int), 1), P, S, Z) pj_eI q.1 q.2 := sd_X10_found_0 C
set_option maxRecDepth 20000 in
theorem eq_X10_found (x1 : Int32) (m : pj_M) : pj_run tb_X10_found [] 9 0 [some (.inr (.inr (0, 10, 0))), some (.inl x1)] [] m = F_X10_found x1 m := by rfl
theorem ct_X10_found : pj_Ct pj_eI y_X10_found c_X10_found 2 (some .int) 1 W_X10_found := by
  refine pj_ct_of (by decide +kernel) ?_ ?_
  · intro as m r h
    unfold W_X10_found at h
    split at h
    · simp [pj_l0]
    · cases h
  · intro G A P S Z C as m r h hR
    unfold W_X10_found at h
    split at h
    · split at h
      · rename_i hbq
        simp only [Bool.and_eq_true, Nat.beq_eq] at hbq
        obtain ⟨rfl, rfl, rfl⟩ := hbq
        exact pj_run_ok (sd_X10_found C) (fun q h => by cases h) 9 0 _ _ _ _ ((eq_X10_found _ _).trans h) hR
      · cases h
    · cases h
/-! AlikeSteps.fine(I)I -/
abbrev c_X10_fine : ByteArray := prog_1_method_38_code
def y_X10_fine : MethodName := ⟨RX10, "fine", "(I)I"⟩
noncomputable def F_X10_fine (x1 : Int32) (m : pj_M) : Option (Int32 × pj_M) := (some (x1, (pj_wr m 0 13 0)))
noncomputable def W_X10_fine : List pj_V → pj_M → Option (Int32 × pj_M) := fun as m => match as with
  | [.inr (.inr (t0, w0, a0)), .inl x1] => (match Nat.beq t0 0 && (Nat.beq w0 10 && (Nat.beq a0 0)) with
    | true => F_X10_fine x1 m
    | false => none)
  | _ => none
noncomputable def tb_X10_fine_0 : List (Nat × pj_T (Int32 × pj_M)) := [(0, qs_lda 0 1), (1, qs_ci 0 2), (2, qs_pf 10 13 5), (5, qs_ldi 1 6), (6, qs_iret)]
noncomputable abbrev tb_X10_fine : List (Nat × pj_T (Int32 × pj_M)) := tb_X10_fine_0
theorem mv_X10_fine : pj_mv y_X10_fine c_X10_fine 2 (some .int) 1 := ⟨⟨cw_377, cw_376, cw_1, cw_81⟩, by decide +kernel, by decide⟩
set_option maxRecDepth 20000 in
theorem sd_X10_fine_0 {G : pj_E} {A : Nat → Prop} {P : pj_P} {S : pj_U} {Z : pj_Z} (C : pj_C (G, A, (c_X10_fine, y_X10_fine.cls, 2, (some .int), 1), P, S, Z)) : ∀ q ∈ tb_X10_fine_0, pj_S (G, A, (c_X10_fine, y_X10_fine.cls, 2, (some .int), 1), P, S, Z) pj_eI q.1 q.2 :=
  List.forall_mem_cons.mpr ⟨qz_aload_n C (show decode c_X10_fine 0 = .ok (.aload_n 0, 1) by decide +kernel) rfl,
  List.forall_mem_cons.mpr ⟨qz_iconst C (show decode c_X10_fine 1 = .ok (.iconst 0, 1) by decide +kernel) (by decide +kernel),
  List.forall_mem_cons.mpr ⟨qz_pf (k := 13) C (show decode c_X10_fine 2 = .ok (.putfield 81, 3) by decide +kernel) vcX10 wiX10 tyX10_ok nmX10 (by decide) cw_324 rfl rfl,
  List.forall_mem_cons.mpr ⟨qz_iload_n C (show decode c_X10_fine 5 = .ok (.iload_n 1, 1) by decide +kernel) rfl,
  List.forall_mem_cons.mpr ⟨qz_iret C (show decode c_X10_fine 6 = .ok (.ireturn, 1) by decide +kernel) rfl,
  (fun q h => by cases h)⟩⟩⟩⟩⟩
theorem sd_X10_fine {G : pj_E} {A : Nat → Prop} {P : pj_P} {S : pj_U} {Z : pj_Z} (C : pj_C (G, A, (c_X10_fine, y_X10_fine.cls, 2, (some .int), 1), P, S, Z)) : ∀ q ∈ tb_X10_fine, pj_S (G, A, (c_X10_fine, y_X10_fine.cls, 2, (some .int), 1), P, S, Z) pj_eI q.1 q.2 := sd_X10_fine_0 C
set_option maxRecDepth 20000 in
theorem eq_X10_fine (x1 : Int32) (m : pj_M) : pj_run tb_X10_fine [] 7 0 [some (.inr (.inr (0, 10, 0))), some (.inl x1)] [] m = F_X10_fine x1 m := by rfl
theorem ct_X10_fine : pj_Ct pj_eI y_X10_fine c_X10_fine 2 (some .int) 1 W_X10_fine := by
  refine pj_ct_of (by decide +kernel) ?_ ?_
  · intro as m r h
    unfold W_X10_fine at h
    split at h
    · simp [pj_l0]
    · cases h
  · intro G A P S Z C as m r h hR
    unfold W_X10_fine at h
    split at h
    · split at h
      · rename_i hbq
        simp only [Bool.and_eq_true, Nat.beq_eq] at hbq
        obtain ⟨rfl, rfl, rfl⟩ := hbq
        exact pj_run_ok (sd_X10_fine C) (fun q h => by cases h) 7 0 _ _ _ _ ((eq_X10_fine _ _).trans h) hR
      · cases h
    · cases h
/-! AlikeSteps.row(III)I -/
abbrev c_X10_row : ByteArray := prog_1_method_2_code
def y_X10_row : MethodName := ⟨RX10, "row", "(III)I"⟩
noncomputable def F_X10_row (x1 : Int32) (x2 : Int32) (x3 : Int32) (m : pj_M) : Option (Int32 × pj_M) := ((F_X6_exists x1 m).bind fun q1 => (if q1.1 = 0 then (some ((-1000001), q1.2)) else ((F_X10_within x2 0 2 q1.2).bind fun q2 => (if q2.1 = 0 then (some ((-1000001), q2.2)) else (if (40 : Int32) < x3 then (some ((-1000001), q2.2)) else (if x3 < 0 then ((F_X10_found 4 q2.2).bind fun q5 => (some (q5.1, q5.2))) else ((F_X6_make x1 x2 x3 q2.2).bind fun q3 => ((F_X10_fine x3 q3).bind fun q4 => (some (q4.1, q4.2))))))))))
noncomputable def W_X10_row : List pj_V → pj_M → Option (Int32 × pj_M) := fun as m => match as with
  | [.inr (.inr (t0, w0, a0)), .inl x1, .inl x2, .inl x3] => (match Nat.beq t0 0 && (Nat.beq w0 10 && (Nat.beq a0 0)) with
    | true => F_X10_row x1 x2 x3 m
    | false => none)
  | _ => none
noncomputable def tb_X10_row_0 : List (Nat × pj_T (Int32 × pj_M)) := [(0, qs_ldi 1 1), (1, qs_sI 1 W_X6_exists 4), (4, qs_ifeq 22 7), (7, qs_ldi 2 8), (8, qs_ci 0 9), (9, qs_ci 2 10), (10, qs_sI 3 W_X10_within 13), (13, qs_ifeq 22 16), (16, qs_ldi 3 17), (17, qs_ci 40 19), (19, qs_icle 25 22), (22, qs_ci (-1000001) 24), (24, qs_iret), (25, qs_ldi 3 26), (26, qs_ifge 35 29), (29, qs_lda 0 30), (30, qs_ci 4 31), (31, qs_vI 10 2 W_X10_found 34), (34, qs_iret), (35, qs_lda 0 36), (36, qs_gf 10 0 39), (39, qs_ldi 1 40), (40, qs_ldi 2 41), (41, qs_ldi 3 42), (42, qs_vV 6 4 W_X6_make 45), (45, qs_lda 0 46), (46, qs_ldi 3 47), (47, qs_vI 10 2 W_X10_fine 50), (50, qs_iret)]
noncomputable abbrev tb_X10_row : List (Nat × pj_T (Int32 × pj_M)) := tb_X10_row_0
theorem mv_X10_row : pj_mv y_X10_row c_X10_row 4 (some .int) 3 := ⟨⟨cw_357, cw_355, cw_356, cw_81⟩, by decide +kernel, by decide⟩
set_option maxRecDepth 20000 in
theorem sd_X10_row_0 {G : pj_E} {A : Nat → Prop} {P : pj_P} {S : pj_U} {Z : pj_Z} (C : pj_C (G, A, (c_X10_row, y_X10_row.cls, 4, (some .int), 2), P, S, Z)) : ∀ q ∈ tb_X10_row_0, pj_S (G, A, (c_X10_row, y_X10_row.cls, 4, (some .int), 2), P, S, Z) pj_eI q.1 q.2 :=
  List.forall_mem_cons.mpr ⟨qz_iload_n C (show decode c_X10_row 0 = .ok (.iload_n 1, 1) by decide +kernel) rfl,
  List.forall_mem_cons.mpr ⟨qz_sI C (show decode c_X10_row 1 = .ok (.invokestatic 87, 3) by decide +kernel) ct_X6_exists mv_X6_exists (Or.inl cw_358) (show 1 < 2 by omega),
  List.forall_mem_cons.mpr ⟨qz_ifeq C (show decode c_X10_row 4 = .ok (.ifCond .eq 18, 3) by decide +kernel) (by decide),
  List.forall_mem_cons.mpr ⟨qz_iload_n C (show decode c_X10_row 7 = .ok (.iload_n 2, 1) by decide +kernel) rfl,
  List.forall_mem_cons.mpr ⟨qz_iconst C (show decode c_X10_row 8 = .ok (.iconst 0, 1) by decide +kernel) (by decide +kernel),
  List.forall_mem_cons.mpr ⟨qz_iconst C (show decode c_X10_row 9 = .ok (.iconst 2, 1) by decide +kernel) (by decide +kernel),
  List.forall_mem_cons.mpr ⟨qz_sI C (show decode c_X10_row 10 = .ok (.invokestatic 91, 3) by decide +kernel) ct_X10_within mv_X10_within (Or.inl cw_361) (show 1 < 2 by omega),
  List.forall_mem_cons.mpr ⟨qz_ifeq C (show decode c_X10_row 13 = .ok (.ifCond .eq 9, 3) by decide +kernel) (by decide),
  List.forall_mem_cons.mpr ⟨qz_iload_n C (show decode c_X10_row 16 = .ok (.iload_n 3, 1) by decide +kernel) rfl,
  List.forall_mem_cons.mpr ⟨qz_bipush C (show decode c_X10_row 17 = .ok (.bipush 40, 2) by decide +kernel) (by decide +kernel),
  List.forall_mem_cons.mpr ⟨qz_icle C (show decode c_X10_row 19 = .ok (.if_icmp .le 6, 3) by decide +kernel) (by decide),
  List.forall_mem_cons.mpr ⟨qz_ldc C (show decode c_X10_row 22 = .ok (.ldc 95, 2) by decide +kernel) cw_364,
  List.forall_mem_cons.mpr ⟨qz_iret C (show decode c_X10_row 24 = .ok (.ireturn, 1) by decide +kernel) rfl,
  List.forall_mem_cons.mpr ⟨qz_iload_n C (show decode c_X10_row 25 = .ok (.iload_n 3, 1) by decide +kernel) rfl,
  List.forall_mem_cons.mpr ⟨qz_ifge C (show decode c_X10_row 26 = .ok (.ifCond .ge 9, 3) by decide +kernel) (by decide),
  List.forall_mem_cons.mpr ⟨qz_aload_n C (show decode c_X10_row 29 = .ok (.aload_n 0, 1) by decide +kernel) rfl,
  List.forall_mem_cons.mpr ⟨qz_iconst C (show decode c_X10_row 30 = .ok (.iconst 4, 1) by decide +kernel) (by decide +kernel),
  List.forall_mem_cons.mpr ⟨qz_vI C (show decode c_X10_row 31 = .ok (.invokevirtual 96, 3) by decide +kernel) ct_X10_found mv_X10_found cw_365 vcX10 (show 1 < 2 by omega),
  List.forall_mem_cons.mpr ⟨qz_iret C (show decode c_X10_row 34 = .ok (.ireturn, 1) by decide +kernel) rfl,
  List.forall_mem_cons.mpr ⟨qz_aload_n C (show decode c_X10_row 35 = .ok (.aload_n 0, 1) by decide +kernel) rfl,
  List.forall_mem_cons.mpr ⟨qz_gf (k := 0) C (show decode c_X10_row 36 = .ok (.getfield 10, 3) by decide +kernel) vcX10 wiX10 (by decide) cw_311,
  List.forall_mem_cons.mpr ⟨qz_iload_n C (show decode c_X10_row 39 = .ok (.iload_n 1, 1) by decide +kernel) rfl,
  List.forall_mem_cons.mpr ⟨qz_iload_n C (show decode c_X10_row 40 = .ok (.iload_n 2, 1) by decide +kernel) rfl,
  List.forall_mem_cons.mpr ⟨qz_iload_n C (show decode c_X10_row 41 = .ok (.iload_n 3, 1) by decide +kernel) rfl,
  List.forall_mem_cons.mpr ⟨qz_vV C (show decode c_X10_row 42 = .ok (.invokevirtual 100, 3) by decide +kernel) ct_X6_make mv_X6_make cw_370 vcX6 (show 1 < 2 by omega),
  List.forall_mem_cons.mpr ⟨qz_aload_n C (show decode c_X10_row 45 = .ok (.aload_n 0, 1) by decide +kernel) rfl,
  List.forall_mem_cons.mpr ⟨qz_iload_n C (show decode c_X10_row 46 = .ok (.iload_n 3, 1) by decide +kernel) rfl,
  List.forall_mem_cons.mpr ⟨qz_vI C (show decode c_X10_row 47 = .ok (.invokevirtual 104, 3) by decide +kernel) ct_X10_fine mv_X10_fine cw_374 vcX10 (show 1 < 2 by omega),
  List.forall_mem_cons.mpr ⟨qz_iret C (show decode c_X10_row 50 = .ok (.ireturn, 1) by decide +kernel) rfl,
  (fun q h => by cases h)⟩⟩⟩⟩⟩⟩⟩⟩⟩⟩⟩⟩⟩⟩⟩⟩⟩⟩⟩⟩⟩⟩⟩⟩⟩⟩⟩⟩⟩
theorem sd_X10_row {G : pj_E} {A : Nat → Prop} {P : pj_P} {S : pj_U} {Z : pj_Z} (C : pj_C (G, A, (c_X10_row, y_X10_row.cls, 4, (some .int), 2), P, S, Z)) : ∀ q ∈ tb_X10_row, pj_S (G, A, (c_X10_row, y_X10_row.cls, 4, (some .int), 2), P, S, Z) pj_eI q.1 q.2 := sd_X10_row_0 C
set_option maxRecDepth 20000 in
theorem eq_X10_row (x1 : Int32) (x2 : Int32) (x3 : Int32) (m : pj_M) : pj_run tb_X10_row [] 31 0 [some (.inr (.inr (0, 10, 0))), some (.inl x1), some (.inl x2), some (.inl x3)] [] m = F_X10_row x1 x2 x3 m := by rfl
theorem ct_X10_row : pj_Ct pj_eI y_X10_row c_X10_row 4 (some .int) 2 W_X10_row := by
  refine pj_ct_of (by decide +kernel) ?_ ?_
  · intro as m r h
    unfold W_X10_row at h
    split at h
    · simp [pj_l0]
    · cases h
  · intro G A P S Z C as m r h hR
    unfold W_X10_row at h
    split at h
    · split at h
      · rename_i hbq
        simp only [Bool.and_eq_true, Nat.beq_eq] at hbq
        obtain ⟨rfl, rfl, rfl⟩ := hbq
        exact pj_run_ok (sd_X10_row C) (fun q h => by cases h) 31 0 _ _ _ _ ((eq_X10_row _ _ _ _).trans h) hR
      · cases h
    · cases h
/-! AlikeSteps.set(III)I -/
abbrev c_X10_set : ByteArray := prog_1_method_3_code
def y_X10_set : MethodName := ⟨RX10, "set", "(III)I"⟩
noncomputable def F_X10_set (x1 : Int32) (x2 : Int32) (x3 : Int32) (m : pj_M) : Option (Int32 × pj_M) := ((F_X6_exists x1 m).bind fun q1 => (if q1.1 = 0 then (some ((-1000001), q1.2)) else ((F_X6_isMissing x1 q1.2).bind fun q2 => (if q2.1 = 0 then ((F_X6_length x1 q2.2).bind fun q3 => ((F_X10_within x2 0 (q3.1 - 1) q3.2).bind fun q4 => (if q4.1 = 0 then ((F_X10_found 2 q4.2).bind fun q7 => (some (q7.1, q7.2))) else ((F_X6_put x1 x2 x3 q4.2).bind fun q5 => ((F_X10_fine q5.1 q5.2).bind fun q6 => (some (q6.1, q6.2))))))) else ((F_X10_found 1 q2.2).bind fun q8 => (some (q8.1, q8.2)))))))
noncomputable def W_X10_set : List pj_V → pj_M → Option (Int32 × pj_M) := fun as m => match as with
  | [.inr (.inr (t0, w0, a0)), .inl x1, .inl x2, .inl x3] => (match Nat.beq t0 0 && (Nat.beq w0 10 && (Nat.beq a0 0)) with
    | true => F_X10_set x1 x2 x3 m
    | false => none)
  | _ => none
noncomputable def tb_X10_set_0 : List (Nat × pj_T (Int32 × pj_M)) := [(0, qs_ldi 1 1), (1, qs_sI 1 W_X6_exists 4), (4, qs_ifne 10 7), (7, qs_ci (-1000001) 9), (9, qs_iret), (10, qs_lda 0 11), (11, qs_gf 10 0 14), (14, qs_ldi 1 15), (15, qs_vI 6 2 W_X6_isMissing 18), (18, qs_ifeq 27 21), (21, qs_lda 0 22), (22, qs_ci 1 23), (23, qs_vI 10 2 W_X10_found 26), (26, qs_iret), (27, qs_ldi 2 28), (28, qs_ci 0 29), (29, qs_lda 0 30), (30, qs_gf 10 0 33), (33, qs_ldi 1 34), (34, qs_vI 6 2 W_X6_length 37), (37, qs_ci 1 38), (38, qs_b2 (fun x y => x - y) 39), (39, qs_sI 3 W_X10_within 42), (42, qs_ifne 51 45), (45, qs_lda 0 46), (46, qs_ci 2 47), (47, qs_vI 10 2 W_X10_found 50), (50, qs_iret), (51, qs_lda 0 52), (52, qs_lda 0 53), (53, qs_gf 10 0 56), (56, qs_ldi 1 57), (57, qs_ldi 2 58), (58, qs_ldi 3 59), (59, qs_vI 6 4 W_X6_put 62), (62, qs_vI 10 2 W_X10_fine 65), (65, qs_iret)]
noncomputable abbrev tb_X10_set : List (Nat × pj_T (Int32 × pj_M)) := tb_X10_set_0
theorem mv_X10_set : pj_mv y_X10_set c_X10_set 4 (some .int) 3 := ⟨⟨cw_381, cw_379, cw_380, cw_81⟩, by decide +kernel, by decide⟩
set_option maxRecDepth 20000 in
theorem sd_X10_set_0 {G : pj_E} {A : Nat → Prop} {P : pj_P} {S : pj_U} {Z : pj_Z} (C : pj_C (G, A, (c_X10_set, y_X10_set.cls, 4, (some .int), 3), P, S, Z)) : ∀ q ∈ tb_X10_set_0, pj_S (G, A, (c_X10_set, y_X10_set.cls, 4, (some .int), 3), P, S, Z) pj_eI q.1 q.2 :=
  List.forall_mem_cons.mpr ⟨qz_iload_n C (show decode c_X10_set 0 = .ok (.iload_n 1, 1) by decide +kernel) rfl,
  List.forall_mem_cons.mpr ⟨qz_sI C (show decode c_X10_set 1 = .ok (.invokestatic 87, 3) by decide +kernel) ct_X6_exists mv_X6_exists (Or.inl cw_358) (show 1 < 3 by omega),
  List.forall_mem_cons.mpr ⟨qz_ifne C (show decode c_X10_set 4 = .ok (.ifCond .ne 6, 3) by decide +kernel) (by decide),
  List.forall_mem_cons.mpr ⟨qz_ldc C (show decode c_X10_set 7 = .ok (.ldc 95, 2) by decide +kernel) cw_364,
  List.forall_mem_cons.mpr ⟨qz_iret C (show decode c_X10_set 9 = .ok (.ireturn, 1) by decide +kernel) rfl,
  List.forall_mem_cons.mpr ⟨qz_aload_n C (show decode c_X10_set 10 = .ok (.aload_n 0, 1) by decide +kernel) rfl,
  List.forall_mem_cons.mpr ⟨qz_gf (k := 0) C (show decode c_X10_set 11 = .ok (.getfield 10, 3) by decide +kernel) vcX10 wiX10 (by decide) cw_311,
  List.forall_mem_cons.mpr ⟨qz_iload_n C (show decode c_X10_set 14 = .ok (.iload_n 1, 1) by decide +kernel) rfl,
  List.forall_mem_cons.mpr ⟨qz_vI C (show decode c_X10_set 15 = .ok (.invokevirtual 107, 3) by decide +kernel) ct_X6_isMissing mv_X6_isMissing cw_382 vcX6 (show 1 < 3 by omega),
  List.forall_mem_cons.mpr ⟨qz_ifeq C (show decode c_X10_set 18 = .ok (.ifCond .eq 9, 3) by decide +kernel) (by decide),
  List.forall_mem_cons.mpr ⟨qz_aload_n C (show decode c_X10_set 21 = .ok (.aload_n 0, 1) by decide +kernel) rfl,
  List.forall_mem_cons.mpr ⟨qz_iconst C (show decode c_X10_set 22 = .ok (.iconst 1, 1) by decide +kernel) (by decide +kernel),
  List.forall_mem_cons.mpr ⟨qz_vI C (show decode c_X10_set 23 = .ok (.invokevirtual 96, 3) by decide +kernel) ct_X10_found mv_X10_found cw_365 vcX10 (show 1 < 3 by omega),
  List.forall_mem_cons.mpr ⟨qz_iret C (show decode c_X10_set 26 = .ok (.ireturn, 1) by decide +kernel) rfl,
  List.forall_mem_cons.mpr ⟨qz_iload_n C (show decode c_X10_set 27 = .ok (.iload_n 2, 1) by decide +kernel) rfl,
  List.forall_mem_cons.mpr ⟨qz_iconst C (show decode c_X10_set 28 = .ok (.iconst 0, 1) by decide +kernel) (by decide +kernel),
  List.forall_mem_cons.mpr ⟨qz_aload_n C (show decode c_X10_set 29 = .ok (.aload_n 0, 1) by decide +kernel) rfl,
  List.forall_mem_cons.mpr ⟨qz_gf (k := 0) C (show decode c_X10_set 30 = .ok (.getfield 10, 3) by decide +kernel) vcX10 wiX10 (by decide) cw_311,
  List.forall_mem_cons.mpr ⟨qz_iload_n C (show decode c_X10_set 33 = .ok (.iload_n 1, 1) by decide +kernel) rfl,
  List.forall_mem_cons.mpr ⟨qz_vI C (show decode c_X10_set 34 = .ok (.invokevirtual 110, 3) by decide +kernel) ct_X6_length mv_X6_length cw_386 vcX6 (show 1 < 3 by omega),
  List.forall_mem_cons.mpr ⟨qz_iconst C (show decode c_X10_set 37 = .ok (.iconst 1, 1) by decide +kernel) (by decide +kernel),
  List.forall_mem_cons.mpr ⟨qz_isub C (show decode c_X10_set 38 = .ok (.isub, 1) by decide +kernel),
  List.forall_mem_cons.mpr ⟨qz_sI C (show decode c_X10_set 39 = .ok (.invokestatic 91, 3) by decide +kernel) ct_X10_within mv_X10_within (Or.inl cw_361) (show 1 < 3 by omega),
  List.forall_mem_cons.mpr ⟨qz_ifne C (show decode c_X10_set 42 = .ok (.ifCond .ne 9, 3) by decide +kernel) (by decide),
  List.forall_mem_cons.mpr ⟨qz_aload_n C (show decode c_X10_set 45 = .ok (.aload_n 0, 1) by decide +kernel) rfl,
  List.forall_mem_cons.mpr ⟨qz_iconst C (show decode c_X10_set 46 = .ok (.iconst 2, 1) by decide +kernel) (by decide +kernel),
  List.forall_mem_cons.mpr ⟨qz_vI C (show decode c_X10_set 47 = .ok (.invokevirtual 96, 3) by decide +kernel) ct_X10_found mv_X10_found cw_365 vcX10 (show 1 < 3 by omega),
  List.forall_mem_cons.mpr ⟨qz_iret C (show decode c_X10_set 50 = .ok (.ireturn, 1) by decide +kernel) rfl,
  List.forall_mem_cons.mpr ⟨qz_aload_n C (show decode c_X10_set 51 = .ok (.aload_n 0, 1) by decide +kernel) rfl,
  List.forall_mem_cons.mpr ⟨qz_aload_n C (show decode c_X10_set 52 = .ok (.aload_n 0, 1) by decide +kernel) rfl,
  List.forall_mem_cons.mpr ⟨qz_gf (k := 0) C (show decode c_X10_set 53 = .ok (.getfield 10, 3) by decide +kernel) vcX10 wiX10 (by decide) cw_311,
  List.forall_mem_cons.mpr ⟨qz_iload_n C (show decode c_X10_set 56 = .ok (.iload_n 1, 1) by decide +kernel) rfl,
  List.forall_mem_cons.mpr ⟨qz_iload_n C (show decode c_X10_set 57 = .ok (.iload_n 2, 1) by decide +kernel) rfl,
  List.forall_mem_cons.mpr ⟨qz_iload_n C (show decode c_X10_set 58 = .ok (.iload_n 3, 1) by decide +kernel) rfl,
  List.forall_mem_cons.mpr ⟨qz_vI C (show decode c_X10_set 59 = .ok (.invokevirtual 113, 3) by decide +kernel) ct_X6_put mv_X6_put cw_390 vcX6 (show 2 < 3 by omega),
  List.forall_mem_cons.mpr ⟨qz_vI C (show decode c_X10_set 62 = .ok (.invokevirtual 104, 3) by decide +kernel) ct_X10_fine mv_X10_fine cw_374 vcX10 (show 1 < 3 by omega),
  List.forall_mem_cons.mpr ⟨qz_iret C (show decode c_X10_set 65 = .ok (.ireturn, 1) by decide +kernel) rfl,
  (fun q h => by cases h)⟩⟩⟩⟩⟩⟩⟩⟩⟩⟩⟩⟩⟩⟩⟩⟩⟩⟩⟩⟩⟩⟩⟩⟩⟩⟩⟩⟩⟩⟩⟩⟩⟩⟩⟩⟩⟩
theorem sd_X10_set {G : pj_E} {A : Nat → Prop} {P : pj_P} {S : pj_U} {Z : pj_Z} (C : pj_C (G, A, (c_X10_set, y_X10_set.cls, 4, (some .int), 3), P, S, Z)) : ∀ q ∈ tb_X10_set, pj_S (G, A, (c_X10_set, y_X10_set.cls, 4, (some .int), 3), P, S, Z) pj_eI q.1 q.2 := sd_X10_set_0 C
set_option maxRecDepth 20000 in
theorem eq_X10_set (x1 : Int32) (x2 : Int32) (x3 : Int32) (m : pj_M) : pj_run tb_X10_set [] 39 0 [some (.inr (.inr (0, 10, 0))), some (.inl x1), some (.inl x2), some (.inl x3)] [] m = F_X10_set x1 x2 x3 m := by rfl
theorem ct_X10_set : pj_Ct pj_eI y_X10_set c_X10_set 4 (some .int) 3 W_X10_set := by
  refine pj_ct_of (by decide +kernel) ?_ ?_
  · intro as m r h
    unfold W_X10_set at h
    split at h
    · simp [pj_l0]
    · cases h
  · intro G A P S Z C as m r h hR
    unfold W_X10_set at h
    split at h
    · split at h
      · rename_i hbq
        simp only [Bool.and_eq_true, Nat.beq_eq] at hbq
        obtain ⟨rfl, rfl, rfl⟩ := hbq
        exact pj_run_ok (sd_X10_set C) (fun q h => by cases h) 39 0 _ _ _ _ ((eq_X10_set _ _ _ _).trans h) hR
      · cases h
    · cases h
/-! AlikeSteps.copy(IIIII)I -/
abbrev c_X10_copy : ByteArray := prog_1_method_4_code
def y_X10_copy : MethodName := ⟨RX10, "copy", "(IIIII)I"⟩
noncomputable def F_X10_copy (x1 : Int32) (x2 : Int32) (x3 : Int32) (x4 : Int32) (x5 : Int32) (m : pj_M) : Option (Int32 × pj_M) := ((F_X6_exists x1 m).bind fun q1 => (if q1.1 = 0 then (some ((-1000001), q1.2)) else ((F_X6_exists x3 q1.2).bind fun q2 => (if q2.1 = 0 then (some ((-1000001), q2.2)) else ((F_X6_isMissing x1 q2.2).bind fun q3 => (if q3.1 = 0 then ((F_X6_isMissing x3 q3.2).bind fun q5 => (if q5.1 = 0 then ((F_X6_lane x1 q5.2).bind fun q6 => ((F_X6_lane x3 q6.2).bind fun q7 => (if q6.1 = q7.1 then ((F_X6_hasRange x1 x2 x5 q7.2).bind fun q8 => (if q8.1 = 0 then ((F_X10_found 2 q8.2).bind fun q9 => (some (q9.1, q9.2))) else ((F_X6_hasRange x3 x4 x5 q8.2).bind fun q10 => (if q10.1 = 0 then ((F_X10_found 2 q10.2).bind fun q13 => (some (q13.1, q13.2))) else ((F_X6_carry x1 x2 x3 x4 x5 q10.2).bind fun q11 => ((F_X10_fine x5 q11).bind fun q12 => (some (q12.1, q12.2)))))))) else ((F_X10_found 5 q7.2).bind fun q14 => (some (q14.1, q14.2)))))) else ((F_X10_found 1 q5.2).bind fun q15 => (some (q15.1, q15.2))))) else ((F_X10_found 1 q3.2).bind fun q4 => (some (q4.1, q4.2)))))))))
noncomputable def W_X10_copy : List pj_V → pj_M → Option (Int32 × pj_M) := fun as m => match as with
  | [.inr (.inr (t0, w0, a0)), .inl x1, .inl x2, .inl x3, .inl x4, .inl x5] => (match Nat.beq t0 0 && (Nat.beq w0 10 && (Nat.beq a0 0)) with
    | true => F_X10_copy x1 x2 x3 x4 x5 m
    | false => none)
  | _ => none
noncomputable def tb_X10_copy_0 : List (Nat × pj_T (Int32 × pj_M)) := [(0, qs_ldi 1 1), (1, qs_sI 1 W_X6_exists 4), (4, qs_ifeq 14 7), (7, qs_ldi 3 8), (8, qs_sI 1 W_X6_exists 11), (11, qs_ifne 17 14), (14, qs_ci (-1000001) 16), (16, qs_iret), (17, qs_lda 0 18), (18, qs_gf 10 0 21), (21, qs_ldi 1 22), (22, qs_vI 6 2 W_X6_isMissing 25), (25, qs_ifne 39 28), (28, qs_lda 0 29), (29, qs_gf 10 0 32), (32, qs_ldi 3 33), (33, qs_vI 6 2 W_X6_isMissing 36), (36, qs_ifeq 45 39), (39, qs_lda 0 40), (40, qs_ci 1 41), (41, qs_vI 10 2 W_X10_found 44), (44, qs_iret), (45, qs_lda 0 46), (46, qs_gf 10 0 49), (49, qs_ldi 1 50), (50, qs_vI 6 2 W_X6_lane 53), (53, qs_lda 0 54), (54, qs_gf 10 0 57), (57, qs_ldi 3 58), (58, qs_vI 6 2 W_X6_lane 61), (61, qs_iceq 70 64), (64, qs_lda 0 65), (65, qs_ci 5 66), (66, qs_vI 10 2 W_X10_found 69), (69, qs_iret), (70, qs_lda 0 71), (71, qs_gf 10 0 74), (74, qs_ldi 1 75), (75, qs_ldi 2 76), (76, qs_ldi 5 78)]
noncomputable def tb_X10_copy_1 : List (Nat × pj_T (Int32 × pj_M)) := [(78, qs_vI 6 4 W_X6_hasRange 81), (81, qs_ifeq 99 84), (84, qs_lda 0 85), (85, qs_gf 10 0 88), (88, qs_ldi 3 89), (89, qs_ldi 4 91), (91, qs_ldi 5 93), (93, qs_vI 6 4 W_X6_hasRange 96), (96, qs_ifne 105 99), (99, qs_lda 0 100), (100, qs_ci 2 101), (101, qs_vI 10 2 W_X10_found 104), (104, qs_iret), (105, qs_lda 0 106), (106, qs_gf 10 0 109), (109, qs_ldi 1 110), (110, qs_ldi 2 111), (111, qs_ldi 3 112), (112, qs_ldi 4 114), (114, qs_ldi 5 116), (116, qs_vV 6 6 W_X6_carry 119), (119, qs_lda 0 120), (120, qs_ldi 5 122), (122, qs_vI 10 2 W_X10_fine 125), (125, qs_iret)]
noncomputable def tb_X10_copy : List (Nat × pj_T (Int32 × pj_M)) := tb_X10_copy_0 ++ (tb_X10_copy_1)
theorem mv_X10_copy : pj_mv y_X10_copy c_X10_copy 6 (some .int) 5 := ⟨⟨cw_400, cw_398, cw_399, cw_81⟩, by decide +kernel, by decide⟩
set_option maxRecDepth 20000 in
theorem sd_X10_copy_0 {G : pj_E} {A : Nat → Prop} {P : pj_P} {S : pj_U} {Z : pj_Z} (C : pj_C (G, A, (c_X10_copy, y_X10_copy.cls, 6, (some .int), 2), P, S, Z)) : ∀ q ∈ tb_X10_copy_0, pj_S (G, A, (c_X10_copy, y_X10_copy.cls, 6, (some .int), 2), P, S, Z) pj_eI q.1 q.2 :=
  List.forall_mem_cons.mpr ⟨qz_iload_n C (show decode c_X10_copy 0 = .ok (.iload_n 1, 1) by decide +kernel) rfl,
  List.forall_mem_cons.mpr ⟨qz_sI C (show decode c_X10_copy 1 = .ok (.invokestatic 87, 3) by decide +kernel) ct_X6_exists mv_X6_exists (Or.inl cw_358) (show 1 < 2 by omega),
  List.forall_mem_cons.mpr ⟨qz_ifeq C (show decode c_X10_copy 4 = .ok (.ifCond .eq 10, 3) by decide +kernel) (by decide),
  List.forall_mem_cons.mpr ⟨qz_iload_n C (show decode c_X10_copy 7 = .ok (.iload_n 3, 1) by decide +kernel) rfl,
  List.forall_mem_cons.mpr ⟨qz_sI C (show decode c_X10_copy 8 = .ok (.invokestatic 87, 3) by decide +kernel) ct_X6_exists mv_X6_exists (Or.inl cw_358) (show 1 < 2 by omega),
  List.forall_mem_cons.mpr ⟨qz_ifne C (show decode c_X10_copy 11 = .ok (.ifCond .ne 6, 3) by decide +kernel) (by decide),
  List.forall_mem_cons.mpr ⟨qz_ldc C (show decode c_X10_copy 14 = .ok (.ldc 95, 2) by decide +kernel) cw_364,
  List.forall_mem_cons.mpr ⟨qz_iret C (show decode c_X10_copy 16 = .ok (.ireturn, 1) by decide +kernel) rfl,
  List.forall_mem_cons.mpr ⟨qz_aload_n C (show decode c_X10_copy 17 = .ok (.aload_n 0, 1) by decide +kernel) rfl,
  List.forall_mem_cons.mpr ⟨qz_gf (k := 0) C (show decode c_X10_copy 18 = .ok (.getfield 10, 3) by decide +kernel) vcX10 wiX10 (by decide) cw_311,
  List.forall_mem_cons.mpr ⟨qz_iload_n C (show decode c_X10_copy 21 = .ok (.iload_n 1, 1) by decide +kernel) rfl,
  List.forall_mem_cons.mpr ⟨qz_vI C (show decode c_X10_copy 22 = .ok (.invokevirtual 107, 3) by decide +kernel) ct_X6_isMissing mv_X6_isMissing cw_382 vcX6 (show 1 < 2 by omega),
  List.forall_mem_cons.mpr ⟨qz_ifne C (show decode c_X10_copy 25 = .ok (.ifCond .ne 14, 3) by decide +kernel) (by decide),
  List.forall_mem_cons.mpr ⟨qz_aload_n C (show decode c_X10_copy 28 = .ok (.aload_n 0, 1) by decide +kernel) rfl,
  List.forall_mem_cons.mpr ⟨qz_gf (k := 0) C (show decode c_X10_copy 29 = .ok (.getfield 10, 3) by decide +kernel) vcX10 wiX10 (by decide) cw_311,
  List.forall_mem_cons.mpr ⟨qz_iload_n C (show decode c_X10_copy 32 = .ok (.iload_n 3, 1) by decide +kernel) rfl,
  List.forall_mem_cons.mpr ⟨qz_vI C (show decode c_X10_copy 33 = .ok (.invokevirtual 107, 3) by decide +kernel) ct_X6_isMissing mv_X6_isMissing cw_382 vcX6 (show 1 < 2 by omega),
  List.forall_mem_cons.mpr ⟨qz_ifeq C (show decode c_X10_copy 36 = .ok (.ifCond .eq 9, 3) by decide +kernel) (by decide),
  List.forall_mem_cons.mpr ⟨qz_aload_n C (show decode c_X10_copy 39 = .ok (.aload_n 0, 1) by decide +kernel) rfl,
  List.forall_mem_cons.mpr ⟨qz_iconst C (show decode c_X10_copy 40 = .ok (.iconst 1, 1) by decide +kernel) (by decide +kernel),
  List.forall_mem_cons.mpr ⟨qz_vI C (show decode c_X10_copy 41 = .ok (.invokevirtual 96, 3) by decide +kernel) ct_X10_found mv_X10_found cw_365 vcX10 (show 1 < 2 by omega),
  List.forall_mem_cons.mpr ⟨qz_iret C (show decode c_X10_copy 44 = .ok (.ireturn, 1) by decide +kernel) rfl,
  List.forall_mem_cons.mpr ⟨qz_aload_n C (show decode c_X10_copy 45 = .ok (.aload_n 0, 1) by decide +kernel) rfl,
  List.forall_mem_cons.mpr ⟨qz_gf (k := 0) C (show decode c_X10_copy 46 = .ok (.getfield 10, 3) by decide +kernel) vcX10 wiX10 (by decide) cw_311,
  List.forall_mem_cons.mpr ⟨qz_iload_n C (show decode c_X10_copy 49 = .ok (.iload_n 1, 1) by decide +kernel) rfl,
  List.forall_mem_cons.mpr ⟨qz_vI C (show decode c_X10_copy 50 = .ok (.invokevirtual 117, 3) by decide +kernel) ct_X6_lane mv_X6_lane cw_401 vcX6 (show 1 < 2 by omega),
  List.forall_mem_cons.mpr ⟨qz_aload_n C (show decode c_X10_copy 53 = .ok (.aload_n 0, 1) by decide +kernel) rfl,
  List.forall_mem_cons.mpr ⟨qz_gf (k := 0) C (show decode c_X10_copy 54 = .ok (.getfield 10, 3) by decide +kernel) vcX10 wiX10 (by decide) cw_311,
  List.forall_mem_cons.mpr ⟨qz_iload_n C (show decode c_X10_copy 57 = .ok (.iload_n 3, 1) by decide +kernel) rfl,
  List.forall_mem_cons.mpr ⟨qz_vI C (show decode c_X10_copy 58 = .ok (.invokevirtual 117, 3) by decide +kernel) ct_X6_lane mv_X6_lane cw_401 vcX6 (show 1 < 2 by omega),
  List.forall_mem_cons.mpr ⟨qz_iceq C (show decode c_X10_copy 61 = .ok (.if_icmp .eq 9, 3) by decide +kernel) (by decide),
  List.forall_mem_cons.mpr ⟨qz_aload_n C (show decode c_X10_copy 64 = .ok (.aload_n 0, 1) by decide +kernel) rfl,
  List.forall_mem_cons.mpr ⟨qz_iconst C (show decode c_X10_copy 65 = .ok (.iconst 5, 1) by decide +kernel) (by decide +kernel),
  List.forall_mem_cons.mpr ⟨qz_vI C (show decode c_X10_copy 66 = .ok (.invokevirtual 96, 3) by decide +kernel) ct_X10_found mv_X10_found cw_365 vcX10 (show 1 < 2 by omega),
  List.forall_mem_cons.mpr ⟨qz_iret C (show decode c_X10_copy 69 = .ok (.ireturn, 1) by decide +kernel) rfl,
  List.forall_mem_cons.mpr ⟨qz_aload_n C (show decode c_X10_copy 70 = .ok (.aload_n 0, 1) by decide +kernel) rfl,
  List.forall_mem_cons.mpr ⟨qz_gf (k := 0) C (show decode c_X10_copy 71 = .ok (.getfield 10, 3) by decide +kernel) vcX10 wiX10 (by decide) cw_311,
  List.forall_mem_cons.mpr ⟨qz_iload_n C (show decode c_X10_copy 74 = .ok (.iload_n 1, 1) by decide +kernel) rfl,
  List.forall_mem_cons.mpr ⟨qz_iload_n C (show decode c_X10_copy 75 = .ok (.iload_n 2, 1) by decide +kernel) rfl,
  List.forall_mem_cons.mpr ⟨qz_iload C (show decode c_X10_copy 76 = .ok (.iload 5, 2) by decide +kernel),
  (fun q h => by cases h)⟩⟩⟩⟩⟩⟩⟩⟩⟩⟩⟩⟩⟩⟩⟩⟩⟩⟩⟩⟩⟩⟩⟩⟩⟩⟩⟩⟩⟩⟩⟩⟩⟩⟩⟩⟩⟩⟩⟩⟩
set_option maxRecDepth 20000 in
theorem sd_X10_copy_1 {G : pj_E} {A : Nat → Prop} {P : pj_P} {S : pj_U} {Z : pj_Z} (C : pj_C (G, A, (c_X10_copy, y_X10_copy.cls, 6, (some .int), 2), P, S, Z)) : ∀ q ∈ tb_X10_copy_1, pj_S (G, A, (c_X10_copy, y_X10_copy.cls, 6, (some .int), 2), P, S, Z) pj_eI q.1 q.2 :=
  List.forall_mem_cons.mpr ⟨qz_vI C (show decode c_X10_copy 78 = .ok (.invokevirtual 120, 3) by decide +kernel) ct_X6_hasRange mv_X6_hasRange cw_405 vcX6 (show 1 < 2 by omega),
  List.forall_mem_cons.mpr ⟨qz_ifeq C (show decode c_X10_copy 81 = .ok (.ifCond .eq 18, 3) by decide +kernel) (by decide),
  List.forall_mem_cons.mpr ⟨qz_aload_n C (show decode c_X10_copy 84 = .ok (.aload_n 0, 1) by decide +kernel) rfl,
  List.forall_mem_cons.mpr ⟨qz_gf (k := 0) C (show decode c_X10_copy 85 = .ok (.getfield 10, 3) by decide +kernel) vcX10 wiX10 (by decide) cw_311,
  List.forall_mem_cons.mpr ⟨qz_iload_n C (show decode c_X10_copy 88 = .ok (.iload_n 3, 1) by decide +kernel) rfl,
  List.forall_mem_cons.mpr ⟨qz_iload C (show decode c_X10_copy 89 = .ok (.iload 4, 2) by decide +kernel),
  List.forall_mem_cons.mpr ⟨qz_iload C (show decode c_X10_copy 91 = .ok (.iload 5, 2) by decide +kernel),
  List.forall_mem_cons.mpr ⟨qz_vI C (show decode c_X10_copy 93 = .ok (.invokevirtual 120, 3) by decide +kernel) ct_X6_hasRange mv_X6_hasRange cw_405 vcX6 (show 1 < 2 by omega),
  List.forall_mem_cons.mpr ⟨qz_ifne C (show decode c_X10_copy 96 = .ok (.ifCond .ne 9, 3) by decide +kernel) (by decide),
  List.forall_mem_cons.mpr ⟨qz_aload_n C (show decode c_X10_copy 99 = .ok (.aload_n 0, 1) by decide +kernel) rfl,
  List.forall_mem_cons.mpr ⟨qz_iconst C (show decode c_X10_copy 100 = .ok (.iconst 2, 1) by decide +kernel) (by decide +kernel),
  List.forall_mem_cons.mpr ⟨qz_vI C (show decode c_X10_copy 101 = .ok (.invokevirtual 96, 3) by decide +kernel) ct_X10_found mv_X10_found cw_365 vcX10 (show 1 < 2 by omega),
  List.forall_mem_cons.mpr ⟨qz_iret C (show decode c_X10_copy 104 = .ok (.ireturn, 1) by decide +kernel) rfl,
  List.forall_mem_cons.mpr ⟨qz_aload_n C (show decode c_X10_copy 105 = .ok (.aload_n 0, 1) by decide +kernel) rfl,
  List.forall_mem_cons.mpr ⟨qz_gf (k := 0) C (show decode c_X10_copy 106 = .ok (.getfield 10, 3) by decide +kernel) vcX10 wiX10 (by decide) cw_311,
  List.forall_mem_cons.mpr ⟨qz_iload_n C (show decode c_X10_copy 109 = .ok (.iload_n 1, 1) by decide +kernel) rfl,
  List.forall_mem_cons.mpr ⟨qz_iload_n C (show decode c_X10_copy 110 = .ok (.iload_n 2, 1) by decide +kernel) rfl,
  List.forall_mem_cons.mpr ⟨qz_iload_n C (show decode c_X10_copy 111 = .ok (.iload_n 3, 1) by decide +kernel) rfl,
  List.forall_mem_cons.mpr ⟨qz_iload C (show decode c_X10_copy 112 = .ok (.iload 4, 2) by decide +kernel),
  List.forall_mem_cons.mpr ⟨qz_iload C (show decode c_X10_copy 114 = .ok (.iload 5, 2) by decide +kernel),
  List.forall_mem_cons.mpr ⟨qz_vV C (show decode c_X10_copy 116 = .ok (.invokevirtual 123, 3) by decide +kernel) ct_X6_carry mv_X6_carry cw_409 vcX6 (show 1 < 2 by omega),
  List.forall_mem_cons.mpr ⟨qz_aload_n C (show decode c_X10_copy 119 = .ok (.aload_n 0, 1) by decide +kernel) rfl,
  List.forall_mem_cons.mpr ⟨qz_iload C (show decode c_X10_copy 120 = .ok (.iload 5, 2) by decide +kernel),
  List.forall_mem_cons.mpr ⟨qz_vI C (show decode c_X10_copy 122 = .ok (.invokevirtual 104, 3) by decide +kernel) ct_X10_fine mv_X10_fine cw_374 vcX10 (show 1 < 2 by omega),
  List.forall_mem_cons.mpr ⟨qz_iret C (show decode c_X10_copy 125 = .ok (.ireturn, 1) by decide +kernel) rfl,
  (fun q h => by cases h)⟩⟩⟩⟩⟩⟩⟩⟩⟩⟩⟩⟩⟩⟩⟩⟩⟩⟩⟩⟩⟩⟩⟩⟩⟩
theorem sd_X10_copy {G : pj_E} {A : Nat → Prop} {P : pj_P} {S : pj_U} {Z : pj_Z} (C : pj_C (G, A, (c_X10_copy, y_X10_copy.cls, 6, (some .int), 2), P, S, Z)) : ∀ q ∈ tb_X10_copy, pj_S (G, A, (c_X10_copy, y_X10_copy.cls, 6, (some .int), 2), P, S, Z) pj_eI q.1 q.2 := List.forall_mem_append.mpr ⟨sd_X10_copy_0 C, sd_X10_copy_1 C⟩
set_option maxRecDepth 20000 in
theorem eq_X10_copy (x1 : Int32) (x2 : Int32) (x3 : Int32) (x4 : Int32) (x5 : Int32) (m : pj_M) : pj_run tb_X10_copy [] 67 0 [some (.inr (.inr (0, 10, 0))), some (.inl x1), some (.inl x2), some (.inl x3), some (.inl x4), some (.inl x5)] [] m = F_X10_copy x1 x2 x3 x4 x5 m := by rfl
theorem ct_X10_copy : pj_Ct pj_eI y_X10_copy c_X10_copy 6 (some .int) 2 W_X10_copy := by
  refine pj_ct_of (by decide +kernel) ?_ ?_
  · intro as m r h
    unfold W_X10_copy at h
    split at h
    · simp [pj_l0]
    · cases h
  · intro G A P S Z C as m r h hR
    unfold W_X10_copy at h
    split at h
    · split at h
      · rename_i hbq
        simp only [Bool.and_eq_true, Nat.beq_eq] at hbq
        obtain ⟨rfl, rfl, rfl⟩ := hbq
        exact pj_run_ok (sd_X10_copy C) (fun q h => by cases h) 67 0 _ _ _ _ ((eq_X10_copy _ _ _ _ _ _).trans h) hR
      · cases h
    · cases h
/-! AlikeSteps.drop(I)I -/
abbrev c_X10_drop : ByteArray := prog_1_method_5_code
def y_X10_drop : MethodName := ⟨RX10, "drop", "(I)I"⟩
noncomputable def F_X10_drop (x1 : Int32) (m : pj_M) : Option (Int32 × pj_M) := ((F_X6_exists x1 m).bind fun q1 => (if q1.1 = 0 then (some ((-1000001), q1.2)) else ((F_X6_isMissing x1 q1.2).bind fun q2 => (if q2.1 = 0 then ((F_X6_length x1 q2.2).bind fun q3 => ((F_X6_remove x1 q3.2).bind fun q4 => ((F_X10_fine q3.1 q4).bind fun q5 => (some (q5.1, q5.2))))) else ((F_X10_found 1 q2.2).bind fun q6 => (some (q6.1, q6.2)))))))
noncomputable def W_X10_drop : List pj_V → pj_M → Option (Int32 × pj_M) := fun as m => match as with
  | [.inr (.inr (t0, w0, a0)), .inl x1] => (match Nat.beq t0 0 && (Nat.beq w0 10 && (Nat.beq a0 0)) with
    | true => F_X10_drop x1 m
    | false => none)
  | _ => none
noncomputable def tb_X10_drop_0 : List (Nat × pj_T (Int32 × pj_M)) := [(0, qs_ldi 1 1), (1, qs_sI 1 W_X6_exists 4), (4, qs_ifne 10 7), (7, qs_ci (-1000001) 9), (9, qs_iret), (10, qs_lda 0 11), (11, qs_gf 10 0 14), (14, qs_ldi 1 15), (15, qs_vI 6 2 W_X6_isMissing 18), (18, qs_ifeq 27 21), (21, qs_lda 0 22), (22, qs_ci 1 23), (23, qs_vI 10 2 W_X10_found 26), (26, qs_iret), (27, qs_lda 0 28), (28, qs_gf 10 0 31), (31, qs_ldi 1 32), (32, qs_vI 6 2 W_X6_length 35), (35, qs_sti 2 36), (36, qs_lda 0 37), (37, qs_gf 10 0 40), (40, qs_ldi 1 41), (41, qs_vV 6 2 W_X6_remove 44), (44, qs_lda 0 45), (45, qs_ldi 2 46), (46, qs_vI 10 2 W_X10_fine 49), (49, qs_iret)]
noncomputable abbrev tb_X10_drop : List (Nat × pj_T (Int32 × pj_M)) := tb_X10_drop_0
theorem mv_X10_drop : pj_mv y_X10_drop c_X10_drop 3 (some .int) 1 := ⟨⟨cw_419, cw_417, cw_418, cw_81⟩, by decide +kernel, by decide⟩
set_option maxRecDepth 20000 in
theorem sd_X10_drop_0 {G : pj_E} {A : Nat → Prop} {P : pj_P} {S : pj_U} {Z : pj_Z} (C : pj_C (G, A, (c_X10_drop, y_X10_drop.cls, 3, (some .int), 2), P, S, Z)) : ∀ q ∈ tb_X10_drop_0, pj_S (G, A, (c_X10_drop, y_X10_drop.cls, 3, (some .int), 2), P, S, Z) pj_eI q.1 q.2 :=
  List.forall_mem_cons.mpr ⟨qz_iload_n C (show decode c_X10_drop 0 = .ok (.iload_n 1, 1) by decide +kernel) rfl,
  List.forall_mem_cons.mpr ⟨qz_sI C (show decode c_X10_drop 1 = .ok (.invokestatic 87, 3) by decide +kernel) ct_X6_exists mv_X6_exists (Or.inl cw_358) (show 1 < 2 by omega),
  List.forall_mem_cons.mpr ⟨qz_ifne C (show decode c_X10_drop 4 = .ok (.ifCond .ne 6, 3) by decide +kernel) (by decide),
  List.forall_mem_cons.mpr ⟨qz_ldc C (show decode c_X10_drop 7 = .ok (.ldc 95, 2) by decide +kernel) cw_364,
  List.forall_mem_cons.mpr ⟨qz_iret C (show decode c_X10_drop 9 = .ok (.ireturn, 1) by decide +kernel) rfl,
  List.forall_mem_cons.mpr ⟨qz_aload_n C (show decode c_X10_drop 10 = .ok (.aload_n 0, 1) by decide +kernel) rfl,
  List.forall_mem_cons.mpr ⟨qz_gf (k := 0) C (show decode c_X10_drop 11 = .ok (.getfield 10, 3) by decide +kernel) vcX10 wiX10 (by decide) cw_311,
  List.forall_mem_cons.mpr ⟨qz_iload_n C (show decode c_X10_drop 14 = .ok (.iload_n 1, 1) by decide +kernel) rfl,
  List.forall_mem_cons.mpr ⟨qz_vI C (show decode c_X10_drop 15 = .ok (.invokevirtual 107, 3) by decide +kernel) ct_X6_isMissing mv_X6_isMissing cw_382 vcX6 (show 1 < 2 by omega),
  List.forall_mem_cons.mpr ⟨qz_ifeq C (show decode c_X10_drop 18 = .ok (.ifCond .eq 9, 3) by decide +kernel) (by decide),
  List.forall_mem_cons.mpr ⟨qz_aload_n C (show decode c_X10_drop 21 = .ok (.aload_n 0, 1) by decide +kernel) rfl,
  List.forall_mem_cons.mpr ⟨qz_iconst C (show decode c_X10_drop 22 = .ok (.iconst 1, 1) by decide +kernel) (by decide +kernel),
  List.forall_mem_cons.mpr ⟨qz_vI C (show decode c_X10_drop 23 = .ok (.invokevirtual 96, 3) by decide +kernel) ct_X10_found mv_X10_found cw_365 vcX10 (show 1 < 2 by omega),
  List.forall_mem_cons.mpr ⟨qz_iret C (show decode c_X10_drop 26 = .ok (.ireturn, 1) by decide +kernel) rfl,
  List.forall_mem_cons.mpr ⟨qz_aload_n C (show decode c_X10_drop 27 = .ok (.aload_n 0, 1) by decide +kernel) rfl,
  List.forall_mem_cons.mpr ⟨qz_gf (k := 0) C (show decode c_X10_drop 28 = .ok (.getfield 10, 3) by decide +kernel) vcX10 wiX10 (by decide) cw_311,
  List.forall_mem_cons.mpr ⟨qz_iload_n C (show decode c_X10_drop 31 = .ok (.iload_n 1, 1) by decide +kernel) rfl,
  List.forall_mem_cons.mpr ⟨qz_vI C (show decode c_X10_drop 32 = .ok (.invokevirtual 110, 3) by decide +kernel) ct_X6_length mv_X6_length cw_386 vcX6 (show 1 < 2 by omega),
  List.forall_mem_cons.mpr ⟨qz_istore_n C (show decode c_X10_drop 35 = .ok (.istore_n 2, 1) by decide +kernel) rfl,
  List.forall_mem_cons.mpr ⟨qz_aload_n C (show decode c_X10_drop 36 = .ok (.aload_n 0, 1) by decide +kernel) rfl,
  List.forall_mem_cons.mpr ⟨qz_gf (k := 0) C (show decode c_X10_drop 37 = .ok (.getfield 10, 3) by decide +kernel) vcX10 wiX10 (by decide) cw_311,
  List.forall_mem_cons.mpr ⟨qz_iload_n C (show decode c_X10_drop 40 = .ok (.iload_n 1, 1) by decide +kernel) rfl,
  List.forall_mem_cons.mpr ⟨qz_vV C (show decode c_X10_drop 41 = .ok (.invokevirtual 127, 3) by decide +kernel) ct_X6_remove mv_X6_remove cw_420 vcX6 (show 1 < 2 by omega),
  List.forall_mem_cons.mpr ⟨qz_aload_n C (show decode c_X10_drop 44 = .ok (.aload_n 0, 1) by decide +kernel) rfl,
  List.forall_mem_cons.mpr ⟨qz_iload_n C (show decode c_X10_drop 45 = .ok (.iload_n 2, 1) by decide +kernel) rfl,
  List.forall_mem_cons.mpr ⟨qz_vI C (show decode c_X10_drop 46 = .ok (.invokevirtual 104, 3) by decide +kernel) ct_X10_fine mv_X10_fine cw_374 vcX10 (show 1 < 2 by omega),
  List.forall_mem_cons.mpr ⟨qz_iret C (show decode c_X10_drop 49 = .ok (.ireturn, 1) by decide +kernel) rfl,
  (fun q h => by cases h)⟩⟩⟩⟩⟩⟩⟩⟩⟩⟩⟩⟩⟩⟩⟩⟩⟩⟩⟩⟩⟩⟩⟩⟩⟩⟩⟩
theorem sd_X10_drop {G : pj_E} {A : Nat → Prop} {P : pj_P} {S : pj_U} {Z : pj_Z} (C : pj_C (G, A, (c_X10_drop, y_X10_drop.cls, 3, (some .int), 2), P, S, Z)) : ∀ q ∈ tb_X10_drop, pj_S (G, A, (c_X10_drop, y_X10_drop.cls, 3, (some .int), 2), P, S, Z) pj_eI q.1 q.2 := sd_X10_drop_0 C
set_option maxRecDepth 20000 in
theorem eq_X10_drop (x1 : Int32) (m : pj_M) : pj_run tb_X10_drop [] 29 0 [some (.inr (.inr (0, 10, 0))), some (.inl x1), none] [] m = F_X10_drop x1 m := by rfl
theorem ct_X10_drop : pj_Ct pj_eI y_X10_drop c_X10_drop 3 (some .int) 2 W_X10_drop := by
  refine pj_ct_of (by decide +kernel) ?_ ?_
  · intro as m r h
    unfold W_X10_drop at h
    split at h
    · simp [pj_l0]
    · cases h
  · intro G A P S Z C as m r h hR
    unfold W_X10_drop at h
    split at h
    · split at h
      · rename_i hbq
        simp only [Bool.and_eq_true, Nat.beq_eq] at hbq
        obtain ⟨rfl, rfl, rfl⟩ := hbq
        exact pj_run_ok (sd_X10_drop C) (fun q h => by cases h) 29 0 _ _ _ _ ((eq_X10_drop _ _).trans h) hR
      · cases h
    · cases h
/-! AlikeSteps.feed(I)I -/
abbrev c_X10_feed : ByteArray := prog_1_method_6_code
def y_X10_feed : MethodName := ⟨RX10, "feed", "(I)I"⟩
noncomputable def F_X10_feed (x1 : Int32) (m : pj_M) : Option (Int32 × pj_M) := ((F_X10_within x1 0 255 m).bind fun q1 => (if q1.1 = 0 then (some ((-1000001), q1.2)) else ((F_X8_isFull q1.2).bind fun q2 => (if q2.1 = 0 then ((F_X8_append x1 q2.2).bind fun q3 => (some (q3.1, q3.2))) else (some ((-1000003), q2.2))))))
noncomputable def W_X10_feed : List pj_V → pj_M → Option (Int32 × pj_M) := fun as m => match as with
  | [.inr (.inr (t0, w0, a0)), .inl x1] => (match Nat.beq t0 0 && (Nat.beq w0 10 && (Nat.beq a0 0)) with
    | true => F_X10_feed x1 m
    | false => none)
  | _ => none
noncomputable def tb_X10_feed_0 : List (Nat × pj_T (Int32 × pj_M)) := [(0, qs_ldi 1 1), (1, qs_ci 0 2), (2, qs_ci 255 5), (5, qs_sI 3 W_X10_within 8), (8, qs_ifne 14 11), (11, qs_ci (-1000001) 13), (13, qs_iret), (14, qs_lda 0 15), (15, qs_gf 10 1 18), (18, qs_vI 8 1 W_X8_isFull 21), (21, qs_ifeq 29 24), (24, qs_ci (-1000003) 26), (26, qs_go 37), (29, qs_lda 0 30), (30, qs_gf 10 1 33), (33, qs_ldi 1 34), (34, qs_vI 8 2 W_X8_append 37), (37, qs_iret)]
noncomputable abbrev tb_X10_feed : List (Nat × pj_T (Int32 × pj_M)) := tb_X10_feed_0
theorem mv_X10_feed : pj_mv y_X10_feed c_X10_feed 2 (some .int) 1 := ⟨⟨cw_427, cw_425, cw_426, cw_81⟩, by decide +kernel, by decide⟩
set_option maxRecDepth 20000 in
theorem sd_X10_feed_0 {G : pj_E} {A : Nat → Prop} {P : pj_P} {S : pj_U} {Z : pj_Z} (C : pj_C (G, A, (c_X10_feed, y_X10_feed.cls, 2, (some .int), 3), P, S, Z)) : ∀ q ∈ tb_X10_feed_0, pj_S (G, A, (c_X10_feed, y_X10_feed.cls, 2, (some .int), 3), P, S, Z) pj_eI q.1 q.2 :=
  List.forall_mem_cons.mpr ⟨qz_iload_n C (show decode c_X10_feed 0 = .ok (.iload_n 1, 1) by decide +kernel) rfl,
  List.forall_mem_cons.mpr ⟨qz_iconst C (show decode c_X10_feed 1 = .ok (.iconst 0, 1) by decide +kernel) (by decide +kernel),
  List.forall_mem_cons.mpr ⟨qz_sipush C (show decode c_X10_feed 2 = .ok (.sipush 255, 3) by decide +kernel) (by decide +kernel),
  List.forall_mem_cons.mpr ⟨qz_sI C (show decode c_X10_feed 5 = .ok (.invokestatic 91, 3) by decide +kernel) ct_X10_within mv_X10_within (Or.inl cw_361) (show 1 < 3 by omega),
  List.forall_mem_cons.mpr ⟨qz_ifne C (show decode c_X10_feed 8 = .ok (.ifCond .ne 6, 3) by decide +kernel) (by decide),
  List.forall_mem_cons.mpr ⟨qz_ldc C (show decode c_X10_feed 11 = .ok (.ldc 95, 2) by decide +kernel) cw_364,
  List.forall_mem_cons.mpr ⟨qz_iret C (show decode c_X10_feed 13 = .ok (.ireturn, 1) by decide +kernel) rfl,
  List.forall_mem_cons.mpr ⟨qz_aload_n C (show decode c_X10_feed 14 = .ok (.aload_n 0, 1) by decide +kernel) rfl,
  List.forall_mem_cons.mpr ⟨qz_gf (k := 1) C (show decode c_X10_feed 15 = .ok (.getfield 19, 3) by decide +kernel) vcX10 wiX10 (by decide) cw_312,
  List.forall_mem_cons.mpr ⟨qz_vI C (show decode c_X10_feed 18 = .ok (.invokevirtual 130, 3) by decide +kernel) ct_X8_isFull mv_X8_isFull cw_428 vcX8 (show 1 < 3 by omega),
  List.forall_mem_cons.mpr ⟨qz_ifeq C (show decode c_X10_feed 21 = .ok (.ifCond .eq 8, 3) by decide +kernel) (by decide),
  List.forall_mem_cons.mpr ⟨qz_ldc C (show decode c_X10_feed 24 = .ok (.ldc 134, 2) by decide +kernel) cw_432,
  List.forall_mem_cons.mpr ⟨qz_goto C (show decode c_X10_feed 26 = .ok (.goto 11, 3) by decide +kernel) (by decide),
  List.forall_mem_cons.mpr ⟨qz_aload_n C (show decode c_X10_feed 29 = .ok (.aload_n 0, 1) by decide +kernel) rfl,
  List.forall_mem_cons.mpr ⟨qz_gf (k := 1) C (show decode c_X10_feed 30 = .ok (.getfield 19, 3) by decide +kernel) vcX10 wiX10 (by decide) cw_312,
  List.forall_mem_cons.mpr ⟨qz_iload_n C (show decode c_X10_feed 33 = .ok (.iload_n 1, 1) by decide +kernel) rfl,
  List.forall_mem_cons.mpr ⟨qz_vI C (show decode c_X10_feed 34 = .ok (.invokevirtual 135, 3) by decide +kernel) ct_X8_append mv_X8_append cw_433 vcX8 (show 2 < 3 by omega),
  List.forall_mem_cons.mpr ⟨qz_iret C (show decode c_X10_feed 37 = .ok (.ireturn, 1) by decide +kernel) rfl,
  (fun q h => by cases h)⟩⟩⟩⟩⟩⟩⟩⟩⟩⟩⟩⟩⟩⟩⟩⟩⟩⟩
theorem sd_X10_feed {G : pj_E} {A : Nat → Prop} {P : pj_P} {S : pj_U} {Z : pj_Z} (C : pj_C (G, A, (c_X10_feed, y_X10_feed.cls, 2, (some .int), 3), P, S, Z)) : ∀ q ∈ tb_X10_feed, pj_S (G, A, (c_X10_feed, y_X10_feed.cls, 2, (some .int), 3), P, S, Z) pj_eI q.1 q.2 := sd_X10_feed_0 C
set_option maxRecDepth 20000 in
theorem eq_X10_feed (x1 : Int32) (m : pj_M) : pj_run tb_X10_feed [] 20 0 [some (.inr (.inr (0, 10, 0))), some (.inl x1)] [] m = F_X10_feed x1 m := by rfl
theorem ct_X10_feed : pj_Ct pj_eI y_X10_feed c_X10_feed 2 (some .int) 3 W_X10_feed := by
  refine pj_ct_of (by decide +kernel) ?_ ?_
  · intro as m r h
    unfold W_X10_feed at h
    split at h
    · simp [pj_l0]
    · cases h
  · intro G A P S Z C as m r h hR
    unfold W_X10_feed at h
    split at h
    · split at h
      · rename_i hbq
        simp only [Bool.and_eq_true, Nat.beq_eq] at hbq
        obtain ⟨rfl, rfl, rfl⟩ := hbq
        exact pj_run_ok (sd_X10_feed C) (fun q h => by cases h) 20 0 _ _ _ _ ((eq_X10_feed _ _).trans h) hR
      · cases h
    · cases h
/-! AlikeSteps.system()I -/
abbrev c_X10_system : ByteArray := prog_1_method_7_code
def y_X10_system : MethodName := ⟨RX10, "system", "()I"⟩
noncomputable def F_X10_system (m : pj_M) : Option (Int32 × pj_M) := ((F_X8_read 10 m).bind fun q1 => ((F_X8_clear q1.2).bind fun q2 => (if q1.1 = 0 then ((F_X4_takeOver 7 10 q2).bind fun q3 => ((F_X0_forget q3).bind fun q4 => ((F_X4_states 7 q4).bind fun q5 => (some (q5.1, q5.2))))) else ((F_X8_place (pj_wr q2 0 12 q1.1)).bind fun q6 => (some ((-1000100) - q6.1, q6.2))))))
noncomputable def W_X10_system : List pj_V → pj_M → Option (Int32 × pj_M) := fun as m => match as with
  | [.inr (.inr (t0, w0, a0))] => (match Nat.beq t0 0 && (Nat.beq w0 10 && (Nat.beq a0 0)) with
    | true => F_X10_system m
    | false => none)
  | _ => none
noncomputable def tb_X10_system_0 : List (Nat × pj_T (Int32 × pj_M)) := [(0, qs_lda 0 1), (1, qs_gf 10 1 4), (4, qs_lda 0 5), (5, qs_gf 10 3 8), (8, qs_vI 8 2 W_X8_read 11), (11, qs_sti 1 12), (12, qs_lda 0 13), (13, qs_gf 10 1 16), (16, qs_vV 8 1 W_X8_clear 19), (19, qs_ldi 1 20), (20, qs_ifeq 39 23), (23, qs_lda 0 24), (24, qs_ldi 1 25), (25, qs_pf 10 12 28), (28, qs_ci (-1000100) 30), (30, qs_lda 0 31), (31, qs_gf 10 1 34), (34, qs_vI 8 1 W_X8_place 37), (37, qs_b2 (fun x y => x - y) 38), (38, qs_iret), (39, qs_lda 0 40), (40, qs_gf 10 2 43), (43, qs_lda 0 44), (44, qs_gf 10 3 47), (47, qs_vV 4 2 W_X4_takeOver 50), (50, qs_lda 0 51), (51, qs_gf 10 6 54), (54, qs_vV 0 1 W_X0_forget 57), (57, qs_lda 0 58), (58, qs_gf 10 2 61), (61, qs_vI 4 1 W_X4_states 64), (64, qs_iret)]
noncomputable abbrev tb_X10_system : List (Nat × pj_T (Int32 × pj_M)) := tb_X10_system_0
theorem mv_X10_system : pj_mv y_X10_system c_X10_system 2 (some .int) 0 := ⟨⟨cw_441, cw_439, cw_440, cw_81⟩, by decide +kernel, by decide⟩
set_option maxRecDepth 20000 in
theorem sd_X10_system_0 {G : pj_E} {A : Nat → Prop} {P : pj_P} {S : pj_U} {Z : pj_Z} (C : pj_C (G, A, (c_X10_system, y_X10_system.cls, 2, (some .int), 7), P, S, Z)) : ∀ q ∈ tb_X10_system_0, pj_S (G, A, (c_X10_system, y_X10_system.cls, 2, (some .int), 7), P, S, Z) pj_eI q.1 q.2 :=
  List.forall_mem_cons.mpr ⟨qz_aload_n C (show decode c_X10_system 0 = .ok (.aload_n 0, 1) by decide +kernel) rfl,
  List.forall_mem_cons.mpr ⟨qz_gf (k := 1) C (show decode c_X10_system 1 = .ok (.getfield 19, 3) by decide +kernel) vcX10 wiX10 (by decide) cw_312,
  List.forall_mem_cons.mpr ⟨qz_aload_n C (show decode c_X10_system 4 = .ok (.aload_n 0, 1) by decide +kernel) rfl,
  List.forall_mem_cons.mpr ⟨qz_gf (k := 3) C (show decode c_X10_system 5 = .ok (.getfield 30, 3) by decide +kernel) vcX10 wiX10 (by decide) cw_314,
  List.forall_mem_cons.mpr ⟨qz_vI C (show decode c_X10_system 8 = .ok (.invokevirtual 138, 3) by decide +kernel) ct_X8_read mv_X8_read cw_442 vcX8 (show 6 < 7 by omega),
  List.forall_mem_cons.mpr ⟨qz_istore_n C (show decode c_X10_system 11 = .ok (.istore_n 1, 1) by decide +kernel) rfl,
  List.forall_mem_cons.mpr ⟨qz_aload_n C (show decode c_X10_system 12 = .ok (.aload_n 0, 1) by decide +kernel) rfl,
  List.forall_mem_cons.mpr ⟨qz_gf (k := 1) C (show decode c_X10_system 13 = .ok (.getfield 19, 3) by decide +kernel) vcX10 wiX10 (by decide) cw_312,
  List.forall_mem_cons.mpr ⟨qz_vV C (show decode c_X10_system 16 = .ok (.invokevirtual 142, 3) by decide +kernel) ct_X8_clear mv_X8_clear cw_509 vcX8 (show 1 < 7 by omega),
  List.forall_mem_cons.mpr ⟨qz_iload_n C (show decode c_X10_system 19 = .ok (.iload_n 1, 1) by decide +kernel) rfl,
  List.forall_mem_cons.mpr ⟨qz_ifeq C (show decode c_X10_system 20 = .ok (.ifCond .eq 19, 3) by decide +kernel) (by decide),
  List.forall_mem_cons.mpr ⟨qz_aload_n C (show decode c_X10_system 23 = .ok (.aload_n 0, 1) by decide +kernel) rfl,
  List.forall_mem_cons.mpr ⟨qz_iload_n C (show decode c_X10_system 24 = .ok (.iload_n 1, 1) by decide +kernel) rfl,
  List.forall_mem_cons.mpr ⟨qz_pf (k := 12) C (show decode c_X10_system 25 = .ok (.putfield 77, 3) by decide +kernel) vcX10 wiX10 tyX10_ok nmX10 (by decide) cw_323 rfl rfl,
  List.forall_mem_cons.mpr ⟨qz_ldc C (show decode c_X10_system 28 = .ok (.ldc 145, 2) by decide +kernel) cw_513,
  List.forall_mem_cons.mpr ⟨qz_aload_n C (show decode c_X10_system 30 = .ok (.aload_n 0, 1) by decide +kernel) rfl,
  List.forall_mem_cons.mpr ⟨qz_gf (k := 1) C (show decode c_X10_system 31 = .ok (.getfield 19, 3) by decide +kernel) vcX10 wiX10 (by decide) cw_312,
  List.forall_mem_cons.mpr ⟨qz_vI C (show decode c_X10_system 34 = .ok (.invokevirtual 146, 3) by decide +kernel) ct_X8_place mv_X8_place cw_514 vcX8 (show 1 < 7 by omega),
  List.forall_mem_cons.mpr ⟨qz_isub C (show decode c_X10_system 37 = .ok (.isub, 1) by decide +kernel),
  List.forall_mem_cons.mpr ⟨qz_iret C (show decode c_X10_system 38 = .ok (.ireturn, 1) by decide +kernel) rfl,
  List.forall_mem_cons.mpr ⟨qz_aload_n C (show decode c_X10_system 39 = .ok (.aload_n 0, 1) by decide +kernel) rfl,
  List.forall_mem_cons.mpr ⟨qz_gf (k := 2) C (show decode c_X10_system 40 = .ok (.getfield 26, 3) by decide +kernel) vcX10 wiX10 (by decide) cw_313,
  List.forall_mem_cons.mpr ⟨qz_aload_n C (show decode c_X10_system 43 = .ok (.aload_n 0, 1) by decide +kernel) rfl,
  List.forall_mem_cons.mpr ⟨qz_gf (k := 3) C (show decode c_X10_system 44 = .ok (.getfield 30, 3) by decide +kernel) vcX10 wiX10 (by decide) cw_314,
  List.forall_mem_cons.mpr ⟨qz_vV C (show decode c_X10_system 47 = .ok (.invokevirtual 150, 3) by decide +kernel) ct_X4_takeOver mv_X4_takeOver cw_518 vcX4 (show 1 < 7 by omega),
  List.forall_mem_cons.mpr ⟨qz_aload_n C (show decode c_X10_system 50 = .ok (.aload_n 0, 1) by decide +kernel) rfl,
  List.forall_mem_cons.mpr ⟨qz_gf (k := 6) C (show decode c_X10_system 51 = .ok (.getfield 43, 3) by decide +kernel) vcX10 wiX10 (by decide) cw_317,
  List.forall_mem_cons.mpr ⟨qz_vV C (show decode c_X10_system 54 = .ok (.invokevirtual 154, 3) by decide +kernel) ct_X0_forget mv_X0_forget cw_522 vcX0 (show 1 < 7 by omega),
  List.forall_mem_cons.mpr ⟨qz_aload_n C (show decode c_X10_system 57 = .ok (.aload_n 0, 1) by decide +kernel) rfl,
  List.forall_mem_cons.mpr ⟨qz_gf (k := 2) C (show decode c_X10_system 58 = .ok (.getfield 26, 3) by decide +kernel) vcX10 wiX10 (by decide) cw_313,
  List.forall_mem_cons.mpr ⟨qz_vI C (show decode c_X10_system 61 = .ok (.invokevirtual 157, 3) by decide +kernel) ct_X4_states mv_X4_states cw_526 vcX4 (show 1 < 7 by omega),
  List.forall_mem_cons.mpr ⟨qz_iret C (show decode c_X10_system 64 = .ok (.ireturn, 1) by decide +kernel) rfl,
  (fun q h => by cases h)⟩⟩⟩⟩⟩⟩⟩⟩⟩⟩⟩⟩⟩⟩⟩⟩⟩⟩⟩⟩⟩⟩⟩⟩⟩⟩⟩⟩⟩⟩⟩⟩
theorem sd_X10_system {G : pj_E} {A : Nat → Prop} {P : pj_P} {S : pj_U} {Z : pj_Z} (C : pj_C (G, A, (c_X10_system, y_X10_system.cls, 2, (some .int), 7), P, S, Z)) : ∀ q ∈ tb_X10_system, pj_S (G, A, (c_X10_system, y_X10_system.cls, 2, (some .int), 7), P, S, Z) pj_eI q.1 q.2 := sd_X10_system_0 C
set_option maxRecDepth 20000 in
theorem eq_X10_system (m : pj_M) : pj_run tb_X10_system [] 34 0 [some (.inr (.inr (0, 10, 0))), none] [] m = F_X10_system m := by rfl
theorem ct_X10_system : pj_Ct pj_eI y_X10_system c_X10_system 2 (some .int) 7 W_X10_system := by
  refine pj_ct_of (by decide +kernel) ?_ ?_
  · intro as m r h
    unfold W_X10_system at h
    split at h
    · simp [pj_l0]
    · cases h
  · intro G A P S Z C as m r h hR
    unfold W_X10_system at h
    split at h
    · split at h
      · rename_i hbq
        simp only [Bool.and_eq_true, Nat.beq_eq] at hbq
        obtain ⟨rfl, rfl, rfl⟩ := hbq
        exact pj_run_ok (sd_X10_system C) (fun q h => by cases h) 34 0 _ _ _ _ ((eq_X10_system _).trans h) hR
      · cases h
    · cases h
/-! AlikeSteps.fault()I -/
abbrev c_X10_fault : ByteArray := prog_1_method_8_code
def y_X10_fault : MethodName := ⟨RX10, "fault", "()I"⟩
noncomputable def F_X10_fault (m : pj_M) : Option (Int32 × pj_M) := (some (m.1 0 12, m))
noncomputable def W_X10_fault : List pj_V → pj_M → Option (Int32 × pj_M) := fun as m => match as with
  | [.inr (.inr (t0, w0, a0))] => (match Nat.beq t0 0 && (Nat.beq w0 10 && (Nat.beq a0 0)) with
    | true => F_X10_fault m
    | false => none)
  | _ => none
noncomputable def tb_X10_fault_0 : List (Nat × pj_T (Int32 × pj_M)) := [(0, qs_lda 0 1), (1, qs_gf 10 12 4), (4, qs_iret)]
noncomputable abbrev tb_X10_fault : List (Nat × pj_T (Int32 × pj_M)) := tb_X10_fault_0
theorem mv_X10_fault : pj_mv y_X10_fault c_X10_fault 1 (some .int) 0 := ⟨⟨cw_533, cw_531, cw_532, cw_81⟩, by decide +kernel, by decide⟩
set_option maxRecDepth 20000 in
theorem sd_X10_fault_0 {G : pj_E} {A : Nat → Prop} {P : pj_P} {S : pj_U} {Z : pj_Z} (C : pj_C (G, A, (c_X10_fault, y_X10_fault.cls, 1, (some .int), 1), P, S, Z)) : ∀ q ∈ tb_X10_fault_0, pj_S (G, A, (c_X10_fault, y_X10_fault.cls, 1, (some .int), 1), P, S, Z) pj_eI q.1 q.2 :=
  List.forall_mem_cons.mpr ⟨qz_aload_n C (show decode c_X10_fault 0 = .ok (.aload_n 0, 1) by decide +kernel) rfl,
  List.forall_mem_cons.mpr ⟨qz_gf (k := 12) C (show decode c_X10_fault 1 = .ok (.getfield 77, 3) by decide +kernel) vcX10 wiX10 (by decide) cw_323,
  List.forall_mem_cons.mpr ⟨qz_iret C (show decode c_X10_fault 4 = .ok (.ireturn, 1) by decide +kernel) rfl,
  (fun q h => by cases h)⟩⟩⟩
theorem sd_X10_fault {G : pj_E} {A : Nat → Prop} {P : pj_P} {S : pj_U} {Z : pj_Z} (C : pj_C (G, A, (c_X10_fault, y_X10_fault.cls, 1, (some .int), 1), P, S, Z)) : ∀ q ∈ tb_X10_fault, pj_S (G, A, (c_X10_fault, y_X10_fault.cls, 1, (some .int), 1), P, S, Z) pj_eI q.1 q.2 := sd_X10_fault_0 C
set_option maxRecDepth 20000 in
theorem eq_X10_fault (m : pj_M) : pj_run tb_X10_fault [] 5 0 [some (.inr (.inr (0, 10, 0)))] [] m = F_X10_fault m := by rfl
theorem ct_X10_fault : pj_Ct pj_eI y_X10_fault c_X10_fault 1 (some .int) 1 W_X10_fault := by
  refine pj_ct_of (by decide +kernel) ?_ ?_
  · intro as m r h
    unfold W_X10_fault at h
    split at h
    · simp [pj_l0]
    · cases h
  · intro G A P S Z C as m r h hR
    unfold W_X10_fault at h
    split at h
    · split at h
      · rename_i hbq
        simp only [Bool.and_eq_true, Nat.beq_eq] at hbq
        obtain ⟨rfl, rfl, rfl⟩ := hbq
        exact pj_run_ok (sd_X10_fault C) (fun q h => by cases h) 5 0 _ _ _ _ ((eq_X10_fault _).trans h) hR
      · cases h
    · cases h
/-! AlikeSteps.lay(III)I -/
abbrev c_X10_lay : ByteArray := prog_1_method_9_code
def y_X10_lay : MethodName := ⟨RX10, "lay", "(III)I"⟩
noncomputable def F_X10_lay (x1 : Int32) (x2 : Int32) (x3 : Int32) (m : pj_M) : Option (Int32 × pj_M) := ((F_X10_within x1 0 3 m).bind fun q1 => (if q1.1 = 0 then (some ((-1000001), q1.2)) else ((F_X4_hasState 7 x2 q1.2).bind fun q2 => (if q2.1 = 0 then (some ((-1000001), q2.2)) else ((F_X4_hasState 7 x3 q2.2).bind fun q3 => (if q3.1 = 0 then (some ((-1000001), q3.2)) else ((F_X4_arcTotal 7 q3.2).bind fun q4 => (if q4.1 < 20 then ((F_X4_addArc 7 x1 x2 x3 q4.2).bind fun q5 => ((F_X0_noteLaid q5).bind fun q6 => ((F_X4_arcTotal 7 q6).bind fun q7 => (some (q7.1, q7.2))))) else (some ((-1000003), q4.2))))))))))
noncomputable def W_X10_lay : List pj_V → pj_M → Option (Int32 × pj_M) := fun as m => match as with
  | [.inr (.inr (t0, w0, a0)), .inl x1, .inl x2, .inl x3] => (match Nat.beq t0 0 && (Nat.beq w0 10 && (Nat.beq a0 0)) with
    | true => F_X10_lay x1 x2 x3 m
    | false => none)
  | _ => none
noncomputable def tb_X10_lay_0 : List (Nat × pj_T (Int32 × pj_M)) := [(0, qs_ldi 1 1), (1, qs_ci 0 2), (2, qs_ci 3 3), (3, qs_sI 3 W_X10_within 6), (6, qs_ifeq 31 9), (9, qs_lda 0 10), (10, qs_gf 10 2 13), (13, qs_ldi 2 14), (14, qs_vI 4 2 W_X4_hasState 17), (17, qs_ifeq 31 20), (20, qs_lda 0 21), (21, qs_gf 10 2 24), (24, qs_ldi 3 25), (25, qs_vI 4 2 W_X4_hasState 28), (28, qs_ifne 34 31), (31, qs_ci (-1000001) 33), (33, qs_iret), (34, qs_lda 0 35), (35, qs_gf 10 2 38), (38, qs_vI 4 1 W_X4_arcTotal 41), (41, qs_ci 20 43), (43, qs_iclt 49 46), (46, qs_ci (-1000003) 48), (48, qs_iret), (49, qs_lda 0 50), (50, qs_gf 10 2 53), (53, qs_ldi 1 54), (54, qs_ldi 2 55), (55, qs_ldi 3 56), (56, qs_vV 4 4 W_X4_addArc 59), (59, qs_lda 0 60), (60, qs_gf 10 6 63), (63, qs_vV 0 1 W_X0_noteLaid 66), (66, qs_lda 0 67), (67, qs_gf 10 2 70), (70, qs_vI 4 1 W_X4_arcTotal 73), (73, qs_iret)]
noncomputable abbrev tb_X10_lay : List (Nat × pj_T (Int32 × pj_M)) := tb_X10_lay_0
theorem mv_X10_lay : pj_mv y_X10_lay c_X10_lay 4 (some .int) 3 := ⟨⟨cw_537, cw_535, cw_536, cw_81⟩, by decide +kernel, by decide⟩
set_option maxRecDepth 20000 in
theorem sd_X10_lay_0 {G : pj_E} {A : Nat → Prop} {P : pj_P} {S : pj_U} {Z : pj_Z} (C : pj_C (G, A, (c_X10_lay, y_X10_lay.cls, 4, (some .int), 4), P, S, Z)) : ∀ q ∈ tb_X10_lay_0, pj_S (G, A, (c_X10_lay, y_X10_lay.cls, 4, (some .int), 4), P, S, Z) pj_eI q.1 q.2 :=
  List.forall_mem_cons.mpr ⟨qz_iload_n C (show decode c_X10_lay 0 = .ok (.iload_n 1, 1) by decide +kernel) rfl,
  List.forall_mem_cons.mpr ⟨qz_iconst C (show decode c_X10_lay 1 = .ok (.iconst 0, 1) by decide +kernel) (by decide +kernel),
  List.forall_mem_cons.mpr ⟨qz_iconst C (show decode c_X10_lay 2 = .ok (.iconst 3, 1) by decide +kernel) (by decide +kernel),
  List.forall_mem_cons.mpr ⟨qz_sI C (show decode c_X10_lay 3 = .ok (.invokestatic 91, 3) by decide +kernel) ct_X10_within mv_X10_within (Or.inl cw_361) (show 1 < 4 by omega),
  List.forall_mem_cons.mpr ⟨qz_ifeq C (show decode c_X10_lay 6 = .ok (.ifCond .eq 25, 3) by decide +kernel) (by decide),
  List.forall_mem_cons.mpr ⟨qz_aload_n C (show decode c_X10_lay 9 = .ok (.aload_n 0, 1) by decide +kernel) rfl,
  List.forall_mem_cons.mpr ⟨qz_gf (k := 2) C (show decode c_X10_lay 10 = .ok (.getfield 26, 3) by decide +kernel) vcX10 wiX10 (by decide) cw_313,
  List.forall_mem_cons.mpr ⟨qz_iload_n C (show decode c_X10_lay 13 = .ok (.iload_n 2, 1) by decide +kernel) rfl,
  List.forall_mem_cons.mpr ⟨qz_vI C (show decode c_X10_lay 14 = .ok (.invokevirtual 160, 3) by decide +kernel) ct_X4_hasState mv_X4_hasState cw_538 vcX4 (show 1 < 4 by omega),
  List.forall_mem_cons.mpr ⟨qz_ifeq C (show decode c_X10_lay 17 = .ok (.ifCond .eq 14, 3) by decide +kernel) (by decide),
  List.forall_mem_cons.mpr ⟨qz_aload_n C (show decode c_X10_lay 20 = .ok (.aload_n 0, 1) by decide +kernel) rfl,
  List.forall_mem_cons.mpr ⟨qz_gf (k := 2) C (show decode c_X10_lay 21 = .ok (.getfield 26, 3) by decide +kernel) vcX10 wiX10 (by decide) cw_313,
  List.forall_mem_cons.mpr ⟨qz_iload_n C (show decode c_X10_lay 24 = .ok (.iload_n 3, 1) by decide +kernel) rfl,
  List.forall_mem_cons.mpr ⟨qz_vI C (show decode c_X10_lay 25 = .ok (.invokevirtual 160, 3) by decide +kernel) ct_X4_hasState mv_X4_hasState cw_538 vcX4 (show 1 < 4 by omega),
  List.forall_mem_cons.mpr ⟨qz_ifne C (show decode c_X10_lay 28 = .ok (.ifCond .ne 6, 3) by decide +kernel) (by decide),
  List.forall_mem_cons.mpr ⟨qz_ldc C (show decode c_X10_lay 31 = .ok (.ldc 95, 2) by decide +kernel) cw_364,
  List.forall_mem_cons.mpr ⟨qz_iret C (show decode c_X10_lay 33 = .ok (.ireturn, 1) by decide +kernel) rfl,
  List.forall_mem_cons.mpr ⟨qz_aload_n C (show decode c_X10_lay 34 = .ok (.aload_n 0, 1) by decide +kernel) rfl,
  List.forall_mem_cons.mpr ⟨qz_gf (k := 2) C (show decode c_X10_lay 35 = .ok (.getfield 26, 3) by decide +kernel) vcX10 wiX10 (by decide) cw_313,
  List.forall_mem_cons.mpr ⟨qz_vI C (show decode c_X10_lay 38 = .ok (.invokevirtual 163, 3) by decide +kernel) ct_X4_arcTotal mv_X4_arcTotal cw_539 vcX4 (show 1 < 4 by omega),
  List.forall_mem_cons.mpr ⟨qz_bipush C (show decode c_X10_lay 41 = .ok (.bipush 20, 2) by decide +kernel) (by decide +kernel),
  List.forall_mem_cons.mpr ⟨qz_iclt C (show decode c_X10_lay 43 = .ok (.if_icmp .lt 6, 3) by decide +kernel) (by decide),
  List.forall_mem_cons.mpr ⟨qz_ldc C (show decode c_X10_lay 46 = .ok (.ldc 134, 2) by decide +kernel) cw_432,
  List.forall_mem_cons.mpr ⟨qz_iret C (show decode c_X10_lay 48 = .ok (.ireturn, 1) by decide +kernel) rfl,
  List.forall_mem_cons.mpr ⟨qz_aload_n C (show decode c_X10_lay 49 = .ok (.aload_n 0, 1) by decide +kernel) rfl,
  List.forall_mem_cons.mpr ⟨qz_gf (k := 2) C (show decode c_X10_lay 50 = .ok (.getfield 26, 3) by decide +kernel) vcX10 wiX10 (by decide) cw_313,
  List.forall_mem_cons.mpr ⟨qz_iload_n C (show decode c_X10_lay 53 = .ok (.iload_n 1, 1) by decide +kernel) rfl,
  List.forall_mem_cons.mpr ⟨qz_iload_n C (show decode c_X10_lay 54 = .ok (.iload_n 2, 1) by decide +kernel) rfl,
  List.forall_mem_cons.mpr ⟨qz_iload_n C (show decode c_X10_lay 55 = .ok (.iload_n 3, 1) by decide +kernel) rfl,
  List.forall_mem_cons.mpr ⟨qz_vV C (show decode c_X10_lay 56 = .ok (.invokevirtual 166, 3) by decide +kernel) ct_X4_addArc mv_X4_addArc cw_543 vcX4 (show 3 < 4 by omega),
  List.forall_mem_cons.mpr ⟨qz_aload_n C (show decode c_X10_lay 59 = .ok (.aload_n 0, 1) by decide +kernel) rfl,
  List.forall_mem_cons.mpr ⟨qz_gf (k := 6) C (show decode c_X10_lay 60 = .ok (.getfield 43, 3) by decide +kernel) vcX10 wiX10 (by decide) cw_317,
  List.forall_mem_cons.mpr ⟨qz_vV C (show decode c_X10_lay 63 = .ok (.invokevirtual 169, 3) by decide +kernel) ct_X0_noteLaid mv_X0_noteLaid cw_544 vcX0 (show 2 < 4 by omega),
  List.forall_mem_cons.mpr ⟨qz_aload_n C (show decode c_X10_lay 66 = .ok (.aload_n 0, 1) by decide +kernel) rfl,
  List.forall_mem_cons.mpr ⟨qz_gf (k := 2) C (show decode c_X10_lay 67 = .ok (.getfield 26, 3) by decide +kernel) vcX10 wiX10 (by decide) cw_313,
  List.forall_mem_cons.mpr ⟨qz_vI C (show decode c_X10_lay 70 = .ok (.invokevirtual 163, 3) by decide +kernel) ct_X4_arcTotal mv_X4_arcTotal cw_539 vcX4 (show 1 < 4 by omega),
  List.forall_mem_cons.mpr ⟨qz_iret C (show decode c_X10_lay 73 = .ok (.ireturn, 1) by decide +kernel) rfl,
  (fun q h => by cases h)⟩⟩⟩⟩⟩⟩⟩⟩⟩⟩⟩⟩⟩⟩⟩⟩⟩⟩⟩⟩⟩⟩⟩⟩⟩⟩⟩⟩⟩⟩⟩⟩⟩⟩⟩⟩⟩
theorem sd_X10_lay {G : pj_E} {A : Nat → Prop} {P : pj_P} {S : pj_U} {Z : pj_Z} (C : pj_C (G, A, (c_X10_lay, y_X10_lay.cls, 4, (some .int), 4), P, S, Z)) : ∀ q ∈ tb_X10_lay, pj_S (G, A, (c_X10_lay, y_X10_lay.cls, 4, (some .int), 4), P, S, Z) pj_eI q.1 q.2 := sd_X10_lay_0 C
set_option maxRecDepth 20000 in
theorem eq_X10_lay (x1 : Int32) (x2 : Int32) (x3 : Int32) (m : pj_M) : pj_run tb_X10_lay [] 39 0 [some (.inr (.inr (0, 10, 0))), some (.inl x1), some (.inl x2), some (.inl x3)] [] m = F_X10_lay x1 x2 x3 m := by rfl
theorem ct_X10_lay : pj_Ct pj_eI y_X10_lay c_X10_lay 4 (some .int) 4 W_X10_lay := by
  refine pj_ct_of (by decide +kernel) ?_ ?_
  · intro as m r h
    unfold W_X10_lay at h
    split at h
    · simp [pj_l0]
    · cases h
  · intro G A P S Z C as m r h hR
    unfold W_X10_lay at h
    split at h
    · split at h
      · rename_i hbq
        simp only [Bool.and_eq_true, Nat.beq_eq] at hbq
        obtain ⟨rfl, rfl, rfl⟩ := hbq
        exact pj_run_ok (sd_X10_lay C) (fun q h => by cases h) 39 0 _ _ _ _ ((eq_X10_lay _ _ _ _).trans h) hR
      · cases h
    · cases h
/-! AlikeSteps.cut(I)I -/
abbrev c_X10_cut : ByteArray := prog_1_method_10_code
def y_X10_cut : MethodName := ⟨RX10, "cut", "(I)I"⟩
noncomputable def F_X10_cut (x1 : Int32) (m : pj_M) : Option (Int32 × pj_M) := ((F_X4_hasArc 7 x1 m).bind fun q1 => (if q1.1 = 0 then (some ((-1000001), q1.2)) else ((F_X0_noteCut 7 x1 q1.2).bind fun q2 => ((F_X4_removeArc 7 x1 q2).bind fun q3 => ((F_X4_arcTotal 7 q3).bind fun q4 => (some (q4.1, q4.2)))))))
noncomputable def W_X10_cut : List pj_V → pj_M → Option (Int32 × pj_M) := fun as m => match as with
  | [.inr (.inr (t0, w0, a0)), .inl x1] => (match Nat.beq t0 0 && (Nat.beq w0 10 && (Nat.beq a0 0)) with
    | true => F_X10_cut x1 m
    | false => none)
  | _ => none
noncomputable def tb_X10_cut_0 : List (Nat × pj_T (Int32 × pj_M)) := [(0, qs_lda 0 1), (1, qs_gf 10 2 4), (4, qs_ldi 1 5), (5, qs_vI 4 2 W_X4_hasArc 8), (8, qs_ifne 14 11), (11, qs_ci (-1000001) 13), (13, qs_iret), (14, qs_lda 0 15), (15, qs_gf 10 6 18), (18, qs_lda 0 19), (19, qs_gf 10 2 22), (22, qs_ldi 1 23), (23, qs_vV 0 3 W_X0_noteCut 26), (26, qs_lda 0 27), (27, qs_gf 10 2 30), (30, qs_ldi 1 31), (31, qs_vV 4 2 W_X4_removeArc 34), (34, qs_lda 0 35), (35, qs_gf 10 2 38), (38, qs_vI 4 1 W_X4_arcTotal 41), (41, qs_iret)]
noncomputable abbrev tb_X10_cut : List (Nat × pj_T (Int32 × pj_M)) := tb_X10_cut_0
theorem mv_X10_cut : pj_mv y_X10_cut c_X10_cut 2 (some .int) 1 := ⟨⟨cw_556, cw_554, cw_555, cw_81⟩, by decide +kernel, by decide⟩
set_option maxRecDepth 20000 in
theorem sd_X10_cut_0 {G : pj_E} {A : Nat → Prop} {P : pj_P} {S : pj_U} {Z : pj_Z} (C : pj_C (G, A, (c_X10_cut, y_X10_cut.cls, 2, (some .int), 3), P, S, Z)) : ∀ q ∈ tb_X10_cut_0, pj_S (G, A, (c_X10_cut, y_X10_cut.cls, 2, (some .int), 3), P, S, Z) pj_eI q.1 q.2 :=
  List.forall_mem_cons.mpr ⟨qz_aload_n C (show decode c_X10_cut 0 = .ok (.aload_n 0, 1) by decide +kernel) rfl,
  List.forall_mem_cons.mpr ⟨qz_gf (k := 2) C (show decode c_X10_cut 1 = .ok (.getfield 26, 3) by decide +kernel) vcX10 wiX10 (by decide) cw_313,
  List.forall_mem_cons.mpr ⟨qz_iload_n C (show decode c_X10_cut 4 = .ok (.iload_n 1, 1) by decide +kernel) rfl,
  List.forall_mem_cons.mpr ⟨qz_vI C (show decode c_X10_cut 5 = .ok (.invokevirtual 172, 3) by decide +kernel) ct_X4_hasArc mv_X4_hasArc cw_557 vcX4 (show 1 < 3 by omega),
  List.forall_mem_cons.mpr ⟨qz_ifne C (show decode c_X10_cut 8 = .ok (.ifCond .ne 6, 3) by decide +kernel) (by decide),
  List.forall_mem_cons.mpr ⟨qz_ldc C (show decode c_X10_cut 11 = .ok (.ldc 95, 2) by decide +kernel) cw_364,
  List.forall_mem_cons.mpr ⟨qz_iret C (show decode c_X10_cut 13 = .ok (.ireturn, 1) by decide +kernel) rfl,
  List.forall_mem_cons.mpr ⟨qz_aload_n C (show decode c_X10_cut 14 = .ok (.aload_n 0, 1) by decide +kernel) rfl,
  List.forall_mem_cons.mpr ⟨qz_gf (k := 6) C (show decode c_X10_cut 15 = .ok (.getfield 43, 3) by decide +kernel) vcX10 wiX10 (by decide) cw_317,
  List.forall_mem_cons.mpr ⟨qz_aload_n C (show decode c_X10_cut 18 = .ok (.aload_n 0, 1) by decide +kernel) rfl,
  List.forall_mem_cons.mpr ⟨qz_gf (k := 2) C (show decode c_X10_cut 19 = .ok (.getfield 26, 3) by decide +kernel) vcX10 wiX10 (by decide) cw_313,
  List.forall_mem_cons.mpr ⟨qz_iload_n C (show decode c_X10_cut 22 = .ok (.iload_n 1, 1) by decide +kernel) rfl,
  List.forall_mem_cons.mpr ⟨qz_vV C (show decode c_X10_cut 23 = .ok (.invokevirtual 175, 3) by decide +kernel) ct_X0_noteCut mv_X0_noteCut cw_561 vcX0 (show 2 < 3 by omega),
  List.forall_mem_cons.mpr ⟨qz_aload_n C (show decode c_X10_cut 26 = .ok (.aload_n 0, 1) by decide +kernel) rfl,
  List.forall_mem_cons.mpr ⟨qz_gf (k := 2) C (show decode c_X10_cut 27 = .ok (.getfield 26, 3) by decide +kernel) vcX10 wiX10 (by decide) cw_313,
  List.forall_mem_cons.mpr ⟨qz_iload_n C (show decode c_X10_cut 30 = .ok (.iload_n 1, 1) by decide +kernel) rfl,
  List.forall_mem_cons.mpr ⟨qz_vV C (show decode c_X10_cut 31 = .ok (.invokevirtual 179, 3) by decide +kernel) ct_X4_removeArc mv_X4_removeArc cw_569 vcX4 (show 2 < 3 by omega),
  List.forall_mem_cons.mpr ⟨qz_aload_n C (show decode c_X10_cut 34 = .ok (.aload_n 0, 1) by decide +kernel) rfl,
  List.forall_mem_cons.mpr ⟨qz_gf (k := 2) C (show decode c_X10_cut 35 = .ok (.getfield 26, 3) by decide +kernel) vcX10 wiX10 (by decide) cw_313,
  List.forall_mem_cons.mpr ⟨qz_vI C (show decode c_X10_cut 38 = .ok (.invokevirtual 163, 3) by decide +kernel) ct_X4_arcTotal mv_X4_arcTotal cw_539 vcX4 (show 1 < 3 by omega),
  List.forall_mem_cons.mpr ⟨qz_iret C (show decode c_X10_cut 41 = .ok (.ireturn, 1) by decide +kernel) rfl,
  (fun q h => by cases h)⟩⟩⟩⟩⟩⟩⟩⟩⟩⟩⟩⟩⟩⟩⟩⟩⟩⟩⟩⟩⟩
theorem sd_X10_cut {G : pj_E} {A : Nat → Prop} {P : pj_P} {S : pj_U} {Z : pj_Z} (C : pj_C (G, A, (c_X10_cut, y_X10_cut.cls, 2, (some .int), 3), P, S, Z)) : ∀ q ∈ tb_X10_cut, pj_S (G, A, (c_X10_cut, y_X10_cut.cls, 2, (some .int), 3), P, S, Z) pj_eI q.1 q.2 := sd_X10_cut_0 C
set_option maxRecDepth 20000 in
theorem eq_X10_cut (x1 : Int32) (m : pj_M) : pj_run tb_X10_cut [] 23 0 [some (.inr (.inr (0, 10, 0))), some (.inl x1)] [] m = F_X10_cut x1 m := by rfl
theorem ct_X10_cut : pj_Ct pj_eI y_X10_cut c_X10_cut 2 (some .int) 3 W_X10_cut := by
  refine pj_ct_of (by decide +kernel) ?_ ?_
  · intro as m r h
    unfold W_X10_cut at h
    split at h
    · simp [pj_l0]
    · cases h
  · intro G A P S Z C as m r h hR
    unfold W_X10_cut at h
    split at h
    · split at h
      · rename_i hbq
        simp only [Bool.and_eq_true, Nat.beq_eq] at hbq
        obtain ⟨rfl, rfl, rfl⟩ := hbq
        exact pj_run_ok (sd_X10_cut C) (fun q h => by cases h) 23 0 _ _ _ _ ((eq_X10_cut _ _).trans h) hR
      · cases h
    · cases h
/-! AlikeSteps.turn(I)I -/
abbrev c_X10_turn : ByteArray := prog_1_method_11_code
def y_X10_turn : MethodName := ⟨RX10, "turn", "(I)I"⟩
noncomputable def F_X10_turn (x1 : Int32) (m : pj_M) : Option (Int32 × pj_M) := ((F_X4_hasArc 7 x1 m).bind fun q1 => (if q1.1 = 0 then (some ((-1000001), q1.2)) else ((F_X4_turnArc 7 x1 q1.2).bind fun q2 => ((F_X0_noteTurned x1 q2).bind fun q3 => ((F_X4_arcPart 7 x1 2 q3).bind fun q4 => (some (q4.1, q4.2)))))))
noncomputable def W_X10_turn : List pj_V → pj_M → Option (Int32 × pj_M) := fun as m => match as with
  | [.inr (.inr (t0, w0, a0)), .inl x1] => (match Nat.beq t0 0 && (Nat.beq w0 10 && (Nat.beq a0 0)) with
    | true => F_X10_turn x1 m
    | false => none)
  | _ => none
noncomputable def tb_X10_turn_0 : List (Nat × pj_T (Int32 × pj_M)) := [(0, qs_lda 0 1), (1, qs_gf 10 2 4), (4, qs_ldi 1 5), (5, qs_vI 4 2 W_X4_hasArc 8), (8, qs_ifne 14 11), (11, qs_ci (-1000001) 13), (13, qs_iret), (14, qs_lda 0 15), (15, qs_gf 10 2 18), (18, qs_ldi 1 19), (19, qs_vV 4 2 W_X4_turnArc 22), (22, qs_lda 0 23), (23, qs_gf 10 6 26), (26, qs_ldi 1 27), (27, qs_vV 0 2 W_X0_noteTurned 30), (30, qs_lda 0 31), (31, qs_gf 10 2 34), (34, qs_ldi 1 35), (35, qs_ci 2 36), (36, qs_vI 4 3 W_X4_arcPart 39), (39, qs_iret)]
noncomputable abbrev tb_X10_turn : List (Nat × pj_T (Int32 × pj_M)) := tb_X10_turn_0
theorem mv_X10_turn : pj_mv y_X10_turn c_X10_turn 2 (some .int) 1 := ⟨⟨cw_577, cw_575, cw_576, cw_81⟩, by decide +kernel, by decide⟩
set_option maxRecDepth 20000 in
theorem sd_X10_turn_0 {G : pj_E} {A : Nat → Prop} {P : pj_P} {S : pj_U} {Z : pj_Z} (C : pj_C (G, A, (c_X10_turn, y_X10_turn.cls, 2, (some .int), 3), P, S, Z)) : ∀ q ∈ tb_X10_turn_0, pj_S (G, A, (c_X10_turn, y_X10_turn.cls, 2, (some .int), 3), P, S, Z) pj_eI q.1 q.2 :=
  List.forall_mem_cons.mpr ⟨qz_aload_n C (show decode c_X10_turn 0 = .ok (.aload_n 0, 1) by decide +kernel) rfl,
  List.forall_mem_cons.mpr ⟨qz_gf (k := 2) C (show decode c_X10_turn 1 = .ok (.getfield 26, 3) by decide +kernel) vcX10 wiX10 (by decide) cw_313,
  List.forall_mem_cons.mpr ⟨qz_iload_n C (show decode c_X10_turn 4 = .ok (.iload_n 1, 1) by decide +kernel) rfl,
  List.forall_mem_cons.mpr ⟨qz_vI C (show decode c_X10_turn 5 = .ok (.invokevirtual 172, 3) by decide +kernel) ct_X4_hasArc mv_X4_hasArc cw_557 vcX4 (show 1 < 3 by omega),
  List.forall_mem_cons.mpr ⟨qz_ifne C (show decode c_X10_turn 8 = .ok (.ifCond .ne 6, 3) by decide +kernel) (by decide),
  List.forall_mem_cons.mpr ⟨qz_ldc C (show decode c_X10_turn 11 = .ok (.ldc 95, 2) by decide +kernel) cw_364,
  List.forall_mem_cons.mpr ⟨qz_iret C (show decode c_X10_turn 13 = .ok (.ireturn, 1) by decide +kernel) rfl,
  List.forall_mem_cons.mpr ⟨qz_aload_n C (show decode c_X10_turn 14 = .ok (.aload_n 0, 1) by decide +kernel) rfl,
  List.forall_mem_cons.mpr ⟨qz_gf (k := 2) C (show decode c_X10_turn 15 = .ok (.getfield 26, 3) by decide +kernel) vcX10 wiX10 (by decide) cw_313,
  List.forall_mem_cons.mpr ⟨qz_iload_n C (show decode c_X10_turn 18 = .ok (.iload_n 1, 1) by decide +kernel) rfl,
  List.forall_mem_cons.mpr ⟨qz_vV C (show decode c_X10_turn 19 = .ok (.invokevirtual 182, 3) by decide +kernel) ct_X4_turnArc mv_X4_turnArc cw_578 vcX4 (show 2 < 3 by omega),
  List.forall_mem_cons.mpr ⟨qz_aload_n C (show decode c_X10_turn 22 = .ok (.aload_n 0, 1) by decide +kernel) rfl,
  List.forall_mem_cons.mpr ⟨qz_gf (k := 6) C (show decode c_X10_turn 23 = .ok (.getfield 43, 3) by decide +kernel) vcX10 wiX10 (by decide) cw_317,
  List.forall_mem_cons.mpr ⟨qz_iload_n C (show decode c_X10_turn 26 = .ok (.iload_n 1, 1) by decide +kernel) rfl,
  List.forall_mem_cons.mpr ⟨qz_vV C (show decode c_X10_turn 27 = .ok (.invokevirtual 185, 3) by decide +kernel) ct_X0_noteTurned mv_X0_noteTurned cw_583 vcX0 (show 2 < 3 by omega),
  List.forall_mem_cons.mpr ⟨qz_aload_n C (show decode c_X10_turn 30 = .ok (.aload_n 0, 1) by decide +kernel) rfl,
  List.forall_mem_cons.mpr ⟨qz_gf (k := 2) C (show decode c_X10_turn 31 = .ok (.getfield 26, 3) by decide +kernel) vcX10 wiX10 (by decide) cw_313,
  List.forall_mem_cons.mpr ⟨qz_iload_n C (show decode c_X10_turn 34 = .ok (.iload_n 1, 1) by decide +kernel) rfl,
  List.forall_mem_cons.mpr ⟨qz_iconst C (show decode c_X10_turn 35 = .ok (.iconst 2, 1) by decide +kernel) (by decide +kernel),
  List.forall_mem_cons.mpr ⟨qz_vI C (show decode c_X10_turn 36 = .ok (.invokevirtual 188, 3) by decide +kernel) ct_X4_arcPart mv_X4_arcPart cw_587 vcX4 (show 1 < 3 by omega),
  List.forall_mem_cons.mpr ⟨qz_iret C (show decode c_X10_turn 39 = .ok (.ireturn, 1) by decide +kernel) rfl,
  (fun q h => by cases h)⟩⟩⟩⟩⟩⟩⟩⟩⟩⟩⟩⟩⟩⟩⟩⟩⟩⟩⟩⟩⟩
theorem sd_X10_turn {G : pj_E} {A : Nat → Prop} {P : pj_P} {S : pj_U} {Z : pj_Z} (C : pj_C (G, A, (c_X10_turn, y_X10_turn.cls, 2, (some .int), 3), P, S, Z)) : ∀ q ∈ tb_X10_turn, pj_S (G, A, (c_X10_turn, y_X10_turn.cls, 2, (some .int), 3), P, S, Z) pj_eI q.1 q.2 := sd_X10_turn_0 C
set_option maxRecDepth 20000 in
theorem eq_X10_turn (x1 : Int32) (m : pj_M) : pj_run tb_X10_turn [] 23 0 [some (.inr (.inr (0, 10, 0))), some (.inl x1)] [] m = F_X10_turn x1 m := by rfl
theorem ct_X10_turn : pj_Ct pj_eI y_X10_turn c_X10_turn 2 (some .int) 3 W_X10_turn := by
  refine pj_ct_of (by decide +kernel) ?_ ?_
  · intro as m r h
    unfold W_X10_turn at h
    split at h
    · simp [pj_l0]
    · cases h
  · intro G A P S Z C as m r h hR
    unfold W_X10_turn at h
    split at h
    · split at h
      · rename_i hbq
        simp only [Bool.and_eq_true, Nat.beq_eq] at hbq
        obtain ⟨rfl, rfl, rfl⟩ := hbq
        exact pj_run_ok (sd_X10_turn C) (fun q h => by cases h) 23 0 _ _ _ _ ((eq_X10_turn _ _).trans h) hR
      · cases h
    · cases h
/-! AlikeSteps.become(II)I -/
abbrev c_X10_become : ByteArray := prog_1_method_12_code
def y_X10_become : MethodName := ⟨RX10, "become", "(II)I"⟩
noncomputable def F_X10_become (x1 : Int32) (x2 : Int32) (m : pj_M) : Option (Int32 × pj_M) := ((F_X4_hasState 7 x1 m).bind fun q1 => (if q1.1 = 0 then (some ((-1000001), q1.2)) else ((F_X10_within x2 1 5 q1.2).bind fun q2 => (if q2.1 = 0 then (some ((-1000001), q2.2)) else ((F_X4_kindOf 7 x1 q2.2).bind fun q3 => (if q3.1 = x2 then (some ((-1000002), q3.2)) else ((F_X4_setKind 7 x1 x2 q3.2).bind fun q4 => ((F_X0_noteKind x1 q3.1 q4).bind fun q5 => (some (q3.1, q5))))))))))
noncomputable def W_X10_become : List pj_V → pj_M → Option (Int32 × pj_M) := fun as m => match as with
  | [.inr (.inr (t0, w0, a0)), .inl x1, .inl x2] => (match Nat.beq t0 0 && (Nat.beq w0 10 && (Nat.beq a0 0)) with
    | true => F_X10_become x1 x2 m
    | false => none)
  | _ => none
noncomputable def tb_X10_become_0 : List (Nat × pj_T (Int32 × pj_M)) := [(0, qs_lda 0 1), (1, qs_gf 10 2 4), (4, qs_ldi 1 5), (5, qs_vI 4 2 W_X4_hasState 8), (8, qs_ifeq 20 11), (11, qs_ldi 2 12), (12, qs_ci 1 13), (13, qs_ci 5 14), (14, qs_sI 3 W_X10_within 17), (17, qs_ifne 23 20), (20, qs_ci (-1000001) 22), (22, qs_iret), (23, qs_lda 0 24), (24, qs_gf 10 2 27), (27, qs_ldi 1 28), (28, qs_vI 4 2 W_X4_kindOf 31), (31, qs_sti 3 32), (32, qs_ldi 3 33), (33, qs_ldi 2 34), (34, qs_icne 40 37), (37, qs_ci (-1000002) 39), (39, qs_iret), (40, qs_lda 0 41), (41, qs_gf 10 2 44), (44, qs_ldi 1 45), (45, qs_ldi 2 46), (46, qs_vV 4 3 W_X4_setKind 49), (49, qs_lda 0 50), (50, qs_gf 10 6 53), (53, qs_ldi 1 54), (54, qs_ldi 3 55), (55, qs_vV 0 3 W_X0_noteKind 58), (58, qs_ldi 3 59), (59, qs_iret)]
noncomputable abbrev tb_X10_become : List (Nat × pj_T (Int32 × pj_M)) := tb_X10_become_0
theorem mv_X10_become : pj_mv y_X10_become c_X10_become 4 (some .int) 2 := ⟨⟨cw_591, cw_589, cw_590, cw_81⟩, by decide +kernel, by decide⟩
set_option maxRecDepth 20000 in
theorem sd_X10_become_0 {G : pj_E} {A : Nat → Prop} {P : pj_P} {S : pj_U} {Z : pj_Z} (C : pj_C (G, A, (c_X10_become, y_X10_become.cls, 4, (some .int), 3), P, S, Z)) : ∀ q ∈ tb_X10_become_0, pj_S (G, A, (c_X10_become, y_X10_become.cls, 4, (some .int), 3), P, S, Z) pj_eI q.1 q.2 :=
  List.forall_mem_cons.mpr ⟨qz_aload_n C (show decode c_X10_become 0 = .ok (.aload_n 0, 1) by decide +kernel) rfl,
  List.forall_mem_cons.mpr ⟨qz_gf (k := 2) C (show decode c_X10_become 1 = .ok (.getfield 26, 3) by decide +kernel) vcX10 wiX10 (by decide) cw_313,
  List.forall_mem_cons.mpr ⟨qz_iload_n C (show decode c_X10_become 4 = .ok (.iload_n 1, 1) by decide +kernel) rfl,
  List.forall_mem_cons.mpr ⟨qz_vI C (show decode c_X10_become 5 = .ok (.invokevirtual 160, 3) by decide +kernel) ct_X4_hasState mv_X4_hasState cw_538 vcX4 (show 1 < 3 by omega),
  List.forall_mem_cons.mpr ⟨qz_ifeq C (show decode c_X10_become 8 = .ok (.ifCond .eq 12, 3) by decide +kernel) (by decide),
  List.forall_mem_cons.mpr ⟨qz_iload_n C (show decode c_X10_become 11 = .ok (.iload_n 2, 1) by decide +kernel) rfl,
  List.forall_mem_cons.mpr ⟨qz_iconst C (show decode c_X10_become 12 = .ok (.iconst 1, 1) by decide +kernel) (by decide +kernel),
  List.forall_mem_cons.mpr ⟨qz_iconst C (show decode c_X10_become 13 = .ok (.iconst 5, 1) by decide +kernel) (by decide +kernel),
  List.forall_mem_cons.mpr ⟨qz_sI C (show decode c_X10_become 14 = .ok (.invokestatic 91, 3) by decide +kernel) ct_X10_within mv_X10_within (Or.inl cw_361) (show 1 < 3 by omega),
  List.forall_mem_cons.mpr ⟨qz_ifne C (show decode c_X10_become 17 = .ok (.ifCond .ne 6, 3) by decide +kernel) (by decide),
  List.forall_mem_cons.mpr ⟨qz_ldc C (show decode c_X10_become 20 = .ok (.ldc 95, 2) by decide +kernel) cw_364,
  List.forall_mem_cons.mpr ⟨qz_iret C (show decode c_X10_become 22 = .ok (.ireturn, 1) by decide +kernel) rfl,
  List.forall_mem_cons.mpr ⟨qz_aload_n C (show decode c_X10_become 23 = .ok (.aload_n 0, 1) by decide +kernel) rfl,
  List.forall_mem_cons.mpr ⟨qz_gf (k := 2) C (show decode c_X10_become 24 = .ok (.getfield 26, 3) by decide +kernel) vcX10 wiX10 (by decide) cw_313,
  List.forall_mem_cons.mpr ⟨qz_iload_n C (show decode c_X10_become 27 = .ok (.iload_n 1, 1) by decide +kernel) rfl,
  List.forall_mem_cons.mpr ⟨qz_vI C (show decode c_X10_become 28 = .ok (.invokevirtual 192, 3) by decide +kernel) ct_X4_kindOf mv_X4_kindOf cw_592 vcX4 (show 1 < 3 by omega),
  List.forall_mem_cons.mpr ⟨qz_istore_n C (show decode c_X10_become 31 = .ok (.istore_n 3, 1) by decide +kernel) rfl,
  List.forall_mem_cons.mpr ⟨qz_iload_n C (show decode c_X10_become 32 = .ok (.iload_n 3, 1) by decide +kernel) rfl,
  List.forall_mem_cons.mpr ⟨qz_iload_n C (show decode c_X10_become 33 = .ok (.iload_n 2, 1) by decide +kernel) rfl,
  List.forall_mem_cons.mpr ⟨qz_icne C (show decode c_X10_become 34 = .ok (.if_icmp .ne 6, 3) by decide +kernel) (by decide),
  List.forall_mem_cons.mpr ⟨qz_ldc C (show decode c_X10_become 37 = .ok (.ldc 195, 2) by decide +kernel) cw_596,
  List.forall_mem_cons.mpr ⟨qz_iret C (show decode c_X10_become 39 = .ok (.ireturn, 1) by decide +kernel) rfl,
  List.forall_mem_cons.mpr ⟨qz_aload_n C (show decode c_X10_become 40 = .ok (.aload_n 0, 1) by decide +kernel) rfl,
  List.forall_mem_cons.mpr ⟨qz_gf (k := 2) C (show decode c_X10_become 41 = .ok (.getfield 26, 3) by decide +kernel) vcX10 wiX10 (by decide) cw_313,
  List.forall_mem_cons.mpr ⟨qz_iload_n C (show decode c_X10_become 44 = .ok (.iload_n 1, 1) by decide +kernel) rfl,
  List.forall_mem_cons.mpr ⟨qz_iload_n C (show decode c_X10_become 45 = .ok (.iload_n 2, 1) by decide +kernel) rfl,
  List.forall_mem_cons.mpr ⟨qz_vV C (show decode c_X10_become 46 = .ok (.invokevirtual 196, 3) by decide +kernel) ct_X4_setKind mv_X4_setKind cw_597 vcX4 (show 1 < 3 by omega),
  List.forall_mem_cons.mpr ⟨qz_aload_n C (show decode c_X10_become 49 = .ok (.aload_n 0, 1) by decide +kernel) rfl,
  List.forall_mem_cons.mpr ⟨qz_gf (k := 6) C (show decode c_X10_become 50 = .ok (.getfield 43, 3) by decide +kernel) vcX10 wiX10 (by decide) cw_317,
  List.forall_mem_cons.mpr ⟨qz_iload_n C (show decode c_X10_become 53 = .ok (.iload_n 1, 1) by decide +kernel) rfl,
  List.forall_mem_cons.mpr ⟨qz_iload_n C (show decode c_X10_become 54 = .ok (.iload_n 3, 1) by decide +kernel) rfl,
  List.forall_mem_cons.mpr ⟨qz_vV C (show decode c_X10_become 55 = .ok (.invokevirtual 200, 3) by decide +kernel) ct_X0_noteKind mv_X0_noteKind cw_601 vcX0 (show 2 < 3 by omega),
  List.forall_mem_cons.mpr ⟨qz_iload_n C (show decode c_X10_become 58 = .ok (.iload_n 3, 1) by decide +kernel) rfl,
  List.forall_mem_cons.mpr ⟨qz_iret C (show decode c_X10_become 59 = .ok (.ireturn, 1) by decide +kernel) rfl,
  (fun q h => by cases h)⟩⟩⟩⟩⟩⟩⟩⟩⟩⟩⟩⟩⟩⟩⟩⟩⟩⟩⟩⟩⟩⟩⟩⟩⟩⟩⟩⟩⟩⟩⟩⟩⟩⟩
theorem sd_X10_become {G : pj_E} {A : Nat → Prop} {P : pj_P} {S : pj_U} {Z : pj_Z} (C : pj_C (G, A, (c_X10_become, y_X10_become.cls, 4, (some .int), 3), P, S, Z)) : ∀ q ∈ tb_X10_become, pj_S (G, A, (c_X10_become, y_X10_become.cls, 4, (some .int), 3), P, S, Z) pj_eI q.1 q.2 := sd_X10_become_0 C
set_option maxRecDepth 20000 in
theorem eq_X10_become (x1 : Int32) (x2 : Int32) (m : pj_M) : pj_run tb_X10_become [] 36 0 [some (.inr (.inr (0, 10, 0))), some (.inl x1), some (.inl x2), none] [] m = F_X10_become x1 x2 m := by rfl
theorem ct_X10_become : pj_Ct pj_eI y_X10_become c_X10_become 4 (some .int) 3 W_X10_become := by
  refine pj_ct_of (by decide +kernel) ?_ ?_
  · intro as m r h
    unfold W_X10_become at h
    split at h
    · simp [pj_l0]
    · cases h
  · intro G A P S Z C as m r h hR
    unfold W_X10_become at h
    split at h
    · split at h
      · rename_i hbq
        simp only [Bool.and_eq_true, Nat.beq_eq] at hbq
        obtain ⟨rfl, rfl, rfl⟩ := hbq
        exact pj_run_ok (sd_X10_become C) (fun q h => by cases h) 36 0 _ _ _ _ ((eq_X10_become _ _ _).trans h) hR
      · cases h
    · cases h
/-! AlikeSteps.undo()I -/
abbrev c_X10_undo : ByteArray := prog_1_method_13_code
def y_X10_undo : MethodName := ⟨RX10, "undo", "()I"⟩
noncomputable def F_X10_undo (m : pj_M) : Option (Int32 × pj_M) := ((F_X0_size m).bind fun q1 => (if q1.1 = 0 then (some ((-1000002), q1.2)) else ((F_X0_undoLatest 7 q1.2).bind fun q2 => ((F_X0_size q2).bind fun q3 => (some (q3.1, q3.2))))))
noncomputable def W_X10_undo : List pj_V → pj_M → Option (Int32 × pj_M) := fun as m => match as with
  | [.inr (.inr (t0, w0, a0))] => (match Nat.beq t0 0 && (Nat.beq w0 10 && (Nat.beq a0 0)) with
    | true => F_X10_undo m
    | false => none)
  | _ => none
noncomputable def tb_X10_undo_0 : List (Nat × pj_T (Int32 × pj_M)) := [(0, qs_lda 0 1), (1, qs_gf 10 6 4), (4, qs_vI 0 1 W_X0_size 7), (7, qs_ifne 13 10), (10, qs_ci (-1000002) 12), (12, qs_iret), (13, qs_lda 0 14), (14, qs_gf 10 6 17), (17, qs_lda 0 18), (18, qs_gf 10 2 21), (21, qs_vV 0 2 W_X0_undoLatest 24), (24, qs_lda 0 25), (25, qs_gf 10 6 28), (28, qs_vI 0 1 W_X0_size 31), (31, qs_iret)]
noncomputable abbrev tb_X10_undo : List (Nat × pj_T (Int32 × pj_M)) := tb_X10_undo_0
theorem mv_X10_undo : pj_mv y_X10_undo c_X10_undo 1 (some .int) 0 := ⟨⟨cw_608, cw_606, cw_607, cw_81⟩, by decide +kernel, by decide⟩
set_option maxRecDepth 20000 in
theorem sd_X10_undo_0 {G : pj_E} {A : Nat → Prop} {P : pj_P} {S : pj_U} {Z : pj_Z} (C : pj_C (G, A, (c_X10_undo, y_X10_undo.cls, 1, (some .int), 4), P, S, Z)) : ∀ q ∈ tb_X10_undo_0, pj_S (G, A, (c_X10_undo, y_X10_undo.cls, 1, (some .int), 4), P, S, Z) pj_eI q.1 q.2 :=
  List.forall_mem_cons.mpr ⟨qz_aload_n C (show decode c_X10_undo 0 = .ok (.aload_n 0, 1) by decide +kernel) rfl,
  List.forall_mem_cons.mpr ⟨qz_gf (k := 6) C (show decode c_X10_undo 1 = .ok (.getfield 43, 3) by decide +kernel) vcX10 wiX10 (by decide) cw_317,
  List.forall_mem_cons.mpr ⟨qz_vI C (show decode c_X10_undo 4 = .ok (.invokevirtual 203, 3) by decide +kernel) ct_X0_size mv_X0_size cw_609 vcX0 (show 1 < 4 by omega),
  List.forall_mem_cons.mpr ⟨qz_ifne C (show decode c_X10_undo 7 = .ok (.ifCond .ne 6, 3) by decide +kernel) (by decide),
  List.forall_mem_cons.mpr ⟨qz_ldc C (show decode c_X10_undo 10 = .ok (.ldc 195, 2) by decide +kernel) cw_596,
  List.forall_mem_cons.mpr ⟨qz_iret C (show decode c_X10_undo 12 = .ok (.ireturn, 1) by decide +kernel) rfl,
  List.forall_mem_cons.mpr ⟨qz_aload_n C (show decode c_X10_undo 13 = .ok (.aload_n 0, 1) by decide +kernel) rfl,
  List.forall_mem_cons.mpr ⟨qz_gf (k := 6) C (show decode c_X10_undo 14 = .ok (.getfield 43, 3) by decide +kernel) vcX10 wiX10 (by decide) cw_317,
  List.forall_mem_cons.mpr ⟨qz_aload_n C (show decode c_X10_undo 17 = .ok (.aload_n 0, 1) by decide +kernel) rfl,
  List.forall_mem_cons.mpr ⟨qz_gf (k := 2) C (show decode c_X10_undo 18 = .ok (.getfield 26, 3) by decide +kernel) vcX10 wiX10 (by decide) cw_313,
  List.forall_mem_cons.mpr ⟨qz_vV C (show decode c_X10_undo 21 = .ok (.invokevirtual 206, 3) by decide +kernel) ct_X0_undoLatest mv_X0_undoLatest cw_613 vcX0 (show 3 < 4 by omega),
  List.forall_mem_cons.mpr ⟨qz_aload_n C (show decode c_X10_undo 24 = .ok (.aload_n 0, 1) by decide +kernel) rfl,
  List.forall_mem_cons.mpr ⟨qz_gf (k := 6) C (show decode c_X10_undo 25 = .ok (.getfield 43, 3) by decide +kernel) vcX10 wiX10 (by decide) cw_317,
  List.forall_mem_cons.mpr ⟨qz_vI C (show decode c_X10_undo 28 = .ok (.invokevirtual 203, 3) by decide +kernel) ct_X0_size mv_X0_size cw_609 vcX0 (show 1 < 4 by omega),
  List.forall_mem_cons.mpr ⟨qz_iret C (show decode c_X10_undo 31 = .ok (.ireturn, 1) by decide +kernel) rfl,
  (fun q h => by cases h)⟩⟩⟩⟩⟩⟩⟩⟩⟩⟩⟩⟩⟩⟩⟩
theorem sd_X10_undo {G : pj_E} {A : Nat → Prop} {P : pj_P} {S : pj_U} {Z : pj_Z} (C : pj_C (G, A, (c_X10_undo, y_X10_undo.cls, 1, (some .int), 4), P, S, Z)) : ∀ q ∈ tb_X10_undo, pj_S (G, A, (c_X10_undo, y_X10_undo.cls, 1, (some .int), 4), P, S, Z) pj_eI q.1 q.2 := sd_X10_undo_0 C
set_option maxRecDepth 20000 in
theorem eq_X10_undo (m : pj_M) : pj_run tb_X10_undo [] 17 0 [some (.inr (.inr (0, 10, 0)))] [] m = F_X10_undo m := by rfl
theorem ct_X10_undo : pj_Ct pj_eI y_X10_undo c_X10_undo 1 (some .int) 4 W_X10_undo := by
  refine pj_ct_of (by decide +kernel) ?_ ?_
  · intro as m r h
    unfold W_X10_undo at h
    split at h
    · simp [pj_l0]
    · cases h
  · intro G A P S Z C as m r h hR
    unfold W_X10_undo at h
    split at h
    · split at h
      · rename_i hbq
        simp only [Bool.and_eq_true, Nat.beq_eq] at hbq
        obtain ⟨rfl, rfl, rfl⟩ := hbq
        exact pj_run_ok (sd_X10_undo C) (fun q h => by cases h) 17 0 _ _ _ _ ((eq_X10_undo _).trans h) hR
      · cases h
    · cases h
/-! AlikeSteps.arc(II)I -/
abbrev c_X10_arc : ByteArray := prog_1_method_14_code
def y_X10_arc : MethodName := ⟨RX10, "arc", "(II)I"⟩
noncomputable def F_X10_arc (x1 : Int32) (x2 : Int32) (m : pj_M) : Option (Int32 × pj_M) := ((F_X4_hasArc 7 x1 m).bind fun q1 => (if q1.1 = 0 then (some ((-1000001), q1.2)) else ((F_X10_within x2 0 2 q1.2).bind fun q2 => (if q2.1 = 0 then (some ((-1000001), q2.2)) else ((F_X4_arcPart 7 x1 x2 q2.2).bind fun q3 => (some (q3.1, q3.2)))))))
noncomputable def W_X10_arc : List pj_V → pj_M → Option (Int32 × pj_M) := fun as m => match as with
  | [.inr (.inr (t0, w0, a0)), .inl x1, .inl x2] => (match Nat.beq t0 0 && (Nat.beq w0 10 && (Nat.beq a0 0)) with
    | true => F_X10_arc x1 x2 m
    | false => none)
  | _ => none
noncomputable def tb_X10_arc_0 : List (Nat × pj_T (Int32 × pj_M)) := [(0, qs_lda 0 1), (1, qs_gf 10 2 4), (4, qs_ldi 1 5), (5, qs_vI 4 2 W_X4_hasArc 8), (8, qs_ifeq 20 11), (11, qs_ldi 2 12), (12, qs_ci 0 13), (13, qs_ci 2 14), (14, qs_sI 3 W_X10_within 17), (17, qs_ifne 23 20), (20, qs_ci (-1000001) 22), (22, qs_iret), (23, qs_lda 0 24), (24, qs_gf 10 2 27), (27, qs_ldi 1 28), (28, qs_ldi 2 29), (29, qs_vI 4 3 W_X4_arcPart 32), (32, qs_iret)]
noncomputable abbrev tb_X10_arc : List (Nat × pj_T (Int32 × pj_M)) := tb_X10_arc_0
theorem mv_X10_arc : pj_mv y_X10_arc c_X10_arc 3 (some .int) 2 := ⟨⟨cw_625, cw_623, cw_624, cw_81⟩, by decide +kernel, by decide⟩
set_option maxRecDepth 20000 in
theorem sd_X10_arc_0 {G : pj_E} {A : Nat → Prop} {P : pj_P} {S : pj_U} {Z : pj_Z} (C : pj_C (G, A, (c_X10_arc, y_X10_arc.cls, 3, (some .int), 2), P, S, Z)) : ∀ q ∈ tb_X10_arc_0, pj_S (G, A, (c_X10_arc, y_X10_arc.cls, 3, (some .int), 2), P, S, Z) pj_eI q.1 q.2 :=
  List.forall_mem_cons.mpr ⟨qz_aload_n C (show decode c_X10_arc 0 = .ok (.aload_n 0, 1) by decide +kernel) rfl,
  List.forall_mem_cons.mpr ⟨qz_gf (k := 2) C (show decode c_X10_arc 1 = .ok (.getfield 26, 3) by decide +kernel) vcX10 wiX10 (by decide) cw_313,
  List.forall_mem_cons.mpr ⟨qz_iload_n C (show decode c_X10_arc 4 = .ok (.iload_n 1, 1) by decide +kernel) rfl,
  List.forall_mem_cons.mpr ⟨qz_vI C (show decode c_X10_arc 5 = .ok (.invokevirtual 172, 3) by decide +kernel) ct_X4_hasArc mv_X4_hasArc cw_557 vcX4 (show 1 < 2 by omega),
  List.forall_mem_cons.mpr ⟨qz_ifeq C (show decode c_X10_arc 8 = .ok (.ifCond .eq 12, 3) by decide +kernel) (by decide),
  List.forall_mem_cons.mpr ⟨qz_iload_n C (show decode c_X10_arc 11 = .ok (.iload_n 2, 1) by decide +kernel) rfl,
  List.forall_mem_cons.mpr ⟨qz_iconst C (show decode c_X10_arc 12 = .ok (.iconst 0, 1) by decide +kernel) (by decide +kernel),
  List.forall_mem_cons.mpr ⟨qz_iconst C (show decode c_X10_arc 13 = .ok (.iconst 2, 1) by decide +kernel) (by decide +kernel),
  List.forall_mem_cons.mpr ⟨qz_sI C (show decode c_X10_arc 14 = .ok (.invokestatic 91, 3) by decide +kernel) ct_X10_within mv_X10_within (Or.inl cw_361) (show 1 < 2 by omega),
  List.forall_mem_cons.mpr ⟨qz_ifne C (show decode c_X10_arc 17 = .ok (.ifCond .ne 6, 3) by decide +kernel) (by decide),
  List.forall_mem_cons.mpr ⟨qz_ldc C (show decode c_X10_arc 20 = .ok (.ldc 95, 2) by decide +kernel) cw_364,
  List.forall_mem_cons.mpr ⟨qz_iret C (show decode c_X10_arc 22 = .ok (.ireturn, 1) by decide +kernel) rfl,
  List.forall_mem_cons.mpr ⟨qz_aload_n C (show decode c_X10_arc 23 = .ok (.aload_n 0, 1) by decide +kernel) rfl,
  List.forall_mem_cons.mpr ⟨qz_gf (k := 2) C (show decode c_X10_arc 24 = .ok (.getfield 26, 3) by decide +kernel) vcX10 wiX10 (by decide) cw_313,
  List.forall_mem_cons.mpr ⟨qz_iload_n C (show decode c_X10_arc 27 = .ok (.iload_n 1, 1) by decide +kernel) rfl,
  List.forall_mem_cons.mpr ⟨qz_iload_n C (show decode c_X10_arc 28 = .ok (.iload_n 2, 1) by decide +kernel) rfl,
  List.forall_mem_cons.mpr ⟨qz_vI C (show decode c_X10_arc 29 = .ok (.invokevirtual 188, 3) by decide +kernel) ct_X4_arcPart mv_X4_arcPart cw_587 vcX4 (show 1 < 2 by omega),
  List.forall_mem_cons.mpr ⟨qz_iret C (show decode c_X10_arc 32 = .ok (.ireturn, 1) by decide +kernel) rfl,
  (fun q h => by cases h)⟩⟩⟩⟩⟩⟩⟩⟩⟩⟩⟩⟩⟩⟩⟩⟩⟩⟩
theorem sd_X10_arc {G : pj_E} {A : Nat → Prop} {P : pj_P} {S : pj_U} {Z : pj_Z} (C : pj_C (G, A, (c_X10_arc, y_X10_arc.cls, 3, (some .int), 2), P, S, Z)) : ∀ q ∈ tb_X10_arc, pj_S (G, A, (c_X10_arc, y_X10_arc.cls, 3, (some .int), 2), P, S, Z) pj_eI q.1 q.2 := sd_X10_arc_0 C
set_option maxRecDepth 20000 in
theorem eq_X10_arc (x1 : Int32) (x2 : Int32) (m : pj_M) : pj_run tb_X10_arc [] 20 0 [some (.inr (.inr (0, 10, 0))), some (.inl x1), some (.inl x2)] [] m = F_X10_arc x1 x2 m := by rfl
theorem ct_X10_arc : pj_Ct pj_eI y_X10_arc c_X10_arc 3 (some .int) 2 W_X10_arc := by
  refine pj_ct_of (by decide +kernel) ?_ ?_
  · intro as m r h
    unfold W_X10_arc at h
    split at h
    · simp [pj_l0]
    · cases h
  · intro G A P S Z C as m r h hR
    unfold W_X10_arc at h
    split at h
    · split at h
      · rename_i hbq
        simp only [Bool.and_eq_true, Nat.beq_eq] at hbq
        obtain ⟨rfl, rfl, rfl⟩ := hbq
        exact pj_run_ok (sd_X10_arc C) (fun q h => by cases h) 20 0 _ _ _ _ ((eq_X10_arc _ _ _).trans h) hR
      · cases h
    · cases h
/-! AlikeSteps.moves(III)I -/
abbrev c_X10_moves : ByteArray := prog_1_method_15_code
def y_X10_moves : MethodName := ⟨RX10, "moves", "(III)I"⟩
noncomputable def F_X10_moves (x1 : Int32) (x2 : Int32) (x3 : Int32) (m : pj_M) : Option (Int32 × pj_M) := ((F_X10_within x1 0 2 m).bind fun q1 => (if q1.1 = 0 then (some ((-1000001), q1.2)) else ((F_X4_hasState 7 x2 q1.2).bind fun q2 => (if q2.1 = 0 then (some ((-1000001), q2.2)) else ((F_X10_within x3 0 3 q2.2).bind fun q3 => (if q3.1 = 0 then (some ((-1000001), q3.2)) else ((F_X1_steps 19 7 q3.2).bind fun q4 => ((F_X7_moved q4.1 x1 x3 x2 q4.2).bind fun q5 => (some (q5.1, q5.2))))))))))
noncomputable def W_X10_moves : List pj_V → pj_M → Option (Int32 × pj_M) := fun as m => match as with
  | [.inr (.inr (t0, w0, a0)), .inl x1, .inl x2, .inl x3] => (match Nat.beq t0 0 && (Nat.beq w0 10 && (Nat.beq a0 0)) with
    | true => F_X10_moves x1 x2 x3 m
    | false => none)
  | _ => none
noncomputable def tb_X10_moves_0 : List (Nat × pj_T (Int32 × pj_M)) := [(0, qs_ldi 1 1), (1, qs_ci 0 2), (2, qs_ci 2 3), (3, qs_sI 3 W_X10_within 6), (6, qs_ifeq 29 9), (9, qs_lda 0 10), (10, qs_gf 10 2 13), (13, qs_ldi 2 14), (14, qs_vI 4 2 W_X4_hasState 17), (17, qs_ifeq 29 20), (20, qs_ldi 3 21), (21, qs_ci 0 22), (22, qs_ci 3 23), (23, qs_sI 3 W_X10_within 26), (26, qs_ifne 32 29), (29, qs_ci (-1000001) 31), (31, qs_iret), (32, qs_lda 0 33), (33, qs_gf 10 7 36), (36, qs_lda 0 37), (37, qs_gf 10 2 40), (40, qs_vR 7 1 2 W_X1_steps 43), (43, qs_ldi 1 44), (44, qs_ldi 3 45), (45, qs_ldi 2 46), (46, qs_vI 7 4 W_X7_moved 49), (49, qs_iret)]
noncomputable abbrev tb_X10_moves : List (Nat × pj_T (Int32 × pj_M)) := tb_X10_moves_0
theorem mv_X10_moves : pj_mv y_X10_moves c_X10_moves 4 (some .int) 3 := ⟨⟨cw_629, cw_627, cw_628, cw_81⟩, by decide +kernel, by decide⟩
set_option maxRecDepth 20000 in
theorem sd_X10_moves_0 {G : pj_E} {A : Nat → Prop} {P : pj_P} {S : pj_U} {Z : pj_Z} (C : pj_C (G, A, (c_X10_moves, y_X10_moves.cls, 4, (some .int), 6), P, S, Z)) : ∀ q ∈ tb_X10_moves_0, pj_S (G, A, (c_X10_moves, y_X10_moves.cls, 4, (some .int), 6), P, S, Z) pj_eI q.1 q.2 :=
  List.forall_mem_cons.mpr ⟨qz_iload_n C (show decode c_X10_moves 0 = .ok (.iload_n 1, 1) by decide +kernel) rfl,
  List.forall_mem_cons.mpr ⟨qz_iconst C (show decode c_X10_moves 1 = .ok (.iconst 0, 1) by decide +kernel) (by decide +kernel),
  List.forall_mem_cons.mpr ⟨qz_iconst C (show decode c_X10_moves 2 = .ok (.iconst 2, 1) by decide +kernel) (by decide +kernel),
  List.forall_mem_cons.mpr ⟨qz_sI C (show decode c_X10_moves 3 = .ok (.invokestatic 91, 3) by decide +kernel) ct_X10_within mv_X10_within (Or.inl cw_361) (show 1 < 6 by omega),
  List.forall_mem_cons.mpr ⟨qz_ifeq C (show decode c_X10_moves 6 = .ok (.ifCond .eq 23, 3) by decide +kernel) (by decide),
  List.forall_mem_cons.mpr ⟨qz_aload_n C (show decode c_X10_moves 9 = .ok (.aload_n 0, 1) by decide +kernel) rfl,
  List.forall_mem_cons.mpr ⟨qz_gf (k := 2) C (show decode c_X10_moves 10 = .ok (.getfield 26, 3) by decide +kernel) vcX10 wiX10 (by decide) cw_313,
  List.forall_mem_cons.mpr ⟨qz_iload_n C (show decode c_X10_moves 13 = .ok (.iload_n 2, 1) by decide +kernel) rfl,
  List.forall_mem_cons.mpr ⟨qz_vI C (show decode c_X10_moves 14 = .ok (.invokevirtual 160, 3) by decide +kernel) ct_X4_hasState mv_X4_hasState cw_538 vcX4 (show 1 < 6 by omega),
  List.forall_mem_cons.mpr ⟨qz_ifeq C (show decode c_X10_moves 17 = .ok (.ifCond .eq 12, 3) by decide +kernel) (by decide),
  List.forall_mem_cons.mpr ⟨qz_iload_n C (show decode c_X10_moves 20 = .ok (.iload_n 3, 1) by decide +kernel) rfl,
  List.forall_mem_cons.mpr ⟨qz_iconst C (show decode c_X10_moves 21 = .ok (.iconst 0, 1) by decide +kernel) (by decide +kernel),
  List.forall_mem_cons.mpr ⟨qz_iconst C (show decode c_X10_moves 22 = .ok (.iconst 3, 1) by decide +kernel) (by decide +kernel),
  List.forall_mem_cons.mpr ⟨qz_sI C (show decode c_X10_moves 23 = .ok (.invokestatic 91, 3) by decide +kernel) ct_X10_within mv_X10_within (Or.inl cw_361) (show 1 < 6 by omega),
  List.forall_mem_cons.mpr ⟨qz_ifne C (show decode c_X10_moves 26 = .ok (.ifCond .ne 6, 3) by decide +kernel) (by decide),
  List.forall_mem_cons.mpr ⟨qz_ldc C (show decode c_X10_moves 29 = .ok (.ldc 95, 2) by decide +kernel) cw_364,
  List.forall_mem_cons.mpr ⟨qz_iret C (show decode c_X10_moves 31 = .ok (.ireturn, 1) by decide +kernel) rfl,
  List.forall_mem_cons.mpr ⟨qz_aload_n C (show decode c_X10_moves 32 = .ok (.aload_n 0, 1) by decide +kernel) rfl,
  List.forall_mem_cons.mpr ⟨qz_gf (k := 7) C (show decode c_X10_moves 33 = .ok (.getfield 50, 3) by decide +kernel) vcX10 wiX10 (by decide) cw_318,
  List.forall_mem_cons.mpr ⟨qz_aload_n C (show decode c_X10_moves 36 = .ok (.aload_n 0, 1) by decide +kernel) rfl,
  List.forall_mem_cons.mpr ⟨qz_gf (k := 2) C (show decode c_X10_moves 37 = .ok (.getfield 26, 3) by decide +kernel) vcX10 wiX10 (by decide) cw_313,
  List.forall_mem_cons.mpr ⟨qz_vR C (show decode c_X10_moves 40 = .ok (.invokevirtual 209, 3) by decide +kernel) ct_X1_steps mv_X1_steps cw_630 vcX1 (show 5 < 6 by omega),
  List.forall_mem_cons.mpr ⟨qz_iload_n C (show decode c_X10_moves 43 = .ok (.iload_n 1, 1) by decide +kernel) rfl,
  List.forall_mem_cons.mpr ⟨qz_iload_n C (show decode c_X10_moves 44 = .ok (.iload_n 3, 1) by decide +kernel) rfl,
  List.forall_mem_cons.mpr ⟨qz_iload_n C (show decode c_X10_moves 45 = .ok (.iload_n 2, 1) by decide +kernel) rfl,
  List.forall_mem_cons.mpr ⟨qz_vI C (show decode c_X10_moves 46 = .ok (.invokevirtual 213, 3) by decide +kernel) ct_X7_moved mv_X7_moved cw_674 vcX7 (show 2 < 6 by omega),
  List.forall_mem_cons.mpr ⟨qz_iret C (show decode c_X10_moves 49 = .ok (.ireturn, 1) by decide +kernel) rfl,
  (fun q h => by cases h)⟩⟩⟩⟩⟩⟩⟩⟩⟩⟩⟩⟩⟩⟩⟩⟩⟩⟩⟩⟩⟩⟩⟩⟩⟩⟩⟩
theorem sd_X10_moves {G : pj_E} {A : Nat → Prop} {P : pj_P} {S : pj_U} {Z : pj_Z} (C : pj_C (G, A, (c_X10_moves, y_X10_moves.cls, 4, (some .int), 6), P, S, Z)) : ∀ q ∈ tb_X10_moves, pj_S (G, A, (c_X10_moves, y_X10_moves.cls, 4, (some .int), 6), P, S, Z) pj_eI q.1 q.2 := sd_X10_moves_0 C
set_option maxRecDepth 20000 in
theorem eq_X10_moves (x1 : Int32) (x2 : Int32) (x3 : Int32) (m : pj_M) : pj_run tb_X10_moves [] 29 0 [some (.inr (.inr (0, 10, 0))), some (.inl x1), some (.inl x2), some (.inl x3)] [] m = F_X10_moves x1 x2 x3 m := by rfl
theorem ct_X10_moves : pj_Ct pj_eI y_X10_moves c_X10_moves 4 (some .int) 6 W_X10_moves := by
  refine pj_ct_of (by decide +kernel) ?_ ?_
  · intro as m r h
    unfold W_X10_moves at h
    split at h
    · simp [pj_l0]
    · cases h
  · intro G A P S Z C as m r h hR
    unfold W_X10_moves at h
    split at h
    · split at h
      · rename_i hbq
        simp only [Bool.and_eq_true, Nat.beq_eq] at hbq
        obtain ⟨rfl, rfl, rfl⟩ := hbq
        exact pj_run_ok (sd_X10_moves C) (fun q h => by cases h) 29 0 _ _ _ _ ((eq_X10_moves _ _ _ _).trans h) hR
      · cases h
    · cases h
/-! AlikeSteps.block(II)I -/
abbrev c_X10_block : ByteArray := prog_1_method_16_code
def y_X10_block : MethodName := ⟨RX10, "block", "(II)I"⟩
noncomputable def F_X10_block (x1 : Int32) (x2 : Int32) (m : pj_M) : Option (Int32 × pj_M) := ((F_X10_within x1 0 3 m).bind fun q1 => (if q1.1 = 0 then (some ((-1000001), q1.2)) else ((F_X4_hasState 7 x2 q1.2).bind fun q2 => (if q2.1 = 0 then (some ((-1000001), q2.2)) else ((F_X1_parting 19 7 x1 q2.2).bind fun q3 => ((F_X5_lastBlock q3.1 x2 q3.2).bind fun q4 => (some (q4.1, q4.2))))))))
noncomputable def W_X10_block : List pj_V → pj_M → Option (Int32 × pj_M) := fun as m => match as with
  | [.inr (.inr (t0, w0, a0)), .inl x1, .inl x2] => (match Nat.beq t0 0 && (Nat.beq w0 10 && (Nat.beq a0 0)) with
    | true => F_X10_block x1 x2 m
    | false => none)
  | _ => none
noncomputable def tb_X10_block_0 : List (Nat × pj_T (Int32 × pj_M)) := [(0, qs_ldi 1 1), (1, qs_ci 0 2), (2, qs_ci 3 3), (3, qs_sI 3 W_X10_within 6), (6, qs_ifeq 20 9), (9, qs_lda 0 10), (10, qs_gf 10 2 13), (13, qs_ldi 2 14), (14, qs_vI 4 2 W_X4_hasState 17), (17, qs_ifne 23 20), (20, qs_ci (-1000001) 22), (22, qs_iret), (23, qs_lda 0 24), (24, qs_gf 10 7 27), (27, qs_lda 0 28), (28, qs_gf 10 2 31), (31, qs_ldi 1 32), (32, qs_vR 5 1 3 W_X1_parting 35), (35, qs_ldi 2 36), (36, qs_vI 5 2 W_X5_lastBlock 39), (39, qs_iret)]
noncomputable abbrev tb_X10_block : List (Nat × pj_T (Int32 × pj_M)) := tb_X10_block_0
theorem mv_X10_block : pj_mv y_X10_block c_X10_block 3 (some .int) 2 := ⟨⟨cw_685, cw_683, cw_684, cw_81⟩, by decide +kernel, by decide⟩
set_option maxRecDepth 20000 in
theorem sd_X10_block_0 {G : pj_E} {A : Nat → Prop} {P : pj_P} {S : pj_U} {Z : pj_Z} (C : pj_C (G, A, (c_X10_block, y_X10_block.cls, 3, (some .int), 7), P, S, Z)) : ∀ q ∈ tb_X10_block_0, pj_S (G, A, (c_X10_block, y_X10_block.cls, 3, (some .int), 7), P, S, Z) pj_eI q.1 q.2 :=
  List.forall_mem_cons.mpr ⟨qz_iload_n C (show decode c_X10_block 0 = .ok (.iload_n 1, 1) by decide +kernel) rfl,
  List.forall_mem_cons.mpr ⟨qz_iconst C (show decode c_X10_block 1 = .ok (.iconst 0, 1) by decide +kernel) (by decide +kernel),
  List.forall_mem_cons.mpr ⟨qz_iconst C (show decode c_X10_block 2 = .ok (.iconst 3, 1) by decide +kernel) (by decide +kernel),
  List.forall_mem_cons.mpr ⟨qz_sI C (show decode c_X10_block 3 = .ok (.invokestatic 91, 3) by decide +kernel) ct_X10_within mv_X10_within (Or.inl cw_361) (show 1 < 7 by omega),
  List.forall_mem_cons.mpr ⟨qz_ifeq C (show decode c_X10_block 6 = .ok (.ifCond .eq 14, 3) by decide +kernel) (by decide),
  List.forall_mem_cons.mpr ⟨qz_aload_n C (show decode c_X10_block 9 = .ok (.aload_n 0, 1) by decide +kernel) rfl,
  List.forall_mem_cons.mpr ⟨qz_gf (k := 2) C (show decode c_X10_block 10 = .ok (.getfield 26, 3) by decide +kernel) vcX10 wiX10 (by decide) cw_313,
  List.forall_mem_cons.mpr ⟨qz_iload_n C (show decode c_X10_block 13 = .ok (.iload_n 2, 1) by decide +kernel) rfl,
  List.forall_mem_cons.mpr ⟨qz_vI C (show decode c_X10_block 14 = .ok (.invokevirtual 160, 3) by decide +kernel) ct_X4_hasState mv_X4_hasState cw_538 vcX4 (show 1 < 7 by omega),
  List.forall_mem_cons.mpr ⟨qz_ifne C (show decode c_X10_block 17 = .ok (.ifCond .ne 6, 3) by decide +kernel) (by decide),
  List.forall_mem_cons.mpr ⟨qz_ldc C (show decode c_X10_block 20 = .ok (.ldc 95, 2) by decide +kernel) cw_364,
  List.forall_mem_cons.mpr ⟨qz_iret C (show decode c_X10_block 22 = .ok (.ireturn, 1) by decide +kernel) rfl,
  List.forall_mem_cons.mpr ⟨qz_aload_n C (show decode c_X10_block 23 = .ok (.aload_n 0, 1) by decide +kernel) rfl,
  List.forall_mem_cons.mpr ⟨qz_gf (k := 7) C (show decode c_X10_block 24 = .ok (.getfield 50, 3) by decide +kernel) vcX10 wiX10 (by decide) cw_318,
  List.forall_mem_cons.mpr ⟨qz_aload_n C (show decode c_X10_block 27 = .ok (.aload_n 0, 1) by decide +kernel) rfl,
  List.forall_mem_cons.mpr ⟨qz_gf (k := 2) C (show decode c_X10_block 28 = .ok (.getfield 26, 3) by decide +kernel) vcX10 wiX10 (by decide) cw_313,
  List.forall_mem_cons.mpr ⟨qz_iload_n C (show decode c_X10_block 31 = .ok (.iload_n 1, 1) by decide +kernel) rfl,
  List.forall_mem_cons.mpr ⟨qz_vR C (show decode c_X10_block 32 = .ok (.invokevirtual 218, 3) by decide +kernel) ct_X1_parting mv_X1_parting cw_686 vcX1 (show 6 < 7 by omega),
  List.forall_mem_cons.mpr ⟨qz_iload_n C (show decode c_X10_block 35 = .ok (.iload_n 2, 1) by decide +kernel) rfl,
  List.forall_mem_cons.mpr ⟨qz_vI C (show decode c_X10_block 36 = .ok (.invokevirtual 222, 3) by decide +kernel) ct_X5_lastBlock mv_X5_lastBlock cw_735 vcX5 (show 2 < 7 by omega),
  List.forall_mem_cons.mpr ⟨qz_iret C (show decode c_X10_block 39 = .ok (.ireturn, 1) by decide +kernel) rfl,
  (fun q h => by cases h)⟩⟩⟩⟩⟩⟩⟩⟩⟩⟩⟩⟩⟩⟩⟩⟩⟩⟩⟩⟩⟩
theorem sd_X10_block {G : pj_E} {A : Nat → Prop} {P : pj_P} {S : pj_U} {Z : pj_Z} (C : pj_C (G, A, (c_X10_block, y_X10_block.cls, 3, (some .int), 7), P, S, Z)) : ∀ q ∈ tb_X10_block, pj_S (G, A, (c_X10_block, y_X10_block.cls, 3, (some .int), 7), P, S, Z) pj_eI q.1 q.2 := sd_X10_block_0 C
set_option maxRecDepth 20000 in
theorem eq_X10_block (x1 : Int32) (x2 : Int32) (m : pj_M) : pj_run tb_X10_block [] 23 0 [some (.inr (.inr (0, 10, 0))), some (.inl x1), some (.inl x2)] [] m = F_X10_block x1 x2 m := by rfl
theorem ct_X10_block : pj_Ct pj_eI y_X10_block c_X10_block 3 (some .int) 7 W_X10_block := by
  refine pj_ct_of (by decide +kernel) ?_ ?_
  · intro as m r h
    unfold W_X10_block at h
    split at h
    · simp [pj_l0]
    · cases h
  · intro G A P S Z C as m r h hR
    unfold W_X10_block at h
    split at h
    · split at h
      · rename_i hbq
        simp only [Bool.and_eq_true, Nat.beq_eq] at hbq
        obtain ⟨rfl, rfl, rfl⟩ := hbq
        exact pj_run_ok (sd_X10_block C) (fun q h => by cases h) 23 0 _ _ _ _ ((eq_X10_block _ _ _).trans h) hR
      · cases h
    · cases h
/-! AlikeSteps.parts(II)I -/
abbrev c_X10_parts : ByteArray := prog_1_method_17_code
def y_X10_parts : MethodName := ⟨RX10, "parts", "(II)I"⟩
noncomputable def F_X10_parts (x1 : Int32) (x2 : Int32) (m : pj_M) : Option (Int32 × pj_M) := ((F_X4_states 7 m).bind fun q1 => (if q1.1 = 0 then (some ((-1000002), q1.2)) else ((F_X10_within x1 0 3 q1.2).bind fun q2 => (if q2.1 = 0 then (some ((-1000001), q2.2)) else ((F_X10_within x2 0 1 q2.2).bind fun q3 => (if q3.1 = 0 then (some ((-1000001), q3.2)) else ((F_X1_parting 19 7 x1 q3.2).bind fun q4 => (if x2 = 0 then ((F_X5_size q4.1 q4.2).bind fun q6 => (some (q6.1, q6.2))) else ((F_X5_rounds q4.1 q4.2).bind fun q5 => (some (q5.1, q5.2)))))))))))
noncomputable def W_X10_parts : List pj_V → pj_M → Option (Int32 × pj_M) := fun as m => match as with
  | [.inr (.inr (t0, w0, a0)), .inl x1, .inl x2] => (match Nat.beq t0 0 && (Nat.beq w0 10 && (Nat.beq a0 0)) with
    | true => F_X10_parts x1 x2 m
    | false => none)
  | _ => none
noncomputable def tb_X10_parts_0 : List (Nat × pj_T (Int32 × pj_M)) := [(0, qs_lda 0 1), (1, qs_gf 10 2 4), (4, qs_vI 4 1 W_X4_states 7), (7, qs_ifne 13 10), (10, qs_ci (-1000002) 12), (12, qs_iret), (13, qs_ldi 1 14), (14, qs_ci 0 15), (15, qs_ci 3 16), (16, qs_sI 3 W_X10_within 19), (19, qs_ifeq 31 22), (22, qs_ldi 2 23), (23, qs_ci 0 24), (24, qs_ci 1 25), (25, qs_sI 3 W_X10_within 28), (28, qs_ifne 34 31), (31, qs_ci (-1000001) 33), (33, qs_iret), (34, qs_lda 0 35), (35, qs_gf 10 7 38), (38, qs_lda 0 39), (39, qs_gf 10 2 42), (42, qs_ldi 1 43), (43, qs_vR 5 1 3 W_X1_parting 46), (46, qs_sta 3 47), (47, qs_ldi 2 48), (48, qs_ifne 58 51), (51, qs_lda 3 52), (52, qs_vI 5 1 W_X5_size 55), (55, qs_go 62), (58, qs_lda 3 59), (59, qs_vI 5 1 W_X5_rounds 62), (62, qs_iret)]
noncomputable abbrev tb_X10_parts : List (Nat × pj_T (Int32 × pj_M)) := tb_X10_parts_0
theorem mv_X10_parts : pj_mv y_X10_parts c_X10_parts 4 (some .int) 2 := ⟨⟨cw_742, cw_740, cw_741, cw_81⟩, by decide +kernel, by decide⟩
set_option maxRecDepth 20000 in
theorem sd_X10_parts_0 {G : pj_E} {A : Nat → Prop} {P : pj_P} {S : pj_U} {Z : pj_Z} (C : pj_C (G, A, (c_X10_parts, y_X10_parts.cls, 4, (some .int), 7), P, S, Z)) : ∀ q ∈ tb_X10_parts_0, pj_S (G, A, (c_X10_parts, y_X10_parts.cls, 4, (some .int), 7), P, S, Z) pj_eI q.1 q.2 :=
  List.forall_mem_cons.mpr ⟨qz_aload_n C (show decode c_X10_parts 0 = .ok (.aload_n 0, 1) by decide +kernel) rfl,
  List.forall_mem_cons.mpr ⟨qz_gf (k := 2) C (show decode c_X10_parts 1 = .ok (.getfield 26, 3) by decide +kernel) vcX10 wiX10 (by decide) cw_313,
  List.forall_mem_cons.mpr ⟨qz_vI C (show decode c_X10_parts 4 = .ok (.invokevirtual 157, 3) by decide +kernel) ct_X4_states mv_X4_states cw_526 vcX4 (show 1 < 7 by omega),
  List.forall_mem_cons.mpr ⟨qz_ifne C (show decode c_X10_parts 7 = .ok (.ifCond .ne 6, 3) by decide +kernel) (by decide),
  List.forall_mem_cons.mpr ⟨qz_ldc C (show decode c_X10_parts 10 = .ok (.ldc 195, 2) by decide +kernel) cw_596,
  List.forall_mem_cons.mpr ⟨qz_iret C (show decode c_X10_parts 12 = .ok (.ireturn, 1) by decide +kernel) rfl,
  List.forall_mem_cons.mpr ⟨qz_iload_n C (show decode c_X10_parts 13 = .ok (.iload_n 1, 1) by decide +kernel) rfl,
  List.forall_mem_cons.mpr ⟨qz_iconst C (show decode c_X10_parts 14 = .ok (.iconst 0, 1) by decide +kernel) (by decide +kernel),
  List.forall_mem_cons.mpr ⟨qz_iconst C (show decode c_X10_parts 15 = .ok (.iconst 3, 1) by decide +kernel) (by decide +kernel),
  List.forall_mem_cons.mpr ⟨qz_sI C (show decode c_X10_parts 16 = .ok (.invokestatic 91, 3) by decide +kernel) ct_X10_within mv_X10_within (Or.inl cw_361) (show 1 < 7 by omega),
  List.forall_mem_cons.mpr ⟨qz_ifeq C (show decode c_X10_parts 19 = .ok (.ifCond .eq 12, 3) by decide +kernel) (by decide),
  List.forall_mem_cons.mpr ⟨qz_iload_n C (show decode c_X10_parts 22 = .ok (.iload_n 2, 1) by decide +kernel) rfl,
  List.forall_mem_cons.mpr ⟨qz_iconst C (show decode c_X10_parts 23 = .ok (.iconst 0, 1) by decide +kernel) (by decide +kernel),
  List.forall_mem_cons.mpr ⟨qz_iconst C (show decode c_X10_parts 24 = .ok (.iconst 1, 1) by decide +kernel) (by decide +kernel),
  List.forall_mem_cons.mpr ⟨qz_sI C (show decode c_X10_parts 25 = .ok (.invokestatic 91, 3) by decide +kernel) ct_X10_within mv_X10_within (Or.inl cw_361) (show 1 < 7 by omega),
  List.forall_mem_cons.mpr ⟨qz_ifne C (show decode c_X10_parts 28 = .ok (.ifCond .ne 6, 3) by decide +kernel) (by decide),
  List.forall_mem_cons.mpr ⟨qz_ldc C (show decode c_X10_parts 31 = .ok (.ldc 95, 2) by decide +kernel) cw_364,
  List.forall_mem_cons.mpr ⟨qz_iret C (show decode c_X10_parts 33 = .ok (.ireturn, 1) by decide +kernel) rfl,
  List.forall_mem_cons.mpr ⟨qz_aload_n C (show decode c_X10_parts 34 = .ok (.aload_n 0, 1) by decide +kernel) rfl,
  List.forall_mem_cons.mpr ⟨qz_gf (k := 7) C (show decode c_X10_parts 35 = .ok (.getfield 50, 3) by decide +kernel) vcX10 wiX10 (by decide) cw_318,
  List.forall_mem_cons.mpr ⟨qz_aload_n C (show decode c_X10_parts 38 = .ok (.aload_n 0, 1) by decide +kernel) rfl,
  List.forall_mem_cons.mpr ⟨qz_gf (k := 2) C (show decode c_X10_parts 39 = .ok (.getfield 26, 3) by decide +kernel) vcX10 wiX10 (by decide) cw_313,
  List.forall_mem_cons.mpr ⟨qz_iload_n C (show decode c_X10_parts 42 = .ok (.iload_n 1, 1) by decide +kernel) rfl,
  List.forall_mem_cons.mpr ⟨qz_vR C (show decode c_X10_parts 43 = .ok (.invokevirtual 218, 3) by decide +kernel) ct_X1_parting mv_X1_parting cw_686 vcX1 (show 6 < 7 by omega),
  List.forall_mem_cons.mpr ⟨qz_astore_n C (show decode c_X10_parts 46 = .ok (.astore_n 3, 1) by decide +kernel) rfl,
  List.forall_mem_cons.mpr ⟨qz_iload_n C (show decode c_X10_parts 47 = .ok (.iload_n 2, 1) by decide +kernel) rfl,
  List.forall_mem_cons.mpr ⟨qz_ifne C (show decode c_X10_parts 48 = .ok (.ifCond .ne 10, 3) by decide +kernel) (by decide),
  List.forall_mem_cons.mpr ⟨qz_aload_n C (show decode c_X10_parts 51 = .ok (.aload_n 3, 1) by decide +kernel) rfl,
  List.forall_mem_cons.mpr ⟨qz_vI C (show decode c_X10_parts 52 = .ok (.invokevirtual 227, 3) by decide +kernel) ct_X5_size mv_X5_size cw_743 vcX5 (show 1 < 7 by omega),
  List.forall_mem_cons.mpr ⟨qz_goto C (show decode c_X10_parts 55 = .ok (.goto 7, 3) by decide +kernel) (by decide),
  List.forall_mem_cons.mpr ⟨qz_aload_n C (show decode c_X10_parts 58 = .ok (.aload_n 3, 1) by decide +kernel) rfl,
  List.forall_mem_cons.mpr ⟨qz_vI C (show decode c_X10_parts 59 = .ok (.invokevirtual 228, 3) by decide +kernel) ct_X5_rounds mv_X5_rounds cw_747 vcX5 (show 1 < 7 by omega),
  List.forall_mem_cons.mpr ⟨qz_iret C (show decode c_X10_parts 62 = .ok (.ireturn, 1) by decide +kernel) rfl,
  (fun q h => by cases h)⟩⟩⟩⟩⟩⟩⟩⟩⟩⟩⟩⟩⟩⟩⟩⟩⟩⟩⟩⟩⟩⟩⟩⟩⟩⟩⟩⟩⟩⟩⟩⟩⟩
theorem sd_X10_parts {G : pj_E} {A : Nat → Prop} {P : pj_P} {S : pj_U} {Z : pj_Z} (C : pj_C (G, A, (c_X10_parts, y_X10_parts.cls, 4, (some .int), 7), P, S, Z)) : ∀ q ∈ tb_X10_parts, pj_S (G, A, (c_X10_parts, y_X10_parts.cls, 4, (some .int), 7), P, S, Z) pj_eI q.1 q.2 := sd_X10_parts_0 C
set_option maxRecDepth 20000 in
theorem eq_X10_parts (x1 : Int32) (x2 : Int32) (m : pj_M) : pj_run tb_X10_parts [] 35 0 [some (.inr (.inr (0, 10, 0))), some (.inl x1), some (.inl x2), none] [] m = F_X10_parts x1 x2 m := by rfl
theorem ct_X10_parts : pj_Ct pj_eI y_X10_parts c_X10_parts 4 (some .int) 7 W_X10_parts := by
  refine pj_ct_of (by decide +kernel) ?_ ?_
  · intro as m r h
    unfold W_X10_parts at h
    split at h
    · simp [pj_l0]
    · cases h
  · intro G A P S Z C as m r h hR
    unfold W_X10_parts at h
    split at h
    · split at h
      · rename_i hbq
        simp only [Bool.and_eq_true, Nat.beq_eq] at hbq
        obtain ⟨rfl, rfl, rfl⟩ := hbq
        exact pj_run_ok (sd_X10_parts C) (fun q h => by cases h) 35 0 _ _ _ _ ((eq_X10_parts _ _ _).trans h) hR
      · cases h
    · cases h
/-! AlikeSteps.behind(III)I -/
abbrev c_X10_behind : ByteArray := prog_1_method_18_code
def y_X10_behind : MethodName := ⟨RX10, "behind", "(III)I"⟩
noncomputable def F_X10_behind (x1 : Int32) (x2 : Int32) (x3 : Int32) (m : pj_M) : Option (Int32 × pj_M) := ((F_X10_within x1 0 3 m).bind fun q1 => (if q1.1 = 0 then (some ((-1000001), q1.2)) else ((F_X10_within x2 0 20 q1.2).bind fun q2 => (if q2.1 = 0 then (some ((-1000001), q2.2)) else ((F_X4_hasState 7 x3 q2.2).bind fun q3 => (if q3.1 = 0 then (some ((-1000001), q3.2)) else ((F_X1_parting 19 7 x1 q3.2).bind fun q4 => ((F_X5_rounds q4.1 q4.2).bind fun q5 => ((F_X5_blockBehind q4.1 (if q5.1 < x2 then q5.1 else x2) x3 q5.2).bind fun q6 => (some (q6.1, q6.2)))))))))))
noncomputable def W_X10_behind : List pj_V → pj_M → Option (Int32 × pj_M) := fun as m => match as with
  | [.inr (.inr (t0, w0, a0)), .inl x1, .inl x2, .inl x3] => (match Nat.beq t0 0 && (Nat.beq w0 10 && (Nat.beq a0 0)) with
    | true => F_X10_behind x1 x2 x3 m
    | false => none)
  | _ => none
noncomputable def tb_X10_behind_0 : List (Nat × pj_T (Int32 × pj_M)) := [(0, qs_ldi 1 1), (1, qs_ci 0 2), (2, qs_ci 3 3), (3, qs_sI 3 W_X10_within 6), (6, qs_ifeq 30 9), (9, qs_ldi 2 10), (10, qs_ci 0 11), (11, qs_ci 20 13), (13, qs_sI 3 W_X10_within 16), (16, qs_ifeq 30 19), (19, qs_lda 0 20), (20, qs_gf 10 2 23), (23, qs_ldi 3 24), (24, qs_vI 4 2 W_X4_hasState 27), (27, qs_ifne 33 30), (30, qs_ci (-1000001) 32), (32, qs_iret), (33, qs_lda 0 34), (34, qs_gf 10 7 37), (37, qs_lda 0 38), (38, qs_gf 10 2 41), (41, qs_ldi 1 42), (42, qs_vR 5 1 3 W_X1_parting 45), (45, qs_sta 4 47), (47, qs_lda 4 49), (49, qs_ldi 2 50), (50, qs_lda 4 52), (52, qs_vI 5 1 W_X5_rounds 55), (55, qs_mmin 58), (58, qs_ldi 3 59), (59, qs_vI 5 3 W_X5_blockBehind 62), (62, qs_iret)]
noncomputable abbrev tb_X10_behind : List (Nat × pj_T (Int32 × pj_M)) := tb_X10_behind_0
theorem mv_X10_behind : pj_mv y_X10_behind c_X10_behind 5 (some .int) 3 := ⟨⟨cw_754, cw_752, cw_753, cw_81⟩, by decide +kernel, by decide⟩
set_option maxRecDepth 20000 in
theorem sd_X10_behind_0 {G : pj_E} {A : Nat → Prop} {P : pj_P} {S : pj_U} {Z : pj_Z} (C : pj_C (G, A, (c_X10_behind, y_X10_behind.cls, 5, (some .int), 7), P, S, Z)) : ∀ q ∈ tb_X10_behind_0, pj_S (G, A, (c_X10_behind, y_X10_behind.cls, 5, (some .int), 7), P, S, Z) pj_eI q.1 q.2 :=
  List.forall_mem_cons.mpr ⟨qz_iload_n C (show decode c_X10_behind 0 = .ok (.iload_n 1, 1) by decide +kernel) rfl,
  List.forall_mem_cons.mpr ⟨qz_iconst C (show decode c_X10_behind 1 = .ok (.iconst 0, 1) by decide +kernel) (by decide +kernel),
  List.forall_mem_cons.mpr ⟨qz_iconst C (show decode c_X10_behind 2 = .ok (.iconst 3, 1) by decide +kernel) (by decide +kernel),
  List.forall_mem_cons.mpr ⟨qz_sI C (show decode c_X10_behind 3 = .ok (.invokestatic 91, 3) by decide +kernel) ct_X10_within mv_X10_within (Or.inl cw_361) (show 1 < 7 by omega),
  List.forall_mem_cons.mpr ⟨qz_ifeq C (show decode c_X10_behind 6 = .ok (.ifCond .eq 24, 3) by decide +kernel) (by decide),
  List.forall_mem_cons.mpr ⟨qz_iload_n C (show decode c_X10_behind 9 = .ok (.iload_n 2, 1) by decide +kernel) rfl,
  List.forall_mem_cons.mpr ⟨qz_iconst C (show decode c_X10_behind 10 = .ok (.iconst 0, 1) by decide +kernel) (by decide +kernel),
  List.forall_mem_cons.mpr ⟨qz_bipush C (show decode c_X10_behind 11 = .ok (.bipush 20, 2) by decide +kernel) (by decide +kernel),
  List.forall_mem_cons.mpr ⟨qz_sI C (show decode c_X10_behind 13 = .ok (.invokestatic 91, 3) by decide +kernel) ct_X10_within mv_X10_within (Or.inl cw_361) (show 1 < 7 by omega),
  List.forall_mem_cons.mpr ⟨qz_ifeq C (show decode c_X10_behind 16 = .ok (.ifCond .eq 14, 3) by decide +kernel) (by decide),
  List.forall_mem_cons.mpr ⟨qz_aload_n C (show decode c_X10_behind 19 = .ok (.aload_n 0, 1) by decide +kernel) rfl,
  List.forall_mem_cons.mpr ⟨qz_gf (k := 2) C (show decode c_X10_behind 20 = .ok (.getfield 26, 3) by decide +kernel) vcX10 wiX10 (by decide) cw_313,
  List.forall_mem_cons.mpr ⟨qz_iload_n C (show decode c_X10_behind 23 = .ok (.iload_n 3, 1) by decide +kernel) rfl,
  List.forall_mem_cons.mpr ⟨qz_vI C (show decode c_X10_behind 24 = .ok (.invokevirtual 160, 3) by decide +kernel) ct_X4_hasState mv_X4_hasState cw_538 vcX4 (show 1 < 7 by omega),
  List.forall_mem_cons.mpr ⟨qz_ifne C (show decode c_X10_behind 27 = .ok (.ifCond .ne 6, 3) by decide +kernel) (by decide),
  List.forall_mem_cons.mpr ⟨qz_ldc C (show decode c_X10_behind 30 = .ok (.ldc 95, 2) by decide +kernel) cw_364,
  List.forall_mem_cons.mpr ⟨qz_iret C (show decode c_X10_behind 32 = .ok (.ireturn, 1) by decide +kernel) rfl,
  List.forall_mem_cons.mpr ⟨qz_aload_n C (show decode c_X10_behind 33 = .ok (.aload_n 0, 1) by decide +kernel) rfl,
  List.forall_mem_cons.mpr ⟨qz_gf (k := 7) C (show decode c_X10_behind 34 = .ok (.getfield 50, 3) by decide +kernel) vcX10 wiX10 (by decide) cw_318,
  List.forall_mem_cons.mpr ⟨qz_aload_n C (show decode c_X10_behind 37 = .ok (.aload_n 0, 1) by decide +kernel) rfl,
  List.forall_mem_cons.mpr ⟨qz_gf (k := 2) C (show decode c_X10_behind 38 = .ok (.getfield 26, 3) by decide +kernel) vcX10 wiX10 (by decide) cw_313,
  List.forall_mem_cons.mpr ⟨qz_iload_n C (show decode c_X10_behind 41 = .ok (.iload_n 1, 1) by decide +kernel) rfl,
  List.forall_mem_cons.mpr ⟨qz_vR C (show decode c_X10_behind 42 = .ok (.invokevirtual 218, 3) by decide +kernel) ct_X1_parting mv_X1_parting cw_686 vcX1 (show 6 < 7 by omega),
  List.forall_mem_cons.mpr ⟨qz_astore C (show decode c_X10_behind 45 = .ok (.astore 4, 2) by decide +kernel),
  List.forall_mem_cons.mpr ⟨qz_aload C (show decode c_X10_behind 47 = .ok (.aload 4, 2) by decide +kernel),
  List.forall_mem_cons.mpr ⟨qz_iload_n C (show decode c_X10_behind 49 = .ok (.iload_n 2, 1) by decide +kernel) rfl,
  List.forall_mem_cons.mpr ⟨qz_aload C (show decode c_X10_behind 50 = .ok (.aload 4, 2) by decide +kernel),
  List.forall_mem_cons.mpr ⟨qz_vI C (show decode c_X10_behind 52 = .ok (.invokevirtual 228, 3) by decide +kernel) ct_X5_rounds mv_X5_rounds cw_747 vcX5 (show 1 < 7 by omega),
  List.forall_mem_cons.mpr ⟨qz_mmin C (show decode c_X10_behind 55 = .ok (.invokestatic 231, 3) by decide +kernel) cw_755 cw_756 cw_94 cwm_min,
  List.forall_mem_cons.mpr ⟨qz_iload_n C (show decode c_X10_behind 58 = .ok (.iload_n 3, 1) by decide +kernel) rfl,
  List.forall_mem_cons.mpr ⟨qz_vI C (show decode c_X10_behind 59 = .ok (.invokevirtual 236, 3) by decide +kernel) ct_X5_blockBehind mv_X5_blockBehind cw_758 vcX5 (show 1 < 7 by omega),
  List.forall_mem_cons.mpr ⟨qz_iret C (show decode c_X10_behind 62 = .ok (.ireturn, 1) by decide +kernel) rfl,
  (fun q h => by cases h)⟩⟩⟩⟩⟩⟩⟩⟩⟩⟩⟩⟩⟩⟩⟩⟩⟩⟩⟩⟩⟩⟩⟩⟩⟩⟩⟩⟩⟩⟩⟩⟩
theorem sd_X10_behind {G : pj_E} {A : Nat → Prop} {P : pj_P} {S : pj_U} {Z : pj_Z} (C : pj_C (G, A, (c_X10_behind, y_X10_behind.cls, 5, (some .int), 7), P, S, Z)) : ∀ q ∈ tb_X10_behind, pj_S (G, A, (c_X10_behind, y_X10_behind.cls, 5, (some .int), 7), P, S, Z) pj_eI q.1 q.2 := sd_X10_behind_0 C
set_option maxRecDepth 20000 in
theorem eq_X10_behind (x1 : Int32) (x2 : Int32) (x3 : Int32) (m : pj_M) : pj_run tb_X10_behind [] 34 0 [some (.inr (.inr (0, 10, 0))), some (.inl x1), some (.inl x2), some (.inl x3), none] [] m = F_X10_behind x1 x2 x3 m := by rfl
theorem ct_X10_behind : pj_Ct pj_eI y_X10_behind c_X10_behind 5 (some .int) 7 W_X10_behind := by
  refine pj_ct_of (by decide +kernel) ?_ ?_
  · intro as m r h
    unfold W_X10_behind at h
    split at h
    · simp [pj_l0]
    · cases h
  · intro G A P S Z C as m r h hR
    unfold W_X10_behind at h
    split at h
    · split at h
      · rename_i hbq
        simp only [Bool.and_eq_true, Nat.beq_eq] at hbq
        obtain ⟨rfl, rfl, rfl⟩ := hbq
        exact pj_run_ok (sd_X10_behind C) (fun q h => by cases h) 34 0 _ _ _ _ ((eq_X10_behind _ _ _ _).trans h) hR
      · cases h
    · cases h
/-! AlikeSteps.signs(II)J -/
abbrev c_X10_signs : ByteArray := prog_1_method_19_code
def y_X10_signs : MethodName := ⟨RX10, "signs", "(II)J"⟩
noncomputable def F_X10_signs (x1 : Int32) (x2 : Int32) (m : pj_M) : Option (Int64 × pj_M) := ((F_X10_within x1 0 2 m).bind fun q1 => (if q1.1 = 0 then (some ((-1000001), q1.2)) else ((F_X4_hasState 7 x2 q1.2).bind fun q2 => (if q2.1 = 0 then (some ((-1000001), q2.2)) else ((F_X1_parting 19 7 x1 q2.2).bind fun q3 => ((F_X5_lastSigns q3.1 x2 q3.2).bind fun q4 => (some (q4.1, q4.2))))))))
noncomputable def W_X10_signs : List pj_V → pj_M → Option (Int64 × pj_M) := fun as m => match as with
  | [.inr (.inr (t0, w0, a0)), .inl x1, .inl x2] => (match Nat.beq t0 0 && (Nat.beq w0 10 && (Nat.beq a0 0)) with
    | true => F_X10_signs x1 x2 m
    | false => none)
  | _ => none
noncomputable def tb_X10_signs_0 : List (Nat × pj_T (Int64 × pj_M)) := [(0, qs_ldi 1 1), (1, qs_ci 0 2), (2, qs_ci 2 3), (3, qs_sI 3 W_X10_within 6), (6, qs_ifeq 20 9), (9, qs_lda 0 10), (10, qs_gf 10 2 13), (13, qs_ldi 2 14), (14, qs_vI 4 2 W_X4_hasState 17), (17, qs_ifne 24 20), (20, qs_cl (-1000001) 23), (23, qs_lret), (24, qs_lda 0 25), (25, qs_gf 10 7 28), (28, qs_lda 0 29), (29, qs_gf 10 2 32), (32, qs_ldi 1 33), (33, qs_vR 5 1 3 W_X1_parting 36), (36, qs_ldi 2 37), (37, qs_vL 5 2 W_X5_lastSigns 40), (40, qs_lret)]
noncomputable abbrev tb_X10_signs : List (Nat × pj_T (Int64 × pj_M)) := tb_X10_signs_0
theorem mv_X10_signs : pj_mv y_X10_signs c_X10_signs 3 (some .long) 2 := ⟨⟨cw_762, cw_760, cw_761, cw_81⟩, by decide +kernel, by decide⟩
set_option maxRecDepth 20000 in
theorem sd_X10_signs_0 {G : pj_E} {A : Nat → Prop} {P : pj_P} {S : pj_U} {Z : pj_Z} (C : pj_C (G, A, (c_X10_signs, y_X10_signs.cls, 3, (some .long), 7), P, S, Z)) : ∀ q ∈ tb_X10_signs_0, pj_S (G, A, (c_X10_signs, y_X10_signs.cls, 3, (some .long), 7), P, S, Z) pj_eL q.1 q.2 :=
  List.forall_mem_cons.mpr ⟨qz_iload_n C (show decode c_X10_signs 0 = .ok (.iload_n 1, 1) by decide +kernel) rfl,
  List.forall_mem_cons.mpr ⟨qz_iconst C (show decode c_X10_signs 1 = .ok (.iconst 0, 1) by decide +kernel) (by decide +kernel),
  List.forall_mem_cons.mpr ⟨qz_iconst C (show decode c_X10_signs 2 = .ok (.iconst 2, 1) by decide +kernel) (by decide +kernel),
  List.forall_mem_cons.mpr ⟨qz_sI C (show decode c_X10_signs 3 = .ok (.invokestatic 91, 3) by decide +kernel) ct_X10_within mv_X10_within (Or.inl cw_361) (show 1 < 7 by omega),
  List.forall_mem_cons.mpr ⟨qz_ifeq C (show decode c_X10_signs 6 = .ok (.ifCond .eq 14, 3) by decide +kernel) (by decide),
  List.forall_mem_cons.mpr ⟨qz_aload_n C (show decode c_X10_signs 9 = .ok (.aload_n 0, 1) by decide +kernel) rfl,
  List.forall_mem_cons.mpr ⟨qz_gf (k := 2) C (show decode c_X10_signs 10 = .ok (.getfield 26, 3) by decide +kernel) vcX10 wiX10 (by decide) cw_313,
  List.forall_mem_cons.mpr ⟨qz_iload_n C (show decode c_X10_signs 13 = .ok (.iload_n 2, 1) by decide +kernel) rfl,
  List.forall_mem_cons.mpr ⟨qz_vI C (show decode c_X10_signs 14 = .ok (.invokevirtual 160, 3) by decide +kernel) ct_X4_hasState mv_X4_hasState cw_538 vcX4 (show 1 < 7 by omega),
  List.forall_mem_cons.mpr ⟨qz_ifne C (show decode c_X10_signs 17 = .ok (.ifCond .ne 7, 3) by decide +kernel) (by decide),
  List.forall_mem_cons.mpr ⟨qz_ldc2 C (show decode c_X10_signs 20 = .ok (.ldc2_w 239, 3) by decide +kernel) cw_763,
  List.forall_mem_cons.mpr ⟨qz_lret C (show decode c_X10_signs 23 = .ok (.lreturn, 1) by decide +kernel) rfl,
  List.forall_mem_cons.mpr ⟨qz_aload_n C (show decode c_X10_signs 24 = .ok (.aload_n 0, 1) by decide +kernel) rfl,
  List.forall_mem_cons.mpr ⟨qz_gf (k := 7) C (show decode c_X10_signs 25 = .ok (.getfield 50, 3) by decide +kernel) vcX10 wiX10 (by decide) cw_318,
  List.forall_mem_cons.mpr ⟨qz_aload_n C (show decode c_X10_signs 28 = .ok (.aload_n 0, 1) by decide +kernel) rfl,
  List.forall_mem_cons.mpr ⟨qz_gf (k := 2) C (show decode c_X10_signs 29 = .ok (.getfield 26, 3) by decide +kernel) vcX10 wiX10 (by decide) cw_313,
  List.forall_mem_cons.mpr ⟨qz_iload_n C (show decode c_X10_signs 32 = .ok (.iload_n 1, 1) by decide +kernel) rfl,
  List.forall_mem_cons.mpr ⟨qz_vR C (show decode c_X10_signs 33 = .ok (.invokevirtual 218, 3) by decide +kernel) ct_X1_parting mv_X1_parting cw_686 vcX1 (show 6 < 7 by omega),
  List.forall_mem_cons.mpr ⟨qz_iload_n C (show decode c_X10_signs 36 = .ok (.iload_n 2, 1) by decide +kernel) rfl,
  List.forall_mem_cons.mpr ⟨qz_vL C (show decode c_X10_signs 37 = .ok (.invokevirtual 241, 3) by decide +kernel) ct_X5_lastSigns mv_X5_lastSigns cw_764 vcX5 (show 1 < 7 by omega),
  List.forall_mem_cons.mpr ⟨qz_lret C (show decode c_X10_signs 40 = .ok (.lreturn, 1) by decide +kernel) rfl,
  (fun q h => by cases h)⟩⟩⟩⟩⟩⟩⟩⟩⟩⟩⟩⟩⟩⟩⟩⟩⟩⟩⟩⟩⟩
theorem sd_X10_signs {G : pj_E} {A : Nat → Prop} {P : pj_P} {S : pj_U} {Z : pj_Z} (C : pj_C (G, A, (c_X10_signs, y_X10_signs.cls, 3, (some .long), 7), P, S, Z)) : ∀ q ∈ tb_X10_signs, pj_S (G, A, (c_X10_signs, y_X10_signs.cls, 3, (some .long), 7), P, S, Z) pj_eL q.1 q.2 := sd_X10_signs_0 C
set_option maxRecDepth 20000 in
theorem eq_X10_signs (x1 : Int32) (x2 : Int32) (m : pj_M) : pj_run tb_X10_signs [] 23 0 [some (.inr (.inr (0, 10, 0))), some (.inl x1), some (.inl x2)] [] m = F_X10_signs x1 x2 m := by rfl
theorem ct_X10_signs : pj_Ct pj_eL y_X10_signs c_X10_signs 3 (some .long) 7 W_X10_signs := by
  refine pj_ct_of (by decide +kernel) ?_ ?_
  · intro as m r h
    unfold W_X10_signs at h
    split at h
    · simp [pj_l0]
    · cases h
  · intro G A P S Z C as m r h hR
    unfold W_X10_signs at h
    split at h
    · split at h
      · rename_i hbq
        simp only [Bool.and_eq_true, Nat.beq_eq] at hbq
        obtain ⟨rfl, rfl, rfl⟩ := hbq
        exact pj_run_ok (sd_X10_signs C) (fun q h => by cases h) 23 0 _ _ _ _ ((eq_X10_signs _ _ _).trans h) hR
      · cases h
    · cases h
/-! AlikeSteps.parted(III)I -/
abbrev c_X10_parted : ByteArray := prog_1_method_20_code
def y_X10_parted : MethodName := ⟨RX10, "parted", "(III)I"⟩
noncomputable def F_X10_parted (x1 : Int32) (x2 : Int32) (x3 : Int32) (m : pj_M) : Option (Int32 × pj_M) := ((F_X10_within x1 0 3 m).bind fun q1 => (if q1.1 = 0 then (some ((-1000001), q1.2)) else ((F_X4_hasState 7 x2 q1.2).bind fun q2 => (if q2.1 = 0 then (some ((-1000001), q2.2)) else ((F_X4_hasState 7 x3 q2.2).bind fun q3 => (if q3.1 = 0 then (some ((-1000001), q3.2)) else ((F_X1_parting 19 7 x1 q3.2).bind fun q4 => ((F_X5_roundOf q4.1 x2 x3 q4.2).bind fun q5 => (some (q5.1, q5.2))))))))))
noncomputable def W_X10_parted : List pj_V → pj_M → Option (Int32 × pj_M) := fun as m => match as with
  | [.inr (.inr (t0, w0, a0)), .inl x1, .inl x2, .inl x3] => (match Nat.beq t0 0 && (Nat.beq w0 10 && (Nat.beq a0 0)) with
    | true => F_X10_parted x1 x2 x3 m
    | false => none)
  | _ => none
noncomputable def tb_X10_parted_0 : List (Nat × pj_T (Int32 × pj_M)) := [(0, qs_ldi 1 1), (1, qs_ci 0 2), (2, qs_ci 3 3), (3, qs_sI 3 W_X10_within 6), (6, qs_ifeq 31 9), (9, qs_lda 0 10), (10, qs_gf 10 2 13), (13, qs_ldi 2 14), (14, qs_vI 4 2 W_X4_hasState 17), (17, qs_ifeq 31 20), (20, qs_lda 0 21), (21, qs_gf 10 2 24), (24, qs_ldi 3 25), (25, qs_vI 4 2 W_X4_hasState 28), (28, qs_ifne 34 31), (31, qs_ci (-1000001) 33), (33, qs_iret), (34, qs_lda 0 35), (35, qs_gf 10 7 38), (38, qs_lda 0 39), (39, qs_gf 10 2 42), (42, qs_ldi 1 43), (43, qs_vR 5 1 3 W_X1_parting 46), (46, qs_ldi 2 47), (47, qs_ldi 3 48), (48, qs_vI 5 3 W_X5_roundOf 51), (51, qs_iret)]
noncomputable abbrev tb_X10_parted : List (Nat × pj_T (Int32 × pj_M)) := tb_X10_parted_0
theorem mv_X10_parted : pj_mv y_X10_parted c_X10_parted 4 (some .int) 3 := ⟨⟨cw_771, cw_769, cw_770, cw_81⟩, by decide +kernel, by decide⟩
set_option maxRecDepth 20000 in
theorem sd_X10_parted_0 {G : pj_E} {A : Nat → Prop} {P : pj_P} {S : pj_U} {Z : pj_Z} (C : pj_C (G, A, (c_X10_parted, y_X10_parted.cls, 4, (some .int), 7), P, S, Z)) : ∀ q ∈ tb_X10_parted_0, pj_S (G, A, (c_X10_parted, y_X10_parted.cls, 4, (some .int), 7), P, S, Z) pj_eI q.1 q.2 :=
  List.forall_mem_cons.mpr ⟨qz_iload_n C (show decode c_X10_parted 0 = .ok (.iload_n 1, 1) by decide +kernel) rfl,
  List.forall_mem_cons.mpr ⟨qz_iconst C (show decode c_X10_parted 1 = .ok (.iconst 0, 1) by decide +kernel) (by decide +kernel),
  List.forall_mem_cons.mpr ⟨qz_iconst C (show decode c_X10_parted 2 = .ok (.iconst 3, 1) by decide +kernel) (by decide +kernel),
  List.forall_mem_cons.mpr ⟨qz_sI C (show decode c_X10_parted 3 = .ok (.invokestatic 91, 3) by decide +kernel) ct_X10_within mv_X10_within (Or.inl cw_361) (show 1 < 7 by omega),
  List.forall_mem_cons.mpr ⟨qz_ifeq C (show decode c_X10_parted 6 = .ok (.ifCond .eq 25, 3) by decide +kernel) (by decide),
  List.forall_mem_cons.mpr ⟨qz_aload_n C (show decode c_X10_parted 9 = .ok (.aload_n 0, 1) by decide +kernel) rfl,
  List.forall_mem_cons.mpr ⟨qz_gf (k := 2) C (show decode c_X10_parted 10 = .ok (.getfield 26, 3) by decide +kernel) vcX10 wiX10 (by decide) cw_313,
  List.forall_mem_cons.mpr ⟨qz_iload_n C (show decode c_X10_parted 13 = .ok (.iload_n 2, 1) by decide +kernel) rfl,
  List.forall_mem_cons.mpr ⟨qz_vI C (show decode c_X10_parted 14 = .ok (.invokevirtual 160, 3) by decide +kernel) ct_X4_hasState mv_X4_hasState cw_538 vcX4 (show 1 < 7 by omega),
  List.forall_mem_cons.mpr ⟨qz_ifeq C (show decode c_X10_parted 17 = .ok (.ifCond .eq 14, 3) by decide +kernel) (by decide),
  List.forall_mem_cons.mpr ⟨qz_aload_n C (show decode c_X10_parted 20 = .ok (.aload_n 0, 1) by decide +kernel) rfl,
  List.forall_mem_cons.mpr ⟨qz_gf (k := 2) C (show decode c_X10_parted 21 = .ok (.getfield 26, 3) by decide +kernel) vcX10 wiX10 (by decide) cw_313,
  List.forall_mem_cons.mpr ⟨qz_iload_n C (show decode c_X10_parted 24 = .ok (.iload_n 3, 1) by decide +kernel) rfl,
  List.forall_mem_cons.mpr ⟨qz_vI C (show decode c_X10_parted 25 = .ok (.invokevirtual 160, 3) by decide +kernel) ct_X4_hasState mv_X4_hasState cw_538 vcX4 (show 1 < 7 by omega),
  List.forall_mem_cons.mpr ⟨qz_ifne C (show decode c_X10_parted 28 = .ok (.ifCond .ne 6, 3) by decide +kernel) (by decide),
  List.forall_mem_cons.mpr ⟨qz_ldc C (show decode c_X10_parted 31 = .ok (.ldc 95, 2) by decide +kernel) cw_364,
  List.forall_mem_cons.mpr ⟨qz_iret C (show decode c_X10_parted 33 = .ok (.ireturn, 1) by decide +kernel) rfl,
  List.forall_mem_cons.mpr ⟨qz_aload_n C (show decode c_X10_parted 34 = .ok (.aload_n 0, 1) by decide +kernel) rfl,
  List.forall_mem_cons.mpr ⟨qz_gf (k := 7) C (show decode c_X10_parted 35 = .ok (.getfield 50, 3) by decide +kernel) vcX10 wiX10 (by decide) cw_318,
  List.forall_mem_cons.mpr ⟨qz_aload_n C (show decode c_X10_parted 38 = .ok (.aload_n 0, 1) by decide +kernel) rfl,
  List.forall_mem_cons.mpr ⟨qz_gf (k := 2) C (show decode c_X10_parted 39 = .ok (.getfield 26, 3) by decide +kernel) vcX10 wiX10 (by decide) cw_313,
  List.forall_mem_cons.mpr ⟨qz_iload_n C (show decode c_X10_parted 42 = .ok (.iload_n 1, 1) by decide +kernel) rfl,
  List.forall_mem_cons.mpr ⟨qz_vR C (show decode c_X10_parted 43 = .ok (.invokevirtual 218, 3) by decide +kernel) ct_X1_parting mv_X1_parting cw_686 vcX1 (show 6 < 7 by omega),
  List.forall_mem_cons.mpr ⟨qz_iload_n C (show decode c_X10_parted 46 = .ok (.iload_n 2, 1) by decide +kernel) rfl,
  List.forall_mem_cons.mpr ⟨qz_iload_n C (show decode c_X10_parted 47 = .ok (.iload_n 3, 1) by decide +kernel) rfl,
  List.forall_mem_cons.mpr ⟨qz_vI C (show decode c_X10_parted 48 = .ok (.invokevirtual 245, 3) by decide +kernel) ct_X5_roundOf mv_X5_roundOf cw_772 vcX5 (show 2 < 7 by omega),
  List.forall_mem_cons.mpr ⟨qz_iret C (show decode c_X10_parted 51 = .ok (.ireturn, 1) by decide +kernel) rfl,
  (fun q h => by cases h)⟩⟩⟩⟩⟩⟩⟩⟩⟩⟩⟩⟩⟩⟩⟩⟩⟩⟩⟩⟩⟩⟩⟩⟩⟩⟩⟩
theorem sd_X10_parted {G : pj_E} {A : Nat → Prop} {P : pj_P} {S : pj_U} {Z : pj_Z} (C : pj_C (G, A, (c_X10_parted, y_X10_parted.cls, 4, (some .int), 7), P, S, Z)) : ∀ q ∈ tb_X10_parted, pj_S (G, A, (c_X10_parted, y_X10_parted.cls, 4, (some .int), 7), P, S, Z) pj_eI q.1 q.2 := sd_X10_parted_0 C
set_option maxRecDepth 20000 in
theorem eq_X10_parted (x1 : Int32) (x2 : Int32) (x3 : Int32) (m : pj_M) : pj_run tb_X10_parted [] 29 0 [some (.inr (.inr (0, 10, 0))), some (.inl x1), some (.inl x2), some (.inl x3)] [] m = F_X10_parted x1 x2 x3 m := by rfl
theorem ct_X10_parted : pj_Ct pj_eI y_X10_parted c_X10_parted 4 (some .int) 7 W_X10_parted := by
  refine pj_ct_of (by decide +kernel) ?_ ?_
  · intro as m r h
    unfold W_X10_parted at h
    split at h
    · simp [pj_l0]
    · cases h
  · intro G A P S Z C as m r h hR
    unfold W_X10_parted at h
    split at h
    · split at h
      · rename_i hbq
        simp only [Bool.and_eq_true, Nat.beq_eq] at hbq
        obtain ⟨rfl, rfl, rfl⟩ := hbq
        exact pj_run_ok (sd_X10_parted C) (fun q h => by cases h) 29 0 _ _ _ _ ((eq_X10_parted _ _ _ _).trans h) hR
      · cases h
    · cases h
/-! AlikeSteps.tells(IIII)I -/
abbrev c_X10_tells : ByteArray := prog_1_method_21_code
def y_X10_tells : MethodName := ⟨RX10, "tells", "(IIII)I"⟩
noncomputable def F_X10_tells (x1 : Int32) (x2 : Int32) (x3 : Int32) (x4 : Int32) (m : pj_M) : Option (Int32 × pj_M) := ((F_X10_within x1 0 1 m).bind fun q1 => (if q1.1 = 0 then (some ((-1000001), q1.2)) else ((F_X4_hasState 7 x2 q1.2).bind fun q2 => (if q2.1 = 0 then (some ((-1000001), q2.2)) else ((F_X4_hasState 7 x3 q2.2).bind fun q3 => (if q3.1 = 0 then (some ((-1000001), q3.2)) else ((F_X10_within x4 (-1) 9998 q3.2).bind fun q4 => (if q4.1 = 0 then (some ((-1000001), q4.2)) else ((F_X1_parting 19 7 x1 q4.2).bind fun q5 => ((F_X5_roundOf q5.1 x2 x3 q5.2).bind fun q6 => (if q6.1 = (-1000000) then (some ((-1000000), q6.2)) else (if x1 < 0 ∨ 2 ≤ x1.toNatClampNeg then none else ((F_X1_steps 19 7 q6.2).bind fun q7 => ((F_X1_parting 19 7 x1 q7.2).bind fun q8 => ((F_X9_follow (64 + 4 * x1.toNatClampNeg) 7 q7.1 q8.1 q8.2).bind fun q9 => ((F_X9_sizeOf (64 + 4 * x1.toNatClampNeg) x2 x3 q9).bind fun q10 => (if x4 < 0 then (some ((if 9999 < q10.1 then 9999 else q10.1).toInt32, q10.2)) else (if (lg_cmp x4.toInt64 q10.1) < 0 then ((F_X1_steps 19 7 q10.2).bind fun q11 => ((F_X9_codeAt (64 + 4 * x1.toNatClampNeg) q11.1 x2 x3 x4 q11.2).bind fun q12 => (some (q12.1, q12.2)))) else (some ((-1000000), q10.2))))))))))))))))))))
noncomputable def W_X10_tells : List pj_V → pj_M → Option (Int32 × pj_M) := fun as m => match as with
  | [.inr (.inr (t0, w0, a0)), .inl x1, .inl x2, .inl x3, .inl x4] => (match Nat.beq t0 0 && (Nat.beq w0 10 && (Nat.beq a0 0)) with
    | true => F_X10_tells x1 x2 x3 x4 m
    | false => none)
  | _ => none
noncomputable def tb_X10_tells_0 : List (Nat × pj_T (Int32 × pj_M)) := [(0, qs_ldi 1 1), (1, qs_ci 0 2), (2, qs_ci 1 3), (3, qs_sI 3 W_X10_within 6), (6, qs_ifeq 43 9), (9, qs_lda 0 10), (10, qs_gf 10 2 13), (13, qs_ldi 2 14), (14, qs_vI 4 2 W_X4_hasState 17), (17, qs_ifeq 43 20), (20, qs_lda 0 21), (21, qs_gf 10 2 24), (24, qs_ldi 3 25), (25, qs_vI 4 2 W_X4_hasState 28), (28, qs_ifeq 43 31), (31, qs_ldi 4 33), (33, qs_ci (-1) 34), (34, qs_ci 9998 37), (37, qs_sI 3 W_X10_within 40), (40, qs_ifne 46 43), (43, qs_ci (-1000001) 45), (45, qs_iret), (46, qs_lda 0 47), (47, qs_gf 10 7 50), (50, qs_lda 0 51), (51, qs_gf 10 2 54), (54, qs_ldi 1 55), (55, qs_vR 5 1 3 W_X1_parting 58), (58, qs_ldi 2 59), (59, qs_ldi 3 60), (60, qs_vI 5 3 W_X5_roundOf 63), (63, qs_ci (-1000000) 65), (65, qs_icne 71 68), (68, qs_ci (-1000000) 70), (70, qs_iret), (71, qs_lda 0 72), (72, qs_gf 10 9 75), (75, qs_ldi 1 76), (76, qs_aald 77), (77, qs_sta 5 79)]
noncomputable def tb_X10_tells_1 : List (Nat × pj_T (Int32 × pj_M)) := [(79, qs_lda 5 81), (81, qs_lda 0 82), (82, qs_gf 10 2 85), (85, qs_lda 0 86), (86, qs_gf 10 7 89), (89, qs_lda 0 90), (90, qs_gf 10 2 93), (93, qs_vR 7 1 2 W_X1_steps 96), (96, qs_lda 0 97), (97, qs_gf 10 7 100), (100, qs_lda 0 101), (101, qs_gf 10 2 104), (104, qs_ldi 1 105), (105, qs_vR 5 1 3 W_X1_parting 108), (108, qs_vV 9 4 W_X9_follow 111), (111, qs_lda 5 113), (113, qs_ldi 2 114), (114, qs_ldi 3 115), (115, qs_vL 9 3 W_X9_sizeOf 118), (118, qs_stl 6 120), (120, qs_ldi 4 122), (122, qs_ifge 135 125), (125, qs_ldl 6 127), (127, qs_cl 9999 130), (130, qs_lmin 133), (133, qs_l2i 134), (134, qs_iret), (135, qs_ldi 4 137), (137, qs_i2l 138), (138, qs_ldl 6 140), (140, qs_lcmp 141), (141, qs_ifge 167 144), (144, qs_lda 5 146), (146, qs_lda 0 147), (147, qs_gf 10 7 150), (150, qs_lda 0 151), (151, qs_gf 10 2 154), (154, qs_vR 7 1 2 W_X1_steps 157), (157, qs_ldi 2 158), (158, qs_ldi 3 159)]
noncomputable def tb_X10_tells_2 : List (Nat × pj_T (Int32 × pj_M)) := [(159, qs_ldi 4 161), (161, qs_vI 9 5 W_X9_codeAt 164), (164, qs_go 169), (167, qs_ci (-1000000) 169), (169, qs_iret)]
noncomputable def tb_X10_tells : List (Nat × pj_T (Int32 × pj_M)) := tb_X10_tells_0 ++ (tb_X10_tells_1 ++ (tb_X10_tells_2))
theorem mv_X10_tells : pj_mv y_X10_tells c_X10_tells 8 (some .int) 4 := ⟨⟨cw_780, cw_778, cw_779, cw_81⟩, by decide +kernel, by decide⟩
set_option maxRecDepth 20000 in
theorem sd_X10_tells_0 {G : pj_E} {A : Nat → Prop} {P : pj_P} {S : pj_U} {Z : pj_Z} (C : pj_C (G, A, (c_X10_tells, y_X10_tells.cls, 8, (some .int), 7), P, S, Z)) : ∀ q ∈ tb_X10_tells_0, pj_S (G, A, (c_X10_tells, y_X10_tells.cls, 8, (some .int), 7), P, S, Z) pj_eI q.1 q.2 :=
  List.forall_mem_cons.mpr ⟨qz_iload_n C (show decode c_X10_tells 0 = .ok (.iload_n 1, 1) by decide +kernel) rfl,
  List.forall_mem_cons.mpr ⟨qz_iconst C (show decode c_X10_tells 1 = .ok (.iconst 0, 1) by decide +kernel) (by decide +kernel),
  List.forall_mem_cons.mpr ⟨qz_iconst C (show decode c_X10_tells 2 = .ok (.iconst 1, 1) by decide +kernel) (by decide +kernel),
  List.forall_mem_cons.mpr ⟨qz_sI C (show decode c_X10_tells 3 = .ok (.invokestatic 91, 3) by decide +kernel) ct_X10_within mv_X10_within (Or.inl cw_361) (show 1 < 7 by omega),
  List.forall_mem_cons.mpr ⟨qz_ifeq C (show decode c_X10_tells 6 = .ok (.ifCond .eq 37, 3) by decide +kernel) (by decide),
  List.forall_mem_cons.mpr ⟨qz_aload_n C (show decode c_X10_tells 9 = .ok (.aload_n 0, 1) by decide +kernel) rfl,
  List.forall_mem_cons.mpr ⟨qz_gf (k := 2) C (show decode c_X10_tells 10 = .ok (.getfield 26, 3) by decide +kernel) vcX10 wiX10 (by decide) cw_313,
  List.forall_mem_cons.mpr ⟨qz_iload_n C (show decode c_X10_tells 13 = .ok (.iload_n 2, 1) by decide +kernel) rfl,
  List.forall_mem_cons.mpr ⟨qz_vI C (show decode c_X10_tells 14 = .ok (.invokevirtual 160, 3) by decide +kernel) ct_X4_hasState mv_X4_hasState cw_538 vcX4 (show 1 < 7 by omega),
  List.forall_mem_cons.mpr ⟨qz_ifeq C (show decode c_X10_tells 17 = .ok (.ifCond .eq 26, 3) by decide +kernel) (by decide),
  List.forall_mem_cons.mpr ⟨qz_aload_n C (show decode c_X10_tells 20 = .ok (.aload_n 0, 1) by decide +kernel) rfl,
  List.forall_mem_cons.mpr ⟨qz_gf (k := 2) C (show decode c_X10_tells 21 = .ok (.getfield 26, 3) by decide +kernel) vcX10 wiX10 (by decide) cw_313,
  List.forall_mem_cons.mpr ⟨qz_iload_n C (show decode c_X10_tells 24 = .ok (.iload_n 3, 1) by decide +kernel) rfl,
  List.forall_mem_cons.mpr ⟨qz_vI C (show decode c_X10_tells 25 = .ok (.invokevirtual 160, 3) by decide +kernel) ct_X4_hasState mv_X4_hasState cw_538 vcX4 (show 1 < 7 by omega),
  List.forall_mem_cons.mpr ⟨qz_ifeq C (show decode c_X10_tells 28 = .ok (.ifCond .eq 15, 3) by decide +kernel) (by decide),
  List.forall_mem_cons.mpr ⟨qz_iload C (show decode c_X10_tells 31 = .ok (.iload 4, 2) by decide +kernel),
  List.forall_mem_cons.mpr ⟨qz_iconst C (show decode c_X10_tells 33 = .ok (.iconst (-1), 1) by decide +kernel) (by decide +kernel),
  List.forall_mem_cons.mpr ⟨qz_sipush C (show decode c_X10_tells 34 = .ok (.sipush 9998, 3) by decide +kernel) (by decide +kernel),
  List.forall_mem_cons.mpr ⟨qz_sI C (show decode c_X10_tells 37 = .ok (.invokestatic 91, 3) by decide +kernel) ct_X10_within mv_X10_within (Or.inl cw_361) (show 1 < 7 by omega),
  List.forall_mem_cons.mpr ⟨qz_ifne C (show decode c_X10_tells 40 = .ok (.ifCond .ne 6, 3) by decide +kernel) (by decide),
  List.forall_mem_cons.mpr ⟨qz_ldc C (show decode c_X10_tells 43 = .ok (.ldc 95, 2) by decide +kernel) cw_364,
  List.forall_mem_cons.mpr ⟨qz_iret C (show decode c_X10_tells 45 = .ok (.ireturn, 1) by decide +kernel) rfl,
  List.forall_mem_cons.mpr ⟨qz_aload_n C (show decode c_X10_tells 46 = .ok (.aload_n 0, 1) by decide +kernel) rfl,
  List.forall_mem_cons.mpr ⟨qz_gf (k := 7) C (show decode c_X10_tells 47 = .ok (.getfield 50, 3) by decide +kernel) vcX10 wiX10 (by decide) cw_318,
  List.forall_mem_cons.mpr ⟨qz_aload_n C (show decode c_X10_tells 50 = .ok (.aload_n 0, 1) by decide +kernel) rfl,
  List.forall_mem_cons.mpr ⟨qz_gf (k := 2) C (show decode c_X10_tells 51 = .ok (.getfield 26, 3) by decide +kernel) vcX10 wiX10 (by decide) cw_313,
  List.forall_mem_cons.mpr ⟨qz_iload_n C (show decode c_X10_tells 54 = .ok (.iload_n 1, 1) by decide +kernel) rfl,
  List.forall_mem_cons.mpr ⟨qz_vR C (show decode c_X10_tells 55 = .ok (.invokevirtual 218, 3) by decide +kernel) ct_X1_parting mv_X1_parting cw_686 vcX1 (show 6 < 7 by omega),
  List.forall_mem_cons.mpr ⟨qz_iload_n C (show decode c_X10_tells 58 = .ok (.iload_n 2, 1) by decide +kernel) rfl,
  List.forall_mem_cons.mpr ⟨qz_iload_n C (show decode c_X10_tells 59 = .ok (.iload_n 3, 1) by decide +kernel) rfl,
  List.forall_mem_cons.mpr ⟨qz_vI C (show decode c_X10_tells 60 = .ok (.invokevirtual 245, 3) by decide +kernel) ct_X5_roundOf mv_X5_roundOf cw_772 vcX5 (show 2 < 7 by omega),
  List.forall_mem_cons.mpr ⟨qz_ldc C (show decode c_X10_tells 63 = .ok (.ldc 248, 2) by decide +kernel) cw_781,
  List.forall_mem_cons.mpr ⟨qz_icne C (show decode c_X10_tells 65 = .ok (.if_icmp .ne 6, 3) by decide +kernel) (by decide),
  List.forall_mem_cons.mpr ⟨qz_ldc C (show decode c_X10_tells 68 = .ok (.ldc 248, 2) by decide +kernel) cw_781,
  List.forall_mem_cons.mpr ⟨qz_iret C (show decode c_X10_tells 70 = .ok (.ireturn, 1) by decide +kernel) rfl,
  List.forall_mem_cons.mpr ⟨qz_aload_n C (show decode c_X10_tells 71 = .ok (.aload_n 0, 1) by decide +kernel) rfl,
  List.forall_mem_cons.mpr ⟨qz_gf (k := 9) C (show decode c_X10_tells 72 = .ok (.getfield 59, 3) by decide +kernel) vcX10 wiX10 (by decide) cw_320,
  List.forall_mem_cons.mpr ⟨qz_iload_n C (show decode c_X10_tells 75 = .ok (.iload_n 1, 1) by decide +kernel) rfl,
  List.forall_mem_cons.mpr ⟨qz_aald C (show decode c_X10_tells 76 = .ok (.aaload, 1) by decide +kernel),
  List.forall_mem_cons.mpr ⟨qz_astore C (show decode c_X10_tells 77 = .ok (.astore 5, 2) by decide +kernel),
  (fun q h => by cases h)⟩⟩⟩⟩⟩⟩⟩⟩⟩⟩⟩⟩⟩⟩⟩⟩⟩⟩⟩⟩⟩⟩⟩⟩⟩⟩⟩⟩⟩⟩⟩⟩⟩⟩⟩⟩⟩⟩⟩⟩
set_option maxRecDepth 20000 in
theorem sd_X10_tells_1 {G : pj_E} {A : Nat → Prop} {P : pj_P} {S : pj_U} {Z : pj_Z} (C : pj_C (G, A, (c_X10_tells, y_X10_tells.cls, 8, (some .int), 7), P, S, Z)) : ∀ q ∈ tb_X10_tells_1, pj_S (G, A, (c_X10_tells, y_X10_tells.cls, 8, (some .int), 7), P, S, Z) pj_eI q.1 q.2 :=
  List.forall_mem_cons.mpr ⟨qz_aload C (show decode c_X10_tells 79 = .ok (.aload 5, 2) by decide +kernel),
  List.forall_mem_cons.mpr ⟨qz_aload_n C (show decode c_X10_tells 81 = .ok (.aload_n 0, 1) by decide +kernel) rfl,
  List.forall_mem_cons.mpr ⟨qz_gf (k := 2) C (show decode c_X10_tells 82 = .ok (.getfield 26, 3) by decide +kernel) vcX10 wiX10 (by decide) cw_313,
  List.forall_mem_cons.mpr ⟨qz_aload_n C (show decode c_X10_tells 85 = .ok (.aload_n 0, 1) by decide +kernel) rfl,
  List.forall_mem_cons.mpr ⟨qz_gf (k := 7) C (show decode c_X10_tells 86 = .ok (.getfield 50, 3) by decide +kernel) vcX10 wiX10 (by decide) cw_318,
  List.forall_mem_cons.mpr ⟨qz_aload_n C (show decode c_X10_tells 89 = .ok (.aload_n 0, 1) by decide +kernel) rfl,
  List.forall_mem_cons.mpr ⟨qz_gf (k := 2) C (show decode c_X10_tells 90 = .ok (.getfield 26, 3) by decide +kernel) vcX10 wiX10 (by decide) cw_313,
  List.forall_mem_cons.mpr ⟨qz_vR C (show decode c_X10_tells 93 = .ok (.invokevirtual 209, 3) by decide +kernel) ct_X1_steps mv_X1_steps cw_630 vcX1 (show 5 < 7 by omega),
  List.forall_mem_cons.mpr ⟨qz_aload_n C (show decode c_X10_tells 96 = .ok (.aload_n 0, 1) by decide +kernel) rfl,
  List.forall_mem_cons.mpr ⟨qz_gf (k := 7) C (show decode c_X10_tells 97 = .ok (.getfield 50, 3) by decide +kernel) vcX10 wiX10 (by decide) cw_318,
  List.forall_mem_cons.mpr ⟨qz_aload_n C (show decode c_X10_tells 100 = .ok (.aload_n 0, 1) by decide +kernel) rfl,
  List.forall_mem_cons.mpr ⟨qz_gf (k := 2) C (show decode c_X10_tells 101 = .ok (.getfield 26, 3) by decide +kernel) vcX10 wiX10 (by decide) cw_313,
  List.forall_mem_cons.mpr ⟨qz_iload_n C (show decode c_X10_tells 104 = .ok (.iload_n 1, 1) by decide +kernel) rfl,
  List.forall_mem_cons.mpr ⟨qz_vR C (show decode c_X10_tells 105 = .ok (.invokevirtual 218, 3) by decide +kernel) ct_X1_parting mv_X1_parting cw_686 vcX1 (show 6 < 7 by omega),
  List.forall_mem_cons.mpr ⟨qz_vV C (show decode c_X10_tells 108 = .ok (.invokevirtual 249, 3) by decide +kernel) ct_X9_follow mv_X9_follow cw_782 vcX9 (show 5 < 7 by omega),
  List.forall_mem_cons.mpr ⟨qz_aload C (show decode c_X10_tells 111 = .ok (.aload 5, 2) by decide +kernel),
  List.forall_mem_cons.mpr ⟨qz_iload_n C (show decode c_X10_tells 113 = .ok (.iload_n 2, 1) by decide +kernel) rfl,
  List.forall_mem_cons.mpr ⟨qz_iload_n C (show decode c_X10_tells 114 = .ok (.iload_n 3, 1) by decide +kernel) rfl,
  List.forall_mem_cons.mpr ⟨qz_vL C (show decode c_X10_tells 115 = .ok (.invokevirtual 253, 3) by decide +kernel) ct_X9_sizeOf mv_X9_sizeOf cw_815 vcX9 (show 1 < 7 by omega),
  List.forall_mem_cons.mpr ⟨qz_lstore C (show decode c_X10_tells 118 = .ok (.lstore 6, 2) by decide +kernel),
  List.forall_mem_cons.mpr ⟨qz_iload C (show decode c_X10_tells 120 = .ok (.iload 4, 2) by decide +kernel),
  List.forall_mem_cons.mpr ⟨qz_ifge C (show decode c_X10_tells 122 = .ok (.ifCond .ge 13, 3) by decide +kernel) (by decide),
  List.forall_mem_cons.mpr ⟨qz_lload C (show decode c_X10_tells 125 = .ok (.lload 6, 2) by decide +kernel),
  List.forall_mem_cons.mpr ⟨qz_ldc2 C (show decode c_X10_tells 127 = .ok (.ldc2_w 257, 3) by decide +kernel) cw_816,
  List.forall_mem_cons.mpr ⟨qz_lmin C (show decode c_X10_tells 130 = .ok (.invokestatic 259, 3) by decide +kernel) cw_817 cw_818 cw_94 cwm_lmin,
  List.forall_mem_cons.mpr ⟨qz_l2i C (show decode c_X10_tells 133 = .ok (.l2i, 1) by decide +kernel),
  List.forall_mem_cons.mpr ⟨qz_iret C (show decode c_X10_tells 134 = .ok (.ireturn, 1) by decide +kernel) rfl,
  List.forall_mem_cons.mpr ⟨qz_iload C (show decode c_X10_tells 135 = .ok (.iload 4, 2) by decide +kernel),
  List.forall_mem_cons.mpr ⟨qz_i2l C (show decode c_X10_tells 137 = .ok (.i2l, 1) by decide +kernel),
  List.forall_mem_cons.mpr ⟨qz_lload C (show decode c_X10_tells 138 = .ok (.lload 6, 2) by decide +kernel),
  List.forall_mem_cons.mpr ⟨qz_lcmp C (show decode c_X10_tells 140 = .ok (.lcmp, 1) by decide +kernel),
  List.forall_mem_cons.mpr ⟨qz_ifge C (show decode c_X10_tells 141 = .ok (.ifCond .ge 26, 3) by decide +kernel) (by decide),
  List.forall_mem_cons.mpr ⟨qz_aload C (show decode c_X10_tells 144 = .ok (.aload 5, 2) by decide +kernel),
  List.forall_mem_cons.mpr ⟨qz_aload_n C (show decode c_X10_tells 146 = .ok (.aload_n 0, 1) by decide +kernel) rfl,
  List.forall_mem_cons.mpr ⟨qz_gf (k := 7) C (show decode c_X10_tells 147 = .ok (.getfield 50, 3) by decide +kernel) vcX10 wiX10 (by decide) cw_318,
  List.forall_mem_cons.mpr ⟨qz_aload_n C (show decode c_X10_tells 150 = .ok (.aload_n 0, 1) by decide +kernel) rfl,
  List.forall_mem_cons.mpr ⟨qz_gf (k := 2) C (show decode c_X10_tells 151 = .ok (.getfield 26, 3) by decide +kernel) vcX10 wiX10 (by decide) cw_313,
  List.forall_mem_cons.mpr ⟨qz_vR C (show decode c_X10_tells 154 = .ok (.invokevirtual 209, 3) by decide +kernel) ct_X1_steps mv_X1_steps cw_630 vcX1 (show 5 < 7 by omega),
  List.forall_mem_cons.mpr ⟨qz_iload_n C (show decode c_X10_tells 157 = .ok (.iload_n 2, 1) by decide +kernel) rfl,
  List.forall_mem_cons.mpr ⟨qz_iload_n C (show decode c_X10_tells 158 = .ok (.iload_n 3, 1) by decide +kernel) rfl,
  (fun q h => by cases h)⟩⟩⟩⟩⟩⟩⟩⟩⟩⟩⟩⟩⟩⟩⟩⟩⟩⟩⟩⟩⟩⟩⟩⟩⟩⟩⟩⟩⟩⟩⟩⟩⟩⟩⟩⟩⟩⟩⟩⟩
set_option maxRecDepth 20000 in
theorem sd_X10_tells_2 {G : pj_E} {A : Nat → Prop} {P : pj_P} {S : pj_U} {Z : pj_Z} (C : pj_C (G, A, (c_X10_tells, y_X10_tells.cls, 8, (some .int), 7), P, S, Z)) : ∀ q ∈ tb_X10_tells_2, pj_S (G, A, (c_X10_tells, y_X10_tells.cls, 8, (some .int), 7), P, S, Z) pj_eI q.1 q.2 :=
  List.forall_mem_cons.mpr ⟨qz_iload C (show decode c_X10_tells 159 = .ok (.iload 4, 2) by decide +kernel),
  List.forall_mem_cons.mpr ⟨qz_vI C (show decode c_X10_tells 161 = .ok (.invokevirtual 262, 3) by decide +kernel) ct_X9_codeAt mv_X9_codeAt cw_820 vcX9 (show 4 < 7 by omega),
  List.forall_mem_cons.mpr ⟨qz_goto C (show decode c_X10_tells 164 = .ok (.goto 5, 3) by decide +kernel) (by decide),
  List.forall_mem_cons.mpr ⟨qz_ldc C (show decode c_X10_tells 167 = .ok (.ldc 248, 2) by decide +kernel) cw_781,
  List.forall_mem_cons.mpr ⟨qz_iret C (show decode c_X10_tells 169 = .ok (.ireturn, 1) by decide +kernel) rfl,
  (fun q h => by cases h)⟩⟩⟩⟩⟩
theorem sd_X10_tells {G : pj_E} {A : Nat → Prop} {P : pj_P} {S : pj_U} {Z : pj_Z} (C : pj_C (G, A, (c_X10_tells, y_X10_tells.cls, 8, (some .int), 7), P, S, Z)) : ∀ q ∈ tb_X10_tells, pj_S (G, A, (c_X10_tells, y_X10_tells.cls, 8, (some .int), 7), P, S, Z) pj_eI q.1 q.2 := List.forall_mem_append.mpr ⟨sd_X10_tells_0 C, List.forall_mem_append.mpr ⟨sd_X10_tells_1 C, sd_X10_tells_2 C⟩⟩
set_option maxRecDepth 20000 in
theorem eq_X10_tells (x1 : Int32) (x2 : Int32) (x3 : Int32) (x4 : Int32) (m : pj_M) : pj_run tb_X10_tells [] 87 0 [some (.inr (.inr (0, 10, 0))), some (.inl x1), some (.inl x2), some (.inl x3), some (.inl x4), none, none, none] [] m = F_X10_tells x1 x2 x3 x4 m := by rfl
theorem ct_X10_tells : pj_Ct pj_eI y_X10_tells c_X10_tells 8 (some .int) 7 W_X10_tells := by
  refine pj_ct_of (by decide +kernel) ?_ ?_
  · intro as m r h
    unfold W_X10_tells at h
    split at h
    · simp [pj_l0]
    · cases h
  · intro G A P S Z C as m r h hR
    unfold W_X10_tells at h
    split at h
    · split at h
      · rename_i hbq
        simp only [Bool.and_eq_true, Nat.beq_eq] at hbq
        obtain ⟨rfl, rfl, rfl⟩ := hbq
        exact pj_run_ok (sd_X10_tells C) (fun q h => by cases h) 87 0 _ _ _ _ ((eq_X10_tells _ _ _ _ _).trans h) hR
      · cases h
    · cases h
/-! AlikeSteps.depth(III)I -/
abbrev c_X10_depth : ByteArray := prog_1_method_22_code
def y_X10_depth : MethodName := ⟨RX10, "depth", "(III)I"⟩
noncomputable def F_X10_depth (x1 : Int32) (x2 : Int32) (x3 : Int32) (m : pj_M) : Option (Int32 × pj_M) := ((F_X10_within x1 0 1 m).bind fun q1 => (if q1.1 = 0 then (some ((-1000001), q1.2)) else ((F_X4_hasState 7 x2 q1.2).bind fun q2 => (if q2.1 = 0 then (some ((-1000001), q2.2)) else ((F_X4_hasState 7 x3 q2.2).bind fun q3 => (if q3.1 = 0 then (some ((-1000001), q3.2)) else ((F_X1_parting 19 7 x1 q3.2).bind fun q4 => ((F_X5_roundOf q4.1 x2 x3 q4.2).bind fun q5 => (some (q5.1, q5.2))))))))))
noncomputable def W_X10_depth : List pj_V → pj_M → Option (Int32 × pj_M) := fun as m => match as with
  | [.inr (.inr (t0, w0, a0)), .inl x1, .inl x2, .inl x3] => (match Nat.beq t0 0 && (Nat.beq w0 10 && (Nat.beq a0 0)) with
    | true => F_X10_depth x1 x2 x3 m
    | false => none)
  | _ => none
noncomputable def tb_X10_depth_0 : List (Nat × pj_T (Int32 × pj_M)) := [(0, qs_ldi 1 1), (1, qs_ci 0 2), (2, qs_ci 1 3), (3, qs_sI 3 W_X10_within 6), (6, qs_ifeq 31 9), (9, qs_lda 0 10), (10, qs_gf 10 2 13), (13, qs_ldi 2 14), (14, qs_vI 4 2 W_X4_hasState 17), (17, qs_ifeq 31 20), (20, qs_lda 0 21), (21, qs_gf 10 2 24), (24, qs_ldi 3 25), (25, qs_vI 4 2 W_X4_hasState 28), (28, qs_ifne 34 31), (31, qs_ci (-1000001) 33), (33, qs_iret), (34, qs_lda 0 35), (35, qs_gf 10 7 38), (38, qs_lda 0 39), (39, qs_gf 10 2 42), (42, qs_ldi 1 43), (43, qs_vR 5 1 3 W_X1_parting 46), (46, qs_ldi 2 47), (47, qs_ldi 3 48), (48, qs_vI 5 3 W_X5_roundOf 51), (51, qs_iret)]
noncomputable abbrev tb_X10_depth : List (Nat × pj_T (Int32 × pj_M)) := tb_X10_depth_0
theorem mv_X10_depth : pj_mv y_X10_depth c_X10_depth 4 (some .int) 3 := ⟨⟨cw_838, cw_836, cw_837, cw_81⟩, by decide +kernel, by decide⟩
set_option maxRecDepth 20000 in
theorem sd_X10_depth_0 {G : pj_E} {A : Nat → Prop} {P : pj_P} {S : pj_U} {Z : pj_Z} (C : pj_C (G, A, (c_X10_depth, y_X10_depth.cls, 4, (some .int), 7), P, S, Z)) : ∀ q ∈ tb_X10_depth_0, pj_S (G, A, (c_X10_depth, y_X10_depth.cls, 4, (some .int), 7), P, S, Z) pj_eI q.1 q.2 :=
  List.forall_mem_cons.mpr ⟨qz_iload_n C (show decode c_X10_depth 0 = .ok (.iload_n 1, 1) by decide +kernel) rfl,
  List.forall_mem_cons.mpr ⟨qz_iconst C (show decode c_X10_depth 1 = .ok (.iconst 0, 1) by decide +kernel) (by decide +kernel),
  List.forall_mem_cons.mpr ⟨qz_iconst C (show decode c_X10_depth 2 = .ok (.iconst 1, 1) by decide +kernel) (by decide +kernel),
  List.forall_mem_cons.mpr ⟨qz_sI C (show decode c_X10_depth 3 = .ok (.invokestatic 91, 3) by decide +kernel) ct_X10_within mv_X10_within (Or.inl cw_361) (show 1 < 7 by omega),
  List.forall_mem_cons.mpr ⟨qz_ifeq C (show decode c_X10_depth 6 = .ok (.ifCond .eq 25, 3) by decide +kernel) (by decide),
  List.forall_mem_cons.mpr ⟨qz_aload_n C (show decode c_X10_depth 9 = .ok (.aload_n 0, 1) by decide +kernel) rfl,
  List.forall_mem_cons.mpr ⟨qz_gf (k := 2) C (show decode c_X10_depth 10 = .ok (.getfield 26, 3) by decide +kernel) vcX10 wiX10 (by decide) cw_313,
  List.forall_mem_cons.mpr ⟨qz_iload_n C (show decode c_X10_depth 13 = .ok (.iload_n 2, 1) by decide +kernel) rfl,
  List.forall_mem_cons.mpr ⟨qz_vI C (show decode c_X10_depth 14 = .ok (.invokevirtual 160, 3) by decide +kernel) ct_X4_hasState mv_X4_hasState cw_538 vcX4 (show 1 < 7 by omega),
  List.forall_mem_cons.mpr ⟨qz_ifeq C (show decode c_X10_depth 17 = .ok (.ifCond .eq 14, 3) by decide +kernel) (by decide),
  List.forall_mem_cons.mpr ⟨qz_aload_n C (show decode c_X10_depth 20 = .ok (.aload_n 0, 1) by decide +kernel) rfl,
  List.forall_mem_cons.mpr ⟨qz_gf (k := 2) C (show decode c_X10_depth 21 = .ok (.getfield 26, 3) by decide +kernel) vcX10 wiX10 (by decide) cw_313,
  List.forall_mem_cons.mpr ⟨qz_iload_n C (show decode c_X10_depth 24 = .ok (.iload_n 3, 1) by decide +kernel) rfl,
  List.forall_mem_cons.mpr ⟨qz_vI C (show decode c_X10_depth 25 = .ok (.invokevirtual 160, 3) by decide +kernel) ct_X4_hasState mv_X4_hasState cw_538 vcX4 (show 1 < 7 by omega),
  List.forall_mem_cons.mpr ⟨qz_ifne C (show decode c_X10_depth 28 = .ok (.ifCond .ne 6, 3) by decide +kernel) (by decide),
  List.forall_mem_cons.mpr ⟨qz_ldc C (show decode c_X10_depth 31 = .ok (.ldc 95, 2) by decide +kernel) cw_364,
  List.forall_mem_cons.mpr ⟨qz_iret C (show decode c_X10_depth 33 = .ok (.ireturn, 1) by decide +kernel) rfl,
  List.forall_mem_cons.mpr ⟨qz_aload_n C (show decode c_X10_depth 34 = .ok (.aload_n 0, 1) by decide +kernel) rfl,
  List.forall_mem_cons.mpr ⟨qz_gf (k := 7) C (show decode c_X10_depth 35 = .ok (.getfield 50, 3) by decide +kernel) vcX10 wiX10 (by decide) cw_318,
  List.forall_mem_cons.mpr ⟨qz_aload_n C (show decode c_X10_depth 38 = .ok (.aload_n 0, 1) by decide +kernel) rfl,
  List.forall_mem_cons.mpr ⟨qz_gf (k := 2) C (show decode c_X10_depth 39 = .ok (.getfield 26, 3) by decide +kernel) vcX10 wiX10 (by decide) cw_313,
  List.forall_mem_cons.mpr ⟨qz_iload_n C (show decode c_X10_depth 42 = .ok (.iload_n 1, 1) by decide +kernel) rfl,
  List.forall_mem_cons.mpr ⟨qz_vR C (show decode c_X10_depth 43 = .ok (.invokevirtual 218, 3) by decide +kernel) ct_X1_parting mv_X1_parting cw_686 vcX1 (show 6 < 7 by omega),
  List.forall_mem_cons.mpr ⟨qz_iload_n C (show decode c_X10_depth 46 = .ok (.iload_n 2, 1) by decide +kernel) rfl,
  List.forall_mem_cons.mpr ⟨qz_iload_n C (show decode c_X10_depth 47 = .ok (.iload_n 3, 1) by decide +kernel) rfl,
  List.forall_mem_cons.mpr ⟨qz_vI C (show decode c_X10_depth 48 = .ok (.invokevirtual 245, 3) by decide +kernel) ct_X5_roundOf mv_X5_roundOf cw_772 vcX5 (show 2 < 7 by omega),
  List.forall_mem_cons.mpr ⟨qz_iret C (show decode c_X10_depth 51 = .ok (.ireturn, 1) by decide +kernel) rfl,
  (fun q h => by cases h)⟩⟩⟩⟩⟩⟩⟩⟩⟩⟩⟩⟩⟩⟩⟩⟩⟩⟩⟩⟩⟩⟩⟩⟩⟩⟩⟩
theorem sd_X10_depth {G : pj_E} {A : Nat → Prop} {P : pj_P} {S : pj_U} {Z : pj_Z} (C : pj_C (G, A, (c_X10_depth, y_X10_depth.cls, 4, (some .int), 7), P, S, Z)) : ∀ q ∈ tb_X10_depth, pj_S (G, A, (c_X10_depth, y_X10_depth.cls, 4, (some .int), 7), P, S, Z) pj_eI q.1 q.2 := sd_X10_depth_0 C
set_option maxRecDepth 20000 in
theorem eq_X10_depth (x1 : Int32) (x2 : Int32) (x3 : Int32) (m : pj_M) : pj_run tb_X10_depth [] 29 0 [some (.inr (.inr (0, 10, 0))), some (.inl x1), some (.inl x2), some (.inl x3)] [] m = F_X10_depth x1 x2 x3 m := by rfl
theorem ct_X10_depth : pj_Ct pj_eI y_X10_depth c_X10_depth 4 (some .int) 7 W_X10_depth := by
  refine pj_ct_of (by decide +kernel) ?_ ?_
  · intro as m r h
    unfold W_X10_depth at h
    split at h
    · simp [pj_l0]
    · cases h
  · intro G A P S Z C as m r h hR
    unfold W_X10_depth at h
    split at h
    · split at h
      · rename_i hbq
        simp only [Bool.and_eq_true, Nat.beq_eq] at hbq
        obtain ⟨rfl, rfl, rfl⟩ := hbq
        exact pj_run_ok (sd_X10_depth C) (fun q h => by cases h) 29 0 _ _ _ _ ((eq_X10_depth _ _ _ _).trans h) hR
      · cases h
    · cases h
/-! AlikeSteps.holds(IIII)I -/
abbrev c_X10_holds : ByteArray := prog_1_method_23_code
def y_X10_holds : MethodName := ⟨RX10, "holds", "(IIII)I"⟩
noncomputable def J_X10_holds_148 (x2 : Int32) (m : pj_M) : Option (Int32 × pj_M) := ((F_X3_isOne m).bind fun q1 => (if q1.1 = 0 then ((F_X10_fine (-1000000) q1.2).bind fun q2 => (some (q2.1, q2.2))) else ((F_X3_answer q1.2).bind fun q3 => ((F_X10_fine ((q3.1 >>> (x2 &&& 31)) &&& 1) q3.2).bind fun q4 => (some (q4.1, q4.2))))))
noncomputable def H_X10_holds_118 : Nat → Int32 → Int32 → Nat → Int32 → pj_M → Option (Int32 × pj_M)
  | 0, _, _, _, _, _ => none
  | n1 + 1, x2, x3, a5, x6, m => (if x6 < 0 then (J_X10_holds_148 x2 m) else ((F_X6_item x3 x6 m).bind fun q1 => ((F_X3_takeBackwards q1.1 a5 q1.2).bind fun q2 => (H_X10_holds_118 n1 x2 x3 a5 (x6 - 1) q2))))
noncomputable def F_X10_holds (x1 : Int32) (x2 : Int32) (x3 : Int32) (x4 : Int32) (m : pj_M) : Option (Int32 × pj_M) := ((F_X10_within x1 0 1 m).bind fun q1 => (if q1.1 = 0 then (some ((-1000001), q1.2)) else ((F_X4_hasState 7 x2 q1.2).bind fun q2 => (if q2.1 = 0 then (some ((-1000001), q2.2)) else ((F_X6_exists x3 q2.2).bind fun q3 => (if q3.1 = 0 then (some ((-1000001), q3.2)) else ((F_X10_within x4 1 30 q3.2).bind fun q4 => (if q4.1 = 0 then (some ((-1000001), q4.2)) else ((F_X6_isMissing x3 q4.2).bind fun q5 => (if q5.1 = 0 then ((F_X6_length x3 q5.2).bind fun q6 => (if q6.1 < x4 then ((F_X10_found 2 q6.2).bind fun q11 => (some (q11.1, q11.2))) else ((F_X1_steps 19 7 q6.2).bind fun q7 => ((F_X4_all 7 q7.2).bind fun q8 => ((F_X4_marked 7 q8.2).bind fun q9 => ((F_X3_begin x1 q8.1 q9.1 q9.2).bind fun q10 => (H_X10_holds_118 pj_z x2 x3 q7.1 (x4 - 1) q10))))))) else ((F_X10_found 1 q5.2).bind fun q12 => (some (q12.1, q12.2)))))))))))))
noncomputable def W_X10_holds : List pj_V → pj_M → Option (Int32 × pj_M) := fun as m => match as with
  | [.inr (.inr (t0, w0, a0)), .inl x1, .inl x2, .inl x3, .inl x4] => (match Nat.beq t0 0 && (Nat.beq w0 10 && (Nat.beq a0 0)) with
    | true => F_X10_holds x1 x2 x3 x4 m
    | false => none)
  | _ => none
noncomputable def tb_X10_holds_0 : List (Nat × pj_T (Int32 × pj_M)) := [(0, qs_ldi 1 1), (1, qs_ci 0 2), (2, qs_ci 1 3), (3, qs_sI 3 W_X10_within 6), (6, qs_ifeq 38 9), (9, qs_lda 0 10), (10, qs_gf 10 2 13), (13, qs_ldi 2 14), (14, qs_vI 4 2 W_X4_hasState 17), (17, qs_ifeq 38 20), (20, qs_ldi 3 21), (21, qs_sI 1 W_X6_exists 24), (24, qs_ifeq 38 27), (27, qs_ldi 4 29), (29, qs_ci 1 30), (30, qs_ci 30 32), (32, qs_sI 3 W_X10_within 35), (35, qs_ifne 41 38), (38, qs_ci (-1000001) 40), (40, qs_iret), (41, qs_lda 0 42), (42, qs_gf 10 0 45), (45, qs_ldi 3 46), (46, qs_vI 6 2 W_X6_isMissing 49), (49, qs_ifeq 58 52), (52, qs_lda 0 53), (53, qs_ci 1 54), (54, qs_vI 10 2 W_X10_found 57), (57, qs_iret), (58, qs_ldi 4 60), (60, qs_lda 0 61), (61, qs_gf 10 0 64), (64, qs_ldi 3 65), (65, qs_vI 6 2 W_X6_length 68), (68, qs_icle 77 71), (71, qs_lda 0 72), (72, qs_ci 2 73), (73, qs_vI 10 2 W_X10_found 76), (76, qs_iret), (77, qs_lda 0 78)]
noncomputable def tb_X10_holds_1 : List (Nat × pj_T (Int32 × pj_M)) := [(78, qs_gf 10 7 81), (81, qs_lda 0 82), (82, qs_gf 10 2 85), (85, qs_vR 7 1 2 W_X1_steps 88), (88, qs_sta 5 90), (90, qs_lda 0 91), (91, qs_gf 10 10 94), (94, qs_ldi 1 95), (95, qs_lda 0 96), (96, qs_gf 10 2 99), (99, qs_vI 4 1 W_X4_all 102), (102, qs_lda 0 103), (103, qs_gf 10 2 106), (106, qs_vI 4 1 W_X4_marked 109), (109, qs_vV 3 4 W_X3_begin 112), (112, qs_ldi 4 114), (114, qs_ci 1 115), (115, qs_b2 (fun x y => x - y) 116), (116, qs_sti 6 118), (118, qs_ldi 6 120), (120, qs_iflt 148 123), (123, qs_lda 0 124), (124, qs_gf 10 10 127), (127, qs_lda 0 128), (128, qs_gf 10 0 131), (131, qs_ldi 3 132), (132, qs_ldi 6 134), (134, qs_vI 6 3 W_X6_item 137), (137, qs_lda 5 139), (139, qs_vV 3 3 W_X3_takeBackwards 142), (142, qs_dec 6 1 145), (145, qs_go 118), (148, qs_lda 0 149), (149, qs_lda 0 150), (150, qs_gf 10 10 153), (153, qs_vI 3 1 W_X3_isOne 156), (156, qs_ifeq 173 159), (159, qs_lda 0 160), (160, qs_gf 10 10 163), (163, qs_vI 3 1 W_X3_answer 166)]
noncomputable def tb_X10_holds_2 : List (Nat × pj_T (Int32 × pj_M)) := [(166, qs_ldi 2 167), (167, qs_b2 (fun x y => x >>> (y &&& 31)) 168), (168, qs_ci 1 169), (169, qs_b2 (fun x y => x &&& y) 170), (170, qs_go 175), (173, qs_ci (-1000000) 175), (175, qs_vI 10 2 W_X10_fine 178), (178, qs_iret)]
noncomputable def tb_X10_holds : List (Nat × pj_T (Int32 × pj_M)) := tb_X10_holds_0 ++ (tb_X10_holds_1 ++ (tb_X10_holds_2))
theorem mv_X10_holds : pj_mv y_X10_holds c_X10_holds 7 (some .int) 4 := ⟨⟨cw_842, cw_840, cw_841, cw_81⟩, by decide +kernel, by decide⟩
set_option maxRecDepth 20000 in
theorem sd_X10_holds_0 {G : pj_E} {A : Nat → Prop} {P : pj_P} {S : pj_U} {Z : pj_Z} (C : pj_C (G, A, (c_X10_holds, y_X10_holds.cls, 7, (some .int), 6), P, S, Z)) : ∀ q ∈ tb_X10_holds_0, pj_S (G, A, (c_X10_holds, y_X10_holds.cls, 7, (some .int), 6), P, S, Z) pj_eI q.1 q.2 :=
  List.forall_mem_cons.mpr ⟨qz_iload_n C (show decode c_X10_holds 0 = .ok (.iload_n 1, 1) by decide +kernel) rfl,
  List.forall_mem_cons.mpr ⟨qz_iconst C (show decode c_X10_holds 1 = .ok (.iconst 0, 1) by decide +kernel) (by decide +kernel),
  List.forall_mem_cons.mpr ⟨qz_iconst C (show decode c_X10_holds 2 = .ok (.iconst 1, 1) by decide +kernel) (by decide +kernel),
  List.forall_mem_cons.mpr ⟨qz_sI C (show decode c_X10_holds 3 = .ok (.invokestatic 91, 3) by decide +kernel) ct_X10_within mv_X10_within (Or.inl cw_361) (show 1 < 6 by omega),
  List.forall_mem_cons.mpr ⟨qz_ifeq C (show decode c_X10_holds 6 = .ok (.ifCond .eq 32, 3) by decide +kernel) (by decide),
  List.forall_mem_cons.mpr ⟨qz_aload_n C (show decode c_X10_holds 9 = .ok (.aload_n 0, 1) by decide +kernel) rfl,
  List.forall_mem_cons.mpr ⟨qz_gf (k := 2) C (show decode c_X10_holds 10 = .ok (.getfield 26, 3) by decide +kernel) vcX10 wiX10 (by decide) cw_313,
  List.forall_mem_cons.mpr ⟨qz_iload_n C (show decode c_X10_holds 13 = .ok (.iload_n 2, 1) by decide +kernel) rfl,
  List.forall_mem_cons.mpr ⟨qz_vI C (show decode c_X10_holds 14 = .ok (.invokevirtual 160, 3) by decide +kernel) ct_X4_hasState mv_X4_hasState cw_538 vcX4 (show 1 < 6 by omega),
  List.forall_mem_cons.mpr ⟨qz_ifeq C (show decode c_X10_holds 17 = .ok (.ifCond .eq 21, 3) by decide +kernel) (by decide),
  List.forall_mem_cons.mpr ⟨qz_iload_n C (show decode c_X10_holds 20 = .ok (.iload_n 3, 1) by decide +kernel) rfl,
  List.forall_mem_cons.mpr ⟨qz_sI C (show decode c_X10_holds 21 = .ok (.invokestatic 87, 3) by decide +kernel) ct_X6_exists mv_X6_exists (Or.inl cw_358) (show 1 < 6 by omega),
  List.forall_mem_cons.mpr ⟨qz_ifeq C (show decode c_X10_holds 24 = .ok (.ifCond .eq 14, 3) by decide +kernel) (by decide),
  List.forall_mem_cons.mpr ⟨qz_iload C (show decode c_X10_holds 27 = .ok (.iload 4, 2) by decide +kernel),
  List.forall_mem_cons.mpr ⟨qz_iconst C (show decode c_X10_holds 29 = .ok (.iconst 1, 1) by decide +kernel) (by decide +kernel),
  List.forall_mem_cons.mpr ⟨qz_bipush C (show decode c_X10_holds 30 = .ok (.bipush 30, 2) by decide +kernel) (by decide +kernel),
  List.forall_mem_cons.mpr ⟨qz_sI C (show decode c_X10_holds 32 = .ok (.invokestatic 91, 3) by decide +kernel) ct_X10_within mv_X10_within (Or.inl cw_361) (show 1 < 6 by omega),
  List.forall_mem_cons.mpr ⟨qz_ifne C (show decode c_X10_holds 35 = .ok (.ifCond .ne 6, 3) by decide +kernel) (by decide),
  List.forall_mem_cons.mpr ⟨qz_ldc C (show decode c_X10_holds 38 = .ok (.ldc 95, 2) by decide +kernel) cw_364,
  List.forall_mem_cons.mpr ⟨qz_iret C (show decode c_X10_holds 40 = .ok (.ireturn, 1) by decide +kernel) rfl,
  List.forall_mem_cons.mpr ⟨qz_aload_n C (show decode c_X10_holds 41 = .ok (.aload_n 0, 1) by decide +kernel) rfl,
  List.forall_mem_cons.mpr ⟨qz_gf (k := 0) C (show decode c_X10_holds 42 = .ok (.getfield 10, 3) by decide +kernel) vcX10 wiX10 (by decide) cw_311,
  List.forall_mem_cons.mpr ⟨qz_iload_n C (show decode c_X10_holds 45 = .ok (.iload_n 3, 1) by decide +kernel) rfl,
  List.forall_mem_cons.mpr ⟨qz_vI C (show decode c_X10_holds 46 = .ok (.invokevirtual 107, 3) by decide +kernel) ct_X6_isMissing mv_X6_isMissing cw_382 vcX6 (show 1 < 6 by omega),
  List.forall_mem_cons.mpr ⟨qz_ifeq C (show decode c_X10_holds 49 = .ok (.ifCond .eq 9, 3) by decide +kernel) (by decide),
  List.forall_mem_cons.mpr ⟨qz_aload_n C (show decode c_X10_holds 52 = .ok (.aload_n 0, 1) by decide +kernel) rfl,
  List.forall_mem_cons.mpr ⟨qz_iconst C (show decode c_X10_holds 53 = .ok (.iconst 1, 1) by decide +kernel) (by decide +kernel),
  List.forall_mem_cons.mpr ⟨qz_vI C (show decode c_X10_holds 54 = .ok (.invokevirtual 96, 3) by decide +kernel) ct_X10_found mv_X10_found cw_365 vcX10 (show 1 < 6 by omega),
  List.forall_mem_cons.mpr ⟨qz_iret C (show decode c_X10_holds 57 = .ok (.ireturn, 1) by decide +kernel) rfl,
  List.forall_mem_cons.mpr ⟨qz_iload C (show decode c_X10_holds 58 = .ok (.iload 4, 2) by decide +kernel),
  List.forall_mem_cons.mpr ⟨qz_aload_n C (show decode c_X10_holds 60 = .ok (.aload_n 0, 1) by decide +kernel) rfl,
  List.forall_mem_cons.mpr ⟨qz_gf (k := 0) C (show decode c_X10_holds 61 = .ok (.getfield 10, 3) by decide +kernel) vcX10 wiX10 (by decide) cw_311,
  List.forall_mem_cons.mpr ⟨qz_iload_n C (show decode c_X10_holds 64 = .ok (.iload_n 3, 1) by decide +kernel) rfl,
  List.forall_mem_cons.mpr ⟨qz_vI C (show decode c_X10_holds 65 = .ok (.invokevirtual 110, 3) by decide +kernel) ct_X6_length mv_X6_length cw_386 vcX6 (show 1 < 6 by omega),
  List.forall_mem_cons.mpr ⟨qz_icle C (show decode c_X10_holds 68 = .ok (.if_icmp .le 9, 3) by decide +kernel) (by decide),
  List.forall_mem_cons.mpr ⟨qz_aload_n C (show decode c_X10_holds 71 = .ok (.aload_n 0, 1) by decide +kernel) rfl,
  List.forall_mem_cons.mpr ⟨qz_iconst C (show decode c_X10_holds 72 = .ok (.iconst 2, 1) by decide +kernel) (by decide +kernel),
  List.forall_mem_cons.mpr ⟨qz_vI C (show decode c_X10_holds 73 = .ok (.invokevirtual 96, 3) by decide +kernel) ct_X10_found mv_X10_found cw_365 vcX10 (show 1 < 6 by omega),
  List.forall_mem_cons.mpr ⟨qz_iret C (show decode c_X10_holds 76 = .ok (.ireturn, 1) by decide +kernel) rfl,
  List.forall_mem_cons.mpr ⟨qz_aload_n C (show decode c_X10_holds 77 = .ok (.aload_n 0, 1) by decide +kernel) rfl,
  (fun q h => by cases h)⟩⟩⟩⟩⟩⟩⟩⟩⟩⟩⟩⟩⟩⟩⟩⟩⟩⟩⟩⟩⟩⟩⟩⟩⟩⟩⟩⟩⟩⟩⟩⟩⟩⟩⟩⟩⟩⟩⟩⟩
set_option maxRecDepth 20000 in
theorem sd_X10_holds_1 {G : pj_E} {A : Nat → Prop} {P : pj_P} {S : pj_U} {Z : pj_Z} (C : pj_C (G, A, (c_X10_holds, y_X10_holds.cls, 7, (some .int), 6), P, S, Z)) : ∀ q ∈ tb_X10_holds_1, pj_S (G, A, (c_X10_holds, y_X10_holds.cls, 7, (some .int), 6), P, S, Z) pj_eI q.1 q.2 :=
  List.forall_mem_cons.mpr ⟨qz_gf (k := 7) C (show decode c_X10_holds 78 = .ok (.getfield 50, 3) by decide +kernel) vcX10 wiX10 (by decide) cw_318,
  List.forall_mem_cons.mpr ⟨qz_aload_n C (show decode c_X10_holds 81 = .ok (.aload_n 0, 1) by decide +kernel) rfl,
  List.forall_mem_cons.mpr ⟨qz_gf (k := 2) C (show decode c_X10_holds 82 = .ok (.getfield 26, 3) by decide +kernel) vcX10 wiX10 (by decide) cw_313,
  List.forall_mem_cons.mpr ⟨qz_vR C (show decode c_X10_holds 85 = .ok (.invokevirtual 209, 3) by decide +kernel) ct_X1_steps mv_X1_steps cw_630 vcX1 (show 5 < 6 by omega),
  List.forall_mem_cons.mpr ⟨qz_astore C (show decode c_X10_holds 88 = .ok (.astore 5, 2) by decide +kernel),
  List.forall_mem_cons.mpr ⟨qz_aload_n C (show decode c_X10_holds 90 = .ok (.aload_n 0, 1) by decide +kernel) rfl,
  List.forall_mem_cons.mpr ⟨qz_gf (k := 10) C (show decode c_X10_holds 91 = .ok (.getfield 66, 3) by decide +kernel) vcX10 wiX10 (by decide) cw_321,
  List.forall_mem_cons.mpr ⟨qz_iload_n C (show decode c_X10_holds 94 = .ok (.iload_n 1, 1) by decide +kernel) rfl,
  List.forall_mem_cons.mpr ⟨qz_aload_n C (show decode c_X10_holds 95 = .ok (.aload_n 0, 1) by decide +kernel) rfl,
  List.forall_mem_cons.mpr ⟨qz_gf (k := 2) C (show decode c_X10_holds 96 = .ok (.getfield 26, 3) by decide +kernel) vcX10 wiX10 (by decide) cw_313,
  List.forall_mem_cons.mpr ⟨qz_vI C (show decode c_X10_holds 99 = .ok (.invokevirtual 266, 3) by decide +kernel) ct_X4_all mv_X4_all cw_843 vcX4 (show 1 < 6 by omega),
  List.forall_mem_cons.mpr ⟨qz_aload_n C (show decode c_X10_holds 102 = .ok (.aload_n 0, 1) by decide +kernel) rfl,
  List.forall_mem_cons.mpr ⟨qz_gf (k := 2) C (show decode c_X10_holds 103 = .ok (.getfield 26, 3) by decide +kernel) vcX10 wiX10 (by decide) cw_313,
  List.forall_mem_cons.mpr ⟨qz_vI C (show decode c_X10_holds 106 = .ok (.invokevirtual 269, 3) by decide +kernel) ct_X4_marked mv_X4_marked cw_847 vcX4 (show 1 < 6 by omega),
  List.forall_mem_cons.mpr ⟨qz_vV C (show decode c_X10_holds 109 = .ok (.invokevirtual 272, 3) by decide +kernel) ct_X3_begin mv_X3_begin cw_848 vcX3 (show 1 < 6 by omega),
  List.forall_mem_cons.mpr ⟨qz_iload C (show decode c_X10_holds 112 = .ok (.iload 4, 2) by decide +kernel),
  List.forall_mem_cons.mpr ⟨qz_iconst C (show decode c_X10_holds 114 = .ok (.iconst 1, 1) by decide +kernel) (by decide +kernel),
  List.forall_mem_cons.mpr ⟨qz_isub C (show decode c_X10_holds 115 = .ok (.isub, 1) by decide +kernel),
  List.forall_mem_cons.mpr ⟨qz_istore C (show decode c_X10_holds 116 = .ok (.istore 6, 2) by decide +kernel),
  List.forall_mem_cons.mpr ⟨qz_iload C (show decode c_X10_holds 118 = .ok (.iload 6, 2) by decide +kernel),
  List.forall_mem_cons.mpr ⟨qz_iflt C (show decode c_X10_holds 120 = .ok (.ifCond .lt 28, 3) by decide +kernel) (by decide),
  List.forall_mem_cons.mpr ⟨qz_aload_n C (show decode c_X10_holds 123 = .ok (.aload_n 0, 1) by decide +kernel) rfl,
  List.forall_mem_cons.mpr ⟨qz_gf (k := 10) C (show decode c_X10_holds 124 = .ok (.getfield 66, 3) by decide +kernel) vcX10 wiX10 (by decide) cw_321,
  List.forall_mem_cons.mpr ⟨qz_aload_n C (show decode c_X10_holds 127 = .ok (.aload_n 0, 1) by decide +kernel) rfl,
  List.forall_mem_cons.mpr ⟨qz_gf (k := 0) C (show decode c_X10_holds 128 = .ok (.getfield 10, 3) by decide +kernel) vcX10 wiX10 (by decide) cw_311,
  List.forall_mem_cons.mpr ⟨qz_iload_n C (show decode c_X10_holds 131 = .ok (.iload_n 3, 1) by decide +kernel) rfl,
  List.forall_mem_cons.mpr ⟨qz_iload C (show decode c_X10_holds 132 = .ok (.iload 6, 2) by decide +kernel),
  List.forall_mem_cons.mpr ⟨qz_vI C (show decode c_X10_holds 134 = .ok (.invokevirtual 275, 3) by decide +kernel) ct_X6_item mv_X6_item cw_852 vcX6 (show 1 < 6 by omega),
  List.forall_mem_cons.mpr ⟨qz_aload C (show decode c_X10_holds 137 = .ok (.aload 5, 2) by decide +kernel),
  List.forall_mem_cons.mpr ⟨qz_vV C (show decode c_X10_holds 139 = .ok (.invokevirtual 278, 3) by decide +kernel) ct_X3_takeBackwards mv_X3_takeBackwards cw_856 vcX3 (show 4 < 6 by omega),
  List.forall_mem_cons.mpr ⟨qz_idec C (show decode c_X10_holds 142 = .ok (.iinc 6 (-1), 3) by decide +kernel) (by decide +kernel),
  List.forall_mem_cons.mpr ⟨qz_goto C (show decode c_X10_holds 145 = .ok (.goto (-27), 3) by decide +kernel) (by decide),
  List.forall_mem_cons.mpr ⟨qz_aload_n C (show decode c_X10_holds 148 = .ok (.aload_n 0, 1) by decide +kernel) rfl,
  List.forall_mem_cons.mpr ⟨qz_aload_n C (show decode c_X10_holds 149 = .ok (.aload_n 0, 1) by decide +kernel) rfl,
  List.forall_mem_cons.mpr ⟨qz_gf (k := 10) C (show decode c_X10_holds 150 = .ok (.getfield 66, 3) by decide +kernel) vcX10 wiX10 (by decide) cw_321,
  List.forall_mem_cons.mpr ⟨qz_vI C (show decode c_X10_holds 153 = .ok (.invokevirtual 282, 3) by decide +kernel) ct_X3_isOne mv_X3_isOne cw_873 vcX3 (show 1 < 6 by omega),
  List.forall_mem_cons.mpr ⟨qz_ifeq C (show decode c_X10_holds 156 = .ok (.ifCond .eq 17, 3) by decide +kernel) (by decide),
  List.forall_mem_cons.mpr ⟨qz_aload_n C (show decode c_X10_holds 159 = .ok (.aload_n 0, 1) by decide +kernel) rfl,
  List.forall_mem_cons.mpr ⟨qz_gf (k := 10) C (show decode c_X10_holds 160 = .ok (.getfield 66, 3) by decide +kernel) vcX10 wiX10 (by decide) cw_321,
  List.forall_mem_cons.mpr ⟨qz_vI C (show decode c_X10_holds 163 = .ok (.invokevirtual 285, 3) by decide +kernel) ct_X3_answer mv_X3_answer cw_877 vcX3 (show 1 < 6 by omega),
  (fun q h => by cases h)⟩⟩⟩⟩⟩⟩⟩⟩⟩⟩⟩⟩⟩⟩⟩⟩⟩⟩⟩⟩⟩⟩⟩⟩⟩⟩⟩⟩⟩⟩⟩⟩⟩⟩⟩⟩⟩⟩⟩⟩
set_option maxRecDepth 20000 in
theorem sd_X10_holds_2 {G : pj_E} {A : Nat → Prop} {P : pj_P} {S : pj_U} {Z : pj_Z} (C : pj_C (G, A, (c_X10_holds, y_X10_holds.cls, 7, (some .int), 6), P, S, Z)) : ∀ q ∈ tb_X10_holds_2, pj_S (G, A, (c_X10_holds, y_X10_holds.cls, 7, (some .int), 6), P, S, Z) pj_eI q.1 q.2 :=
  List.forall_mem_cons.mpr ⟨qz_iload_n C (show decode c_X10_holds 166 = .ok (.iload_n 2, 1) by decide +kernel) rfl,
  List.forall_mem_cons.mpr ⟨qz_ishr C (show decode c_X10_holds 167 = .ok (.ishr, 1) by decide +kernel),
  List.forall_mem_cons.mpr ⟨qz_iconst C (show decode c_X10_holds 168 = .ok (.iconst 1, 1) by decide +kernel) (by decide +kernel),
  List.forall_mem_cons.mpr ⟨qz_iand C (show decode c_X10_holds 169 = .ok (.iand, 1) by decide +kernel),
  List.forall_mem_cons.mpr ⟨qz_goto C (show decode c_X10_holds 170 = .ok (.goto 5, 3) by decide +kernel) (by decide),
  List.forall_mem_cons.mpr ⟨qz_ldc C (show decode c_X10_holds 173 = .ok (.ldc 248, 2) by decide +kernel) cw_781,
  List.forall_mem_cons.mpr ⟨qz_vI C (show decode c_X10_holds 175 = .ok (.invokevirtual 104, 3) by decide +kernel) ct_X10_fine mv_X10_fine cw_374 vcX10 (show 1 < 6 by omega),
  List.forall_mem_cons.mpr ⟨qz_iret C (show decode c_X10_holds 178 = .ok (.ireturn, 1) by decide +kernel) rfl,
  (fun q h => by cases h)⟩⟩⟩⟩⟩⟩⟩⟩
theorem sd_X10_holds {G : pj_E} {A : Nat → Prop} {P : pj_P} {S : pj_U} {Z : pj_Z} (C : pj_C (G, A, (c_X10_holds, y_X10_holds.cls, 7, (some .int), 6), P, S, Z)) : ∀ q ∈ tb_X10_holds, pj_S (G, A, (c_X10_holds, y_X10_holds.cls, 7, (some .int), 6), P, S, Z) pj_eI q.1 q.2 := List.forall_mem_append.mpr ⟨sd_X10_holds_0 C, List.forall_mem_append.mpr ⟨sd_X10_holds_1 C, sd_X10_holds_2 C⟩⟩
noncomputable def C_X10_holds_148 (f : Int32 → pj_M → Option (Int32 × pj_M)) : pj_N (Int32 × pj_M) := fun L st m => match L, st with
  | [some (.inr (.inr (t0, w0, a0))), _, some (.inl x2), _, _, _, _], [] => (match Nat.beq t0 0 && (Nat.beq w0 10 && (Nat.beq a0 0)) with
    | true => f x2 m
    | false => none)
  | _, _ => none
noncomputable def C_X10_holds_118 (f : Int32 → Int32 → Nat → Int32 → pj_M → Option (Int32 × pj_M)) : pj_N (Int32 × pj_M) := fun L st m => match L, st with
  | [some (.inr (.inr (t0, w0, a0))), _, some (.inl x2), some (.inl x3), _, some (.inr (.inr (t5, w5, a5))), some (.inl x6)], [] => (match Nat.beq t0 0 && (Nat.beq w0 10 && (Nat.beq a0 0 && (Nat.beq t5 0 && (Nat.beq w5 7)))) with
    | true => f x2 x3 a5 x6 m
    | false => none)
  | _, _ => none
set_option maxRecDepth 20000 in
theorem eq_X10_holds_148 (x2 : Int32) (d1 d3 d4 d5 d6 : Option pj_V) (m : pj_M) : pj_run tb_X10_holds [] 90 148 [some (.inr (.inr (0, 10, 0))), d1, some (.inl x2), d3, d4, d5, d6] [] m = J_X10_holds_148 x2 m := by rfl
theorem sg_X10_holds_148 {G : pj_E} {A : Nat → Prop} {P : pj_P} {S : pj_U} {Z : pj_Z} (C : pj_C (G, A, (c_X10_holds, y_X10_holds.cls, 7, (some .int), 6), P, S, Z)) : pj_G (G, A, (c_X10_holds, y_X10_holds.cls, 7, (some .int), 6), P, S, Z) pj_eI 148 (C_X10_holds_148 (J_X10_holds_148)) := by
  intro L st m r h hR
  unfold C_X10_holds_148 at h
  split at h
  · split at h
    · rename_i hbq
      simp only [Bool.and_eq_true, Nat.beq_eq] at hbq
      obtain ⟨rfl, rfl, rfl⟩ := hbq
      exact pj_run_ok (sd_X10_holds C) (fun q h => by cases h) 90 148 _ _ _ _ ((eq_X10_holds_148 _ _ _ _ _ _ _).trans h) hR
    · cases h
  · cases h
set_option maxRecDepth 20000 in
theorem eq_X10_holds_118 (n1 : Nat) (x2 : Int32) (x3 : Int32) (a5 : Nat) (x6 : Int32) (d1 d4 : Option pj_V) (m : pj_M) : pj_run tb_X10_holds [(118, C_X10_holds_118 (H_X10_holds_118 n1)), (148, C_X10_holds_148 (J_X10_holds_148 ))] 90 118 [some (.inr (.inr (0, 10, 0))), d1, some (.inl x2), some (.inl x3), d4, some (.inr (.inr (0, 7, a5))), some (.inl x6)] [] m = H_X10_holds_118 (n1 + 1) x2 x3 a5 x6 m := by rfl
theorem sg_X10_holds_118 {G : pj_E} {A : Nat → Prop} {P : pj_P} {S : pj_U} {Z : pj_Z} (C : pj_C (G, A, (c_X10_holds, y_X10_holds.cls, 7, (some .int), 6), P, S, Z)) : ∀ n1, pj_G (G, A, (c_X10_holds, y_X10_holds.cls, 7, (some .int), 6), P, S, Z) pj_eI 118 (C_X10_holds_118 (H_X10_holds_118 n1)) := by
  intro n1
  induction n1 with
  | zero =>
    intro L st m r h hR
    unfold C_X10_holds_118 at h
    split at h
    · split at h
      · cases h
      · cases h
    · cases h
  | succ n1 ih1 =>
    intro L st m r h hR
    unfold C_X10_holds_118 at h
    split at h
    · split at h
      · rename_i hbq
        simp only [Bool.and_eq_true, Nat.beq_eq] at hbq
        obtain ⟨rfl, rfl, rfl, rfl, rfl⟩ := hbq
        exact pj_run_ok (sd_X10_holds C) (List.forall_mem_cons.mpr ⟨ih1, List.forall_mem_cons.mpr ⟨sg_X10_holds_148 C , fun q h => by cases h⟩⟩) 90 118 _ _ _ _ ((eq_X10_holds_118 _ _ _ _ _ _ _ _).trans h) hR
      · cases h
    · cases h
set_option maxRecDepth 20000 in
theorem eq_X10_holds (x1 : Int32) (x2 : Int32) (x3 : Int32) (x4 : Int32) (m : pj_M) : pj_run tb_X10_holds [(118, C_X10_holds_118 (H_X10_holds_118  pj_z))] 90 0 [some (.inr (.inr (0, 10, 0))), some (.inl x1), some (.inl x2), some (.inl x3), some (.inl x4), none, none] [] m = F_X10_holds x1 x2 x3 x4 m := by rfl
theorem ct_X10_holds : pj_Ct pj_eI y_X10_holds c_X10_holds 7 (some .int) 6 W_X10_holds := by
  refine pj_ct_of (by decide +kernel) ?_ ?_
  · intro as m r h
    unfold W_X10_holds at h
    split at h
    · simp [pj_l0]
    · cases h
  · intro G A P S Z C as m r h hR
    unfold W_X10_holds at h
    split at h
    · split at h
      · rename_i hbq
        simp only [Bool.and_eq_true, Nat.beq_eq] at hbq
        obtain ⟨rfl, rfl, rfl⟩ := hbq
        exact pj_run_ok (sd_X10_holds C) (List.forall_mem_cons.mpr ⟨sg_X10_holds_118 C  pj_z, fun q h => by cases h⟩) 90 0 _ _ _ _ ((eq_X10_holds _ _ _ _ _).trans h) hR
      · cases h
    · cases h
/-! AlikeSteps.small(III)I -/
abbrev c_X10_small : ByteArray := prog_1_method_24_code
def y_X10_small : MethodName := ⟨RX10, "small", "(III)I"⟩
noncomputable def F_X10_small (x1 : Int32) (x2 : Int32) (x3 : Int32) (m : pj_M) : Option (Int32 × pj_M) := ((F_X10_within x1 0 2 m).bind fun q1 => (if q1.1 = 0 then (some ((-1000001), q1.2)) else ((F_X4_states 7 q1.2).bind fun q2 => (if q2.1 = 0 then (some ((-1000001), q2.2)) else ((F_X10_within x3 0 3 q2.2).bind fun q3 => (if q3.1 = 0 then (some ((-1000001), q3.2)) else ((F_X1_parting 19 7 x1 q3.2).bind fun q4 => ((F_X5_size q4.1 q4.2).bind fun q5 => ((F_X10_within x2 0 (q5.1 - 1) q5.2).bind fun q6 => (if q6.1 = 0 then (some ((-1000001), q6.2)) else ((F_X1_parting 19 7 x1 q6.2).bind fun q7 => ((F_X1_steps 19 7 q7.2).bind fun q8 => ((F_X5_smallOf q7.1 q8.1 x2 x3 q8.2).bind fun q9 => (some (q9.1, q9.2)))))))))))))))
noncomputable def W_X10_small : List pj_V → pj_M → Option (Int32 × pj_M) := fun as m => match as with
  | [.inr (.inr (t0, w0, a0)), .inl x1, .inl x2, .inl x3] => (match Nat.beq t0 0 && (Nat.beq w0 10 && (Nat.beq a0 0)) with
    | true => F_X10_small x1 x2 x3 m
    | false => none)
  | _ => none
noncomputable def tb_X10_small_0 : List (Nat × pj_T (Int32 × pj_M)) := [(0, qs_ldi 1 1), (1, qs_ci 0 2), (2, qs_ci 2 3), (3, qs_sI 3 W_X10_within 6), (6, qs_ifeq 53 9), (9, qs_lda 0 10), (10, qs_gf 10 2 13), (13, qs_vI 4 1 W_X4_states 16), (16, qs_ifeq 53 19), (19, qs_ldi 3 20), (20, qs_ci 0 21), (21, qs_ci 3 22), (22, qs_sI 3 W_X10_within 25), (25, qs_ifeq 53 28), (28, qs_ldi 2 29), (29, qs_ci 0 30), (30, qs_lda 0 31), (31, qs_gf 10 7 34), (34, qs_lda 0 35), (35, qs_gf 10 2 38), (38, qs_ldi 1 39), (39, qs_vR 5 1 3 W_X1_parting 42), (42, qs_vI 5 1 W_X5_size 45), (45, qs_ci 1 46), (46, qs_b2 (fun x y => x - y) 47), (47, qs_sI 3 W_X10_within 50), (50, qs_ifne 56 53), (53, qs_ci (-1000001) 55), (55, qs_iret), (56, qs_lda 0 57), (57, qs_gf 10 7 60), (60, qs_lda 0 61), (61, qs_gf 10 2 64), (64, qs_ldi 1 65), (65, qs_vR 5 1 3 W_X1_parting 68), (68, qs_lda 0 69), (69, qs_gf 10 7 72), (72, qs_lda 0 73), (73, qs_gf 10 2 76), (76, qs_vR 7 1 2 W_X1_steps 79)]
noncomputable def tb_X10_small_1 : List (Nat × pj_T (Int32 × pj_M)) := [(79, qs_ldi 2 80), (80, qs_ldi 3 81), (81, qs_vI 5 4 W_X5_smallOf 84), (84, qs_iret)]
noncomputable def tb_X10_small : List (Nat × pj_T (Int32 × pj_M)) := tb_X10_small_0 ++ (tb_X10_small_1)
theorem mv_X10_small : pj_mv y_X10_small c_X10_small 4 (some .int) 3 := ⟨⟨cw_884, cw_882, cw_883, cw_81⟩, by decide +kernel, by decide⟩
set_option maxRecDepth 20000 in
theorem sd_X10_small_0 {G : pj_E} {A : Nat → Prop} {P : pj_P} {S : pj_U} {Z : pj_Z} (C : pj_C (G, A, (c_X10_small, y_X10_small.cls, 4, (some .int), 7), P, S, Z)) : ∀ q ∈ tb_X10_small_0, pj_S (G, A, (c_X10_small, y_X10_small.cls, 4, (some .int), 7), P, S, Z) pj_eI q.1 q.2 :=
  List.forall_mem_cons.mpr ⟨qz_iload_n C (show decode c_X10_small 0 = .ok (.iload_n 1, 1) by decide +kernel) rfl,
  List.forall_mem_cons.mpr ⟨qz_iconst C (show decode c_X10_small 1 = .ok (.iconst 0, 1) by decide +kernel) (by decide +kernel),
  List.forall_mem_cons.mpr ⟨qz_iconst C (show decode c_X10_small 2 = .ok (.iconst 2, 1) by decide +kernel) (by decide +kernel),
  List.forall_mem_cons.mpr ⟨qz_sI C (show decode c_X10_small 3 = .ok (.invokestatic 91, 3) by decide +kernel) ct_X10_within mv_X10_within (Or.inl cw_361) (show 1 < 7 by omega),
  List.forall_mem_cons.mpr ⟨qz_ifeq C (show decode c_X10_small 6 = .ok (.ifCond .eq 47, 3) by decide +kernel) (by decide),
  List.forall_mem_cons.mpr ⟨qz_aload_n C (show decode c_X10_small 9 = .ok (.aload_n 0, 1) by decide +kernel) rfl,
  List.forall_mem_cons.mpr ⟨qz_gf (k := 2) C (show decode c_X10_small 10 = .ok (.getfield 26, 3) by decide +kernel) vcX10 wiX10 (by decide) cw_313,
  List.forall_mem_cons.mpr ⟨qz_vI C (show decode c_X10_small 13 = .ok (.invokevirtual 157, 3) by decide +kernel) ct_X4_states mv_X4_states cw_526 vcX4 (show 1 < 7 by omega),
  List.forall_mem_cons.mpr ⟨qz_ifeq C (show decode c_X10_small 16 = .ok (.ifCond .eq 37, 3) by decide +kernel) (by decide),
  List.forall_mem_cons.mpr ⟨qz_iload_n C (show decode c_X10_small 19 = .ok (.iload_n 3, 1) by decide +kernel) rfl,
  List.forall_mem_cons.mpr ⟨qz_iconst C (show decode c_X10_small 20 = .ok (.iconst 0, 1) by decide +kernel) (by decide +kernel),
  List.forall_mem_cons.mpr ⟨qz_iconst C (show decode c_X10_small 21 = .ok (.iconst 3, 1) by decide +kernel) (by decide +kernel),
  List.forall_mem_cons.mpr ⟨qz_sI C (show decode c_X10_small 22 = .ok (.invokestatic 91, 3) by decide +kernel) ct_X10_within mv_X10_within (Or.inl cw_361) (show 1 < 7 by omega),
  List.forall_mem_cons.mpr ⟨qz_ifeq C (show decode c_X10_small 25 = .ok (.ifCond .eq 28, 3) by decide +kernel) (by decide),
  List.forall_mem_cons.mpr ⟨qz_iload_n C (show decode c_X10_small 28 = .ok (.iload_n 2, 1) by decide +kernel) rfl,
  List.forall_mem_cons.mpr ⟨qz_iconst C (show decode c_X10_small 29 = .ok (.iconst 0, 1) by decide +kernel) (by decide +kernel),
  List.forall_mem_cons.mpr ⟨qz_aload_n C (show decode c_X10_small 30 = .ok (.aload_n 0, 1) by decide +kernel) rfl,
  List.forall_mem_cons.mpr ⟨qz_gf (k := 7) C (show decode c_X10_small 31 = .ok (.getfield 50, 3) by decide +kernel) vcX10 wiX10 (by decide) cw_318,
  List.forall_mem_cons.mpr ⟨qz_aload_n C (show decode c_X10_small 34 = .ok (.aload_n 0, 1) by decide +kernel) rfl,
  List.forall_mem_cons.mpr ⟨qz_gf (k := 2) C (show decode c_X10_small 35 = .ok (.getfield 26, 3) by decide +kernel) vcX10 wiX10 (by decide) cw_313,
  List.forall_mem_cons.mpr ⟨qz_iload_n C (show decode c_X10_small 38 = .ok (.iload_n 1, 1) by decide +kernel) rfl,
  List.forall_mem_cons.mpr ⟨qz_vR C (show decode c_X10_small 39 = .ok (.invokevirtual 218, 3) by decide +kernel) ct_X1_parting mv_X1_parting cw_686 vcX1 (show 6 < 7 by omega),
  List.forall_mem_cons.mpr ⟨qz_vI C (show decode c_X10_small 42 = .ok (.invokevirtual 227, 3) by decide +kernel) ct_X5_size mv_X5_size cw_743 vcX5 (show 1 < 7 by omega),
  List.forall_mem_cons.mpr ⟨qz_iconst C (show decode c_X10_small 45 = .ok (.iconst 1, 1) by decide +kernel) (by decide +kernel),
  List.forall_mem_cons.mpr ⟨qz_isub C (show decode c_X10_small 46 = .ok (.isub, 1) by decide +kernel),
  List.forall_mem_cons.mpr ⟨qz_sI C (show decode c_X10_small 47 = .ok (.invokestatic 91, 3) by decide +kernel) ct_X10_within mv_X10_within (Or.inl cw_361) (show 1 < 7 by omega),
  List.forall_mem_cons.mpr ⟨qz_ifne C (show decode c_X10_small 50 = .ok (.ifCond .ne 6, 3) by decide +kernel) (by decide),
  List.forall_mem_cons.mpr ⟨qz_ldc C (show decode c_X10_small 53 = .ok (.ldc 95, 2) by decide +kernel) cw_364,
  List.forall_mem_cons.mpr ⟨qz_iret C (show decode c_X10_small 55 = .ok (.ireturn, 1) by decide +kernel) rfl,
  List.forall_mem_cons.mpr ⟨qz_aload_n C (show decode c_X10_small 56 = .ok (.aload_n 0, 1) by decide +kernel) rfl,
  List.forall_mem_cons.mpr ⟨qz_gf (k := 7) C (show decode c_X10_small 57 = .ok (.getfield 50, 3) by decide +kernel) vcX10 wiX10 (by decide) cw_318,
  List.forall_mem_cons.mpr ⟨qz_aload_n C (show decode c_X10_small 60 = .ok (.aload_n 0, 1) by decide +kernel) rfl,
  List.forall_mem_cons.mpr ⟨qz_gf (k := 2) C (show decode c_X10_small 61 = .ok (.getfield 26, 3) by decide +kernel) vcX10 wiX10 (by decide) cw_313,
  List.forall_mem_cons.mpr ⟨qz_iload_n C (show decode c_X10_small 64 = .ok (.iload_n 1, 1) by decide +kernel) rfl,
  List.forall_mem_cons.mpr ⟨qz_vR C (show decode c_X10_small 65 = .ok (.invokevirtual 218, 3) by decide +kernel) ct_X1_parting mv_X1_parting cw_686 vcX1 (show 6 < 7 by omega),
  List.forall_mem_cons.mpr ⟨qz_aload_n C (show decode c_X10_small 68 = .ok (.aload_n 0, 1) by decide +kernel) rfl,
  List.forall_mem_cons.mpr ⟨qz_gf (k := 7) C (show decode c_X10_small 69 = .ok (.getfield 50, 3) by decide +kernel) vcX10 wiX10 (by decide) cw_318,
  List.forall_mem_cons.mpr ⟨qz_aload_n C (show decode c_X10_small 72 = .ok (.aload_n 0, 1) by decide +kernel) rfl,
  List.forall_mem_cons.mpr ⟨qz_gf (k := 2) C (show decode c_X10_small 73 = .ok (.getfield 26, 3) by decide +kernel) vcX10 wiX10 (by decide) cw_313,
  List.forall_mem_cons.mpr ⟨qz_vR C (show decode c_X10_small 76 = .ok (.invokevirtual 209, 3) by decide +kernel) ct_X1_steps mv_X1_steps cw_630 vcX1 (show 5 < 7 by omega),
  (fun q h => by cases h)⟩⟩⟩⟩⟩⟩⟩⟩⟩⟩⟩⟩⟩⟩⟩⟩⟩⟩⟩⟩⟩⟩⟩⟩⟩⟩⟩⟩⟩⟩⟩⟩⟩⟩⟩⟩⟩⟩⟩⟩
set_option maxRecDepth 20000 in
theorem sd_X10_small_1 {G : pj_E} {A : Nat → Prop} {P : pj_P} {S : pj_U} {Z : pj_Z} (C : pj_C (G, A, (c_X10_small, y_X10_small.cls, 4, (some .int), 7), P, S, Z)) : ∀ q ∈ tb_X10_small_1, pj_S (G, A, (c_X10_small, y_X10_small.cls, 4, (some .int), 7), P, S, Z) pj_eI q.1 q.2 :=
  List.forall_mem_cons.mpr ⟨qz_iload_n C (show decode c_X10_small 79 = .ok (.iload_n 2, 1) by decide +kernel) rfl,
  List.forall_mem_cons.mpr ⟨qz_iload_n C (show decode c_X10_small 80 = .ok (.iload_n 3, 1) by decide +kernel) rfl,
  List.forall_mem_cons.mpr ⟨qz_vI C (show decode c_X10_small 81 = .ok (.invokevirtual 288, 3) by decide +kernel) ct_X5_smallOf mv_X5_smallOf cw_885 vcX5 (show 3 < 7 by omega),
  List.forall_mem_cons.mpr ⟨qz_iret C (show decode c_X10_small 84 = .ok (.ireturn, 1) by decide +kernel) rfl,
  (fun q h => by cases h)⟩⟩⟩⟩
theorem sd_X10_small {G : pj_E} {A : Nat → Prop} {P : pj_P} {S : pj_U} {Z : pj_Z} (C : pj_C (G, A, (c_X10_small, y_X10_small.cls, 4, (some .int), 7), P, S, Z)) : ∀ q ∈ tb_X10_small, pj_S (G, A, (c_X10_small, y_X10_small.cls, 4, (some .int), 7), P, S, Z) pj_eI q.1 q.2 := List.forall_mem_append.mpr ⟨sd_X10_small_0 C, sd_X10_small_1 C⟩
set_option maxRecDepth 20000 in
theorem eq_X10_small (x1 : Int32) (x2 : Int32) (x3 : Int32) (m : pj_M) : pj_run tb_X10_small [] 46 0 [some (.inr (.inr (0, 10, 0))), some (.inl x1), some (.inl x2), some (.inl x3)] [] m = F_X10_small x1 x2 x3 m := by rfl
theorem ct_X10_small : pj_Ct pj_eI y_X10_small c_X10_small 4 (some .int) 7 W_X10_small := by
  refine pj_ct_of (by decide +kernel) ?_ ?_
  · intro as m r h
    unfold W_X10_small at h
    split at h
    · simp [pj_l0]
    · cases h
  · intro G A P S Z C as m r h hR
    unfold W_X10_small at h
    split at h
    · split at h
      · rename_i hbq
        simp only [Bool.and_eq_true, Nat.beq_eq] at hbq
        obtain ⟨rfl, rfl, rfl⟩ := hbq
        exact pj_run_ok (sd_X10_small C) (fun q h => by cases h) 46 0 _ _ _ _ ((eq_X10_small _ _ _ _).trans h) hR
      · cases h
    · cases h
/-! AlikeSteps.arcs(I)I -/
abbrev c_X10_arcs : ByteArray := prog_1_method_25_code
def y_X10_arcs : MethodName := ⟨RX10, "arcs", "(I)I"⟩
noncomputable def F_X10_arcs (x1 : Int32) (m : pj_M) : Option (Int32 × pj_M) := ((F_X4_states 7 m).bind fun q1 => (if q1.1 = 0 then (some ((-1000002), q1.2)) else ((F_X10_within x1 0 2 q1.2).bind fun q2 => (if q2.1 = 0 then (some ((-1000001), q2.2)) else ((F_X1_parting 19 7 x1 q2.2).bind fun q3 => ((F_X1_steps 19 7 q3.2).bind fun q4 => ((F_X5_smallArcs q3.1 q4.1 q4.2).bind fun q5 => (some (q5.1, q5.2)))))))))
noncomputable def W_X10_arcs : List pj_V → pj_M → Option (Int32 × pj_M) := fun as m => match as with
  | [.inr (.inr (t0, w0, a0)), .inl x1] => (match Nat.beq t0 0 && (Nat.beq w0 10 && (Nat.beq a0 0)) with
    | true => F_X10_arcs x1 m
    | false => none)
  | _ => none
noncomputable def tb_X10_arcs_0 : List (Nat × pj_T (Int32 × pj_M)) := [(0, qs_lda 0 1), (1, qs_gf 10 2 4), (4, qs_vI 4 1 W_X4_states 7), (7, qs_ifne 13 10), (10, qs_ci (-1000002) 12), (12, qs_iret), (13, qs_ldi 1 14), (14, qs_ci 0 15), (15, qs_ci 2 16), (16, qs_sI 3 W_X10_within 19), (19, qs_ifne 25 22), (22, qs_ci (-1000001) 24), (24, qs_iret), (25, qs_lda 0 26), (26, qs_gf 10 7 29), (29, qs_lda 0 30), (30, qs_gf 10 2 33), (33, qs_ldi 1 34), (34, qs_vR 5 1 3 W_X1_parting 37), (37, qs_lda 0 38), (38, qs_gf 10 7 41), (41, qs_lda 0 42), (42, qs_gf 10 2 45), (45, qs_vR 7 1 2 W_X1_steps 48), (48, qs_vI 5 2 W_X5_smallArcs 51), (51, qs_iret)]
noncomputable abbrev tb_X10_arcs : List (Nat × pj_T (Int32 × pj_M)) := tb_X10_arcs_0
theorem mv_X10_arcs : pj_mv y_X10_arcs c_X10_arcs 2 (some .int) 1 := ⟨⟨cw_892, cw_890, cw_891, cw_81⟩, by decide +kernel, by decide⟩
set_option maxRecDepth 20000 in
theorem sd_X10_arcs_0 {G : pj_E} {A : Nat → Prop} {P : pj_P} {S : pj_U} {Z : pj_Z} (C : pj_C (G, A, (c_X10_arcs, y_X10_arcs.cls, 2, (some .int), 7), P, S, Z)) : ∀ q ∈ tb_X10_arcs_0, pj_S (G, A, (c_X10_arcs, y_X10_arcs.cls, 2, (some .int), 7), P, S, Z) pj_eI q.1 q.2 :=
  List.forall_mem_cons.mpr ⟨qz_aload_n C (show decode c_X10_arcs 0 = .ok (.aload_n 0, 1) by decide +kernel) rfl,
  List.forall_mem_cons.mpr ⟨qz_gf (k := 2) C (show decode c_X10_arcs 1 = .ok (.getfield 26, 3) by decide +kernel) vcX10 wiX10 (by decide) cw_313,
  List.forall_mem_cons.mpr ⟨qz_vI C (show decode c_X10_arcs 4 = .ok (.invokevirtual 157, 3) by decide +kernel) ct_X4_states mv_X4_states cw_526 vcX4 (show 1 < 7 by omega),
  List.forall_mem_cons.mpr ⟨qz_ifne C (show decode c_X10_arcs 7 = .ok (.ifCond .ne 6, 3) by decide +kernel) (by decide),
  List.forall_mem_cons.mpr ⟨qz_ldc C (show decode c_X10_arcs 10 = .ok (.ldc 195, 2) by decide +kernel) cw_596,
  List.forall_mem_cons.mpr ⟨qz_iret C (show decode c_X10_arcs 12 = .ok (.ireturn, 1) by decide +kernel) rfl,
  List.forall_mem_cons.mpr ⟨qz_iload_n C (show decode c_X10_arcs 13 = .ok (.iload_n 1, 1) by decide +kernel) rfl,
  List.forall_mem_cons.mpr ⟨qz_iconst C (show decode c_X10_arcs 14 = .ok (.iconst 0, 1) by decide +kernel) (by decide +kernel),
  List.forall_mem_cons.mpr ⟨qz_iconst C (show decode c_X10_arcs 15 = .ok (.iconst 2, 1) by decide +kernel) (by decide +kernel),
  List.forall_mem_cons.mpr ⟨qz_sI C (show decode c_X10_arcs 16 = .ok (.invokestatic 91, 3) by decide +kernel) ct_X10_within mv_X10_within (Or.inl cw_361) (show 1 < 7 by omega),
  List.forall_mem_cons.mpr ⟨qz_ifne C (show decode c_X10_arcs 19 = .ok (.ifCond .ne 6, 3) by decide +kernel) (by decide),
  List.forall_mem_cons.mpr ⟨qz_ldc C (show decode c_X10_arcs 22 = .ok (.ldc 95, 2) by decide +kernel) cw_364,
  List.forall_mem_cons.mpr ⟨qz_iret C (show decode c_X10_arcs 24 = .ok (.ireturn, 1) by decide +kernel) rfl,
  List.forall_mem_cons.mpr ⟨qz_aload_n C (show decode c_X10_arcs 25 = .ok (.aload_n 0, 1) by decide +kernel) rfl,
  List.forall_mem_cons.mpr ⟨qz_gf (k := 7) C (show decode c_X10_arcs 26 = .ok (.getfield 50, 3) by decide +kernel) vcX10 wiX10 (by decide) cw_318,
  List.forall_mem_cons.mpr ⟨qz_aload_n C (show decode c_X10_arcs 29 = .ok (.aload_n 0, 1) by decide +kernel) rfl,
  List.forall_mem_cons.mpr ⟨qz_gf (k := 2) C (show decode c_X10_arcs 30 = .ok (.getfield 26, 3) by decide +kernel) vcX10 wiX10 (by decide) cw_313,
  List.forall_mem_cons.mpr ⟨qz_iload_n C (show decode c_X10_arcs 33 = .ok (.iload_n 1, 1) by decide +kernel) rfl,
  List.forall_mem_cons.mpr ⟨qz_vR C (show decode c_X10_arcs 34 = .ok (.invokevirtual 218, 3) by decide +kernel) ct_X1_parting mv_X1_parting cw_686 vcX1 (show 6 < 7 by omega),
  List.forall_mem_cons.mpr ⟨qz_aload_n C (show decode c_X10_arcs 37 = .ok (.aload_n 0, 1) by decide +kernel) rfl,
  List.forall_mem_cons.mpr ⟨qz_gf (k := 7) C (show decode c_X10_arcs 38 = .ok (.getfield 50, 3) by decide +kernel) vcX10 wiX10 (by decide) cw_318,
  List.forall_mem_cons.mpr ⟨qz_aload_n C (show decode c_X10_arcs 41 = .ok (.aload_n 0, 1) by decide +kernel) rfl,
  List.forall_mem_cons.mpr ⟨qz_gf (k := 2) C (show decode c_X10_arcs 42 = .ok (.getfield 26, 3) by decide +kernel) vcX10 wiX10 (by decide) cw_313,
  List.forall_mem_cons.mpr ⟨qz_vR C (show decode c_X10_arcs 45 = .ok (.invokevirtual 209, 3) by decide +kernel) ct_X1_steps mv_X1_steps cw_630 vcX1 (show 5 < 7 by omega),
  List.forall_mem_cons.mpr ⟨qz_vI C (show decode c_X10_arcs 48 = .ok (.invokevirtual 292, 3) by decide +kernel) ct_X5_smallArcs mv_X5_smallArcs cw_893 vcX5 (show 4 < 7 by omega),
  List.forall_mem_cons.mpr ⟨qz_iret C (show decode c_X10_arcs 51 = .ok (.ireturn, 1) by decide +kernel) rfl,
  (fun q h => by cases h)⟩⟩⟩⟩⟩⟩⟩⟩⟩⟩⟩⟩⟩⟩⟩⟩⟩⟩⟩⟩⟩⟩⟩⟩⟩⟩
theorem sd_X10_arcs {G : pj_E} {A : Nat → Prop} {P : pj_P} {S : pj_U} {Z : pj_Z} (C : pj_C (G, A, (c_X10_arcs, y_X10_arcs.cls, 2, (some .int), 7), P, S, Z)) : ∀ q ∈ tb_X10_arcs, pj_S (G, A, (c_X10_arcs, y_X10_arcs.cls, 2, (some .int), 7), P, S, Z) pj_eI q.1 q.2 := sd_X10_arcs_0 C
set_option maxRecDepth 20000 in
theorem eq_X10_arcs (x1 : Int32) (m : pj_M) : pj_run tb_X10_arcs [] 28 0 [some (.inr (.inr (0, 10, 0))), some (.inl x1)] [] m = F_X10_arcs x1 m := by rfl
theorem ct_X10_arcs : pj_Ct pj_eI y_X10_arcs c_X10_arcs 2 (some .int) 7 W_X10_arcs := by
  refine pj_ct_of (by decide +kernel) ?_ ?_
  · intro as m r h
    unfold W_X10_arcs at h
    split at h
    · simp [pj_l0]
    · cases h
  · intro G A P S Z C as m r h hR
    unfold W_X10_arcs at h
    split at h
    · split at h
      · rename_i hbq
        simp only [Bool.and_eq_true, Nat.beq_eq] at hbq
        obtain ⟨rfl, rfl, rfl⟩ := hbq
        exact pj_run_ok (sd_X10_arcs C) (fun q h => by cases h) 28 0 _ _ _ _ ((eq_X10_arcs _ _).trans h) hR
      · cases h
    · cases h
/-! AlikeSteps.words(II)I -/
abbrev c_X10_words : ByteArray := prog_1_method_26_code
def y_X10_words : MethodName := ⟨RX10, "words", "(II)I"⟩
noncomputable def F_X10_words (x1 : Int32) (x2 : Int32) (m : pj_M) : Option (Int32 × pj_M) := ((F_X4_hasState 7 x1 m).bind fun q1 => (if q1.1 = 0 then (some ((-1000001), q1.2)) else ((F_X10_within x2 0 6 q1.2).bind fun q2 => (if q2.1 = 0 then (some ((-1000001), q2.2)) else ((F_X1_steps 19 7 q2.2).bind fun q3 => ((F_X7_wordsFrom q3.1 x1 x2 q3.2).bind fun q4 => (some (q4.1, q4.2))))))))
noncomputable def W_X10_words : List pj_V → pj_M → Option (Int32 × pj_M) := fun as m => match as with
  | [.inr (.inr (t0, w0, a0)), .inl x1, .inl x2] => (match Nat.beq t0 0 && (Nat.beq w0 10 && (Nat.beq a0 0)) with
    | true => F_X10_words x1 x2 m
    | false => none)
  | _ => none
noncomputable def tb_X10_words_0 : List (Nat × pj_T (Int32 × pj_M)) := [(0, qs_lda 0 1), (1, qs_gf 10 2 4), (4, qs_ldi 1 5), (5, qs_vI 4 2 W_X4_hasState 8), (8, qs_ifeq 21 11), (11, qs_ldi 2 12), (12, qs_ci 0 13), (13, qs_ci 6 15), (15, qs_sI 3 W_X10_within 18), (18, qs_ifne 24 21), (21, qs_ci (-1000001) 23), (23, qs_iret), (24, qs_lda 0 25), (25, qs_gf 10 7 28), (28, qs_lda 0 29), (29, qs_gf 10 2 32), (32, qs_vR 7 1 2 W_X1_steps 35), (35, qs_ldi 1 36), (36, qs_ldi 2 37), (37, qs_vI 7 3 W_X7_wordsFrom 40), (40, qs_iret)]
noncomputable abbrev tb_X10_words : List (Nat × pj_T (Int32 × pj_M)) := tb_X10_words_0
theorem mv_X10_words : pj_mv y_X10_words c_X10_words 3 (some .int) 2 := ⟨⟨cw_902, cw_900, cw_901, cw_81⟩, by decide +kernel, by decide⟩
set_option maxRecDepth 20000 in
theorem sd_X10_words_0 {G : pj_E} {A : Nat → Prop} {P : pj_P} {S : pj_U} {Z : pj_Z} (C : pj_C (G, A, (c_X10_words, y_X10_words.cls, 3, (some .int), 12), P, S, Z)) : ∀ q ∈ tb_X10_words_0, pj_S (G, A, (c_X10_words, y_X10_words.cls, 3, (some .int), 12), P, S, Z) pj_eI q.1 q.2 :=
  List.forall_mem_cons.mpr ⟨qz_aload_n C (show decode c_X10_words 0 = .ok (.aload_n 0, 1) by decide +kernel) rfl,
  List.forall_mem_cons.mpr ⟨qz_gf (k := 2) C (show decode c_X10_words 1 = .ok (.getfield 26, 3) by decide +kernel) vcX10 wiX10 (by decide) cw_313,
  List.forall_mem_cons.mpr ⟨qz_iload_n C (show decode c_X10_words 4 = .ok (.iload_n 1, 1) by decide +kernel) rfl,
  List.forall_mem_cons.mpr ⟨qz_vI C (show decode c_X10_words 5 = .ok (.invokevirtual 160, 3) by decide +kernel) ct_X4_hasState mv_X4_hasState cw_538 vcX4 (show 1 < 12 by omega),
  List.forall_mem_cons.mpr ⟨qz_ifeq C (show decode c_X10_words 8 = .ok (.ifCond .eq 13, 3) by decide +kernel) (by decide),
  List.forall_mem_cons.mpr ⟨qz_iload_n C (show decode c_X10_words 11 = .ok (.iload_n 2, 1) by decide +kernel) rfl,
  List.forall_mem_cons.mpr ⟨qz_iconst C (show decode c_X10_words 12 = .ok (.iconst 0, 1) by decide +kernel) (by decide +kernel),
  List.forall_mem_cons.mpr ⟨qz_bipush C (show decode c_X10_words 13 = .ok (.bipush 6, 2) by decide +kernel) (by decide +kernel),
  List.forall_mem_cons.mpr ⟨qz_sI C (show decode c_X10_words 15 = .ok (.invokestatic 91, 3) by decide +kernel) ct_X10_within mv_X10_within (Or.inl cw_361) (show 1 < 12 by omega),
  List.forall_mem_cons.mpr ⟨qz_ifne C (show decode c_X10_words 18 = .ok (.ifCond .ne 6, 3) by decide +kernel) (by decide),
  List.forall_mem_cons.mpr ⟨qz_ldc C (show decode c_X10_words 21 = .ok (.ldc 95, 2) by decide +kernel) cw_364,
  List.forall_mem_cons.mpr ⟨qz_iret C (show decode c_X10_words 23 = .ok (.ireturn, 1) by decide +kernel) rfl,
  List.forall_mem_cons.mpr ⟨qz_aload_n C (show decode c_X10_words 24 = .ok (.aload_n 0, 1) by decide +kernel) rfl,
  List.forall_mem_cons.mpr ⟨qz_gf (k := 7) C (show decode c_X10_words 25 = .ok (.getfield 50, 3) by decide +kernel) vcX10 wiX10 (by decide) cw_318,
  List.forall_mem_cons.mpr ⟨qz_aload_n C (show decode c_X10_words 28 = .ok (.aload_n 0, 1) by decide +kernel) rfl,
  List.forall_mem_cons.mpr ⟨qz_gf (k := 2) C (show decode c_X10_words 29 = .ok (.getfield 26, 3) by decide +kernel) vcX10 wiX10 (by decide) cw_313,
  List.forall_mem_cons.mpr ⟨qz_vR C (show decode c_X10_words 32 = .ok (.invokevirtual 209, 3) by decide +kernel) ct_X1_steps mv_X1_steps cw_630 vcX1 (show 5 < 12 by omega),
  List.forall_mem_cons.mpr ⟨qz_iload_n C (show decode c_X10_words 35 = .ok (.iload_n 1, 1) by decide +kernel) rfl,
  List.forall_mem_cons.mpr ⟨qz_iload_n C (show decode c_X10_words 36 = .ok (.iload_n 2, 1) by decide +kernel) rfl,
  List.forall_mem_cons.mpr ⟨qz_vI C (show decode c_X10_words 37 = .ok (.invokevirtual 296, 3) by decide +kernel) ct_X7_wordsFrom mv_X7_wordsFrom cw_903 vcX7 (show 11 < 12 by omega),
  List.forall_mem_cons.mpr ⟨qz_iret C (show decode c_X10_words 40 = .ok (.ireturn, 1) by decide +kernel) rfl,
  (fun q h => by cases h)⟩⟩⟩⟩⟩⟩⟩⟩⟩⟩⟩⟩⟩⟩⟩⟩⟩⟩⟩⟩⟩
theorem sd_X10_words {G : pj_E} {A : Nat → Prop} {P : pj_P} {S : pj_U} {Z : pj_Z} (C : pj_C (G, A, (c_X10_words, y_X10_words.cls, 3, (some .int), 12), P, S, Z)) : ∀ q ∈ tb_X10_words, pj_S (G, A, (c_X10_words, y_X10_words.cls, 3, (some .int), 12), P, S, Z) pj_eI q.1 q.2 := sd_X10_words_0 C
set_option maxRecDepth 20000 in
theorem eq_X10_words (x1 : Int32) (x2 : Int32) (m : pj_M) : pj_run tb_X10_words [] 23 0 [some (.inr (.inr (0, 10, 0))), some (.inl x1), some (.inl x2)] [] m = F_X10_words x1 x2 m := by rfl
theorem ct_X10_words : pj_Ct pj_eI y_X10_words c_X10_words 3 (some .int) 12 W_X10_words := by
  refine pj_ct_of (by decide +kernel) ?_ ?_
  · intro as m r h
    unfold W_X10_words at h
    split at h
    · simp [pj_l0]
    · cases h
  · intro G A P S Z C as m r h hR
    unfold W_X10_words at h
    split at h
    · split at h
      · rename_i hbq
        simp only [Bool.and_eq_true, Nat.beq_eq] at hbq
        obtain ⟨rfl, rfl, rfl⟩ := hbq
        exact pj_run_ok (sd_X10_words C) (fun q h => by cases h) 23 0 _ _ _ _ ((eq_X10_words _ _ _).trans h) hR
      · cases h
    · cases h
/-! AlikeSteps.walk(III)I -/
abbrev c_X10_walk : ByteArray := prog_1_method_27_code
def y_X10_walk : MethodName := ⟨RX10, "walk", "(III)I"⟩
noncomputable def F_X10_walk (x1 : Int32) (x2 : Int32) (x3 : Int32) (m : pj_M) : Option (Int32 × pj_M) := ((F_X4_hasState 7 x1 m).bind fun q1 => (if q1.1 = 0 then (some ((-1000001), q1.2)) else ((F_X10_within x2 0 60 q1.2).bind fun q2 => (if q2.1 = 0 then (some ((-1000001), q2.2)) else ((F_X10_within x3 1 999999 q2.2).bind fun q3 => (if q3.1 = 0 then (some ((-1000001), q3.2)) else ((F_X1_steps 19 7 q3.2).bind fun q4 => ((F_X7_endOfWalk q4.1 x1 x2 x3 q4.2).bind fun q5 => (some (q5.1, q5.2))))))))))
noncomputable def W_X10_walk : List pj_V → pj_M → Option (Int32 × pj_M) := fun as m => match as with
  | [.inr (.inr (t0, w0, a0)), .inl x1, .inl x2, .inl x3] => (match Nat.beq t0 0 && (Nat.beq w0 10 && (Nat.beq a0 0)) with
    | true => F_X10_walk x1 x2 x3 m
    | false => none)
  | _ => none
noncomputable def tb_X10_walk_0 : List (Nat × pj_T (Int32 × pj_M)) := [(0, qs_lda 0 1), (1, qs_gf 10 2 4), (4, qs_ldi 1 5), (5, qs_vI 4 2 W_X4_hasState 8), (8, qs_ifeq 32 11), (11, qs_ldi 2 12), (12, qs_ci 0 13), (13, qs_ci 60 15), (15, qs_sI 3 W_X10_within 18), (18, qs_ifeq 32 21), (21, qs_ldi 3 22), (22, qs_ci 1 23), (23, qs_ci 999999 26), (26, qs_sI 3 W_X10_within 29), (29, qs_ifne 35 32), (32, qs_ci (-1000001) 34), (34, qs_iret), (35, qs_lda 0 36), (36, qs_gf 10 7 39), (39, qs_lda 0 40), (40, qs_gf 10 2 43), (43, qs_vR 7 1 2 W_X1_steps 46), (46, qs_ldi 1 47), (47, qs_ldi 2 48), (48, qs_ldi 3 49), (49, qs_vI 7 4 W_X7_endOfWalk 52), (52, qs_iret)]
noncomputable abbrev tb_X10_walk : List (Nat × pj_T (Int32 × pj_M)) := tb_X10_walk_0
theorem mv_X10_walk : pj_mv y_X10_walk c_X10_walk 4 (some .int) 3 := ⟨⟨cw_913, cw_911, cw_912, cw_81⟩, by decide +kernel, by decide⟩
set_option maxRecDepth 20000 in
theorem sd_X10_walk_0 {G : pj_E} {A : Nat → Prop} {P : pj_P} {S : pj_U} {Z : pj_Z} (C : pj_C (G, A, (c_X10_walk, y_X10_walk.cls, 4, (some .int), 6), P, S, Z)) : ∀ q ∈ tb_X10_walk_0, pj_S (G, A, (c_X10_walk, y_X10_walk.cls, 4, (some .int), 6), P, S, Z) pj_eI q.1 q.2 :=
  List.forall_mem_cons.mpr ⟨qz_aload_n C (show decode c_X10_walk 0 = .ok (.aload_n 0, 1) by decide +kernel) rfl,
  List.forall_mem_cons.mpr ⟨qz_gf (k := 2) C (show decode c_X10_walk 1 = .ok (.getfield 26, 3) by decide +kernel) vcX10 wiX10 (by decide) cw_313,
  List.forall_mem_cons.mpr ⟨qz_iload_n C (show decode c_X10_walk 4 = .ok (.iload_n 1, 1) by decide +kernel) rfl,
  List.forall_mem_cons.mpr ⟨qz_vI C (show decode c_X10_walk 5 = .ok (.invokevirtual 160, 3) by decide +kernel) ct_X4_hasState mv_X4_hasState cw_538 vcX4 (show 1 < 6 by omega),
  List.forall_mem_cons.mpr ⟨qz_ifeq C (show decode c_X10_walk 8 = .ok (.ifCond .eq 24, 3) by decide +kernel) (by decide),
  List.forall_mem_cons.mpr ⟨qz_iload_n C (show decode c_X10_walk 11 = .ok (.iload_n 2, 1) by decide +kernel) rfl,
  List.forall_mem_cons.mpr ⟨qz_iconst C (show decode c_X10_walk 12 = .ok (.iconst 0, 1) by decide +kernel) (by decide +kernel),
  List.forall_mem_cons.mpr ⟨qz_bipush C (show decode c_X10_walk 13 = .ok (.bipush 60, 2) by decide +kernel) (by decide +kernel),
  List.forall_mem_cons.mpr ⟨qz_sI C (show decode c_X10_walk 15 = .ok (.invokestatic 91, 3) by decide +kernel) ct_X10_within mv_X10_within (Or.inl cw_361) (show 1 < 6 by omega),
  List.forall_mem_cons.mpr ⟨qz_ifeq C (show decode c_X10_walk 18 = .ok (.ifCond .eq 14, 3) by decide +kernel) (by decide),
  List.forall_mem_cons.mpr ⟨qz_iload_n C (show decode c_X10_walk 21 = .ok (.iload_n 3, 1) by decide +kernel) rfl,
  List.forall_mem_cons.mpr ⟨qz_iconst C (show decode c_X10_walk 22 = .ok (.iconst 1, 1) by decide +kernel) (by decide +kernel),
  List.forall_mem_cons.mpr ⟨qz_ldcw C (show decode c_X10_walk 23 = .ok (.ldc_w 299, 3) by decide +kernel) cw_914,
  List.forall_mem_cons.mpr ⟨qz_sI C (show decode c_X10_walk 26 = .ok (.invokestatic 91, 3) by decide +kernel) ct_X10_within mv_X10_within (Or.inl cw_361) (show 1 < 6 by omega),
  List.forall_mem_cons.mpr ⟨qz_ifne C (show decode c_X10_walk 29 = .ok (.ifCond .ne 6, 3) by decide +kernel) (by decide),
  List.forall_mem_cons.mpr ⟨qz_ldc C (show decode c_X10_walk 32 = .ok (.ldc 95, 2) by decide +kernel) cw_364,
  List.forall_mem_cons.mpr ⟨qz_iret C (show decode c_X10_walk 34 = .ok (.ireturn, 1) by decide +kernel) rfl,
  List.forall_mem_cons.mpr ⟨qz_aload_n C (show decode c_X10_walk 35 = .ok (.aload_n 0, 1) by decide +kernel) rfl,
  List.forall_mem_cons.mpr ⟨qz_gf (k := 7) C (show decode c_X10_walk 36 = .ok (.getfield 50, 3) by decide +kernel) vcX10 wiX10 (by decide) cw_318,
  List.forall_mem_cons.mpr ⟨qz_aload_n C (show decode c_X10_walk 39 = .ok (.aload_n 0, 1) by decide +kernel) rfl,
  List.forall_mem_cons.mpr ⟨qz_gf (k := 2) C (show decode c_X10_walk 40 = .ok (.getfield 26, 3) by decide +kernel) vcX10 wiX10 (by decide) cw_313,
  List.forall_mem_cons.mpr ⟨qz_vR C (show decode c_X10_walk 43 = .ok (.invokevirtual 209, 3) by decide +kernel) ct_X1_steps mv_X1_steps cw_630 vcX1 (show 5 < 6 by omega),
  List.forall_mem_cons.mpr ⟨qz_iload_n C (show decode c_X10_walk 46 = .ok (.iload_n 1, 1) by decide +kernel) rfl,
  List.forall_mem_cons.mpr ⟨qz_iload_n C (show decode c_X10_walk 47 = .ok (.iload_n 2, 1) by decide +kernel) rfl,
  List.forall_mem_cons.mpr ⟨qz_iload_n C (show decode c_X10_walk 48 = .ok (.iload_n 3, 1) by decide +kernel) rfl,
  List.forall_mem_cons.mpr ⟨qz_vI C (show decode c_X10_walk 49 = .ok (.invokevirtual 300, 3) by decide +kernel) ct_X7_endOfWalk mv_X7_endOfWalk cw_915 vcX7 (show 3 < 6 by omega),
  List.forall_mem_cons.mpr ⟨qz_iret C (show decode c_X10_walk 52 = .ok (.ireturn, 1) by decide +kernel) rfl,
  (fun q h => by cases h)⟩⟩⟩⟩⟩⟩⟩⟩⟩⟩⟩⟩⟩⟩⟩⟩⟩⟩⟩⟩⟩⟩⟩⟩⟩⟩⟩
theorem sd_X10_walk {G : pj_E} {A : Nat → Prop} {P : pj_P} {S : pj_U} {Z : pj_Z} (C : pj_C (G, A, (c_X10_walk, y_X10_walk.cls, 4, (some .int), 6), P, S, Z)) : ∀ q ∈ tb_X10_walk, pj_S (G, A, (c_X10_walk, y_X10_walk.cls, 4, (some .int), 6), P, S, Z) pj_eI q.1 q.2 := sd_X10_walk_0 C
set_option maxRecDepth 20000 in
theorem eq_X10_walk (x1 : Int32) (x2 : Int32) (x3 : Int32) (m : pj_M) : pj_run tb_X10_walk [] 29 0 [some (.inr (.inr (0, 10, 0))), some (.inl x1), some (.inl x2), some (.inl x3)] [] m = F_X10_walk x1 x2 x3 m := by rfl
theorem ct_X10_walk : pj_Ct pj_eI y_X10_walk c_X10_walk 4 (some .int) 6 W_X10_walk := by
  refine pj_ct_of (by decide +kernel) ?_ ?_
  · intro as m r h
    unfold W_X10_walk at h
    split at h
    · simp [pj_l0]
    · cases h
  · intro G A P S Z C as m r h hR
    unfold W_X10_walk at h
    split at h
    · split at h
      · rename_i hbq
        simp only [Bool.and_eq_true, Nat.beq_eq] at hbq
        obtain ⟨rfl, rfl, rfl⟩ := hbq
        exact pj_run_ok (sd_X10_walk C) (fun q h => by cases h) 29 0 _ _ _ _ ((eq_X10_walk _ _ _ _).trans h) hR
      · cases h
    · cases h
/-! AlikeSteps.tellsBlocks(ILAlikeSteps$Parting;)Z -/
abbrev c_X10_tellsBlocks : ByteArray := prog_1_method_39_code
def y_X10_tellsBlocks : MethodName := ⟨RX10, "tellsBlocks", "(ILAlikeSteps$Parting;)Z"⟩
noncomputable def H_X10_tellsBlocks_2 : Nat → Int32 → Nat → Int32 → pj_M → Option (Int32 × pj_M)
  | 0, _, _, _, _ => none
  | n1 + 1, x1, a2, x3, m => ((F_X4_states 7 m).bind fun q1 => (if x3 < q1.1 then ((F_X6_item x1 x3 q1.2).bind fun q2 => ((F_X5_lastBlock a2 x3 q2.2).bind fun q3 => (if q2.1 = q3.1 then (H_X10_tellsBlocks_2 n1 x1 a2 (x3 + 1) q3.2) else (some (0, q3.2))))) else (some (1, q1.2))))
noncomputable def F_X10_tellsBlocks (x1 : Int32) (a2 : Nat) (m : pj_M) : Option (Int32 × pj_M) := (H_X10_tellsBlocks_2 pj_z x1 a2 0 m)
noncomputable def W_X10_tellsBlocks : List pj_V → pj_M → Option (Int32 × pj_M) := fun as m => match as with
  | [.inr (.inr (t0, w0, a0)), .inl x1, .inr (.inr (t2, w2, a2))] => (match Nat.beq t0 0 && (Nat.beq w0 10 && (Nat.beq a0 0 && (Nat.beq t2 0 && (Nat.beq w2 5)))) with
    | true => F_X10_tellsBlocks x1 a2 m
    | false => none)
  | _ => none
noncomputable def tb_X10_tellsBlocks_0 : List (Nat × pj_T (Int32 × pj_M)) := [(0, qs_ci 0 1), (1, qs_sti 3 2), (2, qs_ldi 3 3), (3, qs_lda 0 4), (4, qs_gf 10 2 7), (7, qs_vI 4 1 W_X4_states 10), (10, qs_icge 38 13), (13, qs_lda 0 14), (14, qs_gf 10 0 17), (17, qs_ldi 1 18), (18, qs_ldi 3 19), (19, qs_vI 6 3 W_X6_item 22), (22, qs_lda 2 23), (23, qs_ldi 3 24), (24, qs_vI 5 2 W_X5_lastBlock 27), (27, qs_iceq 32 30), (30, qs_ci 0 31), (31, qs_zret), (32, qs_inc 3 1 35), (35, qs_go 2), (38, qs_ci 1 39), (39, qs_zret)]
noncomputable abbrev tb_X10_tellsBlocks : List (Nat × pj_T (Int32 × pj_M)) := tb_X10_tellsBlocks_0
theorem mv_X10_tellsBlocks : pj_mv y_X10_tellsBlocks c_X10_tellsBlocks 4 (some .boolean) 2 := ⟨⟨cw_938, cw_937, cw_27, cw_81⟩, by decide +kernel, by decide⟩
set_option maxRecDepth 20000 in
theorem sd_X10_tellsBlocks_0 {G : pj_E} {A : Nat → Prop} {P : pj_P} {S : pj_U} {Z : pj_Z} (C : pj_C (G, A, (c_X10_tellsBlocks, y_X10_tellsBlocks.cls, 4, (some .boolean), 3), P, S, Z)) : ∀ q ∈ tb_X10_tellsBlocks_0, pj_S (G, A, (c_X10_tellsBlocks, y_X10_tellsBlocks.cls, 4, (some .boolean), 3), P, S, Z) pj_eI q.1 q.2 :=
  List.forall_mem_cons.mpr ⟨qz_iconst C (show decode c_X10_tellsBlocks 0 = .ok (.iconst 0, 1) by decide +kernel) (by decide +kernel),
  List.forall_mem_cons.mpr ⟨qz_istore_n C (show decode c_X10_tellsBlocks 1 = .ok (.istore_n 3, 1) by decide +kernel) rfl,
  List.forall_mem_cons.mpr ⟨qz_iload_n C (show decode c_X10_tellsBlocks 2 = .ok (.iload_n 3, 1) by decide +kernel) rfl,
  List.forall_mem_cons.mpr ⟨qz_aload_n C (show decode c_X10_tellsBlocks 3 = .ok (.aload_n 0, 1) by decide +kernel) rfl,
  List.forall_mem_cons.mpr ⟨qz_gf (k := 2) C (show decode c_X10_tellsBlocks 4 = .ok (.getfield 26, 3) by decide +kernel) vcX10 wiX10 (by decide) cw_313,
  List.forall_mem_cons.mpr ⟨qz_vI C (show decode c_X10_tellsBlocks 7 = .ok (.invokevirtual 157, 3) by decide +kernel) ct_X4_states mv_X4_states cw_526 vcX4 (show 1 < 3 by omega),
  List.forall_mem_cons.mpr ⟨qz_icge C (show decode c_X10_tellsBlocks 10 = .ok (.if_icmp .ge 28, 3) by decide +kernel) (by decide),
  List.forall_mem_cons.mpr ⟨qz_aload_n C (show decode c_X10_tellsBlocks 13 = .ok (.aload_n 0, 1) by decide +kernel) rfl,
  List.forall_mem_cons.mpr ⟨qz_gf (k := 0) C (show decode c_X10_tellsBlocks 14 = .ok (.getfield 10, 3) by decide +kernel) vcX10 wiX10 (by decide) cw_311,
  List.forall_mem_cons.mpr ⟨qz_iload_n C (show decode c_X10_tellsBlocks 17 = .ok (.iload_n 1, 1) by decide +kernel) rfl,
  List.forall_mem_cons.mpr ⟨qz_iload_n C (show decode c_X10_tellsBlocks 18 = .ok (.iload_n 3, 1) by decide +kernel) rfl,
  List.forall_mem_cons.mpr ⟨qz_vI C (show decode c_X10_tellsBlocks 19 = .ok (.invokevirtual 275, 3) by decide +kernel) ct_X6_item mv_X6_item cw_852 vcX6 (show 1 < 3 by omega),
  List.forall_mem_cons.mpr ⟨qz_aload_n C (show decode c_X10_tellsBlocks 22 = .ok (.aload_n 2, 1) by decide +kernel) rfl,
  List.forall_mem_cons.mpr ⟨qz_iload_n C (show decode c_X10_tellsBlocks 23 = .ok (.iload_n 3, 1) by decide +kernel) rfl,
  List.forall_mem_cons.mpr ⟨qz_vI C (show decode c_X10_tellsBlocks 24 = .ok (.invokevirtual 222, 3) by decide +kernel) ct_X5_lastBlock mv_X5_lastBlock cw_735 vcX5 (show 2 < 3 by omega),
  List.forall_mem_cons.mpr ⟨qz_iceq C (show decode c_X10_tellsBlocks 27 = .ok (.if_icmp .eq 5, 3) by decide +kernel) (by decide),
  List.forall_mem_cons.mpr ⟨qz_iconst C (show decode c_X10_tellsBlocks 30 = .ok (.iconst 0, 1) by decide +kernel) (by decide +kernel),
  List.forall_mem_cons.mpr ⟨qz_zret C (show decode c_X10_tellsBlocks 31 = .ok (.ireturn, 1) by decide +kernel) rfl,
  List.forall_mem_cons.mpr ⟨qz_iinc C (show decode c_X10_tellsBlocks 32 = .ok (.iinc 3 1, 3) by decide +kernel) (by decide +kernel),
  List.forall_mem_cons.mpr ⟨qz_goto C (show decode c_X10_tellsBlocks 35 = .ok (.goto (-33), 3) by decide +kernel) (by decide),
  List.forall_mem_cons.mpr ⟨qz_iconst C (show decode c_X10_tellsBlocks 38 = .ok (.iconst 1, 1) by decide +kernel) (by decide +kernel),
  List.forall_mem_cons.mpr ⟨qz_zret C (show decode c_X10_tellsBlocks 39 = .ok (.ireturn, 1) by decide +kernel) rfl,
  (fun q h => by cases h)⟩⟩⟩⟩⟩⟩⟩⟩⟩⟩⟩⟩⟩⟩⟩⟩⟩⟩⟩⟩⟩⟩
theorem sd_X10_tellsBlocks {G : pj_E} {A : Nat → Prop} {P : pj_P} {S : pj_U} {Z : pj_Z} (C : pj_C (G, A, (c_X10_tellsBlocks, y_X10_tellsBlocks.cls, 4, (some .boolean), 3), P, S, Z)) : ∀ q ∈ tb_X10_tellsBlocks, pj_S (G, A, (c_X10_tellsBlocks, y_X10_tellsBlocks.cls, 4, (some .boolean), 3), P, S, Z) pj_eI q.1 q.2 := sd_X10_tellsBlocks_0 C
noncomputable def C_X10_tellsBlocks_2 (f : Int32 → Nat → Int32 → pj_M → Option (Int32 × pj_M)) : pj_N (Int32 × pj_M) := fun L st m => match L, st with
  | [some (.inr (.inr (t0, w0, a0))), some (.inl x1), some (.inr (.inr (t2, w2, a2))), some (.inl x3)], [] => (match Nat.beq t0 0 && (Nat.beq w0 10 && (Nat.beq a0 0 && (Nat.beq t2 0 && (Nat.beq w2 5)))) with
    | true => f x1 a2 x3 m
    | false => none)
  | _, _ => none
set_option maxRecDepth 20000 in
theorem eq_X10_tellsBlocks_2 (n1 : Nat) (x1 : Int32) (a2 : Nat) (x3 : Int32) (m : pj_M) : pj_run tb_X10_tellsBlocks [(2, C_X10_tellsBlocks_2 (H_X10_tellsBlocks_2 n1))] 24 2 [some (.inr (.inr (0, 10, 0))), some (.inl x1), some (.inr (.inr (0, 5, a2))), some (.inl x3)] [] m = H_X10_tellsBlocks_2 (n1 + 1) x1 a2 x3 m := by rfl
theorem sg_X10_tellsBlocks_2 {G : pj_E} {A : Nat → Prop} {P : pj_P} {S : pj_U} {Z : pj_Z} (C : pj_C (G, A, (c_X10_tellsBlocks, y_X10_tellsBlocks.cls, 4, (some .boolean), 3), P, S, Z)) : ∀ n1, pj_G (G, A, (c_X10_tellsBlocks, y_X10_tellsBlocks.cls, 4, (some .boolean), 3), P, S, Z) pj_eI 2 (C_X10_tellsBlocks_2 (H_X10_tellsBlocks_2 n1)) := by
  intro n1
  induction n1 with
  | zero =>
    intro L st m r h hR
    unfold C_X10_tellsBlocks_2 at h
    split at h
    · split at h
      · cases h
      · cases h
    · cases h
  | succ n1 ih1 =>
    intro L st m r h hR
    unfold C_X10_tellsBlocks_2 at h
    split at h
    · split at h
      · rename_i hbq
        simp only [Bool.and_eq_true, Nat.beq_eq] at hbq
        obtain ⟨rfl, rfl, rfl, rfl, rfl⟩ := hbq
        exact pj_run_ok (sd_X10_tellsBlocks C) (List.forall_mem_cons.mpr ⟨ih1, fun q h => by cases h⟩) 24 2 _ _ _ _ ((eq_X10_tellsBlocks_2 _ _ _ _ _).trans h) hR
      · cases h
    · cases h
set_option maxRecDepth 20000 in
theorem eq_X10_tellsBlocks (x1 : Int32) (a2 : Nat) (m : pj_M) : pj_run tb_X10_tellsBlocks [(2, C_X10_tellsBlocks_2 (H_X10_tellsBlocks_2  pj_z))] 24 0 [some (.inr (.inr (0, 10, 0))), some (.inl x1), some (.inr (.inr (0, 5, a2))), none] [] m = F_X10_tellsBlocks x1 a2 m := by rfl
theorem ct_X10_tellsBlocks : pj_Ct pj_eI y_X10_tellsBlocks c_X10_tellsBlocks 4 (some .boolean) 3 W_X10_tellsBlocks := by
  refine pj_ct_of (by decide +kernel) ?_ ?_
  · intro as m r h
    unfold W_X10_tellsBlocks at h
    split at h
    · simp [pj_l0]
    · cases h
  · intro G A P S Z C as m r h hR
    unfold W_X10_tellsBlocks at h
    split at h
    · split at h
      · rename_i hbq
        simp only [Bool.and_eq_true, Nat.beq_eq] at hbq
        obtain ⟨rfl, rfl, rfl, rfl, rfl⟩ := hbq
        exact pj_run_ok (sd_X10_tellsBlocks C) (List.forall_mem_cons.mpr ⟨sg_X10_tellsBlocks_2 C  pj_z, fun q h => by cases h⟩) 24 0 _ _ _ _ ((eq_X10_tellsBlocks _ _ _).trans h) hR
      · cases h
    · cases h
/-! AlikeSteps.fits(IIII)I -/
abbrev c_X10_fits : ByteArray := prog_1_method_28_code
def y_X10_fits : MethodName := ⟨RX10, "fits", "(IIII)I"⟩
noncomputable def H_X10_fits_105 : Nat → Int32 → Int32 → Int32 → Int32 → Int32 → Int32 → Int32 → pj_M → Option (Int32 × pj_M)
  | 0, _, _, _, _, _, _, _, _ => none
  | n1 + 1, x1, x2, x3, x4, x5, x6, x7, m => (if x7 < x5 then ((F_X4_takeOver 13 7 m).bind fun q2 => ((F_X4_setArcPart 13 x2 x4 x7 q2).bind fun q3 => ((F_X1_parting 36 13 x1 q3).bind fun q4 => ((F_X10_tellsBlocks x3 q4.1 q4.2).bind fun q5 => (if q5.1 = 0 then (H_X10_fits_105 n1 x1 x2 x3 x4 x5 x6 (x7 + 1) q5.2) else (H_X10_fits_105 n1 x1 x2 x3 x4 x5 (x6 ||| (1 <<< (x7 &&& 31))) (x7 + 1) q5.2)))))) else ((F_X10_fine x6 m).bind fun q1 => (some (q1.1, q1.2))))
noncomputable def F_X10_fits (x1 : Int32) (x2 : Int32) (x3 : Int32) (x4 : Int32) (m : pj_M) : Option (Int32 × pj_M) := ((F_X10_within x1 0 2 m).bind fun q1 => (if q1.1 = 0 then (some ((-1000001), q1.2)) else ((F_X4_hasArc 7 x2 q1.2).bind fun q2 => (if q2.1 = 0 then (some ((-1000001), q2.2)) else ((F_X6_exists x3 q2.2).bind fun q3 => (if q3.1 = 0 then (some ((-1000001), q3.2)) else ((F_X10_within x4 0 2 q3.2).bind fun q4 => (if q4.1 = 0 then (some ((-1000001), q4.2)) else ((F_X6_isMissing x3 q4.2).bind fun q5 => (if q5.1 = 0 then ((F_X6_length x3 q5.2).bind fun q6 => ((F_X4_states 7 q6.2).bind fun q7 => (if q6.1 < q7.1 then ((F_X10_found 2 q7.2).bind fun q9 => (some (q9.1, q9.2))) else (if x4 = 0 then (H_X10_fits_105 pj_z x1 x2 x3 x4 4 0 0 q7.2) else ((F_X4_states 7 q7.2).bind fun q8 => (H_X10_fits_105 pj_z x1 x2 x3 x4 q8.1 0 0 q8.2)))))) else ((F_X10_found 1 q5.2).bind fun q10 => (some (q10.1, q10.2)))))))))))))
noncomputable def W_X10_fits : List pj_V → pj_M → Option (Int32 × pj_M) := fun as m => match as with
  | [.inr (.inr (t0, w0, a0)), .inl x1, .inl x2, .inl x3, .inl x4] => (match Nat.beq t0 0 && (Nat.beq w0 10 && (Nat.beq a0 0)) with
    | true => F_X10_fits x1 x2 x3 x4 m
    | false => none)
  | _ => none
noncomputable def tb_X10_fits_0 : List (Nat × pj_T (Int32 × pj_M)) := [(0, qs_ldi 1 1), (1, qs_ci 0 2), (2, qs_ci 2 3), (3, qs_sI 3 W_X10_within 6), (6, qs_ifeq 37 9), (9, qs_lda 0 10), (10, qs_gf 10 2 13), (13, qs_ldi 2 14), (14, qs_vI 4 2 W_X4_hasArc 17), (17, qs_ifeq 37 20), (20, qs_ldi 3 21), (21, qs_sI 1 W_X6_exists 24), (24, qs_ifeq 37 27), (27, qs_ldi 4 29), (29, qs_ci 0 30), (30, qs_ci 2 31), (31, qs_sI 3 W_X10_within 34), (34, qs_ifne 40 37), (37, qs_ci (-1000001) 39), (39, qs_iret), (40, qs_lda 0 41), (41, qs_gf 10 0 44), (44, qs_ldi 3 45), (45, qs_vI 6 2 W_X6_isMissing 48), (48, qs_ifeq 57 51), (51, qs_lda 0 52), (52, qs_ci 1 53), (53, qs_vI 10 2 W_X10_found 56), (56, qs_iret), (57, qs_lda 0 58), (58, qs_gf 10 0 61), (61, qs_ldi 3 62), (62, qs_vI 6 2 W_X6_length 65), (65, qs_lda 0 66), (66, qs_gf 10 2 69), (69, qs_vI 4 1 W_X4_states 72), (72, qs_icge 81 75), (75, qs_lda 0 76), (76, qs_ci 2 77), (77, qs_vI 10 2 W_X10_found 80)]
noncomputable def tb_X10_fits_1 : List (Nat × pj_T (Int32 × pj_M)) := [(80, qs_iret), (81, qs_ldi 4 83), (83, qs_ifne 90 86), (86, qs_ci 4 87), (87, qs_go 97), (90, qs_lda 0 91), (91, qs_gf 10 2 94), (94, qs_vI 4 1 W_X4_states 97), (97, qs_sti 5 99), (99, qs_ci 0 100), (100, qs_sti 6 102), (102, qs_ci 0 103), (103, qs_sti 7 105), (105, qs_ldi 7 107), (107, qs_ldi 5 109), (109, qs_icge 170 112), (112, qs_lda 0 113), (113, qs_gf 10 4 116), (116, qs_lda 0 117), (117, qs_gf 10 2 120), (120, qs_vV 4 2 W_X4_takeOver 123), (123, qs_lda 0 124), (124, qs_gf 10 4 127), (127, qs_ldi 2 128), (128, qs_ldi 4 130), (130, qs_ldi 7 132), (132, qs_vV 4 4 W_X4_setArcPart 135), (135, qs_lda 0 136), (136, qs_ldi 3 137), (137, qs_lda 0 138), (138, qs_gf 10 8 141), (141, qs_lda 0 142), (142, qs_gf 10 4 145), (145, qs_ldi 1 146), (146, qs_vR 5 1 3 W_X1_parting 149), (149, qs_vI 10 3 W_X10_tellsBlocks 152), (152, qs_ifeq 164 155), (155, qs_ldi 6 157), (157, qs_ci 1 158), (158, qs_ldi 7 160)]
noncomputable def tb_X10_fits_2 : List (Nat × pj_T (Int32 × pj_M)) := [(160, qs_b2 (fun x y => x <<< (y &&& 31)) 161), (161, qs_b2 (fun x y => x ||| y) 162), (162, qs_sti 6 164), (164, qs_inc 7 1 167), (167, qs_go 105), (170, qs_lda 0 171), (171, qs_ldi 6 173), (173, qs_vI 10 2 W_X10_fine 176), (176, qs_iret)]
noncomputable def tb_X10_fits : List (Nat × pj_T (Int32 × pj_M)) := tb_X10_fits_0 ++ (tb_X10_fits_1 ++ (tb_X10_fits_2))
theorem mv_X10_fits : pj_mv y_X10_fits c_X10_fits 8 (some .int) 4 := ⟨⟨cw_933, cw_931, cw_932, cw_81⟩, by decide +kernel, by decide⟩
set_option maxRecDepth 20000 in
theorem sd_X10_fits_0 {G : pj_E} {A : Nat → Prop} {P : pj_P} {S : pj_U} {Z : pj_Z} (C : pj_C (G, A, (c_X10_fits, y_X10_fits.cls, 8, (some .int), 7), P, S, Z)) : ∀ q ∈ tb_X10_fits_0, pj_S (G, A, (c_X10_fits, y_X10_fits.cls, 8, (some .int), 7), P, S, Z) pj_eI q.1 q.2 :=
  List.forall_mem_cons.mpr ⟨qz_iload_n C (show decode c_X10_fits 0 = .ok (.iload_n 1, 1) by decide +kernel) rfl,
  List.forall_mem_cons.mpr ⟨qz_iconst C (show decode c_X10_fits 1 = .ok (.iconst 0, 1) by decide +kernel) (by decide +kernel),
  List.forall_mem_cons.mpr ⟨qz_iconst C (show decode c_X10_fits 2 = .ok (.iconst 2, 1) by decide +kernel) (by decide +kernel),
  List.forall_mem_cons.mpr ⟨qz_sI C (show decode c_X10_fits 3 = .ok (.invokestatic 91, 3) by decide +kernel) ct_X10_within mv_X10_within (Or.inl cw_361) (show 1 < 7 by omega),
  List.forall_mem_cons.mpr ⟨qz_ifeq C (show decode c_X10_fits 6 = .ok (.ifCond .eq 31, 3) by decide +kernel) (by decide),
  List.forall_mem_cons.mpr ⟨qz_aload_n C (show decode c_X10_fits 9 = .ok (.aload_n 0, 1) by decide +kernel) rfl,
  List.forall_mem_cons.mpr ⟨qz_gf (k := 2) C (show decode c_X10_fits 10 = .ok (.getfield 26, 3) by decide +kernel) vcX10 wiX10 (by decide) cw_313,
  List.forall_mem_cons.mpr ⟨qz_iload_n C (show decode c_X10_fits 13 = .ok (.iload_n 2, 1) by decide +kernel) rfl,
  List.forall_mem_cons.mpr ⟨qz_vI C (show decode c_X10_fits 14 = .ok (.invokevirtual 172, 3) by decide +kernel) ct_X4_hasArc mv_X4_hasArc cw_557 vcX4 (show 1 < 7 by omega),
  List.forall_mem_cons.mpr ⟨qz_ifeq C (show decode c_X10_fits 17 = .ok (.ifCond .eq 20, 3) by decide +kernel) (by decide),
  List.forall_mem_cons.mpr ⟨qz_iload_n C (show decode c_X10_fits 20 = .ok (.iload_n 3, 1) by decide +kernel) rfl,
  List.forall_mem_cons.mpr ⟨qz_sI C (show decode c_X10_fits 21 = .ok (.invokestatic 87, 3) by decide +kernel) ct_X6_exists mv_X6_exists (Or.inl cw_358) (show 1 < 7 by omega),
  List.forall_mem_cons.mpr ⟨qz_ifeq C (show decode c_X10_fits 24 = .ok (.ifCond .eq 13, 3) by decide +kernel) (by decide),
  List.forall_mem_cons.mpr ⟨qz_iload C (show decode c_X10_fits 27 = .ok (.iload 4, 2) by decide +kernel),
  List.forall_mem_cons.mpr ⟨qz_iconst C (show decode c_X10_fits 29 = .ok (.iconst 0, 1) by decide +kernel) (by decide +kernel),
  List.forall_mem_cons.mpr ⟨qz_iconst C (show decode c_X10_fits 30 = .ok (.iconst 2, 1) by decide +kernel) (by decide +kernel),
  List.forall_mem_cons.mpr ⟨qz_sI C (show decode c_X10_fits 31 = .ok (.invokestatic 91, 3) by decide +kernel) ct_X10_within mv_X10_within (Or.inl cw_361) (show 1 < 7 by omega),
  List.forall_mem_cons.mpr ⟨qz_ifne C (show decode c_X10_fits 34 = .ok (.ifCond .ne 6, 3) by decide +kernel) (by decide),
  List.forall_mem_cons.mpr ⟨qz_ldc C (show decode c_X10_fits 37 = .ok (.ldc 95, 2) by decide +kernel) cw_364,
  List.forall_mem_cons.mpr ⟨qz_iret C (show decode c_X10_fits 39 = .ok (.ireturn, 1) by decide +kernel) rfl,
  List.forall_mem_cons.mpr ⟨qz_aload_n C (show decode c_X10_fits 40 = .ok (.aload_n 0, 1) by decide +kernel) rfl,
  List.forall_mem_cons.mpr ⟨qz_gf (k := 0) C (show decode c_X10_fits 41 = .ok (.getfield 10, 3) by decide +kernel) vcX10 wiX10 (by decide) cw_311,
  List.forall_mem_cons.mpr ⟨qz_iload_n C (show decode c_X10_fits 44 = .ok (.iload_n 3, 1) by decide +kernel) rfl,
  List.forall_mem_cons.mpr ⟨qz_vI C (show decode c_X10_fits 45 = .ok (.invokevirtual 107, 3) by decide +kernel) ct_X6_isMissing mv_X6_isMissing cw_382 vcX6 (show 1 < 7 by omega),
  List.forall_mem_cons.mpr ⟨qz_ifeq C (show decode c_X10_fits 48 = .ok (.ifCond .eq 9, 3) by decide +kernel) (by decide),
  List.forall_mem_cons.mpr ⟨qz_aload_n C (show decode c_X10_fits 51 = .ok (.aload_n 0, 1) by decide +kernel) rfl,
  List.forall_mem_cons.mpr ⟨qz_iconst C (show decode c_X10_fits 52 = .ok (.iconst 1, 1) by decide +kernel) (by decide +kernel),
  List.forall_mem_cons.mpr ⟨qz_vI C (show decode c_X10_fits 53 = .ok (.invokevirtual 96, 3) by decide +kernel) ct_X10_found mv_X10_found cw_365 vcX10 (show 1 < 7 by omega),
  List.forall_mem_cons.mpr ⟨qz_iret C (show decode c_X10_fits 56 = .ok (.ireturn, 1) by decide +kernel) rfl,
  List.forall_mem_cons.mpr ⟨qz_aload_n C (show decode c_X10_fits 57 = .ok (.aload_n 0, 1) by decide +kernel) rfl,
  List.forall_mem_cons.mpr ⟨qz_gf (k := 0) C (show decode c_X10_fits 58 = .ok (.getfield 10, 3) by decide +kernel) vcX10 wiX10 (by decide) cw_311,
  List.forall_mem_cons.mpr ⟨qz_iload_n C (show decode c_X10_fits 61 = .ok (.iload_n 3, 1) by decide +kernel) rfl,
  List.forall_mem_cons.mpr ⟨qz_vI C (show decode c_X10_fits 62 = .ok (.invokevirtual 110, 3) by decide +kernel) ct_X6_length mv_X6_length cw_386 vcX6 (show 1 < 7 by omega),
  List.forall_mem_cons.mpr ⟨qz_aload_n C (show decode c_X10_fits 65 = .ok (.aload_n 0, 1) by decide +kernel) rfl,
  List.forall_mem_cons.mpr ⟨qz_gf (k := 2) C (show decode c_X10_fits 66 = .ok (.getfield 26, 3) by decide +kernel) vcX10 wiX10 (by decide) cw_313,
  List.forall_mem_cons.mpr ⟨qz_vI C (show decode c_X10_fits 69 = .ok (.invokevirtual 157, 3) by decide +kernel) ct_X4_states mv_X4_states cw_526 vcX4 (show 1 < 7 by omega),
  List.forall_mem_cons.mpr ⟨qz_icge C (show decode c_X10_fits 72 = .ok (.if_icmp .ge 9, 3) by decide +kernel) (by decide),
  List.forall_mem_cons.mpr ⟨qz_aload_n C (show decode c_X10_fits 75 = .ok (.aload_n 0, 1) by decide +kernel) rfl,
  List.forall_mem_cons.mpr ⟨qz_iconst C (show decode c_X10_fits 76 = .ok (.iconst 2, 1) by decide +kernel) (by decide +kernel),
  List.forall_mem_cons.mpr ⟨qz_vI C (show decode c_X10_fits 77 = .ok (.invokevirtual 96, 3) by decide +kernel) ct_X10_found mv_X10_found cw_365 vcX10 (show 1 < 7 by omega),
  (fun q h => by cases h)⟩⟩⟩⟩⟩⟩⟩⟩⟩⟩⟩⟩⟩⟩⟩⟩⟩⟩⟩⟩⟩⟩⟩⟩⟩⟩⟩⟩⟩⟩⟩⟩⟩⟩⟩⟩⟩⟩⟩⟩
set_option maxRecDepth 20000 in
theorem sd_X10_fits_1 {G : pj_E} {A : Nat → Prop} {P : pj_P} {S : pj_U} {Z : pj_Z} (C : pj_C (G, A, (c_X10_fits, y_X10_fits.cls, 8, (some .int), 7), P, S, Z)) : ∀ q ∈ tb_X10_fits_1, pj_S (G, A, (c_X10_fits, y_X10_fits.cls, 8, (some .int), 7), P, S, Z) pj_eI q.1 q.2 :=
  List.forall_mem_cons.mpr ⟨qz_iret C (show decode c_X10_fits 80 = .ok (.ireturn, 1) by decide +kernel) rfl,
  List.forall_mem_cons.mpr ⟨qz_iload C (show decode c_X10_fits 81 = .ok (.iload 4, 2) by decide +kernel),
  List.forall_mem_cons.mpr ⟨qz_ifne C (show decode c_X10_fits 83 = .ok (.ifCond .ne 7, 3) by decide +kernel) (by decide),
  List.forall_mem_cons.mpr ⟨qz_iconst C (show decode c_X10_fits 86 = .ok (.iconst 4, 1) by decide +kernel) (by decide +kernel),
  List.forall_mem_cons.mpr ⟨qz_goto C (show decode c_X10_fits 87 = .ok (.goto 10, 3) by decide +kernel) (by decide),
  List.forall_mem_cons.mpr ⟨qz_aload_n C (show decode c_X10_fits 90 = .ok (.aload_n 0, 1) by decide +kernel) rfl,
  List.forall_mem_cons.mpr ⟨qz_gf (k := 2) C (show decode c_X10_fits 91 = .ok (.getfield 26, 3) by decide +kernel) vcX10 wiX10 (by decide) cw_313,
  List.forall_mem_cons.mpr ⟨qz_vI C (show decode c_X10_fits 94 = .ok (.invokevirtual 157, 3) by decide +kernel) ct_X4_states mv_X4_states cw_526 vcX4 (show 1 < 7 by omega),
  List.forall_mem_cons.mpr ⟨qz_istore C (show decode c_X10_fits 97 = .ok (.istore 5, 2) by decide +kernel),
  List.forall_mem_cons.mpr ⟨qz_iconst C (show decode c_X10_fits 99 = .ok (.iconst 0, 1) by decide +kernel) (by decide +kernel),
  List.forall_mem_cons.mpr ⟨qz_istore C (show decode c_X10_fits 100 = .ok (.istore 6, 2) by decide +kernel),
  List.forall_mem_cons.mpr ⟨qz_iconst C (show decode c_X10_fits 102 = .ok (.iconst 0, 1) by decide +kernel) (by decide +kernel),
  List.forall_mem_cons.mpr ⟨qz_istore C (show decode c_X10_fits 103 = .ok (.istore 7, 2) by decide +kernel),
  List.forall_mem_cons.mpr ⟨qz_iload C (show decode c_X10_fits 105 = .ok (.iload 7, 2) by decide +kernel),
  List.forall_mem_cons.mpr ⟨qz_iload C (show decode c_X10_fits 107 = .ok (.iload 5, 2) by decide +kernel),
  List.forall_mem_cons.mpr ⟨qz_icge C (show decode c_X10_fits 109 = .ok (.if_icmp .ge 61, 3) by decide +kernel) (by decide),
  List.forall_mem_cons.mpr ⟨qz_aload_n C (show decode c_X10_fits 112 = .ok (.aload_n 0, 1) by decide +kernel) rfl,
  List.forall_mem_cons.mpr ⟨qz_gf (k := 4) C (show decode c_X10_fits 113 = .ok (.getfield 33, 3) by decide +kernel) vcX10 wiX10 (by decide) cw_315,
  List.forall_mem_cons.mpr ⟨qz_aload_n C (show decode c_X10_fits 116 = .ok (.aload_n 0, 1) by decide +kernel) rfl,
  List.forall_mem_cons.mpr ⟨qz_gf (k := 2) C (show decode c_X10_fits 117 = .ok (.getfield 26, 3) by decide +kernel) vcX10 wiX10 (by decide) cw_313,
  List.forall_mem_cons.mpr ⟨qz_vV C (show decode c_X10_fits 120 = .ok (.invokevirtual 150, 3) by decide +kernel) ct_X4_takeOver mv_X4_takeOver cw_518 vcX4 (show 1 < 7 by omega),
  List.forall_mem_cons.mpr ⟨qz_aload_n C (show decode c_X10_fits 123 = .ok (.aload_n 0, 1) by decide +kernel) rfl,
  List.forall_mem_cons.mpr ⟨qz_gf (k := 4) C (show decode c_X10_fits 124 = .ok (.getfield 33, 3) by decide +kernel) vcX10 wiX10 (by decide) cw_315,
  List.forall_mem_cons.mpr ⟨qz_iload_n C (show decode c_X10_fits 127 = .ok (.iload_n 2, 1) by decide +kernel) rfl,
  List.forall_mem_cons.mpr ⟨qz_iload C (show decode c_X10_fits 128 = .ok (.iload 4, 2) by decide +kernel),
  List.forall_mem_cons.mpr ⟨qz_iload C (show decode c_X10_fits 130 = .ok (.iload 7, 2) by decide +kernel),
  List.forall_mem_cons.mpr ⟨qz_vV C (show decode c_X10_fits 132 = .ok (.invokevirtual 303, 3) by decide +kernel) ct_X4_setArcPart mv_X4_setArcPart cw_934 vcX4 (show 1 < 7 by omega),
  List.forall_mem_cons.mpr ⟨qz_aload_n C (show decode c_X10_fits 135 = .ok (.aload_n 0, 1) by decide +kernel) rfl,
  List.forall_mem_cons.mpr ⟨qz_iload_n C (show decode c_X10_fits 136 = .ok (.iload_n 3, 1) by decide +kernel) rfl,
  List.forall_mem_cons.mpr ⟨qz_aload_n C (show decode c_X10_fits 137 = .ok (.aload_n 0, 1) by decide +kernel) rfl,
  List.forall_mem_cons.mpr ⟨qz_gf (k := 8) C (show decode c_X10_fits 138 = .ok (.getfield 54, 3) by decide +kernel) vcX10 wiX10 (by decide) cw_319,
  List.forall_mem_cons.mpr ⟨qz_aload_n C (show decode c_X10_fits 141 = .ok (.aload_n 0, 1) by decide +kernel) rfl,
  List.forall_mem_cons.mpr ⟨qz_gf (k := 4) C (show decode c_X10_fits 142 = .ok (.getfield 33, 3) by decide +kernel) vcX10 wiX10 (by decide) cw_315,
  List.forall_mem_cons.mpr ⟨qz_iload_n C (show decode c_X10_fits 145 = .ok (.iload_n 1, 1) by decide +kernel) rfl,
  List.forall_mem_cons.mpr ⟨qz_vR C (show decode c_X10_fits 146 = .ok (.invokevirtual 218, 3) by decide +kernel) ct_X1_parting mv_X1_parting cw_686 vcX1 (show 6 < 7 by omega),
  List.forall_mem_cons.mpr ⟨qz_vI C (show decode c_X10_fits 149 = .ok (.invokevirtual 306, 3) by decide +kernel) ct_X10_tellsBlocks mv_X10_tellsBlocks cw_935 vcX10 (show 3 < 7 by omega),
  List.forall_mem_cons.mpr ⟨qz_ifeq C (show decode c_X10_fits 152 = .ok (.ifCond .eq 12, 3) by decide +kernel) (by decide),
  List.forall_mem_cons.mpr ⟨qz_iload C (show decode c_X10_fits 155 = .ok (.iload 6, 2) by decide +kernel),
  List.forall_mem_cons.mpr ⟨qz_iconst C (show decode c_X10_fits 157 = .ok (.iconst 1, 1) by decide +kernel) (by decide +kernel),
  List.forall_mem_cons.mpr ⟨qz_iload C (show decode c_X10_fits 158 = .ok (.iload 7, 2) by decide +kernel),
  (fun q h => by cases h)⟩⟩⟩⟩⟩⟩⟩⟩⟩⟩⟩⟩⟩⟩⟩⟩⟩⟩⟩⟩⟩⟩⟩⟩⟩⟩⟩⟩⟩⟩⟩⟩⟩⟩⟩⟩⟩⟩⟩⟩
set_option maxRecDepth 20000 in
theorem sd_X10_fits_2 {G : pj_E} {A : Nat → Prop} {P : pj_P} {S : pj_U} {Z : pj_Z} (C : pj_C (G, A, (c_X10_fits, y_X10_fits.cls, 8, (some .int), 7), P, S, Z)) : ∀ q ∈ tb_X10_fits_2, pj_S (G, A, (c_X10_fits, y_X10_fits.cls, 8, (some .int), 7), P, S, Z) pj_eI q.1 q.2 :=
  List.forall_mem_cons.mpr ⟨qz_ishl C (show decode c_X10_fits 160 = .ok (.ishl, 1) by decide +kernel),
  List.forall_mem_cons.mpr ⟨qz_ior C (show decode c_X10_fits 161 = .ok (.ior, 1) by decide +kernel),
  List.forall_mem_cons.mpr ⟨qz_istore C (show decode c_X10_fits 162 = .ok (.istore 6, 2) by decide +kernel),
  List.forall_mem_cons.mpr ⟨qz_iinc C (show decode c_X10_fits 164 = .ok (.iinc 7 1, 3) by decide +kernel) (by decide +kernel),
  List.forall_mem_cons.mpr ⟨qz_goto C (show decode c_X10_fits 167 = .ok (.goto (-62), 3) by decide +kernel) (by decide),
  List.forall_mem_cons.mpr ⟨qz_aload_n C (show decode c_X10_fits 170 = .ok (.aload_n 0, 1) by decide +kernel) rfl,
  List.forall_mem_cons.mpr ⟨qz_iload C (show decode c_X10_fits 171 = .ok (.iload 6, 2) by decide +kernel),
  List.forall_mem_cons.mpr ⟨qz_vI C (show decode c_X10_fits 173 = .ok (.invokevirtual 104, 3) by decide +kernel) ct_X10_fine mv_X10_fine cw_374 vcX10 (show 1 < 7 by omega),
  List.forall_mem_cons.mpr ⟨qz_iret C (show decode c_X10_fits 176 = .ok (.ireturn, 1) by decide +kernel) rfl,
  (fun q h => by cases h)⟩⟩⟩⟩⟩⟩⟩⟩⟩
theorem sd_X10_fits {G : pj_E} {A : Nat → Prop} {P : pj_P} {S : pj_U} {Z : pj_Z} (C : pj_C (G, A, (c_X10_fits, y_X10_fits.cls, 8, (some .int), 7), P, S, Z)) : ∀ q ∈ tb_X10_fits, pj_S (G, A, (c_X10_fits, y_X10_fits.cls, 8, (some .int), 7), P, S, Z) pj_eI q.1 q.2 := List.forall_mem_append.mpr ⟨sd_X10_fits_0 C, List.forall_mem_append.mpr ⟨sd_X10_fits_1 C, sd_X10_fits_2 C⟩⟩
noncomputable def C_X10_fits_105 (f : Int32 → Int32 → Int32 → Int32 → Int32 → Int32 → Int32 → pj_M → Option (Int32 × pj_M)) : pj_N (Int32 × pj_M) := fun L st m => match L, st with
  | [some (.inr (.inr (t0, w0, a0))), some (.inl x1), some (.inl x2), some (.inl x3), some (.inl x4), some (.inl x5), some (.inl x6), some (.inl x7)], [] => (match Nat.beq t0 0 && (Nat.beq w0 10 && (Nat.beq a0 0)) with
    | true => f x1 x2 x3 x4 x5 x6 x7 m
    | false => none)
  | _, _ => none
set_option maxRecDepth 20000 in
theorem eq_X10_fits_105 (n1 : Nat) (x1 : Int32) (x2 : Int32) (x3 : Int32) (x4 : Int32) (x5 : Int32) (x6 : Int32) (x7 : Int32) (m : pj_M) : pj_run tb_X10_fits [(105, C_X10_fits_105 (H_X10_fits_105 n1))] 91 105 [some (.inr (.inr (0, 10, 0))), some (.inl x1), some (.inl x2), some (.inl x3), some (.inl x4), some (.inl x5), some (.inl x6), some (.inl x7)] [] m = H_X10_fits_105 (n1 + 1) x1 x2 x3 x4 x5 x6 x7 m := by rfl
theorem sg_X10_fits_105 {G : pj_E} {A : Nat → Prop} {P : pj_P} {S : pj_U} {Z : pj_Z} (C : pj_C (G, A, (c_X10_fits, y_X10_fits.cls, 8, (some .int), 7), P, S, Z)) : ∀ n1, pj_G (G, A, (c_X10_fits, y_X10_fits.cls, 8, (some .int), 7), P, S, Z) pj_eI 105 (C_X10_fits_105 (H_X10_fits_105 n1)) := by
  intro n1
  induction n1 with
  | zero =>
    intro L st m r h hR
    unfold C_X10_fits_105 at h
    split at h
    · split at h
      · cases h
      · cases h
    · cases h
  | succ n1 ih1 =>
    intro L st m r h hR
    unfold C_X10_fits_105 at h
    split at h
    · split at h
      · rename_i hbq
        simp only [Bool.and_eq_true, Nat.beq_eq] at hbq
        obtain ⟨rfl, rfl, rfl⟩ := hbq
        exact pj_run_ok (sd_X10_fits C) (List.forall_mem_cons.mpr ⟨ih1, fun q h => by cases h⟩) 91 105 _ _ _ _ ((eq_X10_fits_105 _ _ _ _ _ _ _ _ _).trans h) hR
      · cases h
    · cases h
set_option maxRecDepth 20000 in
theorem eq_X10_fits (x1 : Int32) (x2 : Int32) (x3 : Int32) (x4 : Int32) (m : pj_M) : pj_run tb_X10_fits [(105, C_X10_fits_105 (H_X10_fits_105  pj_z))] 91 0 [some (.inr (.inr (0, 10, 0))), some (.inl x1), some (.inl x2), some (.inl x3), some (.inl x4), none, none, none] [] m = F_X10_fits x1 x2 x3 x4 m := by rfl
theorem ct_X10_fits : pj_Ct pj_eI y_X10_fits c_X10_fits 8 (some .int) 7 W_X10_fits := by
  refine pj_ct_of (by decide +kernel) ?_ ?_
  · intro as m r h
    unfold W_X10_fits at h
    split at h
    · simp [pj_l0]
    · cases h
  · intro G A P S Z C as m r h hR
    unfold W_X10_fits at h
    split at h
    · split at h
      · rename_i hbq
        simp only [Bool.and_eq_true, Nat.beq_eq] at hbq
        obtain ⟨rfl, rfl, rfl⟩ := hbq
        exact pj_run_ok (sd_X10_fits C) (List.forall_mem_cons.mpr ⟨sg_X10_fits_105 C  pj_z, fun q h => by cases h⟩) 91 0 _ _ _ _ ((eq_X10_fits _ _ _ _ _).trans h) hR
      · cases h
    · cases h
/-! AlikeSteps.image(I)I -/
abbrev c_X10_image : ByteArray := prog_1_method_29_code
def y_X10_image : MethodName := ⟨RX10, "image", "(I)I"⟩
noncomputable def F_X10_image (x1 : Int32) (m : pj_M) : Option (Int32 × pj_M) := ((F_X10_within x1 0 1 m).bind fun q1 => (if q1.1 = 0 then (some ((-1000001), q1.2)) else ((F_X4_states 7 q1.2).bind fun q2 => (if q2.1 = 0 then (some ((-1000002), q2.2)) else (if x1 < 0 ∨ 2 ≤ x1.toNatClampNeg then none else ((F_X4_takeOver (58 + 3 * x1.toNatClampNeg) 7 q2.2).bind fun q3 => (some (1, q3))))))))
noncomputable def W_X10_image : List pj_V → pj_M → Option (Int32 × pj_M) := fun as m => match as with
  | [.inr (.inr (t0, w0, a0)), .inl x1] => (match Nat.beq t0 0 && (Nat.beq w0 10 && (Nat.beq a0 0)) with
    | true => F_X10_image x1 m
    | false => none)
  | _ => none
noncomputable def tb_X10_image_0 : List (Nat × pj_T (Int32 × pj_M)) := [(0, qs_ldi 1 1), (1, qs_ci 0 2), (2, qs_ci 1 3), (3, qs_sI 3 W_X10_within 6), (6, qs_ifne 12 9), (9, qs_ci (-1000001) 11), (11, qs_iret), (12, qs_lda 0 13), (13, qs_gf 10 2 16), (16, qs_vI 4 1 W_X4_states 19), (19, qs_ifne 25 22), (22, qs_ci (-1000002) 24), (24, qs_iret), (25, qs_lda 0 26), (26, qs_gf 10 5 29), (29, qs_ldi 1 30), (30, qs_aald 31), (31, qs_lda 0 32), (32, qs_gf 10 2 35), (35, qs_vV 4 2 W_X4_takeOver 38), (38, qs_ci 1 39), (39, qs_iret)]
noncomputable abbrev tb_X10_image : List (Nat × pj_T (Int32 × pj_M)) := tb_X10_image_0
theorem mv_X10_image : pj_mv y_X10_image c_X10_image 2 (some .int) 1 := ⟨⟨cw_942, cw_940, cw_941, cw_81⟩, by decide +kernel, by decide⟩
set_option maxRecDepth 20000 in
theorem sd_X10_image_0 {G : pj_E} {A : Nat → Prop} {P : pj_P} {S : pj_U} {Z : pj_Z} (C : pj_C (G, A, (c_X10_image, y_X10_image.cls, 2, (some .int), 2), P, S, Z)) : ∀ q ∈ tb_X10_image_0, pj_S (G, A, (c_X10_image, y_X10_image.cls, 2, (some .int), 2), P, S, Z) pj_eI q.1 q.2 :=
  List.forall_mem_cons.mpr ⟨qz_iload_n C (show decode c_X10_image 0 = .ok (.iload_n 1, 1) by decide +kernel) rfl,
  List.forall_mem_cons.mpr ⟨qz_iconst C (show decode c_X10_image 1 = .ok (.iconst 0, 1) by decide +kernel) (by decide +kernel),
  List.forall_mem_cons.mpr ⟨qz_iconst C (show decode c_X10_image 2 = .ok (.iconst 1, 1) by decide +kernel) (by decide +kernel),
  List.forall_mem_cons.mpr ⟨qz_sI C (show decode c_X10_image 3 = .ok (.invokestatic 91, 3) by decide +kernel) ct_X10_within mv_X10_within (Or.inl cw_361) (show 1 < 2 by omega),
  List.forall_mem_cons.mpr ⟨qz_ifne C (show decode c_X10_image 6 = .ok (.ifCond .ne 6, 3) by decide +kernel) (by decide),
  List.forall_mem_cons.mpr ⟨qz_ldc C (show decode c_X10_image 9 = .ok (.ldc 95, 2) by decide +kernel) cw_364,
  List.forall_mem_cons.mpr ⟨qz_iret C (show decode c_X10_image 11 = .ok (.ireturn, 1) by decide +kernel) rfl,
  List.forall_mem_cons.mpr ⟨qz_aload_n C (show decode c_X10_image 12 = .ok (.aload_n 0, 1) by decide +kernel) rfl,
  List.forall_mem_cons.mpr ⟨qz_gf (k := 2) C (show decode c_X10_image 13 = .ok (.getfield 26, 3) by decide +kernel) vcX10 wiX10 (by decide) cw_313,
  List.forall_mem_cons.mpr ⟨qz_vI C (show decode c_X10_image 16 = .ok (.invokevirtual 157, 3) by decide +kernel) ct_X4_states mv_X4_states cw_526 vcX4 (show 1 < 2 by omega),
  List.forall_mem_cons.mpr ⟨qz_ifne C (show decode c_X10_image 19 = .ok (.ifCond .ne 6, 3) by decide +kernel) (by decide),
  List.forall_mem_cons.mpr ⟨qz_ldc C (show decode c_X10_image 22 = .ok (.ldc 195, 2) by decide +kernel) cw_596,
  List.forall_mem_cons.mpr ⟨qz_iret C (show decode c_X10_image 24 = .ok (.ireturn, 1) by decide +kernel) rfl,
  List.forall_mem_cons.mpr ⟨qz_aload_n C (show decode c_X10_image 25 = .ok (.aload_n 0, 1) by decide +kernel) rfl,
  List.forall_mem_cons.mpr ⟨qz_gf (k := 5) C (show decode c_X10_image 26 = .ok (.getfield 36, 3) by decide +kernel) vcX10 wiX10 (by decide) cw_316,
  List.forall_mem_cons.mpr ⟨qz_iload_n C (show decode c_X10_image 29 = .ok (.iload_n 1, 1) by decide +kernel) rfl,
  List.forall_mem_cons.mpr ⟨qz_aald C (show decode c_X10_image 30 = .ok (.aaload, 1) by decide +kernel),
  List.forall_mem_cons.mpr ⟨qz_aload_n C (show decode c_X10_image 31 = .ok (.aload_n 0, 1) by decide +kernel) rfl,
  List.forall_mem_cons.mpr ⟨qz_gf (k := 2) C (show decode c_X10_image 32 = .ok (.getfield 26, 3) by decide +kernel) vcX10 wiX10 (by decide) cw_313,
  List.forall_mem_cons.mpr ⟨qz_vV C (show decode c_X10_image 35 = .ok (.invokevirtual 150, 3) by decide +kernel) ct_X4_takeOver mv_X4_takeOver cw_518 vcX4 (show 1 < 2 by omega),
  List.forall_mem_cons.mpr ⟨qz_iconst C (show decode c_X10_image 38 = .ok (.iconst 1, 1) by decide +kernel) (by decide +kernel),
  List.forall_mem_cons.mpr ⟨qz_iret C (show decode c_X10_image 39 = .ok (.ireturn, 1) by decide +kernel) rfl,
  (fun q h => by cases h)⟩⟩⟩⟩⟩⟩⟩⟩⟩⟩⟩⟩⟩⟩⟩⟩⟩⟩⟩⟩⟩⟩
theorem sd_X10_image {G : pj_E} {A : Nat → Prop} {P : pj_P} {S : pj_U} {Z : pj_Z} (C : pj_C (G, A, (c_X10_image, y_X10_image.cls, 2, (some .int), 2), P, S, Z)) : ∀ q ∈ tb_X10_image, pj_S (G, A, (c_X10_image, y_X10_image.cls, 2, (some .int), 2), P, S, Z) pj_eI q.1 q.2 := sd_X10_image_0 C
set_option maxRecDepth 20000 in
theorem eq_X10_image (x1 : Int32) (m : pj_M) : pj_run tb_X10_image [] 24 0 [some (.inr (.inr (0, 10, 0))), some (.inl x1)] [] m = F_X10_image x1 m := by rfl
theorem ct_X10_image : pj_Ct pj_eI y_X10_image c_X10_image 2 (some .int) 2 W_X10_image := by
  refine pj_ct_of (by decide +kernel) ?_ ?_
  · intro as m r h
    unfold W_X10_image at h
    split at h
    · simp [pj_l0]
    · cases h
  · intro G A P S Z C as m r h hR
    unfold W_X10_image at h
    split at h
    · split at h
      · rename_i hbq
        simp only [Bool.and_eq_true, Nat.beq_eq] at hbq
        obtain ⟨rfl, rfl, rfl⟩ := hbq
        exact pj_run_ok (sd_X10_image C) (fun q h => by cases h) 24 0 _ _ _ _ ((eq_X10_image _ _).trans h) hR
      · cases h
    · cases h
/-! AlikeSteps.restore(I)I -/
abbrev c_X10_restore : ByteArray := prog_1_method_30_code
def y_X10_restore : MethodName := ⟨RX10, "restore", "(I)I"⟩
noncomputable def F_X10_restore (x1 : Int32) (m : pj_M) : Option (Int32 × pj_M) := ((F_X10_within x1 0 1 m).bind fun q1 => (if q1.1 = 0 then (some ((-1000001), q1.2)) else (if x1 < 0 ∨ 2 ≤ x1.toNatClampNeg then none else ((F_X4_states (58 + 3 * x1.toNatClampNeg) q1.2).bind fun q2 => (if q2.1 = 0 then (some ((-1000002), q2.2)) else (if x1 < 0 ∨ 2 ≤ x1.toNatClampNeg then none else ((F_X4_takeOver 7 (58 + 3 * x1.toNatClampNeg) q2.2).bind fun q3 => ((F_X0_forget q3).bind fun q4 => (some (1, q4))))))))))
noncomputable def W_X10_restore : List pj_V → pj_M → Option (Int32 × pj_M) := fun as m => match as with
  | [.inr (.inr (t0, w0, a0)), .inl x1] => (match Nat.beq t0 0 && (Nat.beq w0 10 && (Nat.beq a0 0)) with
    | true => F_X10_restore x1 m
    | false => none)
  | _ => none
noncomputable def tb_X10_restore_0 : List (Nat × pj_T (Int32 × pj_M)) := [(0, qs_ldi 1 1), (1, qs_ci 0 2), (2, qs_ci 1 3), (3, qs_sI 3 W_X10_within 6), (6, qs_ifne 12 9), (9, qs_ci (-1000001) 11), (11, qs_iret), (12, qs_lda 0 13), (13, qs_gf 10 5 16), (16, qs_ldi 1 17), (17, qs_aald 18), (18, qs_vI 4 1 W_X4_states 21), (21, qs_ifne 27 24), (24, qs_ci (-1000002) 26), (26, qs_iret), (27, qs_lda 0 28), (28, qs_gf 10 2 31), (31, qs_lda 0 32), (32, qs_gf 10 5 35), (35, qs_ldi 1 36), (36, qs_aald 37), (37, qs_vV 4 2 W_X4_takeOver 40), (40, qs_lda 0 41), (41, qs_gf 10 6 44), (44, qs_vV 0 1 W_X0_forget 47), (47, qs_ci 1 48), (48, qs_iret)]
noncomputable abbrev tb_X10_restore : List (Nat × pj_T (Int32 × pj_M)) := tb_X10_restore_0
theorem mv_X10_restore : pj_mv y_X10_restore c_X10_restore 2 (some .int) 1 := ⟨⟨cw_946, cw_944, cw_945, cw_81⟩, by decide +kernel, by decide⟩
set_option maxRecDepth 20000 in
theorem sd_X10_restore_0 {G : pj_E} {A : Nat → Prop} {P : pj_P} {S : pj_U} {Z : pj_Z} (C : pj_C (G, A, (c_X10_restore, y_X10_restore.cls, 2, (some .int), 2), P, S, Z)) : ∀ q ∈ tb_X10_restore_0, pj_S (G, A, (c_X10_restore, y_X10_restore.cls, 2, (some .int), 2), P, S, Z) pj_eI q.1 q.2 :=
  List.forall_mem_cons.mpr ⟨qz_iload_n C (show decode c_X10_restore 0 = .ok (.iload_n 1, 1) by decide +kernel) rfl,
  List.forall_mem_cons.mpr ⟨qz_iconst C (show decode c_X10_restore 1 = .ok (.iconst 0, 1) by decide +kernel) (by decide +kernel),
  List.forall_mem_cons.mpr ⟨qz_iconst C (show decode c_X10_restore 2 = .ok (.iconst 1, 1) by decide +kernel) (by decide +kernel),
  List.forall_mem_cons.mpr ⟨qz_sI C (show decode c_X10_restore 3 = .ok (.invokestatic 91, 3) by decide +kernel) ct_X10_within mv_X10_within (Or.inl cw_361) (show 1 < 2 by omega),
  List.forall_mem_cons.mpr ⟨qz_ifne C (show decode c_X10_restore 6 = .ok (.ifCond .ne 6, 3) by decide +kernel) (by decide),
  List.forall_mem_cons.mpr ⟨qz_ldc C (show decode c_X10_restore 9 = .ok (.ldc 95, 2) by decide +kernel) cw_364,
  List.forall_mem_cons.mpr ⟨qz_iret C (show decode c_X10_restore 11 = .ok (.ireturn, 1) by decide +kernel) rfl,
  List.forall_mem_cons.mpr ⟨qz_aload_n C (show decode c_X10_restore 12 = .ok (.aload_n 0, 1) by decide +kernel) rfl,
  List.forall_mem_cons.mpr ⟨qz_gf (k := 5) C (show decode c_X10_restore 13 = .ok (.getfield 36, 3) by decide +kernel) vcX10 wiX10 (by decide) cw_316,
  List.forall_mem_cons.mpr ⟨qz_iload_n C (show decode c_X10_restore 16 = .ok (.iload_n 1, 1) by decide +kernel) rfl,
  List.forall_mem_cons.mpr ⟨qz_aald C (show decode c_X10_restore 17 = .ok (.aaload, 1) by decide +kernel),
  List.forall_mem_cons.mpr ⟨qz_vI C (show decode c_X10_restore 18 = .ok (.invokevirtual 157, 3) by decide +kernel) ct_X4_states mv_X4_states cw_526 vcX4 (show 1 < 2 by omega),
  List.forall_mem_cons.mpr ⟨qz_ifne C (show decode c_X10_restore 21 = .ok (.ifCond .ne 6, 3) by decide +kernel) (by decide),
  List.forall_mem_cons.mpr ⟨qz_ldc C (show decode c_X10_restore 24 = .ok (.ldc 195, 2) by decide +kernel) cw_596,
  List.forall_mem_cons.mpr ⟨qz_iret C (show decode c_X10_restore 26 = .ok (.ireturn, 1) by decide +kernel) rfl,
  List.forall_mem_cons.mpr ⟨qz_aload_n C (show decode c_X10_restore 27 = .ok (.aload_n 0, 1) by decide +kernel) rfl,
  List.forall_mem_cons.mpr ⟨qz_gf (k := 2) C (show decode c_X10_restore 28 = .ok (.getfield 26, 3) by decide +kernel) vcX10 wiX10 (by decide) cw_313,
  List.forall_mem_cons.mpr ⟨qz_aload_n C (show decode c_X10_restore 31 = .ok (.aload_n 0, 1) by decide +kernel) rfl,
  List.forall_mem_cons.mpr ⟨qz_gf (k := 5) C (show decode c_X10_restore 32 = .ok (.getfield 36, 3) by decide +kernel) vcX10 wiX10 (by decide) cw_316,
  List.forall_mem_cons.mpr ⟨qz_iload_n C (show decode c_X10_restore 35 = .ok (.iload_n 1, 1) by decide +kernel) rfl,
  List.forall_mem_cons.mpr ⟨qz_aald C (show decode c_X10_restore 36 = .ok (.aaload, 1) by decide +kernel),
  List.forall_mem_cons.mpr ⟨qz_vV C (show decode c_X10_restore 37 = .ok (.invokevirtual 150, 3) by decide +kernel) ct_X4_takeOver mv_X4_takeOver cw_518 vcX4 (show 1 < 2 by omega),
  List.forall_mem_cons.mpr ⟨qz_aload_n C (show decode c_X10_restore 40 = .ok (.aload_n 0, 1) by decide +kernel) rfl,
  List.forall_mem_cons.mpr ⟨qz_gf (k := 6) C (show decode c_X10_restore 41 = .ok (.getfield 43, 3) by decide +kernel) vcX10 wiX10 (by decide) cw_317,
  List.forall_mem_cons.mpr ⟨qz_vV C (show decode c_X10_restore 44 = .ok (.invokevirtual 154, 3) by decide +kernel) ct_X0_forget mv_X0_forget cw_522 vcX0 (show 1 < 2 by omega),
  List.forall_mem_cons.mpr ⟨qz_iconst C (show decode c_X10_restore 47 = .ok (.iconst 1, 1) by decide +kernel) (by decide +kernel),
  List.forall_mem_cons.mpr ⟨qz_iret C (show decode c_X10_restore 48 = .ok (.ireturn, 1) by decide +kernel) rfl,
  (fun q h => by cases h)⟩⟩⟩⟩⟩⟩⟩⟩⟩⟩⟩⟩⟩⟩⟩⟩⟩⟩⟩⟩⟩⟩⟩⟩⟩⟩⟩
theorem sd_X10_restore {G : pj_E} {A : Nat → Prop} {P : pj_P} {S : pj_U} {Z : pj_Z} (C : pj_C (G, A, (c_X10_restore, y_X10_restore.cls, 2, (some .int), 2), P, S, Z)) : ∀ q ∈ tb_X10_restore, pj_S (G, A, (c_X10_restore, y_X10_restore.cls, 2, (some .int), 2), P, S, Z) pj_eI q.1 q.2 := sd_X10_restore_0 C
set_option maxRecDepth 20000 in
theorem eq_X10_restore (x1 : Int32) (m : pj_M) : pj_run tb_X10_restore [] 29 0 [some (.inr (.inr (0, 10, 0))), some (.inl x1)] [] m = F_X10_restore x1 m := by rfl
theorem ct_X10_restore : pj_Ct pj_eI y_X10_restore c_X10_restore 2 (some .int) 2 W_X10_restore := by
  refine pj_ct_of (by decide +kernel) ?_ ?_
  · intro as m r h
    unfold W_X10_restore at h
    split at h
    · simp [pj_l0]
    · cases h
  · intro G A P S Z C as m r h hR
    unfold W_X10_restore at h
    split at h
    · split at h
      · rename_i hbq
        simp only [Bool.and_eq_true, Nat.beq_eq] at hbq
        obtain ⟨rfl, rfl, rfl⟩ := hbq
        exact pj_run_ok (sd_X10_restore C) (fun q h => by cases h) 29 0 _ _ _ _ ((eq_X10_restore _ _).trans h) hR
      · cases h
    · cases h
/-! AlikeSteps.kind(I)I -/
abbrev c_X10_kind : ByteArray := prog_1_method_31_code
def y_X10_kind : MethodName := ⟨RX10, "kind", "(I)I"⟩
noncomputable def F_X10_kind (x1 : Int32) (m : pj_M) : Option (Int32 × pj_M) := ((F_X4_hasState 7 x1 m).bind fun q1 => (if q1.1 = 0 then (some ((-1000001), q1.2)) else ((F_X4_kindOf 7 x1 q1.2).bind fun q2 => (some (q2.1, q2.2)))))
noncomputable def W_X10_kind : List pj_V → pj_M → Option (Int32 × pj_M) := fun as m => match as with
  | [.inr (.inr (t0, w0, a0)), .inl x1] => (match Nat.beq t0 0 && (Nat.beq w0 10 && (Nat.beq a0 0)) with
    | true => F_X10_kind x1 m
    | false => none)
  | _ => none
noncomputable def tb_X10_kind_0 : List (Nat × pj_T (Int32 × pj_M)) := [(0, qs_lda 0 1), (1, qs_gf 10 2 4), (4, qs_ldi 1 5), (5, qs_vI 4 2 W_X4_hasState 8), (8, qs_ifeq 22 11), (11, qs_lda 0 12), (12, qs_gf 10 2 15), (15, qs_ldi 1 16), (16, qs_vI 4 2 W_X4_kindOf 19), (19, qs_go 24), (22, qs_ci (-1000001) 24), (24, qs_iret)]
noncomputable abbrev tb_X10_kind : List (Nat × pj_T (Int32 × pj_M)) := tb_X10_kind_0
theorem mv_X10_kind : pj_mv y_X10_kind c_X10_kind 2 (some .int) 1 := ⟨⟨cw_950, cw_948, cw_949, cw_81⟩, by decide +kernel, by decide⟩
set_option maxRecDepth 20000 in
theorem sd_X10_kind_0 {G : pj_E} {A : Nat → Prop} {P : pj_P} {S : pj_U} {Z : pj_Z} (C : pj_C (G, A, (c_X10_kind, y_X10_kind.cls, 2, (some .int), 2), P, S, Z)) : ∀ q ∈ tb_X10_kind_0, pj_S (G, A, (c_X10_kind, y_X10_kind.cls, 2, (some .int), 2), P, S, Z) pj_eI q.1 q.2 :=
  List.forall_mem_cons.mpr ⟨qz_aload_n C (show decode c_X10_kind 0 = .ok (.aload_n 0, 1) by decide +kernel) rfl,
  List.forall_mem_cons.mpr ⟨qz_gf (k := 2) C (show decode c_X10_kind 1 = .ok (.getfield 26, 3) by decide +kernel) vcX10 wiX10 (by decide) cw_313,
  List.forall_mem_cons.mpr ⟨qz_iload_n C (show decode c_X10_kind 4 = .ok (.iload_n 1, 1) by decide +kernel) rfl,
  List.forall_mem_cons.mpr ⟨qz_vI C (show decode c_X10_kind 5 = .ok (.invokevirtual 160, 3) by decide +kernel) ct_X4_hasState mv_X4_hasState cw_538 vcX4 (show 1 < 2 by omega),
  List.forall_mem_cons.mpr ⟨qz_ifeq C (show decode c_X10_kind 8 = .ok (.ifCond .eq 14, 3) by decide +kernel) (by decide),
  List.forall_mem_cons.mpr ⟨qz_aload_n C (show decode c_X10_kind 11 = .ok (.aload_n 0, 1) by decide +kernel) rfl,
  List.forall_mem_cons.mpr ⟨qz_gf (k := 2) C (show decode c_X10_kind 12 = .ok (.getfield 26, 3) by decide +kernel) vcX10 wiX10 (by decide) cw_313,
  List.forall_mem_cons.mpr ⟨qz_iload_n C (show decode c_X10_kind 15 = .ok (.iload_n 1, 1) by decide +kernel) rfl,
  List.forall_mem_cons.mpr ⟨qz_vI C (show decode c_X10_kind 16 = .ok (.invokevirtual 192, 3) by decide +kernel) ct_X4_kindOf mv_X4_kindOf cw_592 vcX4 (show 1 < 2 by omega),
  List.forall_mem_cons.mpr ⟨qz_goto C (show decode c_X10_kind 19 = .ok (.goto 5, 3) by decide +kernel) (by decide),
  List.forall_mem_cons.mpr ⟨qz_ldc C (show decode c_X10_kind 22 = .ok (.ldc 95, 2) by decide +kernel) cw_364,
  List.forall_mem_cons.mpr ⟨qz_iret C (show decode c_X10_kind 24 = .ok (.ireturn, 1) by decide +kernel) rfl,
  (fun q h => by cases h)⟩⟩⟩⟩⟩⟩⟩⟩⟩⟩⟩⟩
theorem sd_X10_kind {G : pj_E} {A : Nat → Prop} {P : pj_P} {S : pj_U} {Z : pj_Z} (C : pj_C (G, A, (c_X10_kind, y_X10_kind.cls, 2, (some .int), 2), P, S, Z)) : ∀ q ∈ tb_X10_kind, pj_S (G, A, (c_X10_kind, y_X10_kind.cls, 2, (some .int), 2), P, S, Z) pj_eI q.1 q.2 := sd_X10_kind_0 C
set_option maxRecDepth 20000 in
theorem eq_X10_kind (x1 : Int32) (m : pj_M) : pj_run tb_X10_kind [] 14 0 [some (.inr (.inr (0, 10, 0))), some (.inl x1)] [] m = F_X10_kind x1 m := by rfl
theorem ct_X10_kind : pj_Ct pj_eI y_X10_kind c_X10_kind 2 (some .int) 2 W_X10_kind := by
  refine pj_ct_of (by decide +kernel) ?_ ?_
  · intro as m r h
    unfold W_X10_kind at h
    split at h
    · simp [pj_l0]
    · cases h
  · intro G A P S Z C as m r h hR
    unfold W_X10_kind at h
    split at h
    · split at h
      · rename_i hbq
        simp only [Bool.and_eq_true, Nat.beq_eq] at hbq
        obtain ⟨rfl, rfl, rfl⟩ := hbq
        exact pj_run_ok (sd_X10_kind C) (fun q h => by cases h) 14 0 _ _ _ _ ((eq_X10_kind _ _).trans h) hR
      · cases h
    · cases h
/-! AlikeSteps.as(II)I -/
abbrev c_X10_as : ByteArray := prog_1_method_32_code
def y_X10_as : MethodName := ⟨RX10, "as", "(II)I"⟩
noncomputable def F_X10_as (x1 : Int32) (x2 : Int32) (m : pj_M) : Option (Int32 × pj_M) := ((F_X4_hasState 7 x1 m).bind fun q1 => (if q1.1 = 0 then (some ((-1000001), q1.2)) else ((F_X10_within x2 0 5 q1.2).bind fun q2 => (if q2.1 = 0 then (some ((-1000001), q2.2)) else ((F_X4_kindOf 7 x1 q2.2).bind fun q3 => ((F_X10_isA q3.1 x2 q3.2).bind fun q4 => (if q4.1 = 0 then ((F_X10_found 3 q4.2).bind fun q5 => (some (q5.1, q5.2))) else ((F_X10_fine x1 q4.2).bind fun q6 => (some (q6.1, q6.2))))))))))
noncomputable def W_X10_as : List pj_V → pj_M → Option (Int32 × pj_M) := fun as m => match as with
  | [.inr (.inr (t0, w0, a0)), .inl x1, .inl x2] => (match Nat.beq t0 0 && (Nat.beq w0 10 && (Nat.beq a0 0)) with
    | true => F_X10_as x1 x2 m
    | false => none)
  | _ => none
noncomputable def tb_X10_as_0 : List (Nat × pj_T (Int32 × pj_M)) := [(0, qs_lda 0 1), (1, qs_gf 10 2 4), (4, qs_ldi 1 5), (5, qs_vI 4 2 W_X4_hasState 8), (8, qs_ifeq 20 11), (11, qs_ldi 2 12), (12, qs_ci 0 13), (13, qs_ci 5 14), (14, qs_sI 3 W_X10_within 17), (17, qs_ifne 23 20), (20, qs_ci (-1000001) 22), (22, qs_iret), (23, qs_lda 0 24), (24, qs_gf 10 2 27), (27, qs_ldi 1 28), (28, qs_vI 4 2 W_X4_kindOf 31), (31, qs_ldi 2 32), (32, qs_sI 2 W_X10_isA 35), (35, qs_ifeq 46 38), (38, qs_lda 0 39), (39, qs_ldi 1 40), (40, qs_vI 10 2 W_X10_fine 43), (43, qs_go 51), (46, qs_lda 0 47), (47, qs_ci 3 48), (48, qs_vI 10 2 W_X10_found 51), (51, qs_iret)]
noncomputable abbrev tb_X10_as : List (Nat × pj_T (Int32 × pj_M)) := tb_X10_as_0
theorem mv_X10_as : pj_mv y_X10_as c_X10_as 3 (some .int) 2 := ⟨⟨cw_954, cw_952, cw_953, cw_81⟩, by decide +kernel, by decide⟩
set_option maxRecDepth 20000 in
theorem sd_X10_as_0 {G : pj_E} {A : Nat → Prop} {P : pj_P} {S : pj_U} {Z : pj_Z} (C : pj_C (G, A, (c_X10_as, y_X10_as.cls, 3, (some .int), 3), P, S, Z)) : ∀ q ∈ tb_X10_as_0, pj_S (G, A, (c_X10_as, y_X10_as.cls, 3, (some .int), 3), P, S, Z) pj_eI q.1 q.2 :=
  List.forall_mem_cons.mpr ⟨qz_aload_n C (show decode c_X10_as 0 = .ok (.aload_n 0, 1) by decide +kernel) rfl,
  List.forall_mem_cons.mpr ⟨qz_gf (k := 2) C (show decode c_X10_as 1 = .ok (.getfield 26, 3) by decide +kernel) vcX10 wiX10 (by decide) cw_313,
  List.forall_mem_cons.mpr ⟨qz_iload_n C (show decode c_X10_as 4 = .ok (.iload_n 1, 1) by decide +kernel) rfl,
  List.forall_mem_cons.mpr ⟨qz_vI C (show decode c_X10_as 5 = .ok (.invokevirtual 160, 3) by decide +kernel) ct_X4_hasState mv_X4_hasState cw_538 vcX4 (show 1 < 3 by omega),
  List.forall_mem_cons.mpr ⟨qz_ifeq C (show decode c_X10_as 8 = .ok (.ifCond .eq 12, 3) by decide +kernel) (by decide),
  List.forall_mem_cons.mpr ⟨qz_iload_n C (show decode c_X10_as 11 = .ok (.iload_n 2, 1) by decide +kernel) rfl,
  List.forall_mem_cons.mpr ⟨qz_iconst C (show decode c_X10_as 12 = .ok (.iconst 0, 1) by decide +kernel) (by decide +kernel),
  List.forall_mem_cons.mpr ⟨qz_iconst C (show decode c_X10_as 13 = .ok (.iconst 5, 1) by decide +kernel) (by decide +kernel),
  List.forall_mem_cons.mpr ⟨qz_sI C (show decode c_X10_as 14 = .ok (.invokestatic 91, 3) by decide +kernel) ct_X10_within mv_X10_within (Or.inl cw_361) (show 1 < 3 by omega),
  List.forall_mem_cons.mpr ⟨qz_ifne C (show decode c_X10_as 17 = .ok (.ifCond .ne 6, 3) by decide +kernel) (by decide),
  List.forall_mem_cons.mpr ⟨qz_ldc C (show decode c_X10_as 20 = .ok (.ldc 95, 2) by decide +kernel) cw_364,
  List.forall_mem_cons.mpr ⟨qz_iret C (show decode c_X10_as 22 = .ok (.ireturn, 1) by decide +kernel) rfl,
  List.forall_mem_cons.mpr ⟨qz_aload_n C (show decode c_X10_as 23 = .ok (.aload_n 0, 1) by decide +kernel) rfl,
  List.forall_mem_cons.mpr ⟨qz_gf (k := 2) C (show decode c_X10_as 24 = .ok (.getfield 26, 3) by decide +kernel) vcX10 wiX10 (by decide) cw_313,
  List.forall_mem_cons.mpr ⟨qz_iload_n C (show decode c_X10_as 27 = .ok (.iload_n 1, 1) by decide +kernel) rfl,
  List.forall_mem_cons.mpr ⟨qz_vI C (show decode c_X10_as 28 = .ok (.invokevirtual 192, 3) by decide +kernel) ct_X4_kindOf mv_X4_kindOf cw_592 vcX4 (show 1 < 3 by omega),
  List.forall_mem_cons.mpr ⟨qz_iload_n C (show decode c_X10_as 31 = .ok (.iload_n 2, 1) by decide +kernel) rfl,
  List.forall_mem_cons.mpr ⟨qz_sI C (show decode c_X10_as 32 = .ok (.invokestatic 310, 3) by decide +kernel) ct_X10_isA mv_X10_isA (Or.inl cw_955) (show 2 < 3 by omega),
  List.forall_mem_cons.mpr ⟨qz_ifeq C (show decode c_X10_as 35 = .ok (.ifCond .eq 11, 3) by decide +kernel) (by decide),
  List.forall_mem_cons.mpr ⟨qz_aload_n C (show decode c_X10_as 38 = .ok (.aload_n 0, 1) by decide +kernel) rfl,
  List.forall_mem_cons.mpr ⟨qz_iload_n C (show decode c_X10_as 39 = .ok (.iload_n 1, 1) by decide +kernel) rfl,
  List.forall_mem_cons.mpr ⟨qz_vI C (show decode c_X10_as 40 = .ok (.invokevirtual 104, 3) by decide +kernel) ct_X10_fine mv_X10_fine cw_374 vcX10 (show 1 < 3 by omega),
  List.forall_mem_cons.mpr ⟨qz_goto C (show decode c_X10_as 43 = .ok (.goto 8, 3) by decide +kernel) (by decide),
  List.forall_mem_cons.mpr ⟨qz_aload_n C (show decode c_X10_as 46 = .ok (.aload_n 0, 1) by decide +kernel) rfl,
  List.forall_mem_cons.mpr ⟨qz_iconst C (show decode c_X10_as 47 = .ok (.iconst 3, 1) by decide +kernel) (by decide +kernel),
  List.forall_mem_cons.mpr ⟨qz_vI C (show decode c_X10_as 48 = .ok (.invokevirtual 96, 3) by decide +kernel) ct_X10_found mv_X10_found cw_365 vcX10 (show 1 < 3 by omega),
  List.forall_mem_cons.mpr ⟨qz_iret C (show decode c_X10_as 51 = .ok (.ireturn, 1) by decide +kernel) rfl,
  (fun q h => by cases h)⟩⟩⟩⟩⟩⟩⟩⟩⟩⟩⟩⟩⟩⟩⟩⟩⟩⟩⟩⟩⟩⟩⟩⟩⟩⟩⟩
theorem sd_X10_as {G : pj_E} {A : Nat → Prop} {P : pj_P} {S : pj_U} {Z : pj_Z} (C : pj_C (G, A, (c_X10_as, y_X10_as.cls, 3, (some .int), 3), P, S, Z)) : ∀ q ∈ tb_X10_as, pj_S (G, A, (c_X10_as, y_X10_as.cls, 3, (some .int), 3), P, S, Z) pj_eI q.1 q.2 := sd_X10_as_0 C
set_option maxRecDepth 20000 in
theorem eq_X10_as (x1 : Int32) (x2 : Int32) (m : pj_M) : pj_run tb_X10_as [] 29 0 [some (.inr (.inr (0, 10, 0))), some (.inl x1), some (.inl x2)] [] m = F_X10_as x1 x2 m := by rfl
theorem ct_X10_as : pj_Ct pj_eI y_X10_as c_X10_as 3 (some .int) 3 W_X10_as := by
  refine pj_ct_of (by decide +kernel) ?_ ?_
  · intro as m r h
    unfold W_X10_as at h
    split at h
    · simp [pj_l0]
    · cases h
  · intro G A P S Z C as m r h hR
    unfold W_X10_as at h
    split at h
    · split at h
      · rename_i hbq
        simp only [Bool.and_eq_true, Nat.beq_eq] at hbq
        obtain ⟨rfl, rfl, rfl⟩ := hbq
        exact pj_run_ok (sd_X10_as C) (fun q h => by cases h) 29 0 _ _ _ _ ((eq_X10_as _ _ _).trans h) hR
      · cases h
    · cases h
/-! AlikeSteps.ask(II)I -/
abbrev c_X10_ask : ByteArray := prog_1_method_33_code
def y_X10_ask : MethodName := ⟨RX10, "ask", "(II)I"⟩
noncomputable def F_X10_ask (x1 : Int32) (x2 : Int32) (m : pj_M) : Option (Int32 × pj_M) := ((F_X4_hasState 7 x1 m).bind fun q1 => (if q1.1 = 0 then (some ((-1000001), q1.2)) else ((F_X10_within x2 0 1 q1.2).bind fun q2 => (if q2.1 = 0 then (some ((-1000001), q2.2)) else ((F_X4_kindOf 7 x1 q2.2).bind fun q3 => ((F_X1_steps 19 7 q3.2).bind fun q4 => ((F_X7_ways q4.1 x1 q4.2).bind fun q5 => ((F_X1_parting 19 7 0 q5.2).bind fun q6 => ((F_X5_lastBlock q6.1 x1 q6.2).bind fun q7 => ((F_X2_begin x1 q3.1 q5.1 q7.1 q7.2).bind fun q8 => ((F_X2_answer x2 q8).bind fun q9 => (some (q9.1, q9.2)))))))))))))
noncomputable def W_X10_ask : List pj_V → pj_M → Option (Int32 × pj_M) := fun as m => match as with
  | [.inr (.inr (t0, w0, a0)), .inl x1, .inl x2] => (match Nat.beq t0 0 && (Nat.beq w0 10 && (Nat.beq a0 0)) with
    | true => F_X10_ask x1 x2 m
    | false => none)
  | _ => none
noncomputable def tb_X10_ask_0 : List (Nat × pj_T (Int32 × pj_M)) := [(0, qs_lda 0 1), (1, qs_gf 10 2 4), (4, qs_ldi 1 5), (5, qs_vI 4 2 W_X4_hasState 8), (8, qs_ifeq 20 11), (11, qs_ldi 2 12), (12, qs_ci 0 13), (13, qs_ci 1 14), (14, qs_sI 3 W_X10_within 17), (17, qs_ifne 23 20), (20, qs_ci (-1000001) 22), (22, qs_iret), (23, qs_lda 0 24), (24, qs_gf 10 11 27), (27, qs_ldi 1 28), (28, qs_lda 0 29), (29, qs_gf 10 2 32), (32, qs_ldi 1 33), (33, qs_vI 4 2 W_X4_kindOf 36), (36, qs_lda 0 37), (37, qs_gf 10 7 40), (40, qs_lda 0 41), (41, qs_gf 10 2 44), (44, qs_vR 7 1 2 W_X1_steps 47), (47, qs_ldi 1 48), (48, qs_vI 7 2 W_X7_ways 51), (51, qs_lda 0 52), (52, qs_gf 10 7 55), (55, qs_lda 0 56), (56, qs_gf 10 2 59), (59, qs_ci 0 60), (60, qs_vR 5 1 3 W_X1_parting 63), (63, qs_ldi 1 64), (64, qs_vI 5 2 W_X5_lastBlock 67), (67, qs_vV 2 5 W_X2_begin 70), (70, qs_lda 0 71), (71, qs_gf 10 11 74), (74, qs_ldi 2 75), (75, qs_vI 2 2 W_X2_answer 78), (78, qs_iret)]
noncomputable abbrev tb_X10_ask : List (Nat × pj_T (Int32 × pj_M)) := tb_X10_ask_0
theorem mv_X10_ask : pj_mv y_X10_ask c_X10_ask 3 (some .int) 2 := ⟨⟨cw_959, cw_957, cw_958, cw_81⟩, by decide +kernel, by decide⟩
set_option maxRecDepth 20000 in
theorem sd_X10_ask_0 {G : pj_E} {A : Nat → Prop} {P : pj_P} {S : pj_U} {Z : pj_Z} (C : pj_C (G, A, (c_X10_ask, y_X10_ask.cls, 3, (some .int), 16), P, S, Z)) : ∀ q ∈ tb_X10_ask_0, pj_S (G, A, (c_X10_ask, y_X10_ask.cls, 3, (some .int), 16), P, S, Z) pj_eI q.1 q.2 :=
  List.forall_mem_cons.mpr ⟨qz_aload_n C (show decode c_X10_ask 0 = .ok (.aload_n 0, 1) by decide +kernel) rfl,
  List.forall_mem_cons.mpr ⟨qz_gf (k := 2) C (show decode c_X10_ask 1 = .ok (.getfield 26, 3) by decide +kernel) vcX10 wiX10 (by decide) cw_313,
  List.forall_mem_cons.mpr ⟨qz_iload_n C (show decode c_X10_ask 4 = .ok (.iload_n 1, 1) by decide +kernel) rfl,
  List.forall_mem_cons.mpr ⟨qz_vI C (show decode c_X10_ask 5 = .ok (.invokevirtual 160, 3) by decide +kernel) ct_X4_hasState mv_X4_hasState cw_538 vcX4 (show 1 < 16 by omega),
  List.forall_mem_cons.mpr ⟨qz_ifeq C (show decode c_X10_ask 8 = .ok (.ifCond .eq 12, 3) by decide +kernel) (by decide),
  List.forall_mem_cons.mpr ⟨qz_iload_n C (show decode c_X10_ask 11 = .ok (.iload_n 2, 1) by decide +kernel) rfl,
  List.forall_mem_cons.mpr ⟨qz_iconst C (show decode c_X10_ask 12 = .ok (.iconst 0, 1) by decide +kernel) (by decide +kernel),
  List.forall_mem_cons.mpr ⟨qz_iconst C (show decode c_X10_ask 13 = .ok (.iconst 1, 1) by decide +kernel) (by decide +kernel),
  List.forall_mem_cons.mpr ⟨qz_sI C (show decode c_X10_ask 14 = .ok (.invokestatic 91, 3) by decide +kernel) ct_X10_within mv_X10_within (Or.inl cw_361) (show 1 < 16 by omega),
  List.forall_mem_cons.mpr ⟨qz_ifne C (show decode c_X10_ask 17 = .ok (.ifCond .ne 6, 3) by decide +kernel) (by decide),
  List.forall_mem_cons.mpr ⟨qz_ldc C (show decode c_X10_ask 20 = .ok (.ldc 95, 2) by decide +kernel) cw_364,
  List.forall_mem_cons.mpr ⟨qz_iret C (show decode c_X10_ask 22 = .ok (.ireturn, 1) by decide +kernel) rfl,
  List.forall_mem_cons.mpr ⟨qz_aload_n C (show decode c_X10_ask 23 = .ok (.aload_n 0, 1) by decide +kernel) rfl,
  List.forall_mem_cons.mpr ⟨qz_gf (k := 11) C (show decode c_X10_ask 24 = .ok (.getfield 73, 3) by decide +kernel) vcX10 wiX10 (by decide) cw_322,
  List.forall_mem_cons.mpr ⟨qz_iload_n C (show decode c_X10_ask 27 = .ok (.iload_n 1, 1) by decide +kernel) rfl,
  List.forall_mem_cons.mpr ⟨qz_aload_n C (show decode c_X10_ask 28 = .ok (.aload_n 0, 1) by decide +kernel) rfl,
  List.forall_mem_cons.mpr ⟨qz_gf (k := 2) C (show decode c_X10_ask 29 = .ok (.getfield 26, 3) by decide +kernel) vcX10 wiX10 (by decide) cw_313,
  List.forall_mem_cons.mpr ⟨qz_iload_n C (show decode c_X10_ask 32 = .ok (.iload_n 1, 1) by decide +kernel) rfl,
  List.forall_mem_cons.mpr ⟨qz_vI C (show decode c_X10_ask 33 = .ok (.invokevirtual 192, 3) by decide +kernel) ct_X4_kindOf mv_X4_kindOf cw_592 vcX4 (show 1 < 16 by omega),
  List.forall_mem_cons.mpr ⟨qz_aload_n C (show decode c_X10_ask 36 = .ok (.aload_n 0, 1) by decide +kernel) rfl,
  List.forall_mem_cons.mpr ⟨qz_gf (k := 7) C (show decode c_X10_ask 37 = .ok (.getfield 50, 3) by decide +kernel) vcX10 wiX10 (by decide) cw_318,
  List.forall_mem_cons.mpr ⟨qz_aload_n C (show decode c_X10_ask 40 = .ok (.aload_n 0, 1) by decide +kernel) rfl,
  List.forall_mem_cons.mpr ⟨qz_gf (k := 2) C (show decode c_X10_ask 41 = .ok (.getfield 26, 3) by decide +kernel) vcX10 wiX10 (by decide) cw_313,
  List.forall_mem_cons.mpr ⟨qz_vR C (show decode c_X10_ask 44 = .ok (.invokevirtual 209, 3) by decide +kernel) ct_X1_steps mv_X1_steps cw_630 vcX1 (show 5 < 16 by omega),
  List.forall_mem_cons.mpr ⟨qz_iload_n C (show decode c_X10_ask 47 = .ok (.iload_n 1, 1) by decide +kernel) rfl,
  List.forall_mem_cons.mpr ⟨qz_vI C (show decode c_X10_ask 48 = .ok (.invokevirtual 314, 3) by decide +kernel) ct_X7_ways mv_X7_ways cw_960 vcX7 (show 2 < 16 by omega),
  List.forall_mem_cons.mpr ⟨qz_aload_n C (show decode c_X10_ask 51 = .ok (.aload_n 0, 1) by decide +kernel) rfl,
  List.forall_mem_cons.mpr ⟨qz_gf (k := 7) C (show decode c_X10_ask 52 = .ok (.getfield 50, 3) by decide +kernel) vcX10 wiX10 (by decide) cw_318,
  List.forall_mem_cons.mpr ⟨qz_aload_n C (show decode c_X10_ask 55 = .ok (.aload_n 0, 1) by decide +kernel) rfl,
  List.forall_mem_cons.mpr ⟨qz_gf (k := 2) C (show decode c_X10_ask 56 = .ok (.getfield 26, 3) by decide +kernel) vcX10 wiX10 (by decide) cw_313,
  List.forall_mem_cons.mpr ⟨qz_iconst C (show decode c_X10_ask 59 = .ok (.iconst 0, 1) by decide +kernel) (by decide +kernel),
  List.forall_mem_cons.mpr ⟨qz_vR C (show decode c_X10_ask 60 = .ok (.invokevirtual 218, 3) by decide +kernel) ct_X1_parting mv_X1_parting cw_686 vcX1 (show 6 < 16 by omega),
  List.forall_mem_cons.mpr ⟨qz_iload_n C (show decode c_X10_ask 63 = .ok (.iload_n 1, 1) by decide +kernel) rfl,
  List.forall_mem_cons.mpr ⟨qz_vI C (show decode c_X10_ask 64 = .ok (.invokevirtual 222, 3) by decide +kernel) ct_X5_lastBlock mv_X5_lastBlock cw_735 vcX5 (show 2 < 16 by omega),
  List.forall_mem_cons.mpr ⟨qz_vV C (show decode c_X10_ask 67 = .ok (.invokevirtual 317, 3) by decide +kernel) ct_X2_begin mv_X2_begin cw_961 vcX2 (show 1 < 16 by omega),
  List.forall_mem_cons.mpr ⟨qz_aload_n C (show decode c_X10_ask 70 = .ok (.aload_n 0, 1) by decide +kernel) rfl,
  List.forall_mem_cons.mpr ⟨qz_gf (k := 11) C (show decode c_X10_ask 71 = .ok (.getfield 73, 3) by decide +kernel) vcX10 wiX10 (by decide) cw_322,
  List.forall_mem_cons.mpr ⟨qz_iload_n C (show decode c_X10_ask 74 = .ok (.iload_n 2, 1) by decide +kernel) rfl,
  List.forall_mem_cons.mpr ⟨qz_vI C (show decode c_X10_ask 75 = .ok (.invokevirtual 320, 3) by decide +kernel) ct_X2_answer mv_X2_answer cw_965 vcX2 (show 15 < 16 by omega),
  List.forall_mem_cons.mpr ⟨qz_iret C (show decode c_X10_ask 78 = .ok (.ireturn, 1) by decide +kernel) rfl,
  (fun q h => by cases h)⟩⟩⟩⟩⟩⟩⟩⟩⟩⟩⟩⟩⟩⟩⟩⟩⟩⟩⟩⟩⟩⟩⟩⟩⟩⟩⟩⟩⟩⟩⟩⟩⟩⟩⟩⟩⟩⟩⟩⟩
theorem sd_X10_ask {G : pj_E} {A : Nat → Prop} {P : pj_P} {S : pj_U} {Z : pj_Z} (C : pj_C (G, A, (c_X10_ask, y_X10_ask.cls, 3, (some .int), 16), P, S, Z)) : ∀ q ∈ tb_X10_ask, pj_S (G, A, (c_X10_ask, y_X10_ask.cls, 3, (some .int), 16), P, S, Z) pj_eI q.1 q.2 := sd_X10_ask_0 C
set_option maxRecDepth 20000 in
theorem eq_X10_ask (x1 : Int32) (x2 : Int32) (m : pj_M) : pj_run tb_X10_ask [] 42 0 [some (.inr (.inr (0, 10, 0))), some (.inl x1), some (.inl x2)] [] m = F_X10_ask x1 x2 m := by rfl
theorem ct_X10_ask : pj_Ct pj_eI y_X10_ask c_X10_ask 3 (some .int) 16 W_X10_ask := by
  refine pj_ct_of (by decide +kernel) ?_ ?_
  · intro as m r h
    unfold W_X10_ask at h
    split at h
    · simp [pj_l0]
    · cases h
  · intro G A P S Z C as m r h hR
    unfold W_X10_ask at h
    split at h
    · split at h
      · rename_i hbq
        simp only [Bool.and_eq_true, Nat.beq_eq] at hbq
        obtain ⟨rfl, rfl, rfl⟩ := hbq
        exact pj_run_ok (sd_X10_ask C) (fun q h => by cases h) 42 0 _ _ _ _ ((eq_X10_ask _ _ _).trans h) hR
      · cases h
    · cases h
/-! AlikeSteps.trace(I)I -/
abbrev c_X10_trace : ByteArray := prog_1_method_34_code
def y_X10_trace : MethodName := ⟨RX10, "trace", "(I)I"⟩
noncomputable def F_X10_trace (x1 : Int32) (m : pj_M) : Option (Int32 × pj_M) := ((F_X2_traceAt x1 m).bind fun q1 => (some (q1.1, q1.2)))
noncomputable def W_X10_trace : List pj_V → pj_M → Option (Int32 × pj_M) := fun as m => match as with
  | [.inr (.inr (t0, w0, a0)), .inl x1] => (match Nat.beq t0 0 && (Nat.beq w0 10 && (Nat.beq a0 0)) with
    | true => F_X10_trace x1 m
    | false => none)
  | _ => none
noncomputable def tb_X10_trace_0 : List (Nat × pj_T (Int32 × pj_M)) := [(0, qs_lda 0 1), (1, qs_gf 10 11 4), (4, qs_ldi 1 5), (5, qs_vI 2 2 W_X2_traceAt 8), (8, qs_iret)]
noncomputable abbrev tb_X10_trace : List (Nat × pj_T (Int32 × pj_M)) := tb_X10_trace_0
theorem mv_X10_trace : pj_mv y_X10_trace c_X10_trace 2 (some .int) 1 := ⟨⟨cw_988, cw_986, cw_987, cw_81⟩, by decide +kernel, by decide⟩
set_option maxRecDepth 20000 in
theorem sd_X10_trace_0 {G : pj_E} {A : Nat → Prop} {P : pj_P} {S : pj_U} {Z : pj_Z} (C : pj_C (G, A, (c_X10_trace, y_X10_trace.cls, 2, (some .int), 2), P, S, Z)) : ∀ q ∈ tb_X10_trace_0, pj_S (G, A, (c_X10_trace, y_X10_trace.cls, 2, (some .int), 2), P, S, Z) pj_eI q.1 q.2 :=
  List.forall_mem_cons.mpr ⟨qz_aload_n C (show decode c_X10_trace 0 = .ok (.aload_n 0, 1) by decide +kernel) rfl,
  List.forall_mem_cons.mpr ⟨qz_gf (k := 11) C (show decode c_X10_trace 1 = .ok (.getfield 73, 3) by decide +kernel) vcX10 wiX10 (by decide) cw_322,
  List.forall_mem_cons.mpr ⟨qz_iload_n C (show decode c_X10_trace 4 = .ok (.iload_n 1, 1) by decide +kernel) rfl,
  List.forall_mem_cons.mpr ⟨qz_vI C (show decode c_X10_trace 5 = .ok (.invokevirtual 322, 3) by decide +kernel) ct_X2_traceAt mv_X2_traceAt cw_989 vcX2 (show 1 < 2 by omega),
  List.forall_mem_cons.mpr ⟨qz_iret C (show decode c_X10_trace 8 = .ok (.ireturn, 1) by decide +kernel) rfl,
  (fun q h => by cases h)⟩⟩⟩⟩⟩
theorem sd_X10_trace {G : pj_E} {A : Nat → Prop} {P : pj_P} {S : pj_U} {Z : pj_Z} (C : pj_C (G, A, (c_X10_trace, y_X10_trace.cls, 2, (some .int), 2), P, S, Z)) : ∀ q ∈ tb_X10_trace, pj_S (G, A, (c_X10_trace, y_X10_trace.cls, 2, (some .int), 2), P, S, Z) pj_eI q.1 q.2 := sd_X10_trace_0 C
set_option maxRecDepth 20000 in
theorem eq_X10_trace (x1 : Int32) (m : pj_M) : pj_run tb_X10_trace [] 7 0 [some (.inr (.inr (0, 10, 0))), some (.inl x1)] [] m = F_X10_trace x1 m := by rfl
theorem ct_X10_trace : pj_Ct pj_eI y_X10_trace c_X10_trace 2 (some .int) 2 W_X10_trace := by
  refine pj_ct_of (by decide +kernel) ?_ ?_
  · intro as m r h
    unfold W_X10_trace at h
    split at h
    · simp [pj_l0]
    · cases h
  · intro G A P S Z C as m r h hR
    unfold W_X10_trace at h
    split at h
    · split at h
      · rename_i hbq
        simp only [Bool.and_eq_true, Nat.beq_eq] at hbq
        obtain ⟨rfl, rfl, rfl⟩ := hbq
        exact pj_run_ok (sd_X10_trace C) (fun q h => by cases h) 7 0 _ _ _ _ ((eq_X10_trace _ _).trans h) hR
      · cases h
    · cases h
/-! AlikeSteps.count(I)I -/
abbrev c_X10_count : ByteArray := prog_1_method_35_code
def y_X10_count : MethodName := ⟨RX10, "count", "(I)I"⟩
noncomputable def F_X10_count (x1 : Int32) (m : pj_M) : Option (Int32 × pj_M) := (if x1 = 0 then ((F_X6_size m).bind fun q1 => (some (q1.1, q1.2))) else (if x1 = 1 then ((F_X4_states 7 m).bind fun q2 => (some (q2.1, q2.2))) else (if x1 = 2 then ((F_X4_arcTotal 7 m).bind fun q3 => (some (q3.1, q3.2))) else (if x1 = 3 then ((F_X4_marked 7 m).bind fun q4 => (some (q4.1, q4.2))) else (if x1 = 4 then ((F_X0_size m).bind fun q5 => (some (q5.1, q5.2))) else (if x1 = 5 then ((F_X8_size m).bind fun q6 => (some (q6.1, q6.2))) else (some ((-1000001), m))))))))
noncomputable def W_X10_count : List pj_V → pj_M → Option (Int32 × pj_M) := fun as m => match as with
  | [.inr (.inr (t0, w0, a0)), .inl x1] => (match Nat.beq t0 0 && (Nat.beq w0 10 && (Nat.beq a0 0)) with
    | true => F_X10_count x1 m
    | false => none)
  | _ => none
noncomputable def tb_X10_count_0 : List (Nat × pj_T (Int32 × pj_M)) := [(0, qs_ldi 1 1), (1, qs_sw [(0, 40), (1, 48), (2, 56), (3, 64), (4, 72), (5, 80)] 88), (40, qs_lda 0 41), (41, qs_gf 10 0 44), (44, qs_vI 6 1 W_X6_size 47), (47, qs_iret), (48, qs_lda 0 49), (49, qs_gf 10 2 52), (52, qs_vI 4 1 W_X4_states 55), (55, qs_iret), (56, qs_lda 0 57), (57, qs_gf 10 2 60), (60, qs_vI 4 1 W_X4_arcTotal 63), (63, qs_iret), (64, qs_lda 0 65), (65, qs_gf 10 2 68), (68, qs_vI 4 1 W_X4_marked 71), (71, qs_iret), (72, qs_lda 0 73), (73, qs_gf 10 6 76), (76, qs_vI 0 1 W_X0_size 79), (79, qs_iret), (80, qs_lda 0 81), (81, qs_gf 10 1 84), (84, qs_vI 8 1 W_X8_size 87), (87, qs_iret), (88, qs_ci (-1000001) 90), (90, qs_iret)]
noncomputable abbrev tb_X10_count : List (Nat × pj_T (Int32 × pj_M)) := tb_X10_count_0
theorem mv_X10_count : pj_mv y_X10_count c_X10_count 2 (some .int) 1 := ⟨⟨cw_997, cw_995, cw_996, cw_81⟩, by decide +kernel, by decide⟩
set_option maxRecDepth 20000 in
theorem sd_X10_count_0 {G : pj_E} {A : Nat → Prop} {P : pj_P} {S : pj_U} {Z : pj_Z} (C : pj_C (G, A, (c_X10_count, y_X10_count.cls, 2, (some .int), 3), P, S, Z)) : ∀ q ∈ tb_X10_count_0, pj_S (G, A, (c_X10_count, y_X10_count.cls, 2, (some .int), 3), P, S, Z) pj_eI q.1 q.2 :=
  List.forall_mem_cons.mpr ⟨qz_iload_n C (show decode c_X10_count 0 = .ok (.iload_n 1, 1) by decide +kernel) rfl,
  List.forall_mem_cons.mpr ⟨qz_tsw C (show decode c_X10_count 1 = .ok (.tableswitch 87 0 5 #[39, 47, 55, 63, 71, 79], 39) by decide +kernel) (by decide +kernel),
  List.forall_mem_cons.mpr ⟨qz_aload_n C (show decode c_X10_count 40 = .ok (.aload_n 0, 1) by decide +kernel) rfl,
  List.forall_mem_cons.mpr ⟨qz_gf (k := 0) C (show decode c_X10_count 41 = .ok (.getfield 10, 3) by decide +kernel) vcX10 wiX10 (by decide) cw_311,
  List.forall_mem_cons.mpr ⟨qz_vI C (show decode c_X10_count 44 = .ok (.invokevirtual 325, 3) by decide +kernel) ct_X6_size mv_X6_size cw_998 vcX6 (show 2 < 3 by omega),
  List.forall_mem_cons.mpr ⟨qz_iret C (show decode c_X10_count 47 = .ok (.ireturn, 1) by decide +kernel) rfl,
  List.forall_mem_cons.mpr ⟨qz_aload_n C (show decode c_X10_count 48 = .ok (.aload_n 0, 1) by decide +kernel) rfl,
  List.forall_mem_cons.mpr ⟨qz_gf (k := 2) C (show decode c_X10_count 49 = .ok (.getfield 26, 3) by decide +kernel) vcX10 wiX10 (by decide) cw_313,
  List.forall_mem_cons.mpr ⟨qz_vI C (show decode c_X10_count 52 = .ok (.invokevirtual 157, 3) by decide +kernel) ct_X4_states mv_X4_states cw_526 vcX4 (show 1 < 3 by omega),
  List.forall_mem_cons.mpr ⟨qz_iret C (show decode c_X10_count 55 = .ok (.ireturn, 1) by decide +kernel) rfl,
  List.forall_mem_cons.mpr ⟨qz_aload_n C (show decode c_X10_count 56 = .ok (.aload_n 0, 1) by decide +kernel) rfl,
  List.forall_mem_cons.mpr ⟨qz_gf (k := 2) C (show decode c_X10_count 57 = .ok (.getfield 26, 3) by decide +kernel) vcX10 wiX10 (by decide) cw_313,
  List.forall_mem_cons.mpr ⟨qz_vI C (show decode c_X10_count 60 = .ok (.invokevirtual 163, 3) by decide +kernel) ct_X4_arcTotal mv_X4_arcTotal cw_539 vcX4 (show 1 < 3 by omega),
  List.forall_mem_cons.mpr ⟨qz_iret C (show decode c_X10_count 63 = .ok (.ireturn, 1) by decide +kernel) rfl,
  List.forall_mem_cons.mpr ⟨qz_aload_n C (show decode c_X10_count 64 = .ok (.aload_n 0, 1) by decide +kernel) rfl,
  List.forall_mem_cons.mpr ⟨qz_gf (k := 2) C (show decode c_X10_count 65 = .ok (.getfield 26, 3) by decide +kernel) vcX10 wiX10 (by decide) cw_313,
  List.forall_mem_cons.mpr ⟨qz_vI C (show decode c_X10_count 68 = .ok (.invokevirtual 269, 3) by decide +kernel) ct_X4_marked mv_X4_marked cw_847 vcX4 (show 1 < 3 by omega),
  List.forall_mem_cons.mpr ⟨qz_iret C (show decode c_X10_count 71 = .ok (.ireturn, 1) by decide +kernel) rfl,
  List.forall_mem_cons.mpr ⟨qz_aload_n C (show decode c_X10_count 72 = .ok (.aload_n 0, 1) by decide +kernel) rfl,
  List.forall_mem_cons.mpr ⟨qz_gf (k := 6) C (show decode c_X10_count 73 = .ok (.getfield 43, 3) by decide +kernel) vcX10 wiX10 (by decide) cw_317,
  List.forall_mem_cons.mpr ⟨qz_vI C (show decode c_X10_count 76 = .ok (.invokevirtual 203, 3) by decide +kernel) ct_X0_size mv_X0_size cw_609 vcX0 (show 1 < 3 by omega),
  List.forall_mem_cons.mpr ⟨qz_iret C (show decode c_X10_count 79 = .ok (.ireturn, 1) by decide +kernel) rfl,
  List.forall_mem_cons.mpr ⟨qz_aload_n C (show decode c_X10_count 80 = .ok (.aload_n 0, 1) by decide +kernel) rfl,
  List.forall_mem_cons.mpr ⟨qz_gf (k := 1) C (show decode c_X10_count 81 = .ok (.getfield 19, 3) by decide +kernel) vcX10 wiX10 (by decide) cw_312,
  List.forall_mem_cons.mpr ⟨qz_vI C (show decode c_X10_count 84 = .ok (.invokevirtual 326, 3) by decide +kernel) ct_X8_size mv_X8_size cw_1003 vcX8 (show 1 < 3 by omega),
  List.forall_mem_cons.mpr ⟨qz_iret C (show decode c_X10_count 87 = .ok (.ireturn, 1) by decide +kernel) rfl,
  List.forall_mem_cons.mpr ⟨qz_ldc C (show decode c_X10_count 88 = .ok (.ldc 95, 2) by decide +kernel) cw_364,
  List.forall_mem_cons.mpr ⟨qz_iret C (show decode c_X10_count 90 = .ok (.ireturn, 1) by decide +kernel) rfl,
  (fun q h => by cases h)⟩⟩⟩⟩⟩⟩⟩⟩⟩⟩⟩⟩⟩⟩⟩⟩⟩⟩⟩⟩⟩⟩⟩⟩⟩⟩⟩⟩
theorem sd_X10_count {G : pj_E} {A : Nat → Prop} {P : pj_P} {S : pj_U} {Z : pj_Z} (C : pj_C (G, A, (c_X10_count, y_X10_count.cls, 2, (some .int), 3), P, S, Z)) : ∀ q ∈ tb_X10_count, pj_S (G, A, (c_X10_count, y_X10_count.cls, 2, (some .int), 3), P, S, Z) pj_eI q.1 q.2 := sd_X10_count_0 C
set_option maxRecDepth 20000 in
theorem eq_X10_count (x1 : Int32) (m : pj_M) : pj_run tb_X10_count [] 30 0 [some (.inr (.inr (0, 10, 0))), some (.inl x1)] [] m = F_X10_count x1 m := by rfl
theorem ct_X10_count : pj_Ct pj_eI y_X10_count c_X10_count 2 (some .int) 3 W_X10_count := by
  refine pj_ct_of (by decide +kernel) ?_ ?_
  · intro as m r h
    unfold W_X10_count at h
    split at h
    · simp [pj_l0]
    · cases h
  · intro G A P S Z C as m r h hR
    unfold W_X10_count at h
    split at h
    · split at h
      · rename_i hbq
        simp only [Bool.and_eq_true, Nat.beq_eq] at hbq
        obtain ⟨rfl, rfl, rfl⟩ := hbq
        exact pj_run_ok (sd_X10_count C) (fun q h => by cases h) 30 0 _ _ _ _ ((eq_X10_count _ _).trans h) hR
      · cases h
    · cases h
/-! AlikeSteps.status()I -/
abbrev c_X10_status : ByteArray := prog_1_method_36_code
def y_X10_status : MethodName := ⟨RX10, "status", "()I"⟩
noncomputable def F_X10_status (m : pj_M) : Option (Int32 × pj_M) := (some (m.1 0 13, m))
noncomputable def W_X10_status : List pj_V → pj_M → Option (Int32 × pj_M) := fun as m => match as with
  | [.inr (.inr (t0, w0, a0))] => (match Nat.beq t0 0 && (Nat.beq w0 10 && (Nat.beq a0 0)) with
    | true => F_X10_status m
    | false => none)
  | _ => none
noncomputable def tb_X10_status_0 : List (Nat × pj_T (Int32 × pj_M)) := [(0, qs_lda 0 1), (1, qs_gf 10 13 4), (4, qs_iret)]
noncomputable abbrev tb_X10_status : List (Nat × pj_T (Int32 × pj_M)) := tb_X10_status_0
theorem mv_X10_status : pj_mv y_X10_status c_X10_status 1 (some .int) 0 := ⟨⟨cw_1010, cw_1008, cw_1009, cw_81⟩, by decide +kernel, by decide⟩
set_option maxRecDepth 20000 in
theorem sd_X10_status_0 {G : pj_E} {A : Nat → Prop} {P : pj_P} {S : pj_U} {Z : pj_Z} (C : pj_C (G, A, (c_X10_status, y_X10_status.cls, 1, (some .int), 1), P, S, Z)) : ∀ q ∈ tb_X10_status_0, pj_S (G, A, (c_X10_status, y_X10_status.cls, 1, (some .int), 1), P, S, Z) pj_eI q.1 q.2 :=
  List.forall_mem_cons.mpr ⟨qz_aload_n C (show decode c_X10_status 0 = .ok (.aload_n 0, 1) by decide +kernel) rfl,
  List.forall_mem_cons.mpr ⟨qz_gf (k := 13) C (show decode c_X10_status 1 = .ok (.getfield 81, 3) by decide +kernel) vcX10 wiX10 (by decide) cw_324,
  List.forall_mem_cons.mpr ⟨qz_iret C (show decode c_X10_status 4 = .ok (.ireturn, 1) by decide +kernel) rfl,
  (fun q h => by cases h)⟩⟩⟩
theorem sd_X10_status {G : pj_E} {A : Nat → Prop} {P : pj_P} {S : pj_U} {Z : pj_Z} (C : pj_C (G, A, (c_X10_status, y_X10_status.cls, 1, (some .int), 1), P, S, Z)) : ∀ q ∈ tb_X10_status, pj_S (G, A, (c_X10_status, y_X10_status.cls, 1, (some .int), 1), P, S, Z) pj_eI q.1 q.2 := sd_X10_status_0 C
set_option maxRecDepth 20000 in
theorem eq_X10_status (m : pj_M) : pj_run tb_X10_status [] 5 0 [some (.inr (.inr (0, 10, 0)))] [] m = F_X10_status m := by rfl
theorem ct_X10_status : pj_Ct pj_eI y_X10_status c_X10_status 1 (some .int) 1 W_X10_status := by
  refine pj_ct_of (by decide +kernel) ?_ ?_
  · intro as m r h
    unfold W_X10_status at h
    split at h
    · simp [pj_l0]
    · cases h
  · intro G A P S Z C as m r h hR
    unfold W_X10_status at h
    split at h
    · split at h
      · rename_i hbq
        simp only [Bool.and_eq_true, Nat.beq_eq] at hbq
        obtain ⟨rfl, rfl, rfl⟩ := hbq
        exact pj_run_ok (sd_X10_status C) (fun q h => by cases h) 5 0 _ _ _ _ ((eq_X10_status _).trans h) hR
      · cases h
    · cases h
