/-! AlikeSteps$Acts.size()I -/
abbrev c_X0_size : ByteArray := prog_2_method_2_code
def y_X0_size : MethodName := ⟨RX0, "size", "()I"⟩
noncomputable def F_X0_size (m : pj_M) : Option (Int32 × pj_M) := (some (m.1 17 1, m))
noncomputable def W_X0_size : List pj_V → pj_M → Option (Int32 × pj_M) := fun as m => match as with
  | [.inr (.inr (t0, w0, a0))] => (match Nat.beq t0 0 && (Nat.beq w0 0 && (Nat.beq a0 17)) with
    | true => F_X0_size m
    | false => none)
  | _ => none
noncomputable def tb_X0_size_0 : List (Nat × pj_T (Int32 × pj_M)) := [(0, qs_lda 0 1), (1, qs_gf 0 1 4), (4, qs_iret)]
noncomputable abbrev tb_X0_size : List (Nat × pj_T (Int32 × pj_M)) := tb_X0_size_0
theorem mv_X0_size : pj_mv y_X0_size c_X0_size 1 (some .int) 0 := ⟨⟨cw_612, cw_610, cw_611, cw_85⟩, by decide +kernel, by decide⟩
set_option maxRecDepth 20000 in
theorem sd_X0_size_0 {G : pj_E} {A : Nat → Prop} {P : pj_P} {S : pj_U} {Z : pj_Z} (C : pj_C (G, A, (c_X0_size, y_X0_size.cls, 1, (some .int), 1), P, S, Z)) : ∀ q ∈ tb_X0_size_0, pj_S (G, A, (c_X0_size, y_X0_size.cls, 1, (some .int), 1), P, S, Z) pj_eI q.1 q.2 :=
  List.forall_mem_cons.mpr ⟨qz_aload_n C (show decode c_X0_size 0 = .ok (.aload_n 0, 1) by decide +kernel) rfl,
  List.forall_mem_cons.mpr ⟨qz_gf (k := 1) C (show decode c_X0_size 1 = .ok (.getfield 13, 3) by decide +kernel) vcX0 wiX0 (by decide) cw_167,
  List.forall_mem_cons.mpr ⟨qz_iret C (show decode c_X0_size 4 = .ok (.ireturn, 1) by decide +kernel) rfl,
  (fun q h => by cases h)⟩⟩⟩
theorem sd_X0_size {G : pj_E} {A : Nat → Prop} {P : pj_P} {S : pj_U} {Z : pj_Z} (C : pj_C (G, A, (c_X0_size, y_X0_size.cls, 1, (some .int), 1), P, S, Z)) : ∀ q ∈ tb_X0_size, pj_S (G, A, (c_X0_size, y_X0_size.cls, 1, (some .int), 1), P, S, Z) pj_eI q.1 q.2 := sd_X0_size_0 C
set_option maxRecDepth 20000 in
theorem eq_X0_size (m : pj_M) : pj_run tb_X0_size [] 5 0 [some (.inr (.inr (0, 0, 17)))] [] m = F_X0_size m := by rfl
theorem ct_X0_size : pj_Ct pj_eI y_X0_size c_X0_size 1 (some .int) 1 W_X0_size := by
  refine pj_ct_of (by decide +kernel) ?_ ?_
  · intro as m r h
    unfold W_X0_size at h
    split at h
    · simp [pj_l0]
    · cases h
  · intro G A P S Z C as m r h hR
    unfold W_X0_size at h
    split at h
    · split at h
      · rename_i hbq
        simp only [Bool.and_eq_true, Nat.beq_eq] at hbq
        obtain ⟨rfl, rfl, rfl⟩ := hbq
        exact pj_run_ok (sd_X0_size C) (fun q h => by cases h) 5 0 _ _ _ _ ((eq_X0_size _).trans h) hR
      · cases h
    · cases h
/-! AlikeSteps$Acts.forget()V -/
abbrev c_X0_forget : ByteArray := prog_2_method_3_code
def y_X0_forget : MethodName := ⟨RX0, "forget", "()V"⟩
noncomputable def F_X0_forget (m : pj_M) : Option (pj_M) := (some (pj_wr m 17 1 0))
noncomputable def W_X0_forget : List pj_V → pj_M → Option (pj_M) := fun as m => match as with
  | [.inr (.inr (t0, w0, a0))] => (match Nat.beq t0 0 && (Nat.beq w0 0 && (Nat.beq a0 17)) with
    | true => F_X0_forget m
    | false => none)
  | _ => none
noncomputable def tb_X0_forget_0 : List (Nat × pj_T (pj_M)) := [(0, qs_lda 0 1), (1, qs_ci 0 2), (2, qs_pf 0 1 5), (5, qs_vret)]
noncomputable abbrev tb_X0_forget : List (Nat × pj_T (pj_M)) := tb_X0_forget_0
theorem mv_X0_forget : pj_mv y_X0_forget c_X0_forget 1 none 0 := ⟨⟨cw_525, cw_523, cw_524, cw_85⟩, by decide +kernel, by decide⟩
set_option maxRecDepth 20000 in
theorem sd_X0_forget_0 {G : pj_E} {A : Nat → Prop} {P : pj_P} {S : pj_U} {Z : pj_Z} (C : pj_C (G, A, (c_X0_forget, y_X0_forget.cls, 1, none, 1), P, S, Z)) : ∀ q ∈ tb_X0_forget_0, pj_S (G, A, (c_X0_forget, y_X0_forget.cls, 1, none, 1), P, S, Z) pj_eV q.1 q.2 :=
  List.forall_mem_cons.mpr ⟨qz_aload_n C (show decode c_X0_forget 0 = .ok (.aload_n 0, 1) by decide +kernel) rfl,
  List.forall_mem_cons.mpr ⟨qz_iconst C (show decode c_X0_forget 1 = .ok (.iconst 0, 1) by decide +kernel) (by decide +kernel),
  List.forall_mem_cons.mpr ⟨qz_pf (k := 1) C (show decode c_X0_forget 2 = .ok (.putfield 13, 3) by decide +kernel) vcX0 wiX0 tyX0_ok nmX0 (by decide) cw_167 rfl rfl,
  List.forall_mem_cons.mpr ⟨qz_vret C (show decode c_X0_forget 5 = .ok (.return_, 1) by decide +kernel) rfl,
  (fun q h => by cases h)⟩⟩⟩⟩
theorem sd_X0_forget {G : pj_E} {A : Nat → Prop} {P : pj_P} {S : pj_U} {Z : pj_Z} (C : pj_C (G, A, (c_X0_forget, y_X0_forget.cls, 1, none, 1), P, S, Z)) : ∀ q ∈ tb_X0_forget, pj_S (G, A, (c_X0_forget, y_X0_forget.cls, 1, none, 1), P, S, Z) pj_eV q.1 q.2 := sd_X0_forget_0 C
set_option maxRecDepth 20000 in
theorem eq_X0_forget (m : pj_M) : pj_run tb_X0_forget [] 6 0 [some (.inr (.inr (0, 0, 17)))] [] m = F_X0_forget m := by rfl
theorem ct_X0_forget : pj_Ct pj_eV y_X0_forget c_X0_forget 1 none 1 W_X0_forget := by
  refine pj_ct_of (by decide +kernel) ?_ ?_
  · intro as m r h
    unfold W_X0_forget at h
    split at h
    · simp [pj_l0]
    · cases h
  · intro G A P S Z C as m r h hR
    unfold W_X0_forget at h
    split at h
    · split at h
      · rename_i hbq
        simp only [Bool.and_eq_true, Nat.beq_eq] at hbq
        obtain ⟨rfl, rfl, rfl⟩ := hbq
        exact pj_run_ok (sd_X0_forget C) (fun q h => by cases h) 6 0 _ _ _ _ ((eq_X0_forget _).trans h) hR
      · cases h
    · cases h
/-! AlikeSteps$Acts.note(IIIII)V -/
abbrev c_X0_note : ByteArray := prog_2_method_9_code
def y_X0_note : MethodName := ⟨RX0, "note", "(IIIII)V"⟩
noncomputable def J_X0_note_34 (x1 : Int32) (x2 : Int32) (x3 : Int32) (x4 : Int32) (x5 : Int32) (m : pj_M) : Option (pj_M) := (if ((m.1 17 1) * 5) < 0 ∨ 100 ≤ ((m.1 17 1) * 5).toNatClampNeg then none else (if (((m.1 17 1) * 5) + 1) < 0 ∨ 100 ≤ (((m.1 17 1) * 5) + 1).toNatClampNeg then none else (if (((m.1 17 1) * 5) + 2) < 0 ∨ 100 ≤ (((m.1 17 1) * 5) + 2).toNatClampNeg then none else (if (((m.1 17 1) * 5) + 3) < 0 ∨ 100 ≤ (((m.1 17 1) * 5) + 3).toNatClampNeg then none else (if (((m.1 17 1) * 5) + 4) < 0 ∨ 100 ≤ (((m.1 17 1) * 5) + 4).toNatClampNeg then none else (some (pj_wr (pj_wr (pj_wr (pj_wr (pj_wr (pj_wr m 18 ((m.1 17 1) * 5).toNatClampNeg x1) 18 (((m.1 17 1) * 5) + 1).toNatClampNeg x2) 18 (((m.1 17 1) * 5) + 2).toNatClampNeg x3) 18 (((m.1 17 1) * 5) + 3).toNatClampNeg x4) 18 (((m.1 17 1) * 5) + 4).toNatClampNeg x5) 17 1 (((pj_wr (pj_wr (pj_wr (pj_wr (pj_wr m 18 ((m.1 17 1) * 5).toNatClampNeg x1) 18 (((m.1 17 1) * 5) + 1).toNatClampNeg x2) 18 (((m.1 17 1) * 5) + 2).toNatClampNeg x3) 18 (((m.1 17 1) * 5) + 3).toNatClampNeg x4) 18 (((m.1 17 1) * 5) + 4).toNatClampNeg x5).1 17 1) + 1))))))))
noncomputable def F_X0_note (x1 : Int32) (x2 : Int32) (x3 : Int32) (x4 : Int32) (x5 : Int32) (m : pj_M) : Option (pj_M) := (if (m.1 17 1) = 20 then (if ((5 : Int32) < 0 ∨ (0 : Int32) < 0 ∨ (95 : Int32) < 0) ∨ 100 < (5 : Int32).toNatClampNeg + (95 : Int32).toNatClampNeg ∨ 100 < (0 : Int32).toNatClampNeg + (95 : Int32).toNatClampNeg then none else (J_X0_note_34 x1 x2 x3 x4 x5 (pj_wr (pj_cp m 18 (5 : Int32).toNatClampNeg 18 (0 : Int32).toNatClampNeg (95 : Int32).toNatClampNeg) 17 1 (((pj_cp m 18 (5 : Int32).toNatClampNeg 18 (0 : Int32).toNatClampNeg (95 : Int32).toNatClampNeg).1 17 1) - 1)))) else (J_X0_note_34 x1 x2 x3 x4 x5 m))
noncomputable def W_X0_note : List pj_V → pj_M → Option (pj_M) := fun as m => match as with
  | [.inr (.inr (t0, w0, a0)), .inl x1, .inl x2, .inl x3, .inl x4, .inl x5] => (match Nat.beq t0 0 && (Nat.beq w0 0 && (Nat.beq a0 17)) with
    | true => F_X0_note x1 x2 x3 x4 x5 m
    | false => none)
  | _ => none
noncomputable def tb_X0_note_0 : List (Nat × pj_T (pj_M)) := [(0, qs_lda 0 1), (1, qs_gf 0 1 4), (4, qs_ci 20 6), (6, qs_icne 34 9), (9, qs_lda 0 10), (10, qs_gf 0 0 13), (13, qs_ci 5 14), (14, qs_lda 0 15), (15, qs_gf 0 0 18), (18, qs_ci 0 19), (19, qs_ci 95 21), (21, qs_cpi 24), (24, qs_lda 0 25), (25, qs_dup 26), (26, qs_gf 0 1 29), (29, qs_ci 1 30), (30, qs_b2 (fun x y => x - y) 31), (31, qs_pf 0 1 34), (34, qs_lda 0 35), (35, qs_gf 0 1 38), (38, qs_ci 5 39), (39, qs_b2 (fun x y => x * y) 40), (40, qs_sti 6 42), (42, qs_lda 0 43), (43, qs_gf 0 0 46), (46, qs_ldi 6 48), (48, qs_ldi 1 49), (49, qs_iast 50), (50, qs_lda 0 51), (51, qs_gf 0 0 54), (54, qs_ldi 6 56), (56, qs_ci 1 57), (57, qs_b2 (fun x y => x + y) 58), (58, qs_ldi 2 59), (59, qs_iast 60), (60, qs_lda 0 61), (61, qs_gf 0 0 64), (64, qs_ldi 6 66), (66, qs_ci 2 67), (67, qs_b2 (fun x y => x + y) 68)]
noncomputable def tb_X0_note_1 : List (Nat × pj_T (pj_M)) := [(68, qs_ldi 3 69), (69, qs_iast 70), (70, qs_lda 0 71), (71, qs_gf 0 0 74), (74, qs_ldi 6 76), (76, qs_ci 3 77), (77, qs_b2 (fun x y => x + y) 78), (78, qs_ldi 4 80), (80, qs_iast 81), (81, qs_lda 0 82), (82, qs_gf 0 0 85), (85, qs_ldi 6 87), (87, qs_ci 4 88), (88, qs_b2 (fun x y => x + y) 89), (89, qs_ldi 5 91), (91, qs_iast 92), (92, qs_lda 0 93), (93, qs_dup 94), (94, qs_gf 0 1 97), (97, qs_ci 1 98), (98, qs_b2 (fun x y => x + y) 99), (99, qs_pf 0 1 102), (102, qs_vret)]
noncomputable def tb_X0_note : List (Nat × pj_T (pj_M)) := tb_X0_note_0 ++ (tb_X0_note_1)
theorem mv_X0_note : pj_mv y_X0_note c_X0_note 7 none 5 := ⟨⟨cw_551, cw_550, cw_10, cw_85⟩, by decide +kernel, by decide⟩
set_option maxRecDepth 20000 in
theorem sd_X0_note_0 {G : pj_E} {A : Nat → Prop} {P : pj_P} {S : pj_U} {Z : pj_Z} (C : pj_C (G, A, (c_X0_note, y_X0_note.cls, 7, none, 1), P, S, Z)) : ∀ q ∈ tb_X0_note_0, pj_S (G, A, (c_X0_note, y_X0_note.cls, 7, none, 1), P, S, Z) pj_eV q.1 q.2 :=
  List.forall_mem_cons.mpr ⟨qz_aload_n C (show decode c_X0_note 0 = .ok (.aload_n 0, 1) by decide +kernel) rfl,
  List.forall_mem_cons.mpr ⟨qz_gf (k := 1) C (show decode c_X0_note 1 = .ok (.getfield 13, 3) by decide +kernel) vcX0 wiX0 (by decide) cw_167,
  List.forall_mem_cons.mpr ⟨qz_bipush C (show decode c_X0_note 4 = .ok (.bipush 20, 2) by decide +kernel) (by decide +kernel),
  List.forall_mem_cons.mpr ⟨qz_icne C (show decode c_X0_note 6 = .ok (.if_icmp .ne 28, 3) by decide +kernel) (by decide),
  List.forall_mem_cons.mpr ⟨qz_aload_n C (show decode c_X0_note 9 = .ok (.aload_n 0, 1) by decide +kernel) rfl,
  List.forall_mem_cons.mpr ⟨qz_gf (k := 0) C (show decode c_X0_note 10 = .ok (.getfield 9, 3) by decide +kernel) vcX0 wiX0 (by decide) cw_166,
  List.forall_mem_cons.mpr ⟨qz_iconst C (show decode c_X0_note 13 = .ok (.iconst 5, 1) by decide +kernel) (by decide +kernel),
  List.forall_mem_cons.mpr ⟨qz_aload_n C (show decode c_X0_note 14 = .ok (.aload_n 0, 1) by decide +kernel) rfl,
  List.forall_mem_cons.mpr ⟨qz_gf (k := 0) C (show decode c_X0_note 15 = .ok (.getfield 9, 3) by decide +kernel) vcX0 wiX0 (by decide) cw_166,
  List.forall_mem_cons.mpr ⟨qz_iconst C (show decode c_X0_note 18 = .ok (.iconst 0, 1) by decide +kernel) (by decide +kernel),
  List.forall_mem_cons.mpr ⟨qz_bipush C (show decode c_X0_note 19 = .ok (.bipush 95, 2) by decide +kernel) (by decide +kernel),
  List.forall_mem_cons.mpr ⟨qz_cpi C (show decode c_X0_note 21 = .ok (.invokestatic 46, 3) by decide +kernel) cw_552 cw_415 cw_414 cw_93,
  List.forall_mem_cons.mpr ⟨qz_aload_n C (show decode c_X0_note 24 = .ok (.aload_n 0, 1) by decide +kernel) rfl,
  List.forall_mem_cons.mpr ⟨qz_dup C (show decode c_X0_note 25 = .ok (.dup, 1) by decide +kernel),
  List.forall_mem_cons.mpr ⟨qz_gf (k := 1) C (show decode c_X0_note 26 = .ok (.getfield 13, 3) by decide +kernel) vcX0 wiX0 (by decide) cw_167,
  List.forall_mem_cons.mpr ⟨qz_iconst C (show decode c_X0_note 29 = .ok (.iconst 1, 1) by decide +kernel) (by decide +kernel),
  List.forall_mem_cons.mpr ⟨qz_isub C (show decode c_X0_note 30 = .ok (.isub, 1) by decide +kernel),
  List.forall_mem_cons.mpr ⟨qz_pf (k := 1) C (show decode c_X0_note 31 = .ok (.putfield 13, 3) by decide +kernel) vcX0 wiX0 tyX0_ok nmX0 (by decide) cw_167 rfl rfl,
  List.forall_mem_cons.mpr ⟨qz_aload_n C (show decode c_X0_note 34 = .ok (.aload_n 0, 1) by decide +kernel) rfl,
  List.forall_mem_cons.mpr ⟨qz_gf (k := 1) C (show decode c_X0_note 35 = .ok (.getfield 13, 3) by decide +kernel) vcX0 wiX0 (by decide) cw_167,
  List.forall_mem_cons.mpr ⟨qz_iconst C (show decode c_X0_note 38 = .ok (.iconst 5, 1) by decide +kernel) (by decide +kernel),
  List.forall_mem_cons.mpr ⟨qz_imul C (show decode c_X0_note 39 = .ok (.imul, 1) by decide +kernel),
  List.forall_mem_cons.mpr ⟨qz_istore C (show decode c_X0_note 40 = .ok (.istore 6, 2) by decide +kernel),
  List.forall_mem_cons.mpr ⟨qz_aload_n C (show decode c_X0_note 42 = .ok (.aload_n 0, 1) by decide +kernel) rfl,
  List.forall_mem_cons.mpr ⟨qz_gf (k := 0) C (show decode c_X0_note 43 = .ok (.getfield 9, 3) by decide +kernel) vcX0 wiX0 (by decide) cw_166,
  List.forall_mem_cons.mpr ⟨qz_iload C (show decode c_X0_note 46 = .ok (.iload 6, 2) by decide +kernel),
  List.forall_mem_cons.mpr ⟨qz_iload_n C (show decode c_X0_note 48 = .ok (.iload_n 1, 1) by decide +kernel) rfl,
  List.forall_mem_cons.mpr ⟨qz_iast C (show decode c_X0_note 49 = .ok (.iastore, 1) by decide +kernel),
  List.forall_mem_cons.mpr ⟨qz_aload_n C (show decode c_X0_note 50 = .ok (.aload_n 0, 1) by decide +kernel) rfl,
  List.forall_mem_cons.mpr ⟨qz_gf (k := 0) C (show decode c_X0_note 51 = .ok (.getfield 9, 3) by decide +kernel) vcX0 wiX0 (by decide) cw_166,
  List.forall_mem_cons.mpr ⟨qz_iload C (show decode c_X0_note 54 = .ok (.iload 6, 2) by decide +kernel),
  List.forall_mem_cons.mpr ⟨qz_iconst C (show decode c_X0_note 56 = .ok (.iconst 1, 1) by decide +kernel) (by decide +kernel),
  List.forall_mem_cons.mpr ⟨qz_iadd C (show decode c_X0_note 57 = .ok (.iadd, 1) by decide +kernel),
  List.forall_mem_cons.mpr ⟨qz_iload_n C (show decode c_X0_note 58 = .ok (.iload_n 2, 1) by decide +kernel) rfl,
  List.forall_mem_cons.mpr ⟨qz_iast C (show decode c_X0_note 59 = .ok (.iastore, 1) by decide +kernel),
  List.forall_mem_cons.mpr ⟨qz_aload_n C (show decode c_X0_note 60 = .ok (.aload_n 0, 1) by decide +kernel) rfl,
  List.forall_mem_cons.mpr ⟨qz_gf (k := 0) C (show decode c_X0_note 61 = .ok (.getfield 9, 3) by decide +kernel) vcX0 wiX0 (by decide) cw_166,
  List.forall_mem_cons.mpr ⟨qz_iload C (show decode c_X0_note 64 = .ok (.iload 6, 2) by decide +kernel),
  List.forall_mem_cons.mpr ⟨qz_iconst C (show decode c_X0_note 66 = .ok (.iconst 2, 1) by decide +kernel) (by decide +kernel),
  List.forall_mem_cons.mpr ⟨qz_iadd C (show decode c_X0_note 67 = .ok (.iadd, 1) by decide +kernel),
  (fun q h => by cases h)⟩⟩⟩⟩⟩⟩⟩⟩⟩⟩⟩⟩⟩⟩⟩⟩⟩⟩⟩⟩⟩⟩⟩⟩⟩⟩⟩⟩⟩⟩⟩⟩⟩⟩⟩⟩⟩⟩⟩⟩
set_option maxRecDepth 20000 in
theorem sd_X0_note_1 {G : pj_E} {A : Nat → Prop} {P : pj_P} {S : pj_U} {Z : pj_Z} (C : pj_C (G, A, (c_X0_note, y_X0_note.cls, 7, none, 1), P, S, Z)) : ∀ q ∈ tb_X0_note_1, pj_S (G, A, (c_X0_note, y_X0_note.cls, 7, none, 1), P, S, Z) pj_eV q.1 q.2 :=
  List.forall_mem_cons.mpr ⟨qz_iload_n C (show decode c_X0_note 68 = .ok (.iload_n 3, 1) by decide +kernel) rfl,
  List.forall_mem_cons.mpr ⟨qz_iast C (show decode c_X0_note 69 = .ok (.iastore, 1) by decide +kernel),
  List.forall_mem_cons.mpr ⟨qz_aload_n C (show decode c_X0_note 70 = .ok (.aload_n 0, 1) by decide +kernel) rfl,
  List.forall_mem_cons.mpr ⟨qz_gf (k := 0) C (show decode c_X0_note 71 = .ok (.getfield 9, 3) by decide +kernel) vcX0 wiX0 (by decide) cw_166,
  List.forall_mem_cons.mpr ⟨qz_iload C (show decode c_X0_note 74 = .ok (.iload 6, 2) by decide +kernel),
  List.forall_mem_cons.mpr ⟨qz_iconst C (show decode c_X0_note 76 = .ok (.iconst 3, 1) by decide +kernel) (by decide +kernel),
  List.forall_mem_cons.mpr ⟨qz_iadd C (show decode c_X0_note 77 = .ok (.iadd, 1) by decide +kernel),
  List.forall_mem_cons.mpr ⟨qz_iload C (show decode c_X0_note 78 = .ok (.iload 4, 2) by decide +kernel),
  List.forall_mem_cons.mpr ⟨qz_iast C (show decode c_X0_note 80 = .ok (.iastore, 1) by decide +kernel),
  List.forall_mem_cons.mpr ⟨qz_aload_n C (show decode c_X0_note 81 = .ok (.aload_n 0, 1) by decide +kernel) rfl,
  List.forall_mem_cons.mpr ⟨qz_gf (k := 0) C (show decode c_X0_note 82 = .ok (.getfield 9, 3) by decide +kernel) vcX0 wiX0 (by decide) cw_166,
  List.forall_mem_cons.mpr ⟨qz_iload C (show decode c_X0_note 85 = .ok (.iload 6, 2) by decide +kernel),
  List.forall_mem_cons.mpr ⟨qz_iconst C (show decode c_X0_note 87 = .ok (.iconst 4, 1) by decide +kernel) (by decide +kernel),
  List.forall_mem_cons.mpr ⟨qz_iadd C (show decode c_X0_note 88 = .ok (.iadd, 1) by decide +kernel),
  List.forall_mem_cons.mpr ⟨qz_iload C (show decode c_X0_note 89 = .ok (.iload 5, 2) by decide +kernel),
  List.forall_mem_cons.mpr ⟨qz_iast C (show decode c_X0_note 91 = .ok (.iastore, 1) by decide +kernel),
  List.forall_mem_cons.mpr ⟨qz_aload_n C (show decode c_X0_note 92 = .ok (.aload_n 0, 1) by decide +kernel) rfl,
  List.forall_mem_cons.mpr ⟨qz_dup C (show decode c_X0_note 93 = .ok (.dup, 1) by decide +kernel),
  List.forall_mem_cons.mpr ⟨qz_gf (k := 1) C (show decode c_X0_note 94 = .ok (.getfield 13, 3) by decide +kernel) vcX0 wiX0 (by decide) cw_167,
  List.forall_mem_cons.mpr ⟨qz_iconst C (show decode c_X0_note 97 = .ok (.iconst 1, 1) by decide +kernel) (by decide +kernel),
  List.forall_mem_cons.mpr ⟨qz_iadd C (show decode c_X0_note 98 = .ok (.iadd, 1) by decide +kernel),
  List.forall_mem_cons.mpr ⟨qz_pf (k := 1) C (show decode c_X0_note 99 = .ok (.putfield 13, 3) by decide +kernel) vcX0 wiX0 tyX0_ok nmX0 (by decide) cw_167 rfl rfl,
  List.forall_mem_cons.mpr ⟨qz_vret C (show decode c_X0_note 102 = .ok (.return_, 1) by decide +kernel) rfl,
  (fun q h => by cases h)⟩⟩⟩⟩⟩⟩⟩⟩⟩⟩⟩⟩⟩⟩⟩⟩⟩⟩⟩⟩⟩⟩⟩
theorem sd_X0_note {G : pj_E} {A : Nat → Prop} {P : pj_P} {S : pj_U} {Z : pj_Z} (C : pj_C (G, A, (c_X0_note, y_X0_note.cls, 7, none, 1), P, S, Z)) : ∀ q ∈ tb_X0_note, pj_S (G, A, (c_X0_note, y_X0_note.cls, 7, none, 1), P, S, Z) pj_eV q.1 q.2 := List.forall_mem_append.mpr ⟨sd_X0_note_0 C, sd_X0_note_1 C⟩
noncomputable def C_X0_note_34 (f : Int32 → Int32 → Int32 → Int32 → Int32 → pj_M → Option (pj_M)) : pj_N (pj_M) := fun L st m => match L, st with
  | [some (.inr (.inr (t0, w0, a0))), some (.inl x1), some (.inl x2), some (.inl x3), some (.inl x4), some (.inl x5), _], [] => (match Nat.beq t0 0 && (Nat.beq w0 0 && (Nat.beq a0 17)) with
    | true => f x1 x2 x3 x4 x5 m
    | false => none)
  | _, _ => none
set_option maxRecDepth 20000 in
theorem eq_X0_note_34 (x1 : Int32) (x2 : Int32) (x3 : Int32) (x4 : Int32) (x5 : Int32) (d6 : Option pj_V) (m : pj_M) : pj_run tb_X0_note [] 65 34 [some (.inr (.inr (0, 0, 17))), some (.inl x1), some (.inl x2), some (.inl x3), some (.inl x4), some (.inl x5), d6] [] m = J_X0_note_34 x1 x2 x3 x4 x5 m := by rfl
theorem sg_X0_note_34 {G : pj_E} {A : Nat → Prop} {P : pj_P} {S : pj_U} {Z : pj_Z} (C : pj_C (G, A, (c_X0_note, y_X0_note.cls, 7, none, 1), P, S, Z)) : pj_G (G, A, (c_X0_note, y_X0_note.cls, 7, none, 1), P, S, Z) pj_eV 34 (C_X0_note_34 (J_X0_note_34)) := by
  intro L st m r h hR
  unfold C_X0_note_34 at h
  split at h
  · split at h
    · rename_i hbq
      simp only [Bool.and_eq_true, Nat.beq_eq] at hbq
      obtain ⟨rfl, rfl, rfl⟩ := hbq
      exact pj_run_ok (sd_X0_note C) (fun q h => by cases h) 65 34 _ _ _ _ ((eq_X0_note_34 _ _ _ _ _ _ _).trans h) hR
    · cases h
  · cases h
set_option maxRecDepth 20000 in
theorem eq_X0_note (x1 : Int32) (x2 : Int32) (x3 : Int32) (x4 : Int32) (x5 : Int32) (m : pj_M) : pj_run tb_X0_note [(34, C_X0_note_34 (J_X0_note_34 ))] 65 0 [some (.inr (.inr (0, 0, 17))), some (.inl x1), some (.inl x2), some (.inl x3), some (.inl x4), some (.inl x5), none] [] m = F_X0_note x1 x2 x3 x4 x5 m := by rfl
theorem ct_X0_note : pj_Ct pj_eV y_X0_note c_X0_note 7 none 1 W_X0_note := by
  refine pj_ct_of (by decide +kernel) ?_ ?_
  · intro as m r h
    unfold W_X0_note at h
    split at h
    · simp [pj_l0]
    · cases h
  · intro G A P S Z C as m r h hR
    unfold W_X0_note at h
    split at h
    · split at h
      · rename_i hbq
        simp only [Bool.and_eq_true, Nat.beq_eq] at hbq
        obtain ⟨rfl, rfl, rfl⟩ := hbq
        exact pj_run_ok (sd_X0_note C) (List.forall_mem_cons.mpr ⟨sg_X0_note_34 C , fun q h => by cases h⟩) 65 0 _ _ _ _ ((eq_X0_note _ _ _ _ _ _).trans h) hR
      · cases h
    · cases h
/-! AlikeSteps$Acts.noteLaid()V -/
abbrev c_X0_noteLaid : ByteArray := prog_2_method_4_code
def y_X0_noteLaid : MethodName := ⟨RX0, "noteLaid", "()V"⟩
noncomputable def F_X0_noteLaid (m : pj_M) : Option (pj_M) := ((F_X0_note 0 0 0 0 0 m).bind fun q1 => (some q1))
noncomputable def W_X0_noteLaid : List pj_V → pj_M → Option (pj_M) := fun as m => match as with
  | [.inr (.inr (t0, w0, a0))] => (match Nat.beq t0 0 && (Nat.beq w0 0 && (Nat.beq a0 17)) with
    | true => F_X0_noteLaid m
    | false => none)
  | _ => none
noncomputable def tb_X0_noteLaid_0 : List (Nat × pj_T (pj_M)) := [(0, qs_lda 0 1), (1, qs_ci 0 2), (2, qs_ci 0 3), (3, qs_ci 0 4), (4, qs_ci 0 5), (5, qs_ci 0 6), (6, qs_vV 0 6 W_X0_note 9), (9, qs_vret)]
noncomputable abbrev tb_X0_noteLaid : List (Nat × pj_T (pj_M)) := tb_X0_noteLaid_0
theorem mv_X0_noteLaid : pj_mv y_X0_noteLaid c_X0_noteLaid 1 none 0 := ⟨⟨cw_547, cw_545, cw_546, cw_85⟩, by decide +kernel, by decide⟩
set_option maxRecDepth 20000 in
theorem sd_X0_noteLaid_0 {G : pj_E} {A : Nat → Prop} {P : pj_P} {S : pj_U} {Z : pj_Z} (C : pj_C (G, A, (c_X0_noteLaid, y_X0_noteLaid.cls, 1, none, 2), P, S, Z)) : ∀ q ∈ tb_X0_noteLaid_0, pj_S (G, A, (c_X0_noteLaid, y_X0_noteLaid.cls, 1, none, 2), P, S, Z) pj_eV q.1 q.2 :=
  List.forall_mem_cons.mpr ⟨qz_aload_n C (show decode c_X0_noteLaid 0 = .ok (.aload_n 0, 1) by decide +kernel) rfl,
  List.forall_mem_cons.mpr ⟨qz_iconst C (show decode c_X0_noteLaid 1 = .ok (.iconst 0, 1) by decide +kernel) (by decide +kernel),
  List.forall_mem_cons.mpr ⟨qz_iconst C (show decode c_X0_noteLaid 2 = .ok (.iconst 0, 1) by decide +kernel) (by decide +kernel),
  List.forall_mem_cons.mpr ⟨qz_iconst C (show decode c_X0_noteLaid 3 = .ok (.iconst 0, 1) by decide +kernel) (by decide +kernel),
  List.forall_mem_cons.mpr ⟨qz_iconst C (show decode c_X0_noteLaid 4 = .ok (.iconst 0, 1) by decide +kernel) (by decide +kernel),
  List.forall_mem_cons.mpr ⟨qz_iconst C (show decode c_X0_noteLaid 5 = .ok (.iconst 0, 1) by decide +kernel) (by decide +kernel),
  List.forall_mem_cons.mpr ⟨qz_vV C (show decode c_X0_noteLaid 6 = .ok (.invokevirtual 17, 3) by decide +kernel) ct_X0_note mv_X0_note cw_548 vcX0 (show 1 < 2 by omega),
  List.forall_mem_cons.mpr ⟨qz_vret C (show decode c_X0_noteLaid 9 = .ok (.return_, 1) by decide +kernel) rfl,
  (fun q h => by cases h)⟩⟩⟩⟩⟩⟩⟩⟩
theorem sd_X0_noteLaid {G : pj_E} {A : Nat → Prop} {P : pj_P} {S : pj_U} {Z : pj_Z} (C : pj_C (G, A, (c_X0_noteLaid, y_X0_noteLaid.cls, 1, none, 2), P, S, Z)) : ∀ q ∈ tb_X0_noteLaid, pj_S (G, A, (c_X0_noteLaid, y_X0_noteLaid.cls, 1, none, 2), P, S, Z) pj_eV q.1 q.2 := sd_X0_noteLaid_0 C
set_option maxRecDepth 20000 in
theorem eq_X0_noteLaid (m : pj_M) : pj_run tb_X0_noteLaid [] 10 0 [some (.inr (.inr (0, 0, 17)))] [] m = F_X0_noteLaid m := by rfl
theorem ct_X0_noteLaid : pj_Ct pj_eV y_X0_noteLaid c_X0_noteLaid 1 none 2 W_X0_noteLaid := by
  refine pj_ct_of (by decide +kernel) ?_ ?_
  · intro as m r h
    unfold W_X0_noteLaid at h
    split at h
    · simp [pj_l0]
    · cases h
  · intro G A P S Z C as m r h hR
    unfold W_X0_noteLaid at h
    split at h
    · split at h
      · rename_i hbq
        simp only [Bool.and_eq_true, Nat.beq_eq] at hbq
        obtain ⟨rfl, rfl, rfl⟩ := hbq
        exact pj_run_ok (sd_X0_noteLaid C) (fun q h => by cases h) 10 0 _ _ _ _ ((eq_X0_noteLaid _).trans h) hR
      · cases h
    · cases h
/-! AlikeSteps$Net.arcPart(II)I -/
abbrev c_X4_arcPart : ByteArray := prog_6_method_8_code
def y_X4_arcPart : MethodName := ⟨RX4, "arcPart", "(II)I"⟩
noncomputable def F_X4_arcPart (a0 : Nat) (x1 : Int32) (x2 : Int32) (m : pj_M) : Option (Int32 × pj_M) := (if ((x2 * 20) + x1) < 0 ∨ 60 ≤ ((x2 * 20) + x1).toNatClampNeg then none else (some (m.1 (a0 + 2) ((x2 * 20) + x1).toNatClampNeg, m)))
noncomputable def W_X4_arcPart : List pj_V → pj_M → Option (Int32 × pj_M) := fun as m => match as with
  | [.inr (.inr (t0, w0, a0)), .inl x1, .inl x2] => (match Nat.beq t0 0 && (Nat.beq w0 4) with
    | true => F_X4_arcPart a0 x1 x2 m
    | false => none)
  | _ => none
noncomputable def tb_X4_arcPart_0 : List (Nat × pj_T (Int32 × pj_M)) := [(0, qs_lda 0 1), (1, qs_gf 4 1 4), (4, qs_ldi 2 5), (5, qs_ci 20 7), (7, qs_b2 (fun x y => x * y) 8), (8, qs_ldi 1 9), (9, qs_b2 (fun x y => x + y) 10), (10, qs_iald 11), (11, qs_iret)]
noncomputable abbrev tb_X4_arcPart : List (Nat × pj_T (Int32 × pj_M)) := tb_X4_arcPart_0
theorem mv_X4_arcPart : pj_mv y_X4_arcPart c_X4_arcPart 3 (some .int) 2 := ⟨⟨cw_568, cw_566, cw_567, cw_84⟩, by decide +kernel, by decide⟩
set_option maxRecDepth 20000 in
theorem sd_X4_arcPart_0 {G : pj_E} {A : Nat → Prop} {P : pj_P} {S : pj_U} {Z : pj_Z} (C : pj_C (G, A, (c_X4_arcPart, y_X4_arcPart.cls, 3, (some .int), 1), P, S, Z)) : ∀ q ∈ tb_X4_arcPart_0, pj_S (G, A, (c_X4_arcPart, y_X4_arcPart.cls, 3, (some .int), 1), P, S, Z) pj_eI q.1 q.2 :=
  List.forall_mem_cons.mpr ⟨qz_aload_n C (show decode c_X4_arcPart 0 = .ok (.aload_n 0, 1) by decide +kernel) rfl,
  List.forall_mem_cons.mpr ⟨qz_gf (k := 1) C (show decode c_X4_arcPart 1 = .ok (.getfield 15, 3) by decide +kernel) vcX4 wiX4 (by decide) cw_144,
  List.forall_mem_cons.mpr ⟨qz_iload_n C (show decode c_X4_arcPart 4 = .ok (.iload_n 2, 1) by decide +kernel) rfl,
  List.forall_mem_cons.mpr ⟨qz_bipush C (show decode c_X4_arcPart 5 = .ok (.bipush 20, 2) by decide +kernel) (by decide +kernel),
  List.forall_mem_cons.mpr ⟨qz_imul C (show decode c_X4_arcPart 7 = .ok (.imul, 1) by decide +kernel),
  List.forall_mem_cons.mpr ⟨qz_iload_n C (show decode c_X4_arcPart 8 = .ok (.iload_n 1, 1) by decide +kernel) rfl,
  List.forall_mem_cons.mpr ⟨qz_iadd C (show decode c_X4_arcPart 9 = .ok (.iadd, 1) by decide +kernel),
  List.forall_mem_cons.mpr ⟨qz_iald C (show decode c_X4_arcPart 10 = .ok (.iaload, 1) by decide +kernel),
  List.forall_mem_cons.mpr ⟨qz_iret C (show decode c_X4_arcPart 11 = .ok (.ireturn, 1) by decide +kernel) rfl,
  (fun q h => by cases h)⟩⟩⟩⟩⟩⟩⟩⟩⟩
theorem sd_X4_arcPart {G : pj_E} {A : Nat → Prop} {P : pj_P} {S : pj_U} {Z : pj_Z} (C : pj_C (G, A, (c_X4_arcPart, y_X4_arcPart.cls, 3, (some .int), 1), P, S, Z)) : ∀ q ∈ tb_X4_arcPart, pj_S (G, A, (c_X4_arcPart, y_X4_arcPart.cls, 3, (some .int), 1), P, S, Z) pj_eI q.1 q.2 := sd_X4_arcPart_0 C
set_option maxRecDepth 20000 in
theorem eq_X4_arcPart (a0 : Nat) (x1 : Int32) (x2 : Int32) (m : pj_M) : pj_run tb_X4_arcPart [] 11 0 [some (.inr (.inr (0, 4, a0))), some (.inl x1), some (.inl x2)] [] m = F_X4_arcPart a0 x1 x2 m := by rfl
theorem ct_X4_arcPart : pj_Ct pj_eI y_X4_arcPart c_X4_arcPart 3 (some .int) 1 W_X4_arcPart := by
  refine pj_ct_of (by decide +kernel) ?_ ?_
  · intro as m r h
    unfold W_X4_arcPart at h
    split at h
    · simp [pj_l0]
    · cases h
  · intro G A P S Z C as m r h hR
    unfold W_X4_arcPart at h
    split at h
    · split at h
      · rename_i hbq
        simp only [Bool.and_eq_true, Nat.beq_eq] at hbq
        obtain ⟨rfl, rfl⟩ := hbq
        exact pj_run_ok (sd_X4_arcPart C) (fun q h => by cases h) 11 0 _ _ _ _ ((eq_X4_arcPart _ _ _ _).trans h) hR
      · cases h
    · cases h
/-! AlikeSteps$Acts.noteCut(LAlikeSteps$Net;I)V -/
abbrev c_X0_noteCut : ByteArray := prog_2_method_5_code
def y_X0_noteCut : MethodName := ⟨RX0, "noteCut", "(LAlikeSteps$Net;I)V"⟩
noncomputable def F_X0_noteCut (a1 : Nat) (x2 : Int32) (m : pj_M) : Option (pj_M) := ((F_X4_arcPart a1 x2 0 m).bind fun q1 => ((F_X4_arcPart a1 x2 1 q1.2).bind fun q2 => ((F_X4_arcPart a1 x2 2 q2.2).bind fun q3 => ((F_X0_note 1 x2 q1.1 q2.1 q3.1 q3.2).bind fun q4 => (some q4)))))
noncomputable def W_X0_noteCut : List pj_V → pj_M → Option (pj_M) := fun as m => match as with
  | [.inr (.inr (t0, w0, a0)), .inr (.inr (t1, w1, a1)), .inl x2] => (match Nat.beq t0 0 && (Nat.beq w0 0 && (Nat.beq a0 17 && (Nat.beq t1 0 && (Nat.beq w1 4)))) with
    | true => F_X0_noteCut a1 x2 m
    | false => none)
  | _ => none
noncomputable def tb_X0_noteCut_0 : List (Nat × pj_T (pj_M)) := [(0, qs_lda 0 1), (1, qs_ci 1 2), (2, qs_ldi 2 3), (3, qs_lda 1 4), (4, qs_ldi 2 5), (5, qs_ci 0 6), (6, qs_vI 4 3 W_X4_arcPart 9), (9, qs_lda 1 10), (10, qs_ldi 2 11), (11, qs_ci 1 12), (12, qs_vI 4 3 W_X4_arcPart 15), (15, qs_lda 1 16), (16, qs_ldi 2 17), (17, qs_ci 2 18), (18, qs_vI 4 3 W_X4_arcPart 21), (21, qs_vV 0 6 W_X0_note 24), (24, qs_vret)]
noncomputable abbrev tb_X0_noteCut : List (Nat × pj_T (pj_M)) := tb_X0_noteCut_0
theorem mv_X0_noteCut : pj_mv y_X0_noteCut c_X0_noteCut 3 none 2 := ⟨⟨cw_564, cw_562, cw_563, cw_85⟩, by decide +kernel, by decide⟩
set_option maxRecDepth 20000 in
theorem sd_X0_noteCut_0 {G : pj_E} {A : Nat → Prop} {P : pj_P} {S : pj_U} {Z : pj_Z} (C : pj_C (G, A, (c_X0_noteCut, y_X0_noteCut.cls, 3, none, 2), P, S, Z)) : ∀ q ∈ tb_X0_noteCut_0, pj_S (G, A, (c_X0_noteCut, y_X0_noteCut.cls, 3, none, 2), P, S, Z) pj_eV q.1 q.2 :=
  List.forall_mem_cons.mpr ⟨qz_aload_n C (show decode c_X0_noteCut 0 = .ok (.aload_n 0, 1) by decide +kernel) rfl,
  List.forall_mem_cons.mpr ⟨qz_iconst C (show decode c_X0_noteCut 1 = .ok (.iconst 1, 1) by decide +kernel) (by decide +kernel),
  List.forall_mem_cons.mpr ⟨qz_iload_n C (show decode c_X0_noteCut 2 = .ok (.iload_n 2, 1) by decide +kernel) rfl,
  List.forall_mem_cons.mpr ⟨qz_aload_n C (show decode c_X0_noteCut 3 = .ok (.aload_n 1, 1) by decide +kernel) rfl,
  List.forall_mem_cons.mpr ⟨qz_iload_n C (show decode c_X0_noteCut 4 = .ok (.iload_n 2, 1) by decide +kernel) rfl,
  List.forall_mem_cons.mpr ⟨qz_iconst C (show decode c_X0_noteCut 5 = .ok (.iconst 0, 1) by decide +kernel) (by decide +kernel),
  List.forall_mem_cons.mpr ⟨qz_vI C (show decode c_X0_noteCut 6 = .ok (.invokevirtual 23, 3) by decide +kernel) ct_X4_arcPart mv_X4_arcPart cw_565 vcX4 (show 1 < 2 by omega),
  List.forall_mem_cons.mpr ⟨qz_aload_n C (show decode c_X0_noteCut 9 = .ok (.aload_n 1, 1) by decide +kernel) rfl,
  List.forall_mem_cons.mpr ⟨qz_iload_n C (show decode c_X0_noteCut 10 = .ok (.iload_n 2, 1) by decide +kernel) rfl,
  List.forall_mem_cons.mpr ⟨qz_iconst C (show decode c_X0_noteCut 11 = .ok (.iconst 1, 1) by decide +kernel) (by decide +kernel),
  List.forall_mem_cons.mpr ⟨qz_vI C (show decode c_X0_noteCut 12 = .ok (.invokevirtual 23, 3) by decide +kernel) ct_X4_arcPart mv_X4_arcPart cw_565 vcX4 (show 1 < 2 by omega),
  List.forall_mem_cons.mpr ⟨qz_aload_n C (show decode c_X0_noteCut 15 = .ok (.aload_n 1, 1) by decide +kernel) rfl,
  List.forall_mem_cons.mpr ⟨qz_iload_n C (show decode c_X0_noteCut 16 = .ok (.iload_n 2, 1) by decide +kernel) rfl,
  List.forall_mem_cons.mpr ⟨qz_iconst C (show decode c_X0_noteCut 17 = .ok (.iconst 2, 1) by decide +kernel) (by decide +kernel),
  List.forall_mem_cons.mpr ⟨qz_vI C (show decode c_X0_noteCut 18 = .ok (.invokevirtual 23, 3) by decide +kernel) ct_X4_arcPart mv_X4_arcPart cw_565 vcX4 (show 1 < 2 by omega),
  List.forall_mem_cons.mpr ⟨qz_vV C (show decode c_X0_noteCut 21 = .ok (.invokevirtual 17, 3) by decide +kernel) ct_X0_note mv_X0_note cw_548 vcX0 (show 1 < 2 by omega),
  List.forall_mem_cons.mpr ⟨qz_vret C (show decode c_X0_noteCut 24 = .ok (.return_, 1) by decide +kernel) rfl,
  (fun q h => by cases h)⟩⟩⟩⟩⟩⟩⟩⟩⟩⟩⟩⟩⟩⟩⟩⟩⟩
theorem sd_X0_noteCut {G : pj_E} {A : Nat → Prop} {P : pj_P} {S : pj_U} {Z : pj_Z} (C : pj_C (G, A, (c_X0_noteCut, y_X0_noteCut.cls, 3, none, 2), P, S, Z)) : ∀ q ∈ tb_X0_noteCut, pj_S (G, A, (c_X0_noteCut, y_X0_noteCut.cls, 3, none, 2), P, S, Z) pj_eV q.1 q.2 := sd_X0_noteCut_0 C
set_option maxRecDepth 20000 in
theorem eq_X0_noteCut (a1 : Nat) (x2 : Int32) (m : pj_M) : pj_run tb_X0_noteCut [] 19 0 [some (.inr (.inr (0, 0, 17))), some (.inr (.inr (0, 4, a1))), some (.inl x2)] [] m = F_X0_noteCut a1 x2 m := by rfl
theorem ct_X0_noteCut : pj_Ct pj_eV y_X0_noteCut c_X0_noteCut 3 none 2 W_X0_noteCut := by
  refine pj_ct_of (by decide +kernel) ?_ ?_
  · intro as m r h
    unfold W_X0_noteCut at h
    split at h
    · simp [pj_l0]
    · cases h
  · intro G A P S Z C as m r h hR
    unfold W_X0_noteCut at h
    split at h
    · split at h
      · rename_i hbq
        simp only [Bool.and_eq_true, Nat.beq_eq] at hbq
        obtain ⟨rfl, rfl, rfl, rfl, rfl⟩ := hbq
        exact pj_run_ok (sd_X0_noteCut C) (fun q h => by cases h) 19 0 _ _ _ _ ((eq_X0_noteCut _ _ _).trans h) hR
      · cases h
    · cases h
/-! AlikeSteps$Acts.noteTurned(I)V -/
abbrev c_X0_noteTurned : ByteArray := prog_2_method_6_code
def y_X0_noteTurned : MethodName := ⟨RX0, "noteTurned", "(I)V"⟩
noncomputable def F_X0_noteTurned (x1 : Int32) (m : pj_M) : Option (pj_M) := ((F_X0_note 2 x1 0 0 0 m).bind fun q1 => (some q1))
noncomputable def W_X0_noteTurned : List pj_V → pj_M → Option (pj_M) := fun as m => match as with
  | [.inr (.inr (t0, w0, a0)), .inl x1] => (match Nat.beq t0 0 && (Nat.beq w0 0 && (Nat.beq a0 17)) with
    | true => F_X0_noteTurned x1 m
    | false => none)
  | _ => none
noncomputable def tb_X0_noteTurned_0 : List (Nat × pj_T (pj_M)) := [(0, qs_lda 0 1), (1, qs_ci 2 2), (2, qs_ldi 1 3), (3, qs_ci 0 4), (4, qs_ci 0 5), (5, qs_ci 0 6), (6, qs_vV 0 6 W_X0_note 9), (9, qs_vret)]
noncomputable abbrev tb_X0_noteTurned : List (Nat × pj_T (pj_M)) := tb_X0_noteTurned_0
theorem mv_X0_noteTurned : pj_mv y_X0_noteTurned c_X0_noteTurned 2 none 1 := ⟨⟨cw_586, cw_584, cw_585, cw_85⟩, by decide +kernel, by decide⟩
set_option maxRecDepth 20000 in
theorem sd_X0_noteTurned_0 {G : pj_E} {A : Nat → Prop} {P : pj_P} {S : pj_U} {Z : pj_Z} (C : pj_C (G, A, (c_X0_noteTurned, y_X0_noteTurned.cls, 2, none, 2), P, S, Z)) : ∀ q ∈ tb_X0_noteTurned_0, pj_S (G, A, (c_X0_noteTurned, y_X0_noteTurned.cls, 2, none, 2), P, S, Z) pj_eV q.1 q.2 :=
  List.forall_mem_cons.mpr ⟨qz_aload_n C (show decode c_X0_noteTurned 0 = .ok (.aload_n 0, 1) by decide +kernel) rfl,
  List.forall_mem_cons.mpr ⟨qz_iconst C (show decode c_X0_noteTurned 1 = .ok (.iconst 2, 1) by decide +kernel) (by decide +kernel),
  List.forall_mem_cons.mpr ⟨qz_iload_n C (show decode c_X0_noteTurned 2 = .ok (.iload_n 1, 1) by decide +kernel) rfl,
  List.forall_mem_cons.mpr ⟨qz_iconst C (show decode c_X0_noteTurned 3 = .ok (.iconst 0, 1) by decide +kernel) (by decide +kernel),
  List.forall_mem_cons.mpr ⟨qz_iconst C (show decode c_X0_noteTurned 4 = .ok (.iconst 0, 1) by decide +kernel) (by decide +kernel),
  List.forall_mem_cons.mpr ⟨qz_iconst C (show decode c_X0_noteTurned 5 = .ok (.iconst 0, 1) by decide +kernel) (by decide +kernel),
  List.forall_mem_cons.mpr ⟨qz_vV C (show decode c_X0_noteTurned 6 = .ok (.invokevirtual 17, 3) by decide +kernel) ct_X0_note mv_X0_note cw_548 vcX0 (show 1 < 2 by omega),
  List.forall_mem_cons.mpr ⟨qz_vret C (show decode c_X0_noteTurned 9 = .ok (.return_, 1) by decide +kernel) rfl,
  (fun q h => by cases h)⟩⟩⟩⟩⟩⟩⟩⟩
theorem sd_X0_noteTurned {G : pj_E} {A : Nat → Prop} {P : pj_P} {S : pj_U} {Z : pj_Z} (C : pj_C (G, A, (c_X0_noteTurned, y_X0_noteTurned.cls, 2, none, 2), P, S, Z)) : ∀ q ∈ tb_X0_noteTurned, pj_S (G, A, (c_X0_noteTurned, y_X0_noteTurned.cls, 2, none, 2), P, S, Z) pj_eV q.1 q.2 := sd_X0_noteTurned_0 C
set_option maxRecDepth 20000 in
theorem eq_X0_noteTurned (x1 : Int32) (m : pj_M) : pj_run tb_X0_noteTurned [] 10 0 [some (.inr (.inr (0, 0, 17))), some (.inl x1)] [] m = F_X0_noteTurned x1 m := by rfl
theorem ct_X0_noteTurned : pj_Ct pj_eV y_X0_noteTurned c_X0_noteTurned 2 none 2 W_X0_noteTurned := by
  refine pj_ct_of (by decide +kernel) ?_ ?_
  · intro as m r h
    unfold W_X0_noteTurned at h
    split at h
    · simp [pj_l0]
    · cases h
  · intro G A P S Z C as m r h hR
    unfold W_X0_noteTurned at h
    split at h
    · split at h
      · rename_i hbq
        simp only [Bool.and_eq_true, Nat.beq_eq] at hbq
        obtain ⟨rfl, rfl, rfl⟩ := hbq
        exact pj_run_ok (sd_X0_noteTurned C) (fun q h => by cases h) 10 0 _ _ _ _ ((eq_X0_noteTurned _ _).trans h) hR
      · cases h
    · cases h
/-! AlikeSteps$Acts.noteKind(II)V -/
abbrev c_X0_noteKind : ByteArray := prog_2_method_7_code
def y_X0_noteKind : MethodName := ⟨RX0, "noteKind", "(II)V"⟩
noncomputable def F_X0_noteKind (x1 : Int32) (x2 : Int32) (m : pj_M) : Option (pj_M) := ((F_X0_note 3 x1 x2 0 0 m).bind fun q1 => (some q1))
noncomputable def W_X0_noteKind : List pj_V → pj_M → Option (pj_M) := fun as m => match as with
  | [.inr (.inr (t0, w0, a0)), .inl x1, .inl x2] => (match Nat.beq t0 0 && (Nat.beq w0 0 && (Nat.beq a0 17)) with
    | true => F_X0_noteKind x1 x2 m
    | false => none)
  | _ => none
noncomputable def tb_X0_noteKind_0 : List (Nat × pj_T (pj_M)) := [(0, qs_lda 0 1), (1, qs_ci 3 2), (2, qs_ldi 1 3), (3, qs_ldi 2 4), (4, qs_ci 0 5), (5, qs_ci 0 6), (6, qs_vV 0 6 W_X0_note 9), (9, qs_vret)]
noncomputable abbrev tb_X0_noteKind : List (Nat × pj_T (pj_M)) := tb_X0_noteKind_0
theorem mv_X0_noteKind : pj_mv y_X0_noteKind c_X0_noteKind 3 none 2 := ⟨⟨cw_604, cw_602, cw_603, cw_85⟩, by decide +kernel, by decide⟩
set_option maxRecDepth 20000 in
theorem sd_X0_noteKind_0 {G : pj_E} {A : Nat → Prop} {P : pj_P} {S : pj_U} {Z : pj_Z} (C : pj_C (G, A, (c_X0_noteKind, y_X0_noteKind.cls, 3, none, 2), P, S, Z)) : ∀ q ∈ tb_X0_noteKind_0, pj_S (G, A, (c_X0_noteKind, y_X0_noteKind.cls, 3, none, 2), P, S, Z) pj_eV q.1 q.2 :=
  List.forall_mem_cons.mpr ⟨qz_aload_n C (show decode c_X0_noteKind 0 = .ok (.aload_n 0, 1) by decide +kernel) rfl,
  List.forall_mem_cons.mpr ⟨qz_iconst C (show decode c_X0_noteKind 1 = .ok (.iconst 3, 1) by decide +kernel) (by decide +kernel),
  List.forall_mem_cons.mpr ⟨qz_iload_n C (show decode c_X0_noteKind 2 = .ok (.iload_n 1, 1) by decide +kernel) rfl,
  List.forall_mem_cons.mpr ⟨qz_iload_n C (show decode c_X0_noteKind 3 = .ok (.iload_n 2, 1) by decide +kernel) rfl,
  List.forall_mem_cons.mpr ⟨qz_iconst C (show decode c_X0_noteKind 4 = .ok (.iconst 0, 1) by decide +kernel) (by decide +kernel),
  List.forall_mem_cons.mpr ⟨qz_iconst C (show decode c_X0_noteKind 5 = .ok (.iconst 0, 1) by decide +kernel) (by decide +kernel),
  List.forall_mem_cons.mpr ⟨qz_vV C (show decode c_X0_noteKind 6 = .ok (.invokevirtual 17, 3) by decide +kernel) ct_X0_note mv_X0_note cw_548 vcX0 (show 1 < 2 by omega),
  List.forall_mem_cons.mpr ⟨qz_vret C (show decode c_X0_noteKind 9 = .ok (.return_, 1) by decide +kernel) rfl,
  (fun q h => by cases h)⟩⟩⟩⟩⟩⟩⟩⟩
theorem sd_X0_noteKind {G : pj_E} {A : Nat → Prop} {P : pj_P} {S : pj_U} {Z : pj_Z} (C : pj_C (G, A, (c_X0_noteKind, y_X0_noteKind.cls, 3, none, 2), P, S, Z)) : ∀ q ∈ tb_X0_noteKind, pj_S (G, A, (c_X0_noteKind, y_X0_noteKind.cls, 3, none, 2), P, S, Z) pj_eV q.1 q.2 := sd_X0_noteKind_0 C
set_option maxRecDepth 20000 in
theorem eq_X0_noteKind (x1 : Int32) (x2 : Int32) (m : pj_M) : pj_run tb_X0_noteKind [] 10 0 [some (.inr (.inr (0, 0, 17))), some (.inl x1), some (.inl x2)] [] m = F_X0_noteKind x1 x2 m := by rfl
theorem ct_X0_noteKind : pj_Ct pj_eV y_X0_noteKind c_X0_noteKind 3 none 2 W_X0_noteKind := by
  refine pj_ct_of (by decide +kernel) ?_ ?_
  · intro as m r h
    unfold W_X0_noteKind at h
    split at h
    · simp [pj_l0]
    · cases h
  · intro G A P S Z C as m r h hR
    unfold W_X0_noteKind at h
    split at h
    · split at h
      · rename_i hbq
        simp only [Bool.and_eq_true, Nat.beq_eq] at hbq
        obtain ⟨rfl, rfl, rfl⟩ := hbq
        exact pj_run_ok (sd_X0_noteKind C) (fun q h => by cases h) 10 0 _ _ _ _ ((eq_X0_noteKind _ _ _).trans h) hR
      · cases h
    · cases h
/-! AlikeSteps$Net.arcTotal()I -/
abbrev c_X4_arcTotal : ByteArray := prog_6_method_3_code
def y_X4_arcTotal : MethodName := ⟨RX4, "arcTotal", "()I"⟩
noncomputable def F_X4_arcTotal (a0 : Nat) (m : pj_M) : Option (Int32 × pj_M) := (some (m.1 a0 3, m))
noncomputable def W_X4_arcTotal : List pj_V → pj_M → Option (Int32 × pj_M) := fun as m => match as with
  | [.inr (.inr (t0, w0, a0))] => (match Nat.beq t0 0 && (Nat.beq w0 4) with
    | true => F_X4_arcTotal a0 m
    | false => none)
  | _ => none
noncomputable def tb_X4_arcTotal_0 : List (Nat × pj_T (Int32 × pj_M)) := [(0, qs_lda 0 1), (1, qs_gf 4 3 4), (4, qs_iret)]
noncomputable abbrev tb_X4_arcTotal : List (Nat × pj_T (Int32 × pj_M)) := tb_X4_arcTotal_0
theorem mv_X4_arcTotal : pj_mv y_X4_arcTotal c_X4_arcTotal 1 (some .int) 0 := ⟨⟨cw_542, cw_540, cw_541, cw_84⟩, by decide +kernel, by decide⟩
set_option maxRecDepth 20000 in
theorem sd_X4_arcTotal_0 {G : pj_E} {A : Nat → Prop} {P : pj_P} {S : pj_U} {Z : pj_Z} (C : pj_C (G, A, (c_X4_arcTotal, y_X4_arcTotal.cls, 1, (some .int), 1), P, S, Z)) : ∀ q ∈ tb_X4_arcTotal_0, pj_S (G, A, (c_X4_arcTotal, y_X4_arcTotal.cls, 1, (some .int), 1), P, S, Z) pj_eI q.1 q.2 :=
  List.forall_mem_cons.mpr ⟨qz_aload_n C (show decode c_X4_arcTotal 0 = .ok (.aload_n 0, 1) by decide +kernel) rfl,
  List.forall_mem_cons.mpr ⟨qz_gf (k := 3) C (show decode c_X4_arcTotal 1 = .ok (.getfield 22, 3) by decide +kernel) vcX4 wiX4 (by decide) cw_146,
  List.forall_mem_cons.mpr ⟨qz_iret C (show decode c_X4_arcTotal 4 = .ok (.ireturn, 1) by decide +kernel) rfl,
  (fun q h => by cases h)⟩⟩⟩
theorem sd_X4_arcTotal {G : pj_E} {A : Nat → Prop} {P : pj_P} {S : pj_U} {Z : pj_Z} (C : pj_C (G, A, (c_X4_arcTotal, y_X4_arcTotal.cls, 1, (some .int), 1), P, S, Z)) : ∀ q ∈ tb_X4_arcTotal, pj_S (G, A, (c_X4_arcTotal, y_X4_arcTotal.cls, 1, (some .int), 1), P, S, Z) pj_eI q.1 q.2 := sd_X4_arcTotal_0 C
set_option maxRecDepth 20000 in
theorem eq_X4_arcTotal (a0 : Nat) (m : pj_M) : pj_run tb_X4_arcTotal [] 5 0 [some (.inr (.inr (0, 4, a0)))] [] m = F_X4_arcTotal a0 m := by rfl
theorem ct_X4_arcTotal : pj_Ct pj_eI y_X4_arcTotal c_X4_arcTotal 1 (some .int) 1 W_X4_arcTotal := by
  refine pj_ct_of (by decide +kernel) ?_ ?_
  · intro as m r h
    unfold W_X4_arcTotal at h
    split at h
    · simp [pj_l0]
    · cases h
  · intro G A P S Z C as m r h hR
    unfold W_X4_arcTotal at h
    split at h
    · split at h
      · rename_i hbq
        simp only [Bool.and_eq_true, Nat.beq_eq] at hbq
        obtain ⟨rfl, rfl⟩ := hbq
        exact pj_run_ok (sd_X4_arcTotal C) (fun q h => by cases h) 5 0 _ _ _ _ ((eq_X4_arcTotal _ _).trans h) hR
      · cases h
    · cases h
/-! AlikeSteps$Net.hasArc(I)Z -/
abbrev c_X4_hasArc : ByteArray := prog_6_method_6_code
def y_X4_hasArc : MethodName := ⟨RX4, "hasArc", "(I)Z"⟩
noncomputable def F_X4_hasArc (a0 : Nat) (x1 : Int32) (m : pj_M) : Option (Int32 × pj_M) := (if x1 < 0 then (some (0, m)) else (if x1 < (m.1 a0 3) then (some (1, m)) else (some (0, m))))
noncomputable def W_X4_hasArc : List pj_V → pj_M → Option (Int32 × pj_M) := fun as m => match as with
  | [.inr (.inr (t0, w0, a0)), .inl x1] => (match Nat.beq t0 0 && (Nat.beq w0 4) with
    | true => F_X4_hasArc a0 x1 m
    | false => none)
  | _ => none
noncomputable def tb_X4_hasArc_0 : List (Nat × pj_T (Int32 × pj_M)) := [(0, qs_ldi 1 1), (1, qs_iflt 16 4), (4, qs_ldi 1 5), (5, qs_lda 0 6), (6, qs_gf 4 3 9), (9, qs_icge 16 12), (12, qs_ci 1 13), (13, qs_go 17), (16, qs_ci 0 17), (17, qs_zret)]
noncomputable abbrev tb_X4_hasArc : List (Nat × pj_T (Int32 × pj_M)) := tb_X4_hasArc_0
theorem mv_X4_hasArc : pj_mv y_X4_hasArc c_X4_hasArc 2 (some .boolean) 1 := ⟨⟨cw_560, cw_558, cw_559, cw_84⟩, by decide +kernel, by decide⟩
set_option maxRecDepth 20000 in
theorem sd_X4_hasArc_0 {G : pj_E} {A : Nat → Prop} {P : pj_P} {S : pj_U} {Z : pj_Z} (C : pj_C (G, A, (c_X4_hasArc, y_X4_hasArc.cls, 2, (some .boolean), 1), P, S, Z)) : ∀ q ∈ tb_X4_hasArc_0, pj_S (G, A, (c_X4_hasArc, y_X4_hasArc.cls, 2, (some .boolean), 1), P, S, Z) pj_eI q.1 q.2 :=
  List.forall_mem_cons.mpr ⟨qz_iload_n C (show decode c_X4_hasArc 0 = .ok (.iload_n 1, 1) by decide +kernel) rfl,
  List.forall_mem_cons.mpr ⟨qz_iflt C (show decode c_X4_hasArc 1 = .ok (.ifCond .lt 15, 3) by decide +kernel) (by decide),
  List.forall_mem_cons.mpr ⟨qz_iload_n C (show decode c_X4_hasArc 4 = .ok (.iload_n 1, 1) by decide +kernel) rfl,
  List.forall_mem_cons.mpr ⟨qz_aload_n C (show decode c_X4_hasArc 5 = .ok (.aload_n 0, 1) by decide +kernel) rfl,
  List.forall_mem_cons.mpr ⟨qz_gf (k := 3) C (show decode c_X4_hasArc 6 = .ok (.getfield 22, 3) by decide +kernel) vcX4 wiX4 (by decide) cw_146,
  List.forall_mem_cons.mpr ⟨qz_icge C (show decode c_X4_hasArc 9 = .ok (.if_icmp .ge 7, 3) by decide +kernel) (by decide),
  List.forall_mem_cons.mpr ⟨qz_iconst C (show decode c_X4_hasArc 12 = .ok (.iconst 1, 1) by decide +kernel) (by decide +kernel),
  List.forall_mem_cons.mpr ⟨qz_goto C (show decode c_X4_hasArc 13 = .ok (.goto 4, 3) by decide +kernel) (by decide),
  List.forall_mem_cons.mpr ⟨qz_iconst C (show decode c_X4_hasArc 16 = .ok (.iconst 0, 1) by decide +kernel) (by decide +kernel),
  List.forall_mem_cons.mpr ⟨qz_zret C (show decode c_X4_hasArc 17 = .ok (.ireturn, 1) by decide +kernel) rfl,
  (fun q h => by cases h)⟩⟩⟩⟩⟩⟩⟩⟩⟩⟩
theorem sd_X4_hasArc {G : pj_E} {A : Nat → Prop} {P : pj_P} {S : pj_U} {Z : pj_Z} (C : pj_C (G, A, (c_X4_hasArc, y_X4_hasArc.cls, 2, (some .boolean), 1), P, S, Z)) : ∀ q ∈ tb_X4_hasArc, pj_S (G, A, (c_X4_hasArc, y_X4_hasArc.cls, 2, (some .boolean), 1), P, S, Z) pj_eI q.1 q.2 := sd_X4_hasArc_0 C
set_option maxRecDepth 20000 in
theorem eq_X4_hasArc (a0 : Nat) (x1 : Int32) (m : pj_M) : pj_run tb_X4_hasArc [] 12 0 [some (.inr (.inr (0, 4, a0))), some (.inl x1)] [] m = F_X4_hasArc a0 x1 m := by rfl
theorem ct_X4_hasArc : pj_Ct pj_eI y_X4_hasArc c_X4_hasArc 2 (some .boolean) 1 W_X4_hasArc := by
  refine pj_ct_of (by decide +kernel) ?_ ?_
  · intro as m r h
    unfold W_X4_hasArc at h
    split at h
    · simp [pj_l0]
    · cases h
  · intro G A P S Z C as m r h hR
    unfold W_X4_hasArc at h
    split at h
    · split at h
      · rename_i hbq
        simp only [Bool.and_eq_true, Nat.beq_eq] at hbq
        obtain ⟨rfl, rfl⟩ := hbq
        exact pj_run_ok (sd_X4_hasArc C) (fun q h => by cases h) 12 0 _ _ _ _ ((eq_X4_hasArc _ _ _).trans h) hR
      · cases h
    · cases h
/-! AlikeSteps$Net.shiftArcs(III)V -/
abbrev c_X4_shiftArcs : ByteArray := prog_6_method_20_code
def y_X4_shiftArcs : MethodName := ⟨RX4, "shiftArcs", "(III)V"⟩
noncomputable def H_X4_shiftArcs_3 : Nat → Nat → Int32 → Int32 → Int32 → Int32 → pj_M → Option (pj_M)
  | 0, _, _, _, _, _, _ => none
  | n1 + 1, a0, x1, x2, x3, x4, m => (if x4 < 3 then (if (((x4 * 20) + x1) < 0 ∨ ((x4 * 20) + x2) < 0 ∨ x3 < 0) ∨ 60 < ((x4 * 20) + x1).toNatClampNeg + x3.toNatClampNeg ∨ 60 < ((x4 * 20) + x2).toNatClampNeg + x3.toNatClampNeg then none else (H_X4_shiftArcs_3 n1 a0 x1 x2 x3 (x4 + 1) (pj_cp m (a0 + 2) ((x4 * 20) + x1).toNatClampNeg (a0 + 2) ((x4 * 20) + x2).toNatClampNeg x3.toNatClampNeg))) else (some m))
noncomputable def F_X4_shiftArcs (a0 : Nat) (x1 : Int32) (x2 : Int32) (x3 : Int32) (m : pj_M) : Option (pj_M) := (H_X4_shiftArcs_3 pj_z a0 x1 x2 x3 0 m)
noncomputable def W_X4_shiftArcs : List pj_V → pj_M → Option (pj_M) := fun as m => match as with
  | [.inr (.inr (t0, w0, a0)), .inl x1, .inl x2, .inl x3] => (match Nat.beq t0 0 && (Nat.beq w0 4) with
    | true => F_X4_shiftArcs a0 x1 x2 x3 m
    | false => none)
  | _ => none
noncomputable def tb_X4_shiftArcs_0 : List (Nat × pj_T (pj_M)) := [(0, qs_ci 0 1), (1, qs_sti 4 3), (3, qs_ldi 4 5), (5, qs_ci 3 6), (6, qs_icge 42 9), (9, qs_ldi 4 11), (11, qs_ci 20 13), (13, qs_b2 (fun x y => x * y) 14), (14, qs_sti 5 16), (16, qs_lda 0 17), (17, qs_gf 4 1 20), (20, qs_ldi 5 22), (22, qs_ldi 1 23), (23, qs_b2 (fun x y => x + y) 24), (24, qs_lda 0 25), (25, qs_gf 4 1 28), (28, qs_ldi 5 30), (30, qs_ldi 2 31), (31, qs_b2 (fun x y => x + y) 32), (32, qs_ldi 3 33), (33, qs_cpi 36), (36, qs_inc 4 1 39), (39, qs_go 3), (42, qs_vret)]
noncomputable abbrev tb_X4_shiftArcs : List (Nat × pj_T (pj_M)) := tb_X4_shiftArcs_0
theorem mv_X4_shiftArcs : pj_mv y_X4_shiftArcs c_X4_shiftArcs 6 none 3 := ⟨⟨cw_503, cw_502, cw_9, cw_84⟩, by decide +kernel, by decide⟩
set_option maxRecDepth 20000 in
theorem sd_X4_shiftArcs_0 {G : pj_E} {A : Nat → Prop} {P : pj_P} {S : pj_U} {Z : pj_Z} (C : pj_C (G, A, (c_X4_shiftArcs, y_X4_shiftArcs.cls, 6, none, 1), P, S, Z)) : ∀ q ∈ tb_X4_shiftArcs_0, pj_S (G, A, (c_X4_shiftArcs, y_X4_shiftArcs.cls, 6, none, 1), P, S, Z) pj_eV q.1 q.2 :=
  List.forall_mem_cons.mpr ⟨qz_iconst C (show decode c_X4_shiftArcs 0 = .ok (.iconst 0, 1) by decide +kernel) (by decide +kernel),
  List.forall_mem_cons.mpr ⟨qz_istore C (show decode c_X4_shiftArcs 1 = .ok (.istore 4, 2) by decide +kernel),
  List.forall_mem_cons.mpr ⟨qz_iload C (show decode c_X4_shiftArcs 3 = .ok (.iload 4, 2) by decide +kernel),
  List.forall_mem_cons.mpr ⟨qz_iconst C (show decode c_X4_shiftArcs 5 = .ok (.iconst 3, 1) by decide +kernel) (by decide +kernel),
  List.forall_mem_cons.mpr ⟨qz_icge C (show decode c_X4_shiftArcs 6 = .ok (.if_icmp .ge 36, 3) by decide +kernel) (by decide),
  List.forall_mem_cons.mpr ⟨qz_iload C (show decode c_X4_shiftArcs 9 = .ok (.iload 4, 2) by decide +kernel),
  List.forall_mem_cons.mpr ⟨qz_bipush C (show decode c_X4_shiftArcs 11 = .ok (.bipush 20, 2) by decide +kernel) (by decide +kernel),
  List.forall_mem_cons.mpr ⟨qz_imul C (show decode c_X4_shiftArcs 13 = .ok (.imul, 1) by decide +kernel),
  List.forall_mem_cons.mpr ⟨qz_istore C (show decode c_X4_shiftArcs 14 = .ok (.istore 5, 2) by decide +kernel),
  List.forall_mem_cons.mpr ⟨qz_aload_n C (show decode c_X4_shiftArcs 16 = .ok (.aload_n 0, 1) by decide +kernel) rfl,
  List.forall_mem_cons.mpr ⟨qz_gf (k := 1) C (show decode c_X4_shiftArcs 17 = .ok (.getfield 15, 3) by decide +kernel) vcX4 wiX4 (by decide) cw_144,
  List.forall_mem_cons.mpr ⟨qz_iload C (show decode c_X4_shiftArcs 20 = .ok (.iload 5, 2) by decide +kernel),
  List.forall_mem_cons.mpr ⟨qz_iload_n C (show decode c_X4_shiftArcs 22 = .ok (.iload_n 1, 1) by decide +kernel) rfl,
  List.forall_mem_cons.mpr ⟨qz_iadd C (show decode c_X4_shiftArcs 23 = .ok (.iadd, 1) by decide +kernel),
  List.forall_mem_cons.mpr ⟨qz_aload_n C (show decode c_X4_shiftArcs 24 = .ok (.aload_n 0, 1) by decide +kernel) rfl,
  List.forall_mem_cons.mpr ⟨qz_gf (k := 1) C (show decode c_X4_shiftArcs 25 = .ok (.getfield 15, 3) by decide +kernel) vcX4 wiX4 (by decide) cw_144,
  List.forall_mem_cons.mpr ⟨qz_iload C (show decode c_X4_shiftArcs 28 = .ok (.iload 5, 2) by decide +kernel),
  List.forall_mem_cons.mpr ⟨qz_iload_n C (show decode c_X4_shiftArcs 30 = .ok (.iload_n 2, 1) by decide +kernel) rfl,
  List.forall_mem_cons.mpr ⟨qz_iadd C (show decode c_X4_shiftArcs 31 = .ok (.iadd, 1) by decide +kernel),
  List.forall_mem_cons.mpr ⟨qz_iload_n C (show decode c_X4_shiftArcs 32 = .ok (.iload_n 3, 1) by decide +kernel) rfl,
  List.forall_mem_cons.mpr ⟨qz_cpi C (show decode c_X4_shiftArcs 33 = .ok (.invokestatic 28, 3) by decide +kernel) cw_504 cw_415 cw_414 cw_93,
  List.forall_mem_cons.mpr ⟨qz_iinc C (show decode c_X4_shiftArcs 36 = .ok (.iinc 4 1, 3) by decide +kernel) (by decide +kernel),
  List.forall_mem_cons.mpr ⟨qz_goto C (show decode c_X4_shiftArcs 39 = .ok (.goto (-36), 3) by decide +kernel) (by decide),
  List.forall_mem_cons.mpr ⟨qz_vret C (show decode c_X4_shiftArcs 42 = .ok (.return_, 1) by decide +kernel) rfl,
  (fun q h => by cases h)⟩⟩⟩⟩⟩⟩⟩⟩⟩⟩⟩⟩⟩⟩⟩⟩⟩⟩⟩⟩⟩⟩⟩⟩
theorem sd_X4_shiftArcs {G : pj_E} {A : Nat → Prop} {P : pj_P} {S : pj_U} {Z : pj_Z} (C : pj_C (G, A, (c_X4_shiftArcs, y_X4_shiftArcs.cls, 6, none, 1), P, S, Z)) : ∀ q ∈ tb_X4_shiftArcs, pj_S (G, A, (c_X4_shiftArcs, y_X4_shiftArcs.cls, 6, none, 1), P, S, Z) pj_eV q.1 q.2 := sd_X4_shiftArcs_0 C
noncomputable def C_X4_shiftArcs_3 (f : Nat → Int32 → Int32 → Int32 → Int32 → pj_M → Option (pj_M)) : pj_N (pj_M) := fun L st m => match L, st with
  | [some (.inr (.inr (t0, w0, a0))), some (.inl x1), some (.inl x2), some (.inl x3), some (.inl x4), _], [] => (match Nat.beq t0 0 && (Nat.beq w0 4) with
    | true => f a0 x1 x2 x3 x4 m
    | false => none)
  | _, _ => none
set_option maxRecDepth 20000 in
theorem eq_X4_shiftArcs_3 (n1 : Nat) (a0 : Nat) (x1 : Int32) (x2 : Int32) (x3 : Int32) (x4 : Int32) (d5 : Option pj_V) (m : pj_M) : pj_run tb_X4_shiftArcs [(3, C_X4_shiftArcs_3 (H_X4_shiftArcs_3 n1))] 26 3 [some (.inr (.inr (0, 4, a0))), some (.inl x1), some (.inl x2), some (.inl x3), some (.inl x4), d5] [] m = H_X4_shiftArcs_3 (n1 + 1) a0 x1 x2 x3 x4 m := by rfl
theorem sg_X4_shiftArcs_3 {G : pj_E} {A : Nat → Prop} {P : pj_P} {S : pj_U} {Z : pj_Z} (C : pj_C (G, A, (c_X4_shiftArcs, y_X4_shiftArcs.cls, 6, none, 1), P, S, Z)) : ∀ n1, pj_G (G, A, (c_X4_shiftArcs, y_X4_shiftArcs.cls, 6, none, 1), P, S, Z) pj_eV 3 (C_X4_shiftArcs_3 (H_X4_shiftArcs_3 n1)) := by
  intro n1
  induction n1 with
  | zero =>
    intro L st m r h hR
    unfold C_X4_shiftArcs_3 at h
    split at h
    · split at h
      · cases h
      · cases h
    · cases h
  | succ n1 ih1 =>
    intro L st m r h hR
    unfold C_X4_shiftArcs_3 at h
    split at h
    · split at h
      · rename_i hbq
        simp only [Bool.and_eq_true, Nat.beq_eq] at hbq
        obtain ⟨rfl, rfl⟩ := hbq
        exact pj_run_ok (sd_X4_shiftArcs C) (List.forall_mem_cons.mpr ⟨ih1, fun q h => by cases h⟩) 26 3 _ _ _ _ ((eq_X4_shiftArcs_3 _ _ _ _ _ _ _ _).trans h) hR
      · cases h
    · cases h
set_option maxRecDepth 20000 in
theorem eq_X4_shiftArcs (a0 : Nat) (x1 : Int32) (x2 : Int32) (x3 : Int32) (m : pj_M) : pj_run tb_X4_shiftArcs [(3, C_X4_shiftArcs_3 (H_X4_shiftArcs_3  pj_z))] 26 0 [some (.inr (.inr (0, 4, a0))), some (.inl x1), some (.inl x2), some (.inl x3), none, none] [] m = F_X4_shiftArcs a0 x1 x2 x3 m := by rfl
theorem ct_X4_shiftArcs : pj_Ct pj_eV y_X4_shiftArcs c_X4_shiftArcs 6 none 1 W_X4_shiftArcs := by
  refine pj_ct_of (by decide +kernel) ?_ ?_
  · intro as m r h
    unfold W_X4_shiftArcs at h
    split at h
    · simp [pj_l0]
    · cases h
  · intro G A P S Z C as m r h hR
    unfold W_X4_shiftArcs at h
    split at h
    · split at h
      · rename_i hbq
        simp only [Bool.and_eq_true, Nat.beq_eq] at hbq
        obtain ⟨rfl, rfl⟩ := hbq
        exact pj_run_ok (sd_X4_shiftArcs C) (List.forall_mem_cons.mpr ⟨sg_X4_shiftArcs_3 C  pj_z, fun q h => by cases h⟩) 26 0 _ _ _ _ ((eq_X4_shiftArcs _ _ _ _ _).trans h) hR
      · cases h
    · cases h
/-! AlikeSteps$Net.removeArc(I)V -/
abbrev c_X4_removeArc : ByteArray := prog_6_method_17_code
def y_X4_removeArc : MethodName := ⟨RX4, "removeArc", "(I)V"⟩
noncomputable def F_X4_removeArc (a0 : Nat) (x1 : Int32) (m : pj_M) : Option (pj_M) := ((F_X4_hasArc a0 x1 m).bind fun q1 => (if q1.1 = 0 then (some q1.2) else ((F_X4_shiftArcs a0 (x1 + 1) x1 (((q1.2.1 a0 3) - x1) - 1) q1.2).bind fun q2 => (some (pj_wr (pj_wr q2 a0 3 ((q2.1 a0 3) - 1)) a0 4 (((pj_wr q2 a0 3 ((q2.1 a0 3) - 1)).1 a0 4) + 1))))))
noncomputable def W_X4_removeArc : List pj_V → pj_M → Option (pj_M) := fun as m => match as with
  | [.inr (.inr (t0, w0, a0)), .inl x1] => (match Nat.beq t0 0 && (Nat.beq w0 4) with
    | true => F_X4_removeArc a0 x1 m
    | false => none)
  | _ => none
noncomputable def tb_X4_removeArc_0 : List (Nat × pj_T (pj_M)) := [(0, qs_lda 0 1), (1, qs_ldi 1 2), (2, qs_vI 4 2 W_X4_hasArc 5), (5, qs_ifeq 44 8), (8, qs_lda 0 9), (9, qs_ldi 1 10), (10, qs_ci 1 11), (11, qs_b2 (fun x y => x + y) 12), (12, qs_ldi 1 13), (13, qs_lda 0 14), (14, qs_gf 4 3 17), (17, qs_ldi 1 18), (18, qs_b2 (fun x y => x - y) 19), (19, qs_ci 1 20), (20, qs_b2 (fun x y => x - y) 21), (21, qs_vV 4 4 W_X4_shiftArcs 24), (24, qs_lda 0 25), (25, qs_dup 26), (26, qs_gf 4 3 29), (29, qs_ci 1 30), (30, qs_b2 (fun x y => x - y) 31), (31, qs_pf 4 3 34), (34, qs_lda 0 35), (35, qs_dup 36), (36, qs_gf 4 4 39), (39, qs_ci 1 40), (40, qs_b2 (fun x y => x + y) 41), (41, qs_pf 4 4 44), (44, qs_vret)]
noncomputable abbrev tb_X4_removeArc : List (Nat × pj_T (pj_M)) := tb_X4_removeArc_0
theorem mv_X4_removeArc : pj_mv y_X4_removeArc c_X4_removeArc 2 none 1 := ⟨⟨cw_572, cw_570, cw_571, cw_84⟩, by decide +kernel, by decide⟩
set_option maxRecDepth 20000 in
theorem sd_X4_removeArc_0 {G : pj_E} {A : Nat → Prop} {P : pj_P} {S : pj_U} {Z : pj_Z} (C : pj_C (G, A, (c_X4_removeArc, y_X4_removeArc.cls, 2, none, 2), P, S, Z)) : ∀ q ∈ tb_X4_removeArc_0, pj_S (G, A, (c_X4_removeArc, y_X4_removeArc.cls, 2, none, 2), P, S, Z) pj_eV q.1 q.2 :=
  List.forall_mem_cons.mpr ⟨qz_aload_n C (show decode c_X4_removeArc 0 = .ok (.aload_n 0, 1) by decide +kernel) rfl,
  List.forall_mem_cons.mpr ⟨qz_iload_n C (show decode c_X4_removeArc 1 = .ok (.iload_n 1, 1) by decide +kernel) rfl,
  List.forall_mem_cons.mpr ⟨qz_vI C (show decode c_X4_removeArc 2 = .ok (.invokevirtual 45, 3) by decide +kernel) ct_X4_hasArc mv_X4_hasArc cw_573 vcX4 (show 1 < 2 by omega),
  List.forall_mem_cons.mpr ⟨qz_ifeq C (show decode c_X4_removeArc 5 = .ok (.ifCond .eq 39, 3) by decide +kernel) (by decide),
  List.forall_mem_cons.mpr ⟨qz_aload_n C (show decode c_X4_removeArc 8 = .ok (.aload_n 0, 1) by decide +kernel) rfl,
  List.forall_mem_cons.mpr ⟨qz_iload_n C (show decode c_X4_removeArc 9 = .ok (.iload_n 1, 1) by decide +kernel) rfl,
  List.forall_mem_cons.mpr ⟨qz_iconst C (show decode c_X4_removeArc 10 = .ok (.iconst 1, 1) by decide +kernel) (by decide +kernel),
  List.forall_mem_cons.mpr ⟨qz_iadd C (show decode c_X4_removeArc 11 = .ok (.iadd, 1) by decide +kernel),
  List.forall_mem_cons.mpr ⟨qz_iload_n C (show decode c_X4_removeArc 12 = .ok (.iload_n 1, 1) by decide +kernel) rfl,
  List.forall_mem_cons.mpr ⟨qz_aload_n C (show decode c_X4_removeArc 13 = .ok (.aload_n 0, 1) by decide +kernel) rfl,
  List.forall_mem_cons.mpr ⟨qz_gf (k := 3) C (show decode c_X4_removeArc 14 = .ok (.getfield 22, 3) by decide +kernel) vcX4 wiX4 (by decide) cw_146,
  List.forall_mem_cons.mpr ⟨qz_iload_n C (show decode c_X4_removeArc 17 = .ok (.iload_n 1, 1) by decide +kernel) rfl,
  List.forall_mem_cons.mpr ⟨qz_isub C (show decode c_X4_removeArc 18 = .ok (.isub, 1) by decide +kernel),
  List.forall_mem_cons.mpr ⟨qz_iconst C (show decode c_X4_removeArc 19 = .ok (.iconst 1, 1) by decide +kernel) (by decide +kernel),
  List.forall_mem_cons.mpr ⟨qz_isub C (show decode c_X4_removeArc 20 = .ok (.isub, 1) by decide +kernel),
  List.forall_mem_cons.mpr ⟨qz_vV C (show decode c_X4_removeArc 21 = .ok (.invokevirtual 38, 3) by decide +kernel) ct_X4_shiftArcs mv_X4_shiftArcs cw_500 vcX4 (show 1 < 2 by omega),
  List.forall_mem_cons.mpr ⟨qz_aload_n C (show decode c_X4_removeArc 24 = .ok (.aload_n 0, 1) by decide +kernel) rfl,
  List.forall_mem_cons.mpr ⟨qz_dup C (show decode c_X4_removeArc 25 = .ok (.dup, 1) by decide +kernel),
  List.forall_mem_cons.mpr ⟨qz_gf (k := 3) C (show decode c_X4_removeArc 26 = .ok (.getfield 22, 3) by decide +kernel) vcX4 wiX4 (by decide) cw_146,
  List.forall_mem_cons.mpr ⟨qz_iconst C (show decode c_X4_removeArc 29 = .ok (.iconst 1, 1) by decide +kernel) (by decide +kernel),
  List.forall_mem_cons.mpr ⟨qz_isub C (show decode c_X4_removeArc 30 = .ok (.isub, 1) by decide +kernel),
  List.forall_mem_cons.mpr ⟨qz_pf (k := 3) C (show decode c_X4_removeArc 31 = .ok (.putfield 22, 3) by decide +kernel) vcX4 wiX4 tyX4_ok nmX4 (by decide) cw_146 rfl rfl,
  List.forall_mem_cons.mpr ⟨qz_aload_n C (show decode c_X4_removeArc 34 = .ok (.aload_n 0, 1) by decide +kernel) rfl,
  List.forall_mem_cons.mpr ⟨qz_dup C (show decode c_X4_removeArc 35 = .ok (.dup, 1) by decide +kernel),
  List.forall_mem_cons.mpr ⟨qz_gf (k := 4) C (show decode c_X4_removeArc 36 = .ok (.getfield 25, 3) by decide +kernel) vcX4 wiX4 (by decide) cw_147,
  List.forall_mem_cons.mpr ⟨qz_iconst C (show decode c_X4_removeArc 39 = .ok (.iconst 1, 1) by decide +kernel) (by decide +kernel),
  List.forall_mem_cons.mpr ⟨qz_iadd C (show decode c_X4_removeArc 40 = .ok (.iadd, 1) by decide +kernel),
  List.forall_mem_cons.mpr ⟨qz_pf (k := 4) C (show decode c_X4_removeArc 41 = .ok (.putfield 25, 3) by decide +kernel) vcX4 wiX4 tyX4_ok nmX4 (by decide) cw_147 rfl rfl,
  List.forall_mem_cons.mpr ⟨qz_vret C (show decode c_X4_removeArc 44 = .ok (.return_, 1) by decide +kernel) rfl,
  (fun q h => by cases h)⟩⟩⟩⟩⟩⟩⟩⟩⟩⟩⟩⟩⟩⟩⟩⟩⟩⟩⟩⟩⟩⟩⟩⟩⟩⟩⟩⟩⟩
theorem sd_X4_removeArc {G : pj_E} {A : Nat → Prop} {P : pj_P} {S : pj_U} {Z : pj_Z} (C : pj_C (G, A, (c_X4_removeArc, y_X4_removeArc.cls, 2, none, 2), P, S, Z)) : ∀ q ∈ tb_X4_removeArc, pj_S (G, A, (c_X4_removeArc, y_X4_removeArc.cls, 2, none, 2), P, S, Z) pj_eV q.1 q.2 := sd_X4_removeArc_0 C
set_option maxRecDepth 20000 in
theorem eq_X4_removeArc (a0 : Nat) (x1 : Int32) (m : pj_M) : pj_run tb_X4_removeArc [] 31 0 [some (.inr (.inr (0, 4, a0))), some (.inl x1)] [] m = F_X4_removeArc a0 x1 m := by rfl
theorem ct_X4_removeArc : pj_Ct pj_eV y_X4_removeArc c_X4_removeArc 2 none 2 W_X4_removeArc := by
  refine pj_ct_of (by decide +kernel) ?_ ?_
  · intro as m r h
    unfold W_X4_removeArc at h
    split at h
    · simp [pj_l0]
    · cases h
  · intro G A P S Z C as m r h hR
    unfold W_X4_removeArc at h
    split at h
    · split at h
      · rename_i hbq
        simp only [Bool.and_eq_true, Nat.beq_eq] at hbq
        obtain ⟨rfl, rfl⟩ := hbq
        exact pj_run_ok (sd_X4_removeArc C) (fun q h => by cases h) 31 0 _ _ _ _ ((eq_X4_removeArc _ _ _).trans h) hR
      · cases h
    · cases h
/-! AlikeSteps$Net.setArcPart(III)V -/
abbrev c_X4_setArcPart : ByteArray := prog_6_method_19_code
def y_X4_setArcPart : MethodName := ⟨RX4, "setArcPart", "(III)V"⟩
noncomputable def F_X4_setArcPart (a0 : Nat) (x1 : Int32) (x2 : Int32) (x3 : Int32) (m : pj_M) : Option (pj_M) := (if ((x2 * 20) + x1) < 0 ∨ 60 ≤ ((x2 * 20) + x1).toNatClampNeg then none else (some (pj_wr (pj_wr m (a0 + 2) ((x2 * 20) + x1).toNatClampNeg x3) a0 4 (((pj_wr m (a0 + 2) ((x2 * 20) + x1).toNatClampNeg x3).1 a0 4) + 1))))
noncomputable def W_X4_setArcPart : List pj_V → pj_M → Option (pj_M) := fun as m => match as with
  | [.inr (.inr (t0, w0, a0)), .inl x1, .inl x2, .inl x3] => (match Nat.beq t0 0 && (Nat.beq w0 4) with
    | true => F_X4_setArcPart a0 x1 x2 x3 m
    | false => none)
  | _ => none
noncomputable def tb_X4_setArcPart_0 : List (Nat × pj_T (pj_M)) := [(0, qs_lda 0 1), (1, qs_gf 4 1 4), (4, qs_ldi 2 5), (5, qs_ci 20 7), (7, qs_b2 (fun x y => x * y) 8), (8, qs_ldi 1 9), (9, qs_b2 (fun x y => x + y) 10), (10, qs_ldi 3 11), (11, qs_iast 12), (12, qs_lda 0 13), (13, qs_dup 14), (14, qs_gf 4 4 17), (17, qs_ci 1 18), (18, qs_b2 (fun x y => x + y) 19), (19, qs_pf 4 4 22), (22, qs_vret)]
noncomputable abbrev tb_X4_setArcPart : List (Nat × pj_T (pj_M)) := tb_X4_setArcPart_0
theorem mv_X4_setArcPart : pj_mv y_X4_setArcPart c_X4_setArcPart 4 none 3 := ⟨⟨cw_508, cw_506, cw_507, cw_84⟩, by decide +kernel, by decide⟩
set_option maxRecDepth 20000 in
theorem sd_X4_setArcPart_0 {G : pj_E} {A : Nat → Prop} {P : pj_P} {S : pj_U} {Z : pj_Z} (C : pj_C (G, A, (c_X4_setArcPart, y_X4_setArcPart.cls, 4, none, 1), P, S, Z)) : ∀ q ∈ tb_X4_setArcPart_0, pj_S (G, A, (c_X4_setArcPart, y_X4_setArcPart.cls, 4, none, 1), P, S, Z) pj_eV q.1 q.2 :=
  List.forall_mem_cons.mpr ⟨qz_aload_n C (show decode c_X4_setArcPart 0 = .ok (.aload_n 0, 1) by decide +kernel) rfl,
  List.forall_mem_cons.mpr ⟨qz_gf (k := 1) C (show decode c_X4_setArcPart 1 = .ok (.getfield 15, 3) by decide +kernel) vcX4 wiX4 (by decide) cw_144,
  List.forall_mem_cons.mpr ⟨qz_iload_n C (show decode c_X4_setArcPart 4 = .ok (.iload_n 2, 1) by decide +kernel) rfl,
  List.forall_mem_cons.mpr ⟨qz_bipush C (show decode c_X4_setArcPart 5 = .ok (.bipush 20, 2) by decide +kernel) (by decide +kernel),
  List.forall_mem_cons.mpr ⟨qz_imul C (show decode c_X4_setArcPart 7 = .ok (.imul, 1) by decide +kernel),
  List.forall_mem_cons.mpr ⟨qz_iload_n C (show decode c_X4_setArcPart 8 = .ok (.iload_n 1, 1) by decide +kernel) rfl,
  List.forall_mem_cons.mpr ⟨qz_iadd C (show decode c_X4_setArcPart 9 = .ok (.iadd, 1) by decide +kernel),
  List.forall_mem_cons.mpr ⟨qz_iload_n C (show decode c_X4_setArcPart 10 = .ok (.iload_n 3, 1) by decide +kernel) rfl,
  List.forall_mem_cons.mpr ⟨qz_iast C (show decode c_X4_setArcPart 11 = .ok (.iastore, 1) by decide +kernel),
  List.forall_mem_cons.mpr ⟨qz_aload_n C (show decode c_X4_setArcPart 12 = .ok (.aload_n 0, 1) by decide +kernel) rfl,
  List.forall_mem_cons.mpr ⟨qz_dup C (show decode c_X4_setArcPart 13 = .ok (.dup, 1) by decide +kernel),
  List.forall_mem_cons.mpr ⟨qz_gf (k := 4) C (show decode c_X4_setArcPart 14 = .ok (.getfield 25, 3) by decide +kernel) vcX4 wiX4 (by decide) cw_147,
  List.forall_mem_cons.mpr ⟨qz_iconst C (show decode c_X4_setArcPart 17 = .ok (.iconst 1, 1) by decide +kernel) (by decide +kernel),
  List.forall_mem_cons.mpr ⟨qz_iadd C (show decode c_X4_setArcPart 18 = .ok (.iadd, 1) by decide +kernel),
  List.forall_mem_cons.mpr ⟨qz_pf (k := 4) C (show decode c_X4_setArcPart 19 = .ok (.putfield 25, 3) by decide +kernel) vcX4 wiX4 tyX4_ok nmX4 (by decide) cw_147 rfl rfl,
  List.forall_mem_cons.mpr ⟨qz_vret C (show decode c_X4_setArcPart 22 = .ok (.return_, 1) by decide +kernel) rfl,
  (fun q h => by cases h)⟩⟩⟩⟩⟩⟩⟩⟩⟩⟩⟩⟩⟩⟩⟩⟩
theorem sd_X4_setArcPart {G : pj_E} {A : Nat → Prop} {P : pj_P} {S : pj_U} {Z : pj_Z} (C : pj_C (G, A, (c_X4_setArcPart, y_X4_setArcPart.cls, 4, none, 1), P, S, Z)) : ∀ q ∈ tb_X4_setArcPart, pj_S (G, A, (c_X4_setArcPart, y_X4_setArcPart.cls, 4, none, 1), P, S, Z) pj_eV q.1 q.2 := sd_X4_setArcPart_0 C
set_option maxRecDepth 20000 in
theorem eq_X4_setArcPart (a0 : Nat) (x1 : Int32) (x2 : Int32) (x3 : Int32) (m : pj_M) : pj_run tb_X4_setArcPart [] 18 0 [some (.inr (.inr (0, 4, a0))), some (.inl x1), some (.inl x2), some (.inl x3)] [] m = F_X4_setArcPart a0 x1 x2 x3 m := by rfl
theorem ct_X4_setArcPart : pj_Ct pj_eV y_X4_setArcPart c_X4_setArcPart 4 none 1 W_X4_setArcPart := by
  refine pj_ct_of (by decide +kernel) ?_ ?_
  · intro as m r h
    unfold W_X4_setArcPart at h
    split at h
    · simp [pj_l0]
    · cases h
  · intro G A P S Z C as m r h hR
    unfold W_X4_setArcPart at h
    split at h
    · split at h
      · rename_i hbq
        simp only [Bool.and_eq_true, Nat.beq_eq] at hbq
        obtain ⟨rfl, rfl⟩ := hbq
        exact pj_run_ok (sd_X4_setArcPart C) (fun q h => by cases h) 18 0 _ _ _ _ ((eq_X4_setArcPart _ _ _ _ _).trans h) hR
      · cases h
    · cases h
/-! AlikeSteps$Net.insertArc(IIII)V -/
abbrev c_X4_insertArc : ByteArray := prog_6_method_16_code
def y_X4_insertArc : MethodName := ⟨RX4, "insertArc", "(IIII)V"⟩
noncomputable def F_X4_insertArc (a0 : Nat) (x1 : Int32) (x2 : Int32) (x3 : Int32) (x4 : Int32) (m : pj_M) : Option (pj_M) := (if (m.1 a0 3) < 20 then (if x1 < 0 then (some m) else (if (m.1 a0 3) < x1 then (some m) else ((F_X4_shiftArcs a0 x1 (x1 + 1) ((m.1 a0 3) - x1) m).bind fun q1 => ((F_X4_setArcPart a0 x1 0 x2 (pj_wr q1 a0 3 ((q1.1 a0 3) + 1))).bind fun q2 => ((F_X4_setArcPart a0 x1 1 x3 q2).bind fun q3 => ((F_X4_setArcPart a0 x1 2 x4 q3).bind fun q4 => (some q4))))))) else (some m))
noncomputable def W_X4_insertArc : List pj_V → pj_M → Option (pj_M) := fun as m => match as with
  | [.inr (.inr (t0, w0, a0)), .inl x1, .inl x2, .inl x3, .inl x4] => (match Nat.beq t0 0 && (Nat.beq w0 4) with
    | true => F_X4_insertArc a0 x1 x2 x3 x4 m
    | false => none)
  | _ => none
noncomputable def tb_X4_insertArc_0 : List (Nat × pj_T (pj_M)) := [(0, qs_lda 0 1), (1, qs_gf 4 3 4), (4, qs_ci 20 6), (6, qs_icge 67 9), (9, qs_ldi 1 10), (10, qs_iflt 67 13), (13, qs_ldi 1 14), (14, qs_lda 0 15), (15, qs_gf 4 3 18), (18, qs_icgt 67 21), (21, qs_lda 0 22), (22, qs_ldi 1 23), (23, qs_ldi 1 24), (24, qs_ci 1 25), (25, qs_b2 (fun x y => x + y) 26), (26, qs_lda 0 27), (27, qs_gf 4 3 30), (30, qs_ldi 1 31), (31, qs_b2 (fun x y => x - y) 32), (32, qs_vV 4 4 W_X4_shiftArcs 35), (35, qs_lda 0 36), (36, qs_dup 37), (37, qs_gf 4 3 40), (40, qs_ci 1 41), (41, qs_b2 (fun x y => x + y) 42), (42, qs_pf 4 3 45), (45, qs_lda 0 46), (46, qs_ldi 1 47), (47, qs_ci 0 48), (48, qs_ldi 2 49), (49, qs_vV 4 4 W_X4_setArcPart 52), (52, qs_lda 0 53), (53, qs_ldi 1 54), (54, qs_ci 1 55), (55, qs_ldi 3 56), (56, qs_vV 4 4 W_X4_setArcPart 59), (59, qs_lda 0 60), (60, qs_ldi 1 61), (61, qs_ci 2 62), (62, qs_ldi 4 64)]
noncomputable def tb_X4_insertArc_1 : List (Nat × pj_T (pj_M)) := [(64, qs_vV 4 4 W_X4_setArcPart 67), (67, qs_vret)]
noncomputable def tb_X4_insertArc : List (Nat × pj_T (pj_M)) := tb_X4_insertArc_0 ++ (tb_X4_insertArc_1)
theorem mv_X4_insertArc : pj_mv y_X4_insertArc c_X4_insertArc 5 none 4 := ⟨⟨cw_499, cw_497, cw_498, cw_84⟩, by decide +kernel, by decide⟩
set_option maxRecDepth 20000 in
theorem sd_X4_insertArc_0 {G : pj_E} {A : Nat → Prop} {P : pj_P} {S : pj_U} {Z : pj_Z} (C : pj_C (G, A, (c_X4_insertArc, y_X4_insertArc.cls, 5, none, 2), P, S, Z)) : ∀ q ∈ tb_X4_insertArc_0, pj_S (G, A, (c_X4_insertArc, y_X4_insertArc.cls, 5, none, 2), P, S, Z) pj_eV q.1 q.2 :=
  List.forall_mem_cons.mpr ⟨qz_aload_n C (show decode c_X4_insertArc 0 = .ok (.aload_n 0, 1) by decide +kernel) rfl,
  List.forall_mem_cons.mpr ⟨qz_gf (k := 3) C (show decode c_X4_insertArc 1 = .ok (.getfield 22, 3) by decide +kernel) vcX4 wiX4 (by decide) cw_146,
  List.forall_mem_cons.mpr ⟨qz_bipush C (show decode c_X4_insertArc 4 = .ok (.bipush 20, 2) by decide +kernel) (by decide +kernel),
  List.forall_mem_cons.mpr ⟨qz_icge C (show decode c_X4_insertArc 6 = .ok (.if_icmp .ge 61, 3) by decide +kernel) (by decide),
  List.forall_mem_cons.mpr ⟨qz_iload_n C (show decode c_X4_insertArc 9 = .ok (.iload_n 1, 1) by decide +kernel) rfl,
  List.forall_mem_cons.mpr ⟨qz_iflt C (show decode c_X4_insertArc 10 = .ok (.ifCond .lt 57, 3) by decide +kernel) (by decide),
  List.forall_mem_cons.mpr ⟨qz_iload_n C (show decode c_X4_insertArc 13 = .ok (.iload_n 1, 1) by decide +kernel) rfl,
  List.forall_mem_cons.mpr ⟨qz_aload_n C (show decode c_X4_insertArc 14 = .ok (.aload_n 0, 1) by decide +kernel) rfl,
  List.forall_mem_cons.mpr ⟨qz_gf (k := 3) C (show decode c_X4_insertArc 15 = .ok (.getfield 22, 3) by decide +kernel) vcX4 wiX4 (by decide) cw_146,
  List.forall_mem_cons.mpr ⟨qz_icgt C (show decode c_X4_insertArc 18 = .ok (.if_icmp .gt 49, 3) by decide +kernel) (by decide),
  List.forall_mem_cons.mpr ⟨qz_aload_n C (show decode c_X4_insertArc 21 = .ok (.aload_n 0, 1) by decide +kernel) rfl,
  List.forall_mem_cons.mpr ⟨qz_iload_n C (show decode c_X4_insertArc 22 = .ok (.iload_n 1, 1) by decide +kernel) rfl,
  List.forall_mem_cons.mpr ⟨qz_iload_n C (show decode c_X4_insertArc 23 = .ok (.iload_n 1, 1) by decide +kernel) rfl,
  List.forall_mem_cons.mpr ⟨qz_iconst C (show decode c_X4_insertArc 24 = .ok (.iconst 1, 1) by decide +kernel) (by decide +kernel),
  List.forall_mem_cons.mpr ⟨qz_iadd C (show decode c_X4_insertArc 25 = .ok (.iadd, 1) by decide +kernel),
  List.forall_mem_cons.mpr ⟨qz_aload_n C (show decode c_X4_insertArc 26 = .ok (.aload_n 0, 1) by decide +kernel) rfl,
  List.forall_mem_cons.mpr ⟨qz_gf (k := 3) C (show decode c_X4_insertArc 27 = .ok (.getfield 22, 3) by decide +kernel) vcX4 wiX4 (by decide) cw_146,
  List.forall_mem_cons.mpr ⟨qz_iload_n C (show decode c_X4_insertArc 30 = .ok (.iload_n 1, 1) by decide +kernel) rfl,
  List.forall_mem_cons.mpr ⟨qz_isub C (show decode c_X4_insertArc 31 = .ok (.isub, 1) by decide +kernel),
  List.forall_mem_cons.mpr ⟨qz_vV C (show decode c_X4_insertArc 32 = .ok (.invokevirtual 38, 3) by decide +kernel) ct_X4_shiftArcs mv_X4_shiftArcs cw_500 vcX4 (show 1 < 2 by omega),
  List.forall_mem_cons.mpr ⟨qz_aload_n C (show decode c_X4_insertArc 35 = .ok (.aload_n 0, 1) by decide +kernel) rfl,
  List.forall_mem_cons.mpr ⟨qz_dup C (show decode c_X4_insertArc 36 = .ok (.dup, 1) by decide +kernel),
  List.forall_mem_cons.mpr ⟨qz_gf (k := 3) C (show decode c_X4_insertArc 37 = .ok (.getfield 22, 3) by decide +kernel) vcX4 wiX4 (by decide) cw_146,
  List.forall_mem_cons.mpr ⟨qz_iconst C (show decode c_X4_insertArc 40 = .ok (.iconst 1, 1) by decide +kernel) (by decide +kernel),
  List.forall_mem_cons.mpr ⟨qz_iadd C (show decode c_X4_insertArc 41 = .ok (.iadd, 1) by decide +kernel),
  List.forall_mem_cons.mpr ⟨qz_pf (k := 3) C (show decode c_X4_insertArc 42 = .ok (.putfield 22, 3) by decide +kernel) vcX4 wiX4 tyX4_ok nmX4 (by decide) cw_146 rfl rfl,
  List.forall_mem_cons.mpr ⟨qz_aload_n C (show decode c_X4_insertArc 45 = .ok (.aload_n 0, 1) by decide +kernel) rfl,
  List.forall_mem_cons.mpr ⟨qz_iload_n C (show decode c_X4_insertArc 46 = .ok (.iload_n 1, 1) by decide +kernel) rfl,
  List.forall_mem_cons.mpr ⟨qz_iconst C (show decode c_X4_insertArc 47 = .ok (.iconst 0, 1) by decide +kernel) (by decide +kernel),
  List.forall_mem_cons.mpr ⟨qz_iload_n C (show decode c_X4_insertArc 48 = .ok (.iload_n 2, 1) by decide +kernel) rfl,
  List.forall_mem_cons.mpr ⟨qz_vV C (show decode c_X4_insertArc 49 = .ok (.invokevirtual 42, 3) by decide +kernel) ct_X4_setArcPart mv_X4_setArcPart cw_505 vcX4 (show 1 < 2 by omega),
  List.forall_mem_cons.mpr ⟨qz_aload_n C (show decode c_X4_insertArc 52 = .ok (.aload_n 0, 1) by decide +kernel) rfl,
  List.forall_mem_cons.mpr ⟨qz_iload_n C (show decode c_X4_insertArc 53 = .ok (.iload_n 1, 1) by decide +kernel) rfl,
  List.forall_mem_cons.mpr ⟨qz_iconst C (show decode c_X4_insertArc 54 = .ok (.iconst 1, 1) by decide +kernel) (by decide +kernel),
  List.forall_mem_cons.mpr ⟨qz_iload_n C (show decode c_X4_insertArc 55 = .ok (.iload_n 3, 1) by decide +kernel) rfl,
  List.forall_mem_cons.mpr ⟨qz_vV C (show decode c_X4_insertArc 56 = .ok (.invokevirtual 42, 3) by decide +kernel) ct_X4_setArcPart mv_X4_setArcPart cw_505 vcX4 (show 1 < 2 by omega),
  List.forall_mem_cons.mpr ⟨qz_aload_n C (show decode c_X4_insertArc 59 = .ok (.aload_n 0, 1) by decide +kernel) rfl,
  List.forall_mem_cons.mpr ⟨qz_iload_n C (show decode c_X4_insertArc 60 = .ok (.iload_n 1, 1) by decide +kernel) rfl,
  List.forall_mem_cons.mpr ⟨qz_iconst C (show decode c_X4_insertArc 61 = .ok (.iconst 2, 1) by decide +kernel) (by decide +kernel),
  List.forall_mem_cons.mpr ⟨qz_iload C (show decode c_X4_insertArc 62 = .ok (.iload 4, 2) by decide +kernel),
  (fun q h => by cases h)⟩⟩⟩⟩⟩⟩⟩⟩⟩⟩⟩⟩⟩⟩⟩⟩⟩⟩⟩⟩⟩⟩⟩⟩⟩⟩⟩⟩⟩⟩⟩⟩⟩⟩⟩⟩⟩⟩⟩⟩
set_option maxRecDepth 20000 in
theorem sd_X4_insertArc_1 {G : pj_E} {A : Nat → Prop} {P : pj_P} {S : pj_U} {Z : pj_Z} (C : pj_C (G, A, (c_X4_insertArc, y_X4_insertArc.cls, 5, none, 2), P, S, Z)) : ∀ q ∈ tb_X4_insertArc_1, pj_S (G, A, (c_X4_insertArc, y_X4_insertArc.cls, 5, none, 2), P, S, Z) pj_eV q.1 q.2 :=
  List.forall_mem_cons.mpr ⟨qz_vV C (show decode c_X4_insertArc 64 = .ok (.invokevirtual 42, 3) by decide +kernel) ct_X4_setArcPart mv_X4_setArcPart cw_505 vcX4 (show 1 < 2 by omega),
  List.forall_mem_cons.mpr ⟨qz_vret C (show decode c_X4_insertArc 67 = .ok (.return_, 1) by decide +kernel) rfl,
  (fun q h => by cases h)⟩⟩
theorem sd_X4_insertArc {G : pj_E} {A : Nat → Prop} {P : pj_P} {S : pj_U} {Z : pj_Z} (C : pj_C (G, A, (c_X4_insertArc, y_X4_insertArc.cls, 5, none, 2), P, S, Z)) : ∀ q ∈ tb_X4_insertArc, pj_S (G, A, (c_X4_insertArc, y_X4_insertArc.cls, 5, none, 2), P, S, Z) pj_eV q.1 q.2 := List.forall_mem_append.mpr ⟨sd_X4_insertArc_0 C, sd_X4_insertArc_1 C⟩
set_option maxRecDepth 20000 in
theorem eq_X4_insertArc (a0 : Nat) (x1 : Int32) (x2 : Int32) (x3 : Int32) (x4 : Int32) (m : pj_M) : pj_run tb_X4_insertArc [] 44 0 [some (.inr (.inr (0, 4, a0))), some (.inl x1), some (.inl x2), some (.inl x3), some (.inl x4)] [] m = F_X4_insertArc a0 x1 x2 x3 x4 m := by rfl
theorem ct_X4_insertArc : pj_Ct pj_eV y_X4_insertArc c_X4_insertArc 5 none 2 W_X4_insertArc := by
  refine pj_ct_of (by decide +kernel) ?_ ?_
  · intro as m r h
    unfold W_X4_insertArc at h
    split at h
    · simp [pj_l0]
    · cases h
  · intro G A P S Z C as m r h hR
    unfold W_X4_insertArc at h
    split at h
    · split at h
      · rename_i hbq
        simp only [Bool.and_eq_true, Nat.beq_eq] at hbq
        obtain ⟨rfl, rfl⟩ := hbq
        exact pj_run_ok (sd_X4_insertArc C) (fun q h => by cases h) 44 0 _ _ _ _ ((eq_X4_insertArc _ _ _ _ _ _).trans h) hR
      · cases h
    · cases h
/-! AlikeSteps$Net.turnArc(I)V -/
abbrev c_X4_turnArc : ByteArray := prog_6_method_18_code
def y_X4_turnArc : MethodName := ⟨RX4, "turnArc", "(I)V"⟩
noncomputable def F_X4_turnArc (a0 : Nat) (x1 : Int32) (m : pj_M) : Option (pj_M) := ((F_X4_arcPart a0 x1 1 m).bind fun q1 => ((F_X4_arcPart a0 x1 2 q1.2).bind fun q2 => ((F_X4_setArcPart a0 x1 1 q2.1 q2.2).bind fun q3 => ((F_X4_setArcPart a0 x1 2 q1.1 q3).bind fun q4 => (some q4)))))
noncomputable def W_X4_turnArc : List pj_V → pj_M → Option (pj_M) := fun as m => match as with
  | [.inr (.inr (t0, w0, a0)), .inl x1] => (match Nat.beq t0 0 && (Nat.beq w0 4) with
    | true => F_X4_turnArc a0 x1 m
    | false => none)
  | _ => none
noncomputable def tb_X4_turnArc_0 : List (Nat × pj_T (pj_M)) := [(0, qs_lda 0 1), (1, qs_ldi 1 2), (2, qs_ci 1 3), (3, qs_vI 4 3 W_X4_arcPart 6), (6, qs_sti 2 7), (7, qs_lda 0 8), (8, qs_ldi 1 9), (9, qs_ci 1 10), (10, qs_lda 0 11), (11, qs_ldi 1 12), (12, qs_ci 2 13), (13, qs_vI 4 3 W_X4_arcPart 16), (16, qs_vV 4 4 W_X4_setArcPart 19), (19, qs_lda 0 20), (20, qs_ldi 1 21), (21, qs_ci 2 22), (22, qs_ldi 2 23), (23, qs_vV 4 4 W_X4_setArcPart 26), (26, qs_vret)]
noncomputable abbrev tb_X4_turnArc : List (Nat × pj_T (pj_M)) := tb_X4_turnArc_0
theorem mv_X4_turnArc : pj_mv y_X4_turnArc c_X4_turnArc 3 none 1 := ⟨⟨cw_581, cw_579, cw_580, cw_84⟩, by decide +kernel, by decide⟩
set_option maxRecDepth 20000 in
theorem sd_X4_turnArc_0 {G : pj_E} {A : Nat → Prop} {P : pj_P} {S : pj_U} {Z : pj_Z} (C : pj_C (G, A, (c_X4_turnArc, y_X4_turnArc.cls, 3, none, 2), P, S, Z)) : ∀ q ∈ tb_X4_turnArc_0, pj_S (G, A, (c_X4_turnArc, y_X4_turnArc.cls, 3, none, 2), P, S, Z) pj_eV q.1 q.2 :=
  List.forall_mem_cons.mpr ⟨qz_aload_n C (show decode c_X4_turnArc 0 = .ok (.aload_n 0, 1) by decide +kernel) rfl,
  List.forall_mem_cons.mpr ⟨qz_iload_n C (show decode c_X4_turnArc 1 = .ok (.iload_n 1, 1) by decide +kernel) rfl,
  List.forall_mem_cons.mpr ⟨qz_iconst C (show decode c_X4_turnArc 2 = .ok (.iconst 1, 1) by decide +kernel) (by decide +kernel),
  List.forall_mem_cons.mpr ⟨qz_vI C (show decode c_X4_turnArc 3 = .ok (.invokevirtual 49, 3) by decide +kernel) ct_X4_arcPart mv_X4_arcPart cw_582 vcX4 (show 1 < 2 by omega),
  List.forall_mem_cons.mpr ⟨qz_istore_n C (show decode c_X4_turnArc 6 = .ok (.istore_n 2, 1) by decide +kernel) rfl,
  List.forall_mem_cons.mpr ⟨qz_aload_n C (show decode c_X4_turnArc 7 = .ok (.aload_n 0, 1) by decide +kernel) rfl,
  List.forall_mem_cons.mpr ⟨qz_iload_n C (show decode c_X4_turnArc 8 = .ok (.iload_n 1, 1) by decide +kernel) rfl,
  List.forall_mem_cons.mpr ⟨qz_iconst C (show decode c_X4_turnArc 9 = .ok (.iconst 1, 1) by decide +kernel) (by decide +kernel),
  List.forall_mem_cons.mpr ⟨qz_aload_n C (show decode c_X4_turnArc 10 = .ok (.aload_n 0, 1) by decide +kernel) rfl,
  List.forall_mem_cons.mpr ⟨qz_iload_n C (show decode c_X4_turnArc 11 = .ok (.iload_n 1, 1) by decide +kernel) rfl,
  List.forall_mem_cons.mpr ⟨qz_iconst C (show decode c_X4_turnArc 12 = .ok (.iconst 2, 1) by decide +kernel) (by decide +kernel),
  List.forall_mem_cons.mpr ⟨qz_vI C (show decode c_X4_turnArc 13 = .ok (.invokevirtual 49, 3) by decide +kernel) ct_X4_arcPart mv_X4_arcPart cw_582 vcX4 (show 1 < 2 by omega),
  List.forall_mem_cons.mpr ⟨qz_vV C (show decode c_X4_turnArc 16 = .ok (.invokevirtual 42, 3) by decide +kernel) ct_X4_setArcPart mv_X4_setArcPart cw_505 vcX4 (show 1 < 2 by omega),
  List.forall_mem_cons.mpr ⟨qz_aload_n C (show decode c_X4_turnArc 19 = .ok (.aload_n 0, 1) by decide +kernel) rfl,
  List.forall_mem_cons.mpr ⟨qz_iload_n C (show decode c_X4_turnArc 20 = .ok (.iload_n 1, 1) by decide +kernel) rfl,
  List.forall_mem_cons.mpr ⟨qz_iconst C (show decode c_X4_turnArc 21 = .ok (.iconst 2, 1) by decide +kernel) (by decide +kernel),
  List.forall_mem_cons.mpr ⟨qz_iload_n C (show decode c_X4_turnArc 22 = .ok (.iload_n 2, 1) by decide +kernel) rfl,
  List.forall_mem_cons.mpr ⟨qz_vV C (show decode c_X4_turnArc 23 = .ok (.invokevirtual 42, 3) by decide +kernel) ct_X4_setArcPart mv_X4_setArcPart cw_505 vcX4 (show 1 < 2 by omega),
  List.forall_mem_cons.mpr ⟨qz_vret C (show decode c_X4_turnArc 26 = .ok (.return_, 1) by decide +kernel) rfl,
  (fun q h => by cases h)⟩⟩⟩⟩⟩⟩⟩⟩⟩⟩⟩⟩⟩⟩⟩⟩⟩⟩⟩
theorem sd_X4_turnArc {G : pj_E} {A : Nat → Prop} {P : pj_P} {S : pj_U} {Z : pj_Z} (C : pj_C (G, A, (c_X4_turnArc, y_X4_turnArc.cls, 3, none, 2), P, S, Z)) : ∀ q ∈ tb_X4_turnArc, pj_S (G, A, (c_X4_turnArc, y_X4_turnArc.cls, 3, none, 2), P, S, Z) pj_eV q.1 q.2 := sd_X4_turnArc_0 C
set_option maxRecDepth 20000 in
theorem eq_X4_turnArc (a0 : Nat) (x1 : Int32) (m : pj_M) : pj_run tb_X4_turnArc [] 21 0 [some (.inr (.inr (0, 4, a0))), some (.inl x1), none] [] m = F_X4_turnArc a0 x1 m := by rfl
theorem ct_X4_turnArc : pj_Ct pj_eV y_X4_turnArc c_X4_turnArc 3 none 2 W_X4_turnArc := by
  refine pj_ct_of (by decide +kernel) ?_ ?_
  · intro as m r h
    unfold W_X4_turnArc at h
    split at h
    · simp [pj_l0]
    · cases h
  · intro G A P S Z C as m r h hR
    unfold W_X4_turnArc at h
    split at h
    · split at h
      · rename_i hbq
        simp only [Bool.and_eq_true, Nat.beq_eq] at hbq
        obtain ⟨rfl, rfl⟩ := hbq
        exact pj_run_ok (sd_X4_turnArc C) (fun q h => by cases h) 21 0 _ _ _ _ ((eq_X4_turnArc _ _ _).trans h) hR
      · cases h
    · cases h
/-! AlikeSteps$Net.setKind(II)V -/
abbrev c_X4_setKind : ByteArray := prog_6_method_14_code
def y_X4_setKind : MethodName := ⟨RX4, "setKind", "(II)V"⟩
noncomputable def F_X4_setKind (a0 : Nat) (x1 : Int32) (x2 : Int32) (m : pj_M) : Option (pj_M) := (if x1 < 0 ∨ 10 ≤ x1.toNatClampNeg then none else (some (pj_wr (pj_wr m (a0 + 1) x1.toNatClampNeg x2) a0 4 (((pj_wr m (a0 + 1) x1.toNatClampNeg x2).1 a0 4) + 1))))
noncomputable def W_X4_setKind : List pj_V → pj_M → Option (pj_M) := fun as m => match as with
  | [.inr (.inr (t0, w0, a0)), .inl x1, .inl x2] => (match Nat.beq t0 0 && (Nat.beq w0 4) with
    | true => F_X4_setKind a0 x1 x2 m
    | false => none)
  | _ => none
noncomputable def tb_X4_setKind_0 : List (Nat × pj_T (pj_M)) := [(0, qs_lda 0 1), (1, qs_gf 4 0 4), (4, qs_ldi 1 5), (5, qs_ldi 2 6), (6, qs_iast 7), (7, qs_lda 0 8), (8, qs_dup 9), (9, qs_gf 4 4 12), (12, qs_ci 1 13), (13, qs_b2 (fun x y => x + y) 14), (14, qs_pf 4 4 17), (17, qs_vret)]
noncomputable abbrev tb_X4_setKind : List (Nat × pj_T (pj_M)) := tb_X4_setKind_0
theorem mv_X4_setKind : pj_mv y_X4_setKind c_X4_setKind 3 none 2 := ⟨⟨cw_600, cw_598, cw_599, cw_84⟩, by decide +kernel, by decide⟩
set_option maxRecDepth 20000 in
theorem sd_X4_setKind_0 {G : pj_E} {A : Nat → Prop} {P : pj_P} {S : pj_U} {Z : pj_Z} (C : pj_C (G, A, (c_X4_setKind, y_X4_setKind.cls, 3, none, 1), P, S, Z)) : ∀ q ∈ tb_X4_setKind_0, pj_S (G, A, (c_X4_setKind, y_X4_setKind.cls, 3, none, 1), P, S, Z) pj_eV q.1 q.2 :=
  List.forall_mem_cons.mpr ⟨qz_aload_n C (show decode c_X4_setKind 0 = .ok (.aload_n 0, 1) by decide +kernel) rfl,
  List.forall_mem_cons.mpr ⟨qz_gf (k := 0) C (show decode c_X4_setKind 1 = .ok (.getfield 9, 3) by decide +kernel) vcX4 wiX4 (by decide) cw_143,
  List.forall_mem_cons.mpr ⟨qz_iload_n C (show decode c_X4_setKind 4 = .ok (.iload_n 1, 1) by decide +kernel) rfl,
  List.forall_mem_cons.mpr ⟨qz_iload_n C (show decode c_X4_setKind 5 = .ok (.iload_n 2, 1) by decide +kernel) rfl,
  List.forall_mem_cons.mpr ⟨qz_iast C (show decode c_X4_setKind 6 = .ok (.iastore, 1) by decide +kernel),
  List.forall_mem_cons.mpr ⟨qz_aload_n C (show decode c_X4_setKind 7 = .ok (.aload_n 0, 1) by decide +kernel) rfl,
  List.forall_mem_cons.mpr ⟨qz_dup C (show decode c_X4_setKind 8 = .ok (.dup, 1) by decide +kernel),
  List.forall_mem_cons.mpr ⟨qz_gf (k := 4) C (show decode c_X4_setKind 9 = .ok (.getfield 25, 3) by decide +kernel) vcX4 wiX4 (by decide) cw_147,
  List.forall_mem_cons.mpr ⟨qz_iconst C (show decode c_X4_setKind 12 = .ok (.iconst 1, 1) by decide +kernel) (by decide +kernel),
  List.forall_mem_cons.mpr ⟨qz_iadd C (show decode c_X4_setKind 13 = .ok (.iadd, 1) by decide +kernel),
  List.forall_mem_cons.mpr ⟨qz_pf (k := 4) C (show decode c_X4_setKind 14 = .ok (.putfield 25, 3) by decide +kernel) vcX4 wiX4 tyX4_ok nmX4 (by decide) cw_147 rfl rfl,
  List.forall_mem_cons.mpr ⟨qz_vret C (show decode c_X4_setKind 17 = .ok (.return_, 1) by decide +kernel) rfl,
  (fun q h => by cases h)⟩⟩⟩⟩⟩⟩⟩⟩⟩⟩⟩⟩
theorem sd_X4_setKind {G : pj_E} {A : Nat → Prop} {P : pj_P} {S : pj_U} {Z : pj_Z} (C : pj_C (G, A, (c_X4_setKind, y_X4_setKind.cls, 3, none, 1), P, S, Z)) : ∀ q ∈ tb_X4_setKind, pj_S (G, A, (c_X4_setKind, y_X4_setKind.cls, 3, none, 1), P, S, Z) pj_eV q.1 q.2 := sd_X4_setKind_0 C
set_option maxRecDepth 20000 in
theorem eq_X4_setKind (a0 : Nat) (x1 : Int32) (x2 : Int32) (m : pj_M) : pj_run tb_X4_setKind [] 14 0 [some (.inr (.inr (0, 4, a0))), some (.inl x1), some (.inl x2)] [] m = F_X4_setKind a0 x1 x2 m := by rfl
theorem ct_X4_setKind : pj_Ct pj_eV y_X4_setKind c_X4_setKind 3 none 1 W_X4_setKind := by
  refine pj_ct_of (by decide +kernel) ?_ ?_
  · intro as m r h
    unfold W_X4_setKind at h
    split at h
    · simp [pj_l0]
    · cases h
  · intro G A P S Z C as m r h hR
    unfold W_X4_setKind at h
    split at h
    · split at h
      · rename_i hbq
        simp only [Bool.and_eq_true, Nat.beq_eq] at hbq
        obtain ⟨rfl, rfl⟩ := hbq
        exact pj_run_ok (sd_X4_setKind C) (fun q h => by cases h) 14 0 _ _ _ _ ((eq_X4_setKind _ _ _ _).trans h) hR
      · cases h
    · cases h
/-! AlikeSteps$Acts.undoLatest(LAlikeSteps$Net;)V -/
abbrev c_X0_undoLatest : ByteArray := prog_2_method_8_code
def y_X0_undoLatest : MethodName := ⟨RX0, "undoLatest", "(LAlikeSteps$Net;)V"⟩
noncomputable def F_X0_undoLatest (a1 : Nat) (m : pj_M) : Option (pj_M) := (if (m.1 17 1) = 0 then (some m) else (if (((pj_wr m 17 1 ((m.1 17 1) - 1)).1 17 1) * 5) < 0 ∨ 100 ≤ (((pj_wr m 17 1 ((m.1 17 1) - 1)).1 17 1) * 5).toNatClampNeg then none else (if ((pj_wr m 17 1 ((m.1 17 1) - 1)).1 18 (((pj_wr m 17 1 ((m.1 17 1) - 1)).1 17 1) * 5).toNatClampNeg) = 0 then ((F_X4_arcTotal a1 (pj_wr m 17 1 ((m.1 17 1) - 1))).bind fun q1 => ((F_X4_removeArc a1 (q1.1 - 1) q1.2).bind fun q2 => (some q2))) else (if ((pj_wr m 17 1 ((m.1 17 1) - 1)).1 18 (((pj_wr m 17 1 ((m.1 17 1) - 1)).1 17 1) * 5).toNatClampNeg) = 1 then (if ((((pj_wr m 17 1 ((m.1 17 1) - 1)).1 17 1) * 5) + 1) < 0 ∨ 100 ≤ ((((pj_wr m 17 1 ((m.1 17 1) - 1)).1 17 1) * 5) + 1).toNatClampNeg then none else (if ((((pj_wr m 17 1 ((m.1 17 1) - 1)).1 17 1) * 5) + 2) < 0 ∨ 100 ≤ ((((pj_wr m 17 1 ((m.1 17 1) - 1)).1 17 1) * 5) + 2).toNatClampNeg then none else (if ((((pj_wr m 17 1 ((m.1 17 1) - 1)).1 17 1) * 5) + 3) < 0 ∨ 100 ≤ ((((pj_wr m 17 1 ((m.1 17 1) - 1)).1 17 1) * 5) + 3).toNatClampNeg then none else (if ((((pj_wr m 17 1 ((m.1 17 1) - 1)).1 17 1) * 5) + 4) < 0 ∨ 100 ≤ ((((pj_wr m 17 1 ((m.1 17 1) - 1)).1 17 1) * 5) + 4).toNatClampNeg then none else ((F_X4_insertArc a1 ((pj_wr m 17 1 ((m.1 17 1) - 1)).1 18 ((((pj_wr m 17 1 ((m.1 17 1) - 1)).1 17 1) * 5) + 1).toNatClampNeg) ((pj_wr m 17 1 ((m.1 17 1) - 1)).1 18 ((((pj_wr m 17 1 ((m.1 17 1) - 1)).1 17 1) * 5) + 2).toNatClampNeg) ((pj_wr m 17 1 ((m.1 17 1) - 1)).1 18 ((((pj_wr m 17 1 ((m.1 17 1) - 1)).1 17 1) * 5) + 3).toNatClampNeg) ((pj_wr m 17 1 ((m.1 17 1) - 1)).1 18 ((((pj_wr m 17 1 ((m.1 17 1) - 1)).1 17 1) * 5) + 4).toNatClampNeg) (pj_wr m 17 1 ((m.1 17 1) - 1))).bind fun q3 => (some q3)))))) else (if ((pj_wr m 17 1 ((m.1 17 1) - 1)).1 18 (((pj_wr m 17 1 ((m.1 17 1) - 1)).1 17 1) * 5).toNatClampNeg) = 2 then (if ((((pj_wr m 17 1 ((m.1 17 1) - 1)).1 17 1) * 5) + 1) < 0 ∨ 100 ≤ ((((pj_wr m 17 1 ((m.1 17 1) - 1)).1 17 1) * 5) + 1).toNatClampNeg then none else ((F_X4_turnArc a1 ((pj_wr m 17 1 ((m.1 17 1) - 1)).1 18 ((((pj_wr m 17 1 ((m.1 17 1) - 1)).1 17 1) * 5) + 1).toNatClampNeg) (pj_wr m 17 1 ((m.1 17 1) - 1))).bind fun q4 => (some q4))) else (if ((((pj_wr m 17 1 ((m.1 17 1) - 1)).1 17 1) * 5) + 1) < 0 ∨ 100 ≤ ((((pj_wr m 17 1 ((m.1 17 1) - 1)).1 17 1) * 5) + 1).toNatClampNeg then none else (if ((((pj_wr m 17 1 ((m.1 17 1) - 1)).1 17 1) * 5) + 2) < 0 ∨ 100 ≤ ((((pj_wr m 17 1 ((m.1 17 1) - 1)).1 17 1) * 5) + 2).toNatClampNeg then none else ((F_X4_setKind a1 ((pj_wr m 17 1 ((m.1 17 1) - 1)).1 18 ((((pj_wr m 17 1 ((m.1 17 1) - 1)).1 17 1) * 5) + 1).toNatClampNeg) ((pj_wr m 17 1 ((m.1 17 1) - 1)).1 18 ((((pj_wr m 17 1 ((m.1 17 1) - 1)).1 17 1) * 5) + 2).toNatClampNeg) (pj_wr m 17 1 ((m.1 17 1) - 1))).bind fun q5 => (some q5)))))))))
noncomputable def W_X0_undoLatest : List pj_V → pj_M → Option (pj_M) := fun as m => match as with
  | [.inr (.inr (t0, w0, a0)), .inr (.inr (t1, w1, a1))] => (match Nat.beq t0 0 && (Nat.beq w0 0 && (Nat.beq a0 17 && (Nat.beq t1 0 && (Nat.beq w1 4)))) with
    | true => F_X0_undoLatest a1 m
    | false => none)
  | _ => none
noncomputable def tb_X0_undoLatest_0 : List (Nat × pj_T (pj_M)) := [(0, qs_lda 0 1), (1, qs_gf 0 1 4), (4, qs_ifne 8 7), (7, qs_vret), (8, qs_lda 0 9), (9, qs_dup 10), (10, qs_gf 0 1 13), (13, qs_ci 1 14), (14, qs_b2 (fun x y => x - y) 15), (15, qs_pf 0 1 18), (18, qs_lda 0 19), (19, qs_gf 0 1 22), (22, qs_ci 5 23), (23, qs_b2 (fun x y => x * y) 24), (24, qs_sti 2 25), (25, qs_lda 0 26), (26, qs_gf 0 0 29), (29, qs_ldi 2 30), (30, qs_iald 31), (31, qs_sw [(0, 56), (1, 69), (2, 108)] 123), (56, qs_lda 1 57), (57, qs_lda 1 58), (58, qs_vI 4 1 W_X4_arcTotal 61), (61, qs_ci 1 62), (62, qs_b2 (fun x y => x - y) 63), (63, qs_vV 4 2 W_X4_removeArc 66), (66, qs_go 143), (69, qs_lda 1 70), (70, qs_lda 0 71), (71, qs_gf 0 0 74), (74, qs_ldi 2 75), (75, qs_ci 1 76), (76, qs_b2 (fun x y => x + y) 77), (77, qs_iald 78), (78, qs_lda 0 79), (79, qs_gf 0 0 82), (82, qs_ldi 2 83), (83, qs_ci 2 84), (84, qs_b2 (fun x y => x + y) 85), (85, qs_iald 86)]
noncomputable def tb_X0_undoLatest_1 : List (Nat × pj_T (pj_M)) := [(86, qs_lda 0 87), (87, qs_gf 0 0 90), (90, qs_ldi 2 91), (91, qs_ci 3 92), (92, qs_b2 (fun x y => x + y) 93), (93, qs_iald 94), (94, qs_lda 0 95), (95, qs_gf 0 0 98), (98, qs_ldi 2 99), (99, qs_ci 4 100), (100, qs_b2 (fun x y => x + y) 101), (101, qs_iald 102), (102, qs_vV 4 5 W_X4_insertArc 105), (105, qs_go 143), (108, qs_lda 1 109), (109, qs_lda 0 110), (110, qs_gf 0 0 113), (113, qs_ldi 2 114), (114, qs_ci 1 115), (115, qs_b2 (fun x y => x + y) 116), (116, qs_iald 117), (117, qs_vV 4 2 W_X4_turnArc 120), (120, qs_go 143), (123, qs_lda 1 124), (124, qs_lda 0 125), (125, qs_gf 0 0 128), (128, qs_ldi 2 129), (129, qs_ci 1 130), (130, qs_b2 (fun x y => x + y) 131), (131, qs_iald 132), (132, qs_lda 0 133), (133, qs_gf 0 0 136), (136, qs_ldi 2 137), (137, qs_ci 2 138), (138, qs_b2 (fun x y => x + y) 139), (139, qs_iald 140), (140, qs_vV 4 3 W_X4_setKind 143), (143, qs_vret)]
noncomputable def tb_X0_undoLatest : List (Nat × pj_T (pj_M)) := tb_X0_undoLatest_0 ++ (tb_X0_undoLatest_1)
theorem mv_X0_undoLatest : pj_mv y_X0_undoLatest c_X0_undoLatest 3 none 1 := ⟨⟨cw_616, cw_614, cw_615, cw_85⟩, by decide +kernel, by decide⟩
set_option maxRecDepth 20000 in
theorem sd_X0_undoLatest_0 {G : pj_E} {A : Nat → Prop} {P : pj_P} {S : pj_U} {Z : pj_Z} (C : pj_C (G, A, (c_X0_undoLatest, y_X0_undoLatest.cls, 3, none, 3), P, S, Z)) : ∀ q ∈ tb_X0_undoLatest_0, pj_S (G, A, (c_X0_undoLatest, y_X0_undoLatest.cls, 3, none, 3), P, S, Z) pj_eV q.1 q.2 :=
  List.forall_mem_cons.mpr ⟨qz_aload_n C (show decode c_X0_undoLatest 0 = .ok (.aload_n 0, 1) by decide +kernel) rfl,
  List.forall_mem_cons.mpr ⟨qz_gf (k := 1) C (show decode c_X0_undoLatest 1 = .ok (.getfield 13, 3) by decide +kernel) vcX0 wiX0 (by decide) cw_167,
  List.forall_mem_cons.mpr ⟨qz_ifne C (show decode c_X0_undoLatest 4 = .ok (.ifCond .ne 4, 3) by decide +kernel) (by decide),
  List.forall_mem_cons.mpr ⟨qz_vret C (show decode c_X0_undoLatest 7 = .ok (.return_, 1) by decide +kernel) rfl,
  List.forall_mem_cons.mpr ⟨qz_aload_n C (show decode c_X0_undoLatest 8 = .ok (.aload_n 0, 1) by decide +kernel) rfl,
  List.forall_mem_cons.mpr ⟨qz_dup C (show decode c_X0_undoLatest 9 = .ok (.dup, 1) by decide +kernel),
  List.forall_mem_cons.mpr ⟨qz_gf (k := 1) C (show decode c_X0_undoLatest 10 = .ok (.getfield 13, 3) by decide +kernel) vcX0 wiX0 (by decide) cw_167,
  List.forall_mem_cons.mpr ⟨qz_iconst C (show decode c_X0_undoLatest 13 = .ok (.iconst 1, 1) by decide +kernel) (by decide +kernel),
  List.forall_mem_cons.mpr ⟨qz_isub C (show decode c_X0_undoLatest 14 = .ok (.isub, 1) by decide +kernel),
  List.forall_mem_cons.mpr ⟨qz_pf (k := 1) C (show decode c_X0_undoLatest 15 = .ok (.putfield 13, 3) by decide +kernel) vcX0 wiX0 tyX0_ok nmX0 (by decide) cw_167 rfl rfl,
  List.forall_mem_cons.mpr ⟨qz_aload_n C (show decode c_X0_undoLatest 18 = .ok (.aload_n 0, 1) by decide +kernel) rfl,
  List.forall_mem_cons.mpr ⟨qz_gf (k := 1) C (show decode c_X0_undoLatest 19 = .ok (.getfield 13, 3) by decide +kernel) vcX0 wiX0 (by decide) cw_167,
  List.forall_mem_cons.mpr ⟨qz_iconst C (show decode c_X0_undoLatest 22 = .ok (.iconst 5, 1) by decide +kernel) (by decide +kernel),
  List.forall_mem_cons.mpr ⟨qz_imul C (show decode c_X0_undoLatest 23 = .ok (.imul, 1) by decide +kernel),
  List.forall_mem_cons.mpr ⟨qz_istore_n C (show decode c_X0_undoLatest 24 = .ok (.istore_n 2, 1) by decide +kernel) rfl,
  List.forall_mem_cons.mpr ⟨qz_aload_n C (show decode c_X0_undoLatest 25 = .ok (.aload_n 0, 1) by decide +kernel) rfl,
  List.forall_mem_cons.mpr ⟨qz_gf (k := 0) C (show decode c_X0_undoLatest 26 = .ok (.getfield 9, 3) by decide +kernel) vcX0 wiX0 (by decide) cw_166,
  List.forall_mem_cons.mpr ⟨qz_iload_n C (show decode c_X0_undoLatest 29 = .ok (.iload_n 2, 1) by decide +kernel) rfl,
  List.forall_mem_cons.mpr ⟨qz_iald C (show decode c_X0_undoLatest 30 = .ok (.iaload, 1) by decide +kernel),
  List.forall_mem_cons.mpr ⟨qz_tsw C (show decode c_X0_undoLatest 31 = .ok (.tableswitch 92 0 2 #[25, 38, 77], 25) by decide +kernel) (by decide +kernel),
  List.forall_mem_cons.mpr ⟨qz_aload_n C (show decode c_X0_undoLatest 56 = .ok (.aload_n 1, 1) by decide +kernel) rfl,
  List.forall_mem_cons.mpr ⟨qz_aload_n C (show decode c_X0_undoLatest 57 = .ok (.aload_n 1, 1) by decide +kernel) rfl,
  List.forall_mem_cons.mpr ⟨qz_vI C (show decode c_X0_undoLatest 58 = .ok (.invokevirtual 27, 3) by decide +kernel) ct_X4_arcTotal mv_X4_arcTotal cw_617 vcX4 (show 1 < 3 by omega),
  List.forall_mem_cons.mpr ⟨qz_iconst C (show decode c_X0_undoLatest 61 = .ok (.iconst 1, 1) by decide +kernel) (by decide +kernel),
  List.forall_mem_cons.mpr ⟨qz_isub C (show decode c_X0_undoLatest 62 = .ok (.isub, 1) by decide +kernel),
  List.forall_mem_cons.mpr ⟨qz_vV C (show decode c_X0_undoLatest 63 = .ok (.invokevirtual 31, 3) by decide +kernel) ct_X4_removeArc mv_X4_removeArc cw_618 vcX4 (show 2 < 3 by omega),
  List.forall_mem_cons.mpr ⟨qz_goto C (show decode c_X0_undoLatest 66 = .ok (.goto 77, 3) by decide +kernel) (by decide),
  List.forall_mem_cons.mpr ⟨qz_aload_n C (show decode c_X0_undoLatest 69 = .ok (.aload_n 1, 1) by decide +kernel) rfl,
  List.forall_mem_cons.mpr ⟨qz_aload_n C (show decode c_X0_undoLatest 70 = .ok (.aload_n 0, 1) by decide +kernel) rfl,
  List.forall_mem_cons.mpr ⟨qz_gf (k := 0) C (show decode c_X0_undoLatest 71 = .ok (.getfield 9, 3) by decide +kernel) vcX0 wiX0 (by decide) cw_166,
  List.forall_mem_cons.mpr ⟨qz_iload_n C (show decode c_X0_undoLatest 74 = .ok (.iload_n 2, 1) by decide +kernel) rfl,
  List.forall_mem_cons.mpr ⟨qz_iconst C (show decode c_X0_undoLatest 75 = .ok (.iconst 1, 1) by decide +kernel) (by decide +kernel),
  List.forall_mem_cons.mpr ⟨qz_iadd C (show decode c_X0_undoLatest 76 = .ok (.iadd, 1) by decide +kernel),
  List.forall_mem_cons.mpr ⟨qz_iald C (show decode c_X0_undoLatest 77 = .ok (.iaload, 1) by decide +kernel),
  List.forall_mem_cons.mpr ⟨qz_aload_n C (show decode c_X0_undoLatest 78 = .ok (.aload_n 0, 1) by decide +kernel) rfl,
  List.forall_mem_cons.mpr ⟨qz_gf (k := 0) C (show decode c_X0_undoLatest 79 = .ok (.getfield 9, 3) by decide +kernel) vcX0 wiX0 (by decide) cw_166,
  List.forall_mem_cons.mpr ⟨qz_iload_n C (show decode c_X0_undoLatest 82 = .ok (.iload_n 2, 1) by decide +kernel) rfl,
  List.forall_mem_cons.mpr ⟨qz_iconst C (show decode c_X0_undoLatest 83 = .ok (.iconst 2, 1) by decide +kernel) (by decide +kernel),
  List.forall_mem_cons.mpr ⟨qz_iadd C (show decode c_X0_undoLatest 84 = .ok (.iadd, 1) by decide +kernel),
  List.forall_mem_cons.mpr ⟨qz_iald C (show decode c_X0_undoLatest 85 = .ok (.iaload, 1) by decide +kernel),
  (fun q h => by cases h)⟩⟩⟩⟩⟩⟩⟩⟩⟩⟩⟩⟩⟩⟩⟩⟩⟩⟩⟩⟩⟩⟩⟩⟩⟩⟩⟩⟩⟩⟩⟩⟩⟩⟩⟩⟩⟩⟩⟩⟩
set_option maxRecDepth 20000 in
theorem sd_X0_undoLatest_1 {G : pj_E} {A : Nat → Prop} {P : pj_P} {S : pj_U} {Z : pj_Z} (C : pj_C (G, A, (c_X0_undoLatest, y_X0_undoLatest.cls, 3, none, 3), P, S, Z)) : ∀ q ∈ tb_X0_undoLatest_1, pj_S (G, A, (c_X0_undoLatest, y_X0_undoLatest.cls, 3, none, 3), P, S, Z) pj_eV q.1 q.2 :=
  List.forall_mem_cons.mpr ⟨qz_aload_n C (show decode c_X0_undoLatest 86 = .ok (.aload_n 0, 1) by decide +kernel) rfl,
  List.forall_mem_cons.mpr ⟨qz_gf (k := 0) C (show decode c_X0_undoLatest 87 = .ok (.getfield 9, 3) by decide +kernel) vcX0 wiX0 (by decide) cw_166,
  List.forall_mem_cons.mpr ⟨qz_iload_n C (show decode c_X0_undoLatest 90 = .ok (.iload_n 2, 1) by decide +kernel) rfl,
  List.forall_mem_cons.mpr ⟨qz_iconst C (show decode c_X0_undoLatest 91 = .ok (.iconst 3, 1) by decide +kernel) (by decide +kernel),
  List.forall_mem_cons.mpr ⟨qz_iadd C (show decode c_X0_undoLatest 92 = .ok (.iadd, 1) by decide +kernel),
  List.forall_mem_cons.mpr ⟨qz_iald C (show decode c_X0_undoLatest 93 = .ok (.iaload, 1) by decide +kernel),
  List.forall_mem_cons.mpr ⟨qz_aload_n C (show decode c_X0_undoLatest 94 = .ok (.aload_n 0, 1) by decide +kernel) rfl,
  List.forall_mem_cons.mpr ⟨qz_gf (k := 0) C (show decode c_X0_undoLatest 95 = .ok (.getfield 9, 3) by decide +kernel) vcX0 wiX0 (by decide) cw_166,
  List.forall_mem_cons.mpr ⟨qz_iload_n C (show decode c_X0_undoLatest 98 = .ok (.iload_n 2, 1) by decide +kernel) rfl,
  List.forall_mem_cons.mpr ⟨qz_iconst C (show decode c_X0_undoLatest 99 = .ok (.iconst 4, 1) by decide +kernel) (by decide +kernel),
  List.forall_mem_cons.mpr ⟨qz_iadd C (show decode c_X0_undoLatest 100 = .ok (.iadd, 1) by decide +kernel),
  List.forall_mem_cons.mpr ⟨qz_iald C (show decode c_X0_undoLatest 101 = .ok (.iaload, 1) by decide +kernel),
  List.forall_mem_cons.mpr ⟨qz_vV C (show decode c_X0_undoLatest 102 = .ok (.invokevirtual 35, 3) by decide +kernel) ct_X4_insertArc mv_X4_insertArc cw_619 vcX4 (show 2 < 3 by omega),
  List.forall_mem_cons.mpr ⟨qz_goto C (show decode c_X0_undoLatest 105 = .ok (.goto 38, 3) by decide +kernel) (by decide),
  List.forall_mem_cons.mpr ⟨qz_aload_n C (show decode c_X0_undoLatest 108 = .ok (.aload_n 1, 1) by decide +kernel) rfl,
  List.forall_mem_cons.mpr ⟨qz_aload_n C (show decode c_X0_undoLatest 109 = .ok (.aload_n 0, 1) by decide +kernel) rfl,
  List.forall_mem_cons.mpr ⟨qz_gf (k := 0) C (show decode c_X0_undoLatest 110 = .ok (.getfield 9, 3) by decide +kernel) vcX0 wiX0 (by decide) cw_166,
  List.forall_mem_cons.mpr ⟨qz_iload_n C (show decode c_X0_undoLatest 113 = .ok (.iload_n 2, 1) by decide +kernel) rfl,
  List.forall_mem_cons.mpr ⟨qz_iconst C (show decode c_X0_undoLatest 114 = .ok (.iconst 1, 1) by decide +kernel) (by decide +kernel),
  List.forall_mem_cons.mpr ⟨qz_iadd C (show decode c_X0_undoLatest 115 = .ok (.iadd, 1) by decide +kernel),
  List.forall_mem_cons.mpr ⟨qz_iald C (show decode c_X0_undoLatest 116 = .ok (.iaload, 1) by decide +kernel),
  List.forall_mem_cons.mpr ⟨qz_vV C (show decode c_X0_undoLatest 117 = .ok (.invokevirtual 39, 3) by decide +kernel) ct_X4_turnArc mv_X4_turnArc cw_620 vcX4 (show 2 < 3 by omega),
  List.forall_mem_cons.mpr ⟨qz_goto C (show decode c_X0_undoLatest 120 = .ok (.goto 23, 3) by decide +kernel) (by decide),
  List.forall_mem_cons.mpr ⟨qz_aload_n C (show decode c_X0_undoLatest 123 = .ok (.aload_n 1, 1) by decide +kernel) rfl,
  List.forall_mem_cons.mpr ⟨qz_aload_n C (show decode c_X0_undoLatest 124 = .ok (.aload_n 0, 1) by decide +kernel) rfl,
  List.forall_mem_cons.mpr ⟨qz_gf (k := 0) C (show decode c_X0_undoLatest 125 = .ok (.getfield 9, 3) by decide +kernel) vcX0 wiX0 (by decide) cw_166,
  List.forall_mem_cons.mpr ⟨qz_iload_n C (show decode c_X0_undoLatest 128 = .ok (.iload_n 2, 1) by decide +kernel) rfl,
  List.forall_mem_cons.mpr ⟨qz_iconst C (show decode c_X0_undoLatest 129 = .ok (.iconst 1, 1) by decide +kernel) (by decide +kernel),
  List.forall_mem_cons.mpr ⟨qz_iadd C (show decode c_X0_undoLatest 130 = .ok (.iadd, 1) by decide +kernel),
  List.forall_mem_cons.mpr ⟨qz_iald C (show decode c_X0_undoLatest 131 = .ok (.iaload, 1) by decide +kernel),
  List.forall_mem_cons.mpr ⟨qz_aload_n C (show decode c_X0_undoLatest 132 = .ok (.aload_n 0, 1) by decide +kernel) rfl,
  List.forall_mem_cons.mpr ⟨qz_gf (k := 0) C (show decode c_X0_undoLatest 133 = .ok (.getfield 9, 3) by decide +kernel) vcX0 wiX0 (by decide) cw_166,
  List.forall_mem_cons.mpr ⟨qz_iload_n C (show decode c_X0_undoLatest 136 = .ok (.iload_n 2, 1) by decide +kernel) rfl,
  List.forall_mem_cons.mpr ⟨qz_iconst C (show decode c_X0_undoLatest 137 = .ok (.iconst 2, 1) by decide +kernel) (by decide +kernel),
  List.forall_mem_cons.mpr ⟨qz_iadd C (show decode c_X0_undoLatest 138 = .ok (.iadd, 1) by decide +kernel),
  List.forall_mem_cons.mpr ⟨qz_iald C (show decode c_X0_undoLatest 139 = .ok (.iaload, 1) by decide +kernel),
  List.forall_mem_cons.mpr ⟨qz_vV C (show decode c_X0_undoLatest 140 = .ok (.invokevirtual 42, 3) by decide +kernel) ct_X4_setKind mv_X4_setKind cw_621 vcX4 (show 1 < 3 by omega),
  List.forall_mem_cons.mpr ⟨qz_vret C (show decode c_X0_undoLatest 143 = .ok (.return_, 1) by decide +kernel) rfl,
  (fun q h => by cases h)⟩⟩⟩⟩⟩⟩⟩⟩⟩⟩⟩⟩⟩⟩⟩⟩⟩⟩⟩⟩⟩⟩⟩⟩⟩⟩⟩⟩⟩⟩⟩⟩⟩⟩⟩⟩⟩⟩
theorem sd_X0_undoLatest {G : pj_E} {A : Nat → Prop} {P : pj_P} {S : pj_U} {Z : pj_Z} (C : pj_C (G, A, (c_X0_undoLatest, y_X0_undoLatest.cls, 3, none, 3), P, S, Z)) : ∀ q ∈ tb_X0_undoLatest, pj_S (G, A, (c_X0_undoLatest, y_X0_undoLatest.cls, 3, none, 3), P, S, Z) pj_eV q.1 q.2 := List.forall_mem_append.mpr ⟨sd_X0_undoLatest_0 C, sd_X0_undoLatest_1 C⟩
set_option maxRecDepth 20000 in
theorem eq_X0_undoLatest (a1 : Nat) (m : pj_M) : pj_run tb_X0_undoLatest [] 80 0 [some (.inr (.inr (0, 0, 17))), some (.inr (.inr (0, 4, a1))), none] [] m = F_X0_undoLatest a1 m := by rfl
theorem ct_X0_undoLatest : pj_Ct pj_eV y_X0_undoLatest c_X0_undoLatest 3 none 3 W_X0_undoLatest := by
  refine pj_ct_of (by decide +kernel) ?_ ?_
  · intro as m r h
    unfold W_X0_undoLatest at h
    split at h
    · simp [pj_l0]
    · cases h
  · intro G A P S Z C as m r h hR
    unfold W_X0_undoLatest at h
    split at h
    · split at h
      · rename_i hbq
        simp only [Bool.and_eq_true, Nat.beq_eq] at hbq
        obtain ⟨rfl, rfl, rfl, rfl, rfl⟩ := hbq
        exact pj_run_ok (sd_X0_undoLatest C) (fun q h => by cases h) 80 0 _ _ _ _ ((eq_X0_undoLatest _ _).trans h) hR
      · cases h
    · cases h
/-! AlikeSteps$Net.states()I -/
abbrev c_X4_states : ByteArray := prog_6_method_2_code
def y_X4_states : MethodName := ⟨RX4, "states", "()I"⟩
noncomputable def F_X4_states (a0 : Nat) (m : pj_M) : Option (Int32 × pj_M) := (some (m.1 a0 2, m))
noncomputable def W_X4_states : List pj_V → pj_M → Option (Int32 × pj_M) := fun as m => match as with
  | [.inr (.inr (t0, w0, a0))] => (match Nat.beq t0 0 && (Nat.beq w0 4) with
    | true => F_X4_states a0 m
    | false => none)
  | _ => none
noncomputable def tb_X4_states_0 : List (Nat × pj_T (Int32 × pj_M)) := [(0, qs_lda 0 1), (1, qs_gf 4 2 4), (4, qs_iret)]
noncomputable abbrev tb_X4_states : List (Nat × pj_T (Int32 × pj_M)) := tb_X4_states_0
theorem mv_X4_states : pj_mv y_X4_states c_X4_states 1 (some .int) 0 := ⟨⟨cw_529, cw_527, cw_528, cw_84⟩, by decide +kernel, by decide⟩
set_option maxRecDepth 20000 in
theorem sd_X4_states_0 {G : pj_E} {A : Nat → Prop} {P : pj_P} {S : pj_U} {Z : pj_Z} (C : pj_C (G, A, (c_X4_states, y_X4_states.cls, 1, (some .int), 1), P, S, Z)) : ∀ q ∈ tb_X4_states_0, pj_S (G, A, (c_X4_states, y_X4_states.cls, 1, (some .int), 1), P, S, Z) pj_eI q.1 q.2 :=
  List.forall_mem_cons.mpr ⟨qz_aload_n C (show decode c_X4_states 0 = .ok (.aload_n 0, 1) by decide +kernel) rfl,
  List.forall_mem_cons.mpr ⟨qz_gf (k := 2) C (show decode c_X4_states 1 = .ok (.getfield 18, 3) by decide +kernel) vcX4 wiX4 (by decide) cw_145,
  List.forall_mem_cons.mpr ⟨qz_iret C (show decode c_X4_states 4 = .ok (.ireturn, 1) by decide +kernel) rfl,
  (fun q h => by cases h)⟩⟩⟩
theorem sd_X4_states {G : pj_E} {A : Nat → Prop} {P : pj_P} {S : pj_U} {Z : pj_Z} (C : pj_C (G, A, (c_X4_states, y_X4_states.cls, 1, (some .int), 1), P, S, Z)) : ∀ q ∈ tb_X4_states, pj_S (G, A, (c_X4_states, y_X4_states.cls, 1, (some .int), 1), P, S, Z) pj_eI q.1 q.2 := sd_X4_states_0 C
set_option maxRecDepth 20000 in
theorem eq_X4_states (a0 : Nat) (m : pj_M) : pj_run tb_X4_states [] 5 0 [some (.inr (.inr (0, 4, a0)))] [] m = F_X4_states a0 m := by rfl
theorem ct_X4_states : pj_Ct pj_eI y_X4_states c_X4_states 1 (some .int) 1 W_X4_states := by
  refine pj_ct_of (by decide +kernel) ?_ ?_
  · intro as m r h
    unfold W_X4_states at h
    split at h
    · simp [pj_l0]
    · cases h
  · intro G A P S Z C as m r h hR
    unfold W_X4_states at h
    split at h
    · split at h
      · rename_i hbq
        simp only [Bool.and_eq_true, Nat.beq_eq] at hbq
        obtain ⟨rfl, rfl⟩ := hbq
        exact pj_run_ok (sd_X4_states C) (fun q h => by cases h) 5 0 _ _ _ _ ((eq_X4_states _ _).trans h) hR
      · cases h
    · cases h
/-! AlikeSteps$Net.version()I -/
abbrev c_X4_version : ByteArray := prog_6_method_4_code
def y_X4_version : MethodName := ⟨RX4, "version", "()I"⟩
noncomputable def F_X4_version (a0 : Nat) (m : pj_M) : Option (Int32 × pj_M) := (some (m.1 a0 4, m))
noncomputable def W_X4_version : List pj_V → pj_M → Option (Int32 × pj_M) := fun as m => match as with
  | [.inr (.inr (t0, w0, a0))] => (match Nat.beq t0 0 && (Nat.beq w0 4) with
    | true => F_X4_version a0 m
    | false => none)
  | _ => none
noncomputable def tb_X4_version_0 : List (Nat × pj_T (Int32 × pj_M)) := [(0, qs_lda 0 1), (1, qs_gf 4 4 4), (4, qs_iret)]
noncomputable abbrev tb_X4_version : List (Nat × pj_T (Int32 × pj_M)) := tb_X4_version_0
theorem mv_X4_version : pj_mv y_X4_version c_X4_version 1 (some .int) 0 := ⟨⟨cw_641, cw_639, cw_640, cw_84⟩, by decide +kernel, by decide⟩
set_option maxRecDepth 20000 in
theorem sd_X4_version_0 {G : pj_E} {A : Nat → Prop} {P : pj_P} {S : pj_U} {Z : pj_Z} (C : pj_C (G, A, (c_X4_version, y_X4_version.cls, 1, (some .int), 1), P, S, Z)) : ∀ q ∈ tb_X4_version_0, pj_S (G, A, (c_X4_version, y_X4_version.cls, 1, (some .int), 1), P, S, Z) pj_eI q.1 q.2 :=
  List.forall_mem_cons.mpr ⟨qz_aload_n C (show decode c_X4_version 0 = .ok (.aload_n 0, 1) by decide +kernel) rfl,
  List.forall_mem_cons.mpr ⟨qz_gf (k := 4) C (show decode c_X4_version 1 = .ok (.getfield 25, 3) by decide +kernel) vcX4 wiX4 (by decide) cw_147,
  List.forall_mem_cons.mpr ⟨qz_iret C (show decode c_X4_version 4 = .ok (.ireturn, 1) by decide +kernel) rfl,
  (fun q h => by cases h)⟩⟩⟩
theorem sd_X4_version {G : pj_E} {A : Nat → Prop} {P : pj_P} {S : pj_U} {Z : pj_Z} (C : pj_C (G, A, (c_X4_version, y_X4_version.cls, 1, (some .int), 1), P, S, Z)) : ∀ q ∈ tb_X4_version, pj_S (G, A, (c_X4_version, y_X4_version.cls, 1, (some .int), 1), P, S, Z) pj_eI q.1 q.2 := sd_X4_version_0 C
set_option maxRecDepth 20000 in
theorem eq_X4_version (a0 : Nat) (m : pj_M) : pj_run tb_X4_version [] 5 0 [some (.inr (.inr (0, 4, a0)))] [] m = F_X4_version a0 m := by rfl
theorem ct_X4_version : pj_Ct pj_eI y_X4_version c_X4_version 1 (some .int) 1 W_X4_version := by
  refine pj_ct_of (by decide +kernel) ?_ ?_
  · intro as m r h
    unfold W_X4_version at h
    split at h
    · simp [pj_l0]
    · cases h
  · intro G A P S Z C as m r h hR
    unfold W_X4_version at h
    split at h
    · split at h
      · rename_i hbq
        simp only [Bool.and_eq_true, Nat.beq_eq] at hbq
        obtain ⟨rfl, rfl⟩ := hbq
        exact pj_run_ok (sd_X4_version C) (fun q h => by cases h) 5 0 _ _ _ _ ((eq_X4_version _ _).trans h) hR
      · cases h
    · cases h
/-! AlikeSteps$Net.hasState(I)Z -/
abbrev c_X4_hasState : ByteArray := prog_6_method_5_code
def y_X4_hasState : MethodName := ⟨RX4, "hasState", "(I)Z"⟩
noncomputable def F_X4_hasState (a0 : Nat) (x1 : Int32) (m : pj_M) : Option (Int32 × pj_M) := (if x1 < 0 then (some (0, m)) else (if x1 < (m.1 a0 2) then (some (1, m)) else (some (0, m))))
noncomputable def W_X4_hasState : List pj_V → pj_M → Option (Int32 × pj_M) := fun as m => match as with
  | [.inr (.inr (t0, w0, a0)), .inl x1] => (match Nat.beq t0 0 && (Nat.beq w0 4) with
    | true => F_X4_hasState a0 x1 m
    | false => none)
  | _ => none
noncomputable def tb_X4_hasState_0 : List (Nat × pj_T (Int32 × pj_M)) := [(0, qs_ldi 1 1), (1, qs_iflt 16 4), (4, qs_ldi 1 5), (5, qs_lda 0 6), (6, qs_gf 4 2 9), (9, qs_icge 16 12), (12, qs_ci 1 13), (13, qs_go 17), (16, qs_ci 0 17), (17, qs_zret)]
noncomputable abbrev tb_X4_hasState : List (Nat × pj_T (Int32 × pj_M)) := tb_X4_hasState_0
theorem mv_X4_hasState : pj_mv y_X4_hasState c_X4_hasState 2 (some .boolean) 1 := ⟨⟨cw_491, cw_489, cw_490, cw_84⟩, by decide +kernel, by decide⟩
set_option maxRecDepth 20000 in
theorem sd_X4_hasState_0 {G : pj_E} {A : Nat → Prop} {P : pj_P} {S : pj_U} {Z : pj_Z} (C : pj_C (G, A, (c_X4_hasState, y_X4_hasState.cls, 2, (some .boolean), 1), P, S, Z)) : ∀ q ∈ tb_X4_hasState_0, pj_S (G, A, (c_X4_hasState, y_X4_hasState.cls, 2, (some .boolean), 1), P, S, Z) pj_eI q.1 q.2 :=
  List.forall_mem_cons.mpr ⟨qz_iload_n C (show decode c_X4_hasState 0 = .ok (.iload_n 1, 1) by decide +kernel) rfl,
  List.forall_mem_cons.mpr ⟨qz_iflt C (show decode c_X4_hasState 1 = .ok (.ifCond .lt 15, 3) by decide +kernel) (by decide),
  List.forall_mem_cons.mpr ⟨qz_iload_n C (show decode c_X4_hasState 4 = .ok (.iload_n 1, 1) by decide +kernel) rfl,
  List.forall_mem_cons.mpr ⟨qz_aload_n C (show decode c_X4_hasState 5 = .ok (.aload_n 0, 1) by decide +kernel) rfl,
  List.forall_mem_cons.mpr ⟨qz_gf (k := 2) C (show decode c_X4_hasState 6 = .ok (.getfield 18, 3) by decide +kernel) vcX4 wiX4 (by decide) cw_145,
  List.forall_mem_cons.mpr ⟨qz_icge C (show decode c_X4_hasState 9 = .ok (.if_icmp .ge 7, 3) by decide +kernel) (by decide),
  List.forall_mem_cons.mpr ⟨qz_iconst C (show decode c_X4_hasState 12 = .ok (.iconst 1, 1) by decide +kernel) (by decide +kernel),
  List.forall_mem_cons.mpr ⟨qz_goto C (show decode c_X4_hasState 13 = .ok (.goto 4, 3) by decide +kernel) (by decide),
  List.forall_mem_cons.mpr ⟨qz_iconst C (show decode c_X4_hasState 16 = .ok (.iconst 0, 1) by decide +kernel) (by decide +kernel),
  List.forall_mem_cons.mpr ⟨qz_zret C (show decode c_X4_hasState 17 = .ok (.ireturn, 1) by decide +kernel) rfl,
  (fun q h => by cases h)⟩⟩⟩⟩⟩⟩⟩⟩⟩⟩
theorem sd_X4_hasState {G : pj_E} {A : Nat → Prop} {P : pj_P} {S : pj_U} {Z : pj_Z} (C : pj_C (G, A, (c_X4_hasState, y_X4_hasState.cls, 2, (some .boolean), 1), P, S, Z)) : ∀ q ∈ tb_X4_hasState, pj_S (G, A, (c_X4_hasState, y_X4_hasState.cls, 2, (some .boolean), 1), P, S, Z) pj_eI q.1 q.2 := sd_X4_hasState_0 C
set_option maxRecDepth 20000 in
theorem eq_X4_hasState (a0 : Nat) (x1 : Int32) (m : pj_M) : pj_run tb_X4_hasState [] 12 0 [some (.inr (.inr (0, 4, a0))), some (.inl x1)] [] m = F_X4_hasState a0 x1 m := by rfl
theorem ct_X4_hasState : pj_Ct pj_eI y_X4_hasState c_X4_hasState 2 (some .boolean) 1 W_X4_hasState := by
  refine pj_ct_of (by decide +kernel) ?_ ?_
  · intro as m r h
    unfold W_X4_hasState at h
    split at h
    · simp [pj_l0]
    · cases h
  · intro G A P S Z C as m r h hR
    unfold W_X4_hasState at h
    split at h
    · split at h
      · rename_i hbq
        simp only [Bool.and_eq_true, Nat.beq_eq] at hbq
        obtain ⟨rfl, rfl⟩ := hbq
        exact pj_run_ok (sd_X4_hasState C) (fun q h => by cases h) 12 0 _ _ _ _ ((eq_X4_hasState _ _ _).trans h) hR
      · cases h
    · cases h
/-! AlikeSteps$Net.kindOf(I)I -/
abbrev c_X4_kindOf : ByteArray := prog_6_method_7_code
def y_X4_kindOf : MethodName := ⟨RX4, "kindOf", "(I)I"⟩
noncomputable def F_X4_kindOf (a0 : Nat) (x1 : Int32) (m : pj_M) : Option (Int32 × pj_M) := (if x1 < 0 ∨ 10 ≤ x1.toNatClampNeg then none else (some (m.1 (a0 + 1) x1.toNatClampNeg, m)))
noncomputable def W_X4_kindOf : List pj_V → pj_M → Option (Int32 × pj_M) := fun as m => match as with
  | [.inr (.inr (t0, w0, a0)), .inl x1] => (match Nat.beq t0 0 && (Nat.beq w0 4) with
    | true => F_X4_kindOf a0 x1 m
    | false => none)
  | _ => none
noncomputable def tb_X4_kindOf_0 : List (Nat × pj_T (Int32 × pj_M)) := [(0, qs_lda 0 1), (1, qs_gf 4 0 4), (4, qs_ldi 1 5), (5, qs_iald 6), (6, qs_iret)]
noncomputable abbrev tb_X4_kindOf : List (Nat × pj_T (Int32 × pj_M)) := tb_X4_kindOf_0
theorem mv_X4_kindOf : pj_mv y_X4_kindOf c_X4_kindOf 2 (some .int) 1 := ⟨⟨cw_595, cw_593, cw_594, cw_84⟩, by decide +kernel, by decide⟩
set_option maxRecDepth 20000 in
theorem sd_X4_kindOf_0 {G : pj_E} {A : Nat → Prop} {P : pj_P} {S : pj_U} {Z : pj_Z} (C : pj_C (G, A, (c_X4_kindOf, y_X4_kindOf.cls, 2, (some .int), 1), P, S, Z)) : ∀ q ∈ tb_X4_kindOf_0, pj_S (G, A, (c_X4_kindOf, y_X4_kindOf.cls, 2, (some .int), 1), P, S, Z) pj_eI q.1 q.2 :=
  List.forall_mem_cons.mpr ⟨qz_aload_n C (show decode c_X4_kindOf 0 = .ok (.aload_n 0, 1) by decide +kernel) rfl,
  List.forall_mem_cons.mpr ⟨qz_gf (k := 0) C (show decode c_X4_kindOf 1 = .ok (.getfield 9, 3) by decide +kernel) vcX4 wiX4 (by decide) cw_143,
  List.forall_mem_cons.mpr ⟨qz_iload_n C (show decode c_X4_kindOf 4 = .ok (.iload_n 1, 1) by decide +kernel) rfl,
  List.forall_mem_cons.mpr ⟨qz_iald C (show decode c_X4_kindOf 5 = .ok (.iaload, 1) by decide +kernel),
  List.forall_mem_cons.mpr ⟨qz_iret C (show decode c_X4_kindOf 6 = .ok (.ireturn, 1) by decide +kernel) rfl,
  (fun q h => by cases h)⟩⟩⟩⟩⟩
theorem sd_X4_kindOf {G : pj_E} {A : Nat → Prop} {P : pj_P} {S : pj_U} {Z : pj_Z} (C : pj_C (G, A, (c_X4_kindOf, y_X4_kindOf.cls, 2, (some .int), 1), P, S, Z)) : ∀ q ∈ tb_X4_kindOf, pj_S (G, A, (c_X4_kindOf, y_X4_kindOf.cls, 2, (some .int), 1), P, S, Z) pj_eI q.1 q.2 := sd_X4_kindOf_0 C
set_option maxRecDepth 20000 in
theorem eq_X4_kindOf (a0 : Nat) (x1 : Int32) (m : pj_M) : pj_run tb_X4_kindOf [] 7 0 [some (.inr (.inr (0, 4, a0))), some (.inl x1)] [] m = F_X4_kindOf a0 x1 m := by rfl
theorem ct_X4_kindOf : pj_Ct pj_eI y_X4_kindOf c_X4_kindOf 2 (some .int) 1 W_X4_kindOf := by
  refine pj_ct_of (by decide +kernel) ?_ ?_
  · intro as m r h
    unfold W_X4_kindOf at h
    split at h
    · simp [pj_l0]
    · cases h
  · intro G A P S Z C as m r h hR
    unfold W_X4_kindOf at h
    split at h
    · split at h
      · rename_i hbq
        simp only [Bool.and_eq_true, Nat.beq_eq] at hbq
        obtain ⟨rfl, rfl⟩ := hbq
        exact pj_run_ok (sd_X4_kindOf C) (fun q h => by cases h) 7 0 _ _ _ _ ((eq_X4_kindOf _ _ _).trans h) hR
      · cases h
    · cases h
/-! AlikeSteps$Net.all()I -/
abbrev c_X4_all : ByteArray := prog_6_method_9_code
def y_X4_all : MethodName := ⟨RX4, "all", "()I"⟩
noncomputable def F_X4_all (a0 : Nat) (m : pj_M) : Option (Int32 × pj_M) := (some ((1 <<< ((m.1 a0 2) &&& 31)) - 1, m))
noncomputable def W_X4_all : List pj_V → pj_M → Option (Int32 × pj_M) := fun as m => match as with
  | [.inr (.inr (t0, w0, a0))] => (match Nat.beq t0 0 && (Nat.beq w0 4) with
    | true => F_X4_all a0 m
    | false => none)
  | _ => none
noncomputable def tb_X4_all_0 : List (Nat × pj_T (Int32 × pj_M)) := [(0, qs_ci 1 1), (1, qs_lda 0 2), (2, qs_gf 4 2 5), (5, qs_b2 (fun x y => x <<< (y &&& 31)) 6), (6, qs_ci 1 7), (7, qs_b2 (fun x y => x - y) 8), (8, qs_iret)]
noncomputable abbrev tb_X4_all : List (Nat × pj_T (Int32 × pj_M)) := tb_X4_all_0
theorem mv_X4_all : pj_mv y_X4_all c_X4_all 1 (some .int) 0 := ⟨⟨cw_846, cw_844, cw_845, cw_84⟩, by decide +kernel, by decide⟩
set_option maxRecDepth 20000 in
theorem sd_X4_all_0 {G : pj_E} {A : Nat → Prop} {P : pj_P} {S : pj_U} {Z : pj_Z} (C : pj_C (G, A, (c_X4_all, y_X4_all.cls, 1, (some .int), 1), P, S, Z)) : ∀ q ∈ tb_X4_all_0, pj_S (G, A, (c_X4_all, y_X4_all.cls, 1, (some .int), 1), P, S, Z) pj_eI q.1 q.2 :=
  List.forall_mem_cons.mpr ⟨qz_iconst C (show decode c_X4_all 0 = .ok (.iconst 1, 1) by decide +kernel) (by decide +kernel),
  List.forall_mem_cons.mpr ⟨qz_aload_n C (show decode c_X4_all 1 = .ok (.aload_n 0, 1) by decide +kernel) rfl,
  List.forall_mem_cons.mpr ⟨qz_gf (k := 2) C (show decode c_X4_all 2 = .ok (.getfield 18, 3) by decide +kernel) vcX4 wiX4 (by decide) cw_145,
  List.forall_mem_cons.mpr ⟨qz_ishl C (show decode c_X4_all 5 = .ok (.ishl, 1) by decide +kernel),
  List.forall_mem_cons.mpr ⟨qz_iconst C (show decode c_X4_all 6 = .ok (.iconst 1, 1) by decide +kernel) (by decide +kernel),
  List.forall_mem_cons.mpr ⟨qz_isub C (show decode c_X4_all 7 = .ok (.isub, 1) by decide +kernel),
  List.forall_mem_cons.mpr ⟨qz_iret C (show decode c_X4_all 8 = .ok (.ireturn, 1) by decide +kernel) rfl,
  (fun q h => by cases h)⟩⟩⟩⟩⟩⟩⟩
theorem sd_X4_all {G : pj_E} {A : Nat → Prop} {P : pj_P} {S : pj_U} {Z : pj_Z} (C : pj_C (G, A, (c_X4_all, y_X4_all.cls, 1, (some .int), 1), P, S, Z)) : ∀ q ∈ tb_X4_all, pj_S (G, A, (c_X4_all, y_X4_all.cls, 1, (some .int), 1), P, S, Z) pj_eI q.1 q.2 := sd_X4_all_0 C
set_option maxRecDepth 20000 in
theorem eq_X4_all (a0 : Nat) (m : pj_M) : pj_run tb_X4_all [] 9 0 [some (.inr (.inr (0, 4, a0)))] [] m = F_X4_all a0 m := by rfl
theorem ct_X4_all : pj_Ct pj_eI y_X4_all c_X4_all 1 (some .int) 1 W_X4_all := by
  refine pj_ct_of (by decide +kernel) ?_ ?_
  · intro as m r h
    unfold W_X4_all at h
    split at h
    · simp [pj_l0]
    · cases h
  · intro G A P S Z C as m r h hR
    unfold W_X4_all at h
    split at h
    · split at h
      · rename_i hbq
        simp only [Bool.and_eq_true, Nat.beq_eq] at hbq
        obtain ⟨rfl, rfl⟩ := hbq
        exact pj_run_ok (sd_X4_all C) (fun q h => by cases h) 9 0 _ _ _ _ ((eq_X4_all _ _).trans h) hR
      · cases h
    · cases h
/-! AlikeSteps$Net.marked()I -/
abbrev c_X4_marked : ByteArray := prog_6_method_10_code
def y_X4_marked : MethodName := ⟨RX4, "marked", "()I"⟩
noncomputable def H_X4_marked_4 : Nat → Nat → Int32 → Int32 → pj_M → Option (Int32 × pj_M)
  | 0, _, _, _, _ => none
  | n1 + 1, a0, x1, x2, m => (if x2 < (m.1 a0 2) then (if x2 < 0 ∨ 10 ≤ x2.toNatClampNeg then none else (if (m.1 (a0 + 1) x2.toNatClampNeg) = 2 then (H_X4_marked_4 n1 a0 (x1 ||| (1 <<< (x2 &&& 31))) (x2 + 1) m) else (if x2 < 0 ∨ 10 ≤ x2.toNatClampNeg then none else (if (m.1 (a0 + 1) x2.toNatClampNeg) = 5 then (H_X4_marked_4 n1 a0 (x1 ||| (1 <<< (x2 &&& 31))) (x2 + 1) m) else (H_X4_marked_4 n1 a0 x1 (x2 + 1) m))))) else (some (x1, m)))
noncomputable def F_X4_marked (a0 : Nat) (m : pj_M) : Option (Int32 × pj_M) := (H_X4_marked_4 pj_z a0 0 0 m)
noncomputable def W_X4_marked : List pj_V → pj_M → Option (Int32 × pj_M) := fun as m => match as with
  | [.inr (.inr (t0, w0, a0))] => (match Nat.beq t0 0 && (Nat.beq w0 4) with
    | true => F_X4_marked a0 m
    | false => none)
  | _ => none
noncomputable def tb_X4_marked_0 : List (Nat × pj_T (Int32 × pj_M)) := [(0, qs_ci 0 1), (1, qs_sti 1 2), (2, qs_ci 0 3), (3, qs_sti 2 4), (4, qs_ldi 2 5), (5, qs_lda 0 6), (6, qs_gf 4 2 9), (9, qs_icge 44 12), (12, qs_lda 0 13), (13, qs_gf 4 0 16), (16, qs_ldi 2 17), (17, qs_iald 18), (18, qs_ci 2 19), (19, qs_iceq 32 22), (22, qs_lda 0 23), (23, qs_gf 4 0 26), (26, qs_ldi 2 27), (27, qs_iald 28), (28, qs_ci 5 29), (29, qs_icne 38 32), (32, qs_ldi 1 33), (33, qs_ci 1 34), (34, qs_ldi 2 35), (35, qs_b2 (fun x y => x <<< (y &&& 31)) 36), (36, qs_b2 (fun x y => x ||| y) 37), (37, qs_sti 1 38), (38, qs_inc 2 1 41), (41, qs_go 4), (44, qs_ldi 1 45), (45, qs_iret)]
noncomputable abbrev tb_X4_marked : List (Nat × pj_T (Int32 × pj_M)) := tb_X4_marked_0
theorem mv_X4_marked : pj_mv y_X4_marked c_X4_marked 3 (some .int) 0 := ⟨⟨cw_699, cw_697, cw_698, cw_84⟩, by decide +kernel, by decide⟩
set_option maxRecDepth 20000 in
theorem sd_X4_marked_0 {G : pj_E} {A : Nat → Prop} {P : pj_P} {S : pj_U} {Z : pj_Z} (C : pj_C (G, A, (c_X4_marked, y_X4_marked.cls, 3, (some .int), 1), P, S, Z)) : ∀ q ∈ tb_X4_marked_0, pj_S (G, A, (c_X4_marked, y_X4_marked.cls, 3, (some .int), 1), P, S, Z) pj_eI q.1 q.2 :=
  List.forall_mem_cons.mpr ⟨qz_iconst C (show decode c_X4_marked 0 = .ok (.iconst 0, 1) by decide +kernel) (by decide +kernel),
  List.forall_mem_cons.mpr ⟨qz_istore_n C (show decode c_X4_marked 1 = .ok (.istore_n 1, 1) by decide +kernel) rfl,
  List.forall_mem_cons.mpr ⟨qz_iconst C (show decode c_X4_marked 2 = .ok (.iconst 0, 1) by decide +kernel) (by decide +kernel),
  List.forall_mem_cons.mpr ⟨qz_istore_n C (show decode c_X4_marked 3 = .ok (.istore_n 2, 1) by decide +kernel) rfl,
  List.forall_mem_cons.mpr ⟨qz_iload_n C (show decode c_X4_marked 4 = .ok (.iload_n 2, 1) by decide +kernel) rfl,
  List.forall_mem_cons.mpr ⟨qz_aload_n C (show decode c_X4_marked 5 = .ok (.aload_n 0, 1) by decide +kernel) rfl,
  List.forall_mem_cons.mpr ⟨qz_gf (k := 2) C (show decode c_X4_marked 6 = .ok (.getfield 18, 3) by decide +kernel) vcX4 wiX4 (by decide) cw_145,
  List.forall_mem_cons.mpr ⟨qz_icge C (show decode c_X4_marked 9 = .ok (.if_icmp .ge 35, 3) by decide +kernel) (by decide),
  List.forall_mem_cons.mpr ⟨qz_aload_n C (show decode c_X4_marked 12 = .ok (.aload_n 0, 1) by decide +kernel) rfl,
  List.forall_mem_cons.mpr ⟨qz_gf (k := 0) C (show decode c_X4_marked 13 = .ok (.getfield 9, 3) by decide +kernel) vcX4 wiX4 (by decide) cw_143,
  List.forall_mem_cons.mpr ⟨qz_iload_n C (show decode c_X4_marked 16 = .ok (.iload_n 2, 1) by decide +kernel) rfl,
  List.forall_mem_cons.mpr ⟨qz_iald C (show decode c_X4_marked 17 = .ok (.iaload, 1) by decide +kernel),
  List.forall_mem_cons.mpr ⟨qz_iconst C (show decode c_X4_marked 18 = .ok (.iconst 2, 1) by decide +kernel) (by decide +kernel),
  List.forall_mem_cons.mpr ⟨qz_iceq C (show decode c_X4_marked 19 = .ok (.if_icmp .eq 13, 3) by decide +kernel) (by decide),
  List.forall_mem_cons.mpr ⟨qz_aload_n C (show decode c_X4_marked 22 = .ok (.aload_n 0, 1) by decide +kernel) rfl,
  List.forall_mem_cons.mpr ⟨qz_gf (k := 0) C (show decode c_X4_marked 23 = .ok (.getfield 9, 3) by decide +kernel) vcX4 wiX4 (by decide) cw_143,
  List.forall_mem_cons.mpr ⟨qz_iload_n C (show decode c_X4_marked 26 = .ok (.iload_n 2, 1) by decide +kernel) rfl,
  List.forall_mem_cons.mpr ⟨qz_iald C (show decode c_X4_marked 27 = .ok (.iaload, 1) by decide +kernel),
  List.forall_mem_cons.mpr ⟨qz_iconst C (show decode c_X4_marked 28 = .ok (.iconst 5, 1) by decide +kernel) (by decide +kernel),
  List.forall_mem_cons.mpr ⟨qz_icne C (show decode c_X4_marked 29 = .ok (.if_icmp .ne 9, 3) by decide +kernel) (by decide),
  List.forall_mem_cons.mpr ⟨qz_iload_n C (show decode c_X4_marked 32 = .ok (.iload_n 1, 1) by decide +kernel) rfl,
  List.forall_mem_cons.mpr ⟨qz_iconst C (show decode c_X4_marked 33 = .ok (.iconst 1, 1) by decide +kernel) (by decide +kernel),
  List.forall_mem_cons.mpr ⟨qz_iload_n C (show decode c_X4_marked 34 = .ok (.iload_n 2, 1) by decide +kernel) rfl,
  List.forall_mem_cons.mpr ⟨qz_ishl C (show decode c_X4_marked 35 = .ok (.ishl, 1) by decide +kernel),
  List.forall_mem_cons.mpr ⟨qz_ior C (show decode c_X4_marked 36 = .ok (.ior, 1) by decide +kernel),
  List.forall_mem_cons.mpr ⟨qz_istore_n C (show decode c_X4_marked 37 = .ok (.istore_n 1, 1) by decide +kernel) rfl,
  List.forall_mem_cons.mpr ⟨qz_iinc C (show decode c_X4_marked 38 = .ok (.iinc 2 1, 3) by decide +kernel) (by decide +kernel),
  List.forall_mem_cons.mpr ⟨qz_goto C (show decode c_X4_marked 41 = .ok (.goto (-37), 3) by decide +kernel) (by decide),
  List.forall_mem_cons.mpr ⟨qz_iload_n C (show decode c_X4_marked 44 = .ok (.iload_n 1, 1) by decide +kernel) rfl,
  List.forall_mem_cons.mpr ⟨qz_iret C (show decode c_X4_marked 45 = .ok (.ireturn, 1) by decide +kernel) rfl,
  (fun q h => by cases h)⟩⟩⟩⟩⟩⟩⟩⟩⟩⟩⟩⟩⟩⟩⟩⟩⟩⟩⟩⟩⟩⟩⟩⟩⟩⟩⟩⟩⟩⟩
theorem sd_X4_marked {G : pj_E} {A : Nat → Prop} {P : pj_P} {S : pj_U} {Z : pj_Z} (C : pj_C (G, A, (c_X4_marked, y_X4_marked.cls, 3, (some .int), 1), P, S, Z)) : ∀ q ∈ tb_X4_marked, pj_S (G, A, (c_X4_marked, y_X4_marked.cls, 3, (some .int), 1), P, S, Z) pj_eI q.1 q.2 := sd_X4_marked_0 C
noncomputable def C_X4_marked_4 (f : Nat → Int32 → Int32 → pj_M → Option (Int32 × pj_M)) : pj_N (Int32 × pj_M) := fun L st m => match L, st with
  | [some (.inr (.inr (t0, w0, a0))), some (.inl x1), some (.inl x2)], [] => (match Nat.beq t0 0 && (Nat.beq w0 4) with
    | true => f a0 x1 x2 m
    | false => none)
  | _, _ => none
set_option maxRecDepth 20000 in
theorem eq_X4_marked_4 (n1 : Nat) (a0 : Nat) (x1 : Int32) (x2 : Int32) (m : pj_M) : pj_run tb_X4_marked [(4, C_X4_marked_4 (H_X4_marked_4 n1))] 32 4 [some (.inr (.inr (0, 4, a0))), some (.inl x1), some (.inl x2)] [] m = H_X4_marked_4 (n1 + 1) a0 x1 x2 m := by rfl
theorem sg_X4_marked_4 {G : pj_E} {A : Nat → Prop} {P : pj_P} {S : pj_U} {Z : pj_Z} (C : pj_C (G, A, (c_X4_marked, y_X4_marked.cls, 3, (some .int), 1), P, S, Z)) : ∀ n1, pj_G (G, A, (c_X4_marked, y_X4_marked.cls, 3, (some .int), 1), P, S, Z) pj_eI 4 (C_X4_marked_4 (H_X4_marked_4 n1)) := by
  intro n1
  induction n1 with
  | zero =>
    intro L st m r h hR
    unfold C_X4_marked_4 at h
    split at h
    · split at h
      · cases h
      · cases h
    · cases h
  | succ n1 ih1 =>
    intro L st m r h hR
    unfold C_X4_marked_4 at h
    split at h
    · split at h
      · rename_i hbq
        simp only [Bool.and_eq_true, Nat.beq_eq] at hbq
        obtain ⟨rfl, rfl⟩ := hbq
        exact pj_run_ok (sd_X4_marked C) (List.forall_mem_cons.mpr ⟨ih1, fun q h => by cases h⟩) 32 4 _ _ _ _ ((eq_X4_marked_4 _ _ _ _ _).trans h) hR
      · cases h
    · cases h
set_option maxRecDepth 20000 in
theorem eq_X4_marked (a0 : Nat) (m : pj_M) : pj_run tb_X4_marked [(4, C_X4_marked_4 (H_X4_marked_4  pj_z))] 32 0 [some (.inr (.inr (0, 4, a0))), none, none] [] m = F_X4_marked a0 m := by rfl
theorem ct_X4_marked : pj_Ct pj_eI y_X4_marked c_X4_marked 3 (some .int) 1 W_X4_marked := by
  refine pj_ct_of (by decide +kernel) ?_ ?_
  · intro as m r h
    unfold W_X4_marked at h
    split at h
    · simp [pj_l0]
    · cases h
  · intro G A P S Z C as m r h hR
    unfold W_X4_marked at h
    split at h
    · split at h
      · rename_i hbq
        simp only [Bool.and_eq_true, Nat.beq_eq] at hbq
        obtain ⟨rfl, rfl⟩ := hbq
        exact pj_run_ok (sd_X4_marked C) (List.forall_mem_cons.mpr ⟨sg_X4_marked_4 C  pj_z, fun q h => by cases h⟩) 32 0 _ _ _ _ ((eq_X4_marked _ _).trans h) hR
      · cases h
    · cases h
/-! AlikeSteps$Net.clear()V -/
abbrev c_X4_clear : ByteArray := prog_6_method_11_code
def y_X4_clear : MethodName := ⟨RX4, "clear", "()V"⟩
noncomputable def F_X4_clear (a0 : Nat) (m : pj_M) : Option (pj_M) := (some (pj_wr (pj_wr (pj_wr m a0 2 0) a0 3 0) a0 4 (((pj_wr (pj_wr m a0 2 0) a0 3 0).1 a0 4) + 1)))
noncomputable def W_X4_clear : List pj_V → pj_M → Option (pj_M) := fun as m => match as with
  | [.inr (.inr (t0, w0, a0))] => (match Nat.beq t0 0 && (Nat.beq w0 4) with
    | true => F_X4_clear a0 m
    | false => none)
  | _ => none
noncomputable def tb_X4_clear_0 : List (Nat × pj_T (pj_M)) := [(0, qs_lda 0 1), (1, qs_ci 0 2), (2, qs_pf 4 2 5), (5, qs_lda 0 6), (6, qs_ci 0 7), (7, qs_pf 4 3 10), (10, qs_lda 0 11), (11, qs_dup 12), (12, qs_gf 4 4 15), (15, qs_ci 1 16), (16, qs_b2 (fun x y => x + y) 17), (17, qs_pf 4 4 20), (20, qs_vret)]
noncomputable abbrev tb_X4_clear : List (Nat × pj_T (pj_M)) := tb_X4_clear_0
theorem mv_X4_clear : pj_mv y_X4_clear c_X4_clear 1 none 0 := ⟨⟨cw_449, cw_447, cw_448, cw_84⟩, by decide +kernel, by decide⟩
set_option maxRecDepth 20000 in
theorem sd_X4_clear_0 {G : pj_E} {A : Nat → Prop} {P : pj_P} {S : pj_U} {Z : pj_Z} (C : pj_C (G, A, (c_X4_clear, y_X4_clear.cls, 1, none, 1), P, S, Z)) : ∀ q ∈ tb_X4_clear_0, pj_S (G, A, (c_X4_clear, y_X4_clear.cls, 1, none, 1), P, S, Z) pj_eV q.1 q.2 :=
  List.forall_mem_cons.mpr ⟨qz_aload_n C (show decode c_X4_clear 0 = .ok (.aload_n 0, 1) by decide +kernel) rfl,
  List.forall_mem_cons.mpr ⟨qz_iconst C (show decode c_X4_clear 1 = .ok (.iconst 0, 1) by decide +kernel) (by decide +kernel),
  List.forall_mem_cons.mpr ⟨qz_pf (k := 2) C (show decode c_X4_clear 2 = .ok (.putfield 18, 3) by decide +kernel) vcX4 wiX4 tyX4_ok nmX4 (by decide) cw_145 rfl rfl,
  List.forall_mem_cons.mpr ⟨qz_aload_n C (show decode c_X4_clear 5 = .ok (.aload_n 0, 1) by decide +kernel) rfl,
  List.forall_mem_cons.mpr ⟨qz_iconst C (show decode c_X4_clear 6 = .ok (.iconst 0, 1) by decide +kernel) (by decide +kernel),
  List.forall_mem_cons.mpr ⟨qz_pf (k := 3) C (show decode c_X4_clear 7 = .ok (.putfield 22, 3) by decide +kernel) vcX4 wiX4 tyX4_ok nmX4 (by decide) cw_146 rfl rfl,
  List.forall_mem_cons.mpr ⟨qz_aload_n C (show decode c_X4_clear 10 = .ok (.aload_n 0, 1) by decide +kernel) rfl,
  List.forall_mem_cons.mpr ⟨qz_dup C (show decode c_X4_clear 11 = .ok (.dup, 1) by decide +kernel),
  List.forall_mem_cons.mpr ⟨qz_gf (k := 4) C (show decode c_X4_clear 12 = .ok (.getfield 25, 3) by decide +kernel) vcX4 wiX4 (by decide) cw_147,
  List.forall_mem_cons.mpr ⟨qz_iconst C (show decode c_X4_clear 15 = .ok (.iconst 1, 1) by decide +kernel) (by decide +kernel),
  List.forall_mem_cons.mpr ⟨qz_iadd C (show decode c_X4_clear 16 = .ok (.iadd, 1) by decide +kernel),
  List.forall_mem_cons.mpr ⟨qz_pf (k := 4) C (show decode c_X4_clear 17 = .ok (.putfield 25, 3) by decide +kernel) vcX4 wiX4 tyX4_ok nmX4 (by decide) cw_147 rfl rfl,
  List.forall_mem_cons.mpr ⟨qz_vret C (show decode c_X4_clear 20 = .ok (.return_, 1) by decide +kernel) rfl,
  (fun q h => by cases h)⟩⟩⟩⟩⟩⟩⟩⟩⟩⟩⟩⟩⟩
theorem sd_X4_clear {G : pj_E} {A : Nat → Prop} {P : pj_P} {S : pj_U} {Z : pj_Z} (C : pj_C (G, A, (c_X4_clear, y_X4_clear.cls, 1, none, 1), P, S, Z)) : ∀ q ∈ tb_X4_clear, pj_S (G, A, (c_X4_clear, y_X4_clear.cls, 1, none, 1), P, S, Z) pj_eV q.1 q.2 := sd_X4_clear_0 C
set_option maxRecDepth 20000 in
theorem eq_X4_clear (a0 : Nat) (m : pj_M) : pj_run tb_X4_clear [] 15 0 [some (.inr (.inr (0, 4, a0)))] [] m = F_X4_clear a0 m := by rfl
theorem ct_X4_clear : pj_Ct pj_eV y_X4_clear c_X4_clear 1 none 1 W_X4_clear := by
  refine pj_ct_of (by decide +kernel) ?_ ?_
  · intro as m r h
    unfold W_X4_clear at h
    split at h
    · simp [pj_l0]
    · cases h
  · intro G A P S Z C as m r h hR
    unfold W_X4_clear at h
    split at h
    · split at h
      · rename_i hbq
        simp only [Bool.and_eq_true, Nat.beq_eq] at hbq
        obtain ⟨rfl, rfl⟩ := hbq
        exact pj_run_ok (sd_X4_clear C) (fun q h => by cases h) 15 0 _ _ _ _ ((eq_X4_clear _ _).trans h) hR
      · cases h
    · cases h
/-! AlikeSteps$Net.takeOver(LAlikeSteps$Net;)V -/
abbrev c_X4_takeOver : ByteArray := prog_6_method_12_code
def y_X4_takeOver : MethodName := ⟨RX4, "takeOver", "(LAlikeSteps$Net;)V"⟩
noncomputable def F_X4_takeOver (a0 : Nat) (a1 : Nat) (m : pj_M) : Option (pj_M) := (if ((0 : Int32) < 0 ∨ (0 : Int32) < 0 ∨ (Int32.ofNat 10) < 0) ∨ 10 < (0 : Int32).toNatClampNeg + (Int32.ofNat 10).toNatClampNeg ∨ 10 < (0 : Int32).toNatClampNeg + (Int32.ofNat 10).toNatClampNeg then none else (if ((0 : Int32) < 0 ∨ (0 : Int32) < 0 ∨ (Int32.ofNat 60) < 0) ∨ 60 < (0 : Int32).toNatClampNeg + (Int32.ofNat 60).toNatClampNeg ∨ 60 < (0 : Int32).toNatClampNeg + (Int32.ofNat 60).toNatClampNeg then none else (some (pj_wr (pj_wr (pj_wr (pj_cp (pj_cp m (a1 + 1) (0 : Int32).toNatClampNeg (a0 + 1) (0 : Int32).toNatClampNeg (Int32.ofNat 10).toNatClampNeg) (a1 + 2) (0 : Int32).toNatClampNeg (a0 + 2) (0 : Int32).toNatClampNeg (Int32.ofNat 60).toNatClampNeg) a0 2 ((pj_cp (pj_cp m (a1 + 1) (0 : Int32).toNatClampNeg (a0 + 1) (0 : Int32).toNatClampNeg (Int32.ofNat 10).toNatClampNeg) (a1 + 2) (0 : Int32).toNatClampNeg (a0 + 2) (0 : Int32).toNatClampNeg (Int32.ofNat 60).toNatClampNeg).1 a1 2)) a0 3 ((pj_wr (pj_cp (pj_cp m (a1 + 1) (0 : Int32).toNatClampNeg (a0 + 1) (0 : Int32).toNatClampNeg (Int32.ofNat 10).toNatClampNeg) (a1 + 2) (0 : Int32).toNatClampNeg (a0 + 2) (0 : Int32).toNatClampNeg (Int32.ofNat 60).toNatClampNeg) a0 2 ((pj_cp (pj_cp m (a1 + 1) (0 : Int32).toNatClampNeg (a0 + 1) (0 : Int32).toNatClampNeg (Int32.ofNat 10).toNatClampNeg) (a1 + 2) (0 : Int32).toNatClampNeg (a0 + 2) (0 : Int32).toNatClampNeg (Int32.ofNat 60).toNatClampNeg).1 a1 2)).1 a1 3)) a0 4 (((pj_wr (pj_wr (pj_cp (pj_cp m (a1 + 1) (0 : Int32).toNatClampNeg (a0 + 1) (0 : Int32).toNatClampNeg (Int32.ofNat 10).toNatClampNeg) (a1 + 2) (0 : Int32).toNatClampNeg (a0 + 2) (0 : Int32).toNatClampNeg (Int32.ofNat 60).toNatClampNeg) a0 2 ((pj_cp (pj_cp m (a1 + 1) (0 : Int32).toNatClampNeg (a0 + 1) (0 : Int32).toNatClampNeg (Int32.ofNat 10).toNatClampNeg) (a1 + 2) (0 : Int32).toNatClampNeg (a0 + 2) (0 : Int32).toNatClampNeg (Int32.ofNat 60).toNatClampNeg).1 a1 2)) a0 3 ((pj_wr (pj_cp (pj_cp m (a1 + 1) (0 : Int32).toNatClampNeg (a0 + 1) (0 : Int32).toNatClampNeg (Int32.ofNat 10).toNatClampNeg) (a1 + 2) (0 : Int32).toNatClampNeg (a0 + 2) (0 : Int32).toNatClampNeg (Int32.ofNat 60).toNatClampNeg) a0 2 ((pj_cp (pj_cp m (a1 + 1) (0 : Int32).toNatClampNeg (a0 + 1) (0 : Int32).toNatClampNeg (Int32.ofNat 10).toNatClampNeg) (a1 + 2) (0 : Int32).toNatClampNeg (a0 + 2) (0 : Int32).toNatClampNeg (Int32.ofNat 60).toNatClampNeg).1 a1 2)).1 a1 3)).1 a0 4) + 1)))))
noncomputable def W_X4_takeOver : List pj_V → pj_M → Option (pj_M) := fun as m => match as with
  | [.inr (.inr (t0, w0, a0)), .inr (.inr (t1, w1, a1))] => (match Nat.beq t0 0 && (Nat.beq w0 4 && (Nat.beq t1 0 && (Nat.beq w1 4))) with
    | true => F_X4_takeOver a0 a1 m
    | false => none)
  | _ => none
noncomputable def tb_X4_takeOver_0 : List (Nat × pj_T (pj_M)) := [(0, qs_lda 1 1), (1, qs_gf 4 0 4), (4, qs_ci 0 5), (5, qs_lda 0 6), (6, qs_gf 4 0 9), (9, qs_ci 0 10), (10, qs_lda 0 11), (11, qs_gf 4 0 14), (14, qs_alen 15), (15, qs_cpi 18), (18, qs_lda 1 19), (19, qs_gf 4 1 22), (22, qs_ci 0 23), (23, qs_lda 0 24), (24, qs_gf 4 1 27), (27, qs_ci 0 28), (28, qs_lda 0 29), (29, qs_gf 4 1 32), (32, qs_alen 33), (33, qs_cpi 36), (36, qs_lda 0 37), (37, qs_lda 1 38), (38, qs_gf 4 2 41), (41, qs_pf 4 2 44), (44, qs_lda 0 45), (45, qs_lda 1 46), (46, qs_gf 4 3 49), (49, qs_pf 4 3 52), (52, qs_lda 0 53), (53, qs_dup 54), (54, qs_gf 4 4 57), (57, qs_ci 1 58), (58, qs_b2 (fun x y => x + y) 59), (59, qs_pf 4 4 62), (62, qs_vret)]
noncomputable abbrev tb_X4_takeOver : List (Nat × pj_T (pj_M)) := tb_X4_takeOver_0
theorem mv_X4_takeOver : pj_mv y_X4_takeOver c_X4_takeOver 2 none 1 := ⟨⟨cw_521, cw_519, cw_520, cw_84⟩, by decide +kernel, by decide⟩
set_option maxRecDepth 20000 in
theorem sd_X4_takeOver_0 {G : pj_E} {A : Nat → Prop} {P : pj_P} {S : pj_U} {Z : pj_Z} (C : pj_C (G, A, (c_X4_takeOver, y_X4_takeOver.cls, 2, none, 1), P, S, Z)) : ∀ q ∈ tb_X4_takeOver_0, pj_S (G, A, (c_X4_takeOver, y_X4_takeOver.cls, 2, none, 1), P, S, Z) pj_eV q.1 q.2 :=
  List.forall_mem_cons.mpr ⟨qz_aload_n C (show decode c_X4_takeOver 0 = .ok (.aload_n 1, 1) by decide +kernel) rfl,
  List.forall_mem_cons.mpr ⟨qz_gf (k := 0) C (show decode c_X4_takeOver 1 = .ok (.getfield 9, 3) by decide +kernel) vcX4 wiX4 (by decide) cw_143,
  List.forall_mem_cons.mpr ⟨qz_iconst C (show decode c_X4_takeOver 4 = .ok (.iconst 0, 1) by decide +kernel) (by decide +kernel),
  List.forall_mem_cons.mpr ⟨qz_aload_n C (show decode c_X4_takeOver 5 = .ok (.aload_n 0, 1) by decide +kernel) rfl,
  List.forall_mem_cons.mpr ⟨qz_gf (k := 0) C (show decode c_X4_takeOver 6 = .ok (.getfield 9, 3) by decide +kernel) vcX4 wiX4 (by decide) cw_143,
  List.forall_mem_cons.mpr ⟨qz_iconst C (show decode c_X4_takeOver 9 = .ok (.iconst 0, 1) by decide +kernel) (by decide +kernel),
  List.forall_mem_cons.mpr ⟨qz_aload_n C (show decode c_X4_takeOver 10 = .ok (.aload_n 0, 1) by decide +kernel) rfl,
  List.forall_mem_cons.mpr ⟨qz_gf (k := 0) C (show decode c_X4_takeOver 11 = .ok (.getfield 9, 3) by decide +kernel) vcX4 wiX4 (by decide) cw_143,
  List.forall_mem_cons.mpr ⟨qz_alen C (show decode c_X4_takeOver 14 = .ok (.arraylength, 1) by decide +kernel),
  List.forall_mem_cons.mpr ⟨qz_cpi C (show decode c_X4_takeOver 15 = .ok (.invokestatic 28, 3) by decide +kernel) cw_504 cw_415 cw_414 cw_93,
  List.forall_mem_cons.mpr ⟨qz_aload_n C (show decode c_X4_takeOver 18 = .ok (.aload_n 1, 1) by decide +kernel) rfl,
  List.forall_mem_cons.mpr ⟨qz_gf (k := 1) C (show decode c_X4_takeOver 19 = .ok (.getfield 15, 3) by decide +kernel) vcX4 wiX4 (by decide) cw_144,
  List.forall_mem_cons.mpr ⟨qz_iconst C (show decode c_X4_takeOver 22 = .ok (.iconst 0, 1) by decide +kernel) (by decide +kernel),
  List.forall_mem_cons.mpr ⟨qz_aload_n C (show decode c_X4_takeOver 23 = .ok (.aload_n 0, 1) by decide +kernel) rfl,
  List.forall_mem_cons.mpr ⟨qz_gf (k := 1) C (show decode c_X4_takeOver 24 = .ok (.getfield 15, 3) by decide +kernel) vcX4 wiX4 (by decide) cw_144,
  List.forall_mem_cons.mpr ⟨qz_iconst C (show decode c_X4_takeOver 27 = .ok (.iconst 0, 1) by decide +kernel) (by decide +kernel),
  List.forall_mem_cons.mpr ⟨qz_aload_n C (show decode c_X4_takeOver 28 = .ok (.aload_n 0, 1) by decide +kernel) rfl,
  List.forall_mem_cons.mpr ⟨qz_gf (k := 1) C (show decode c_X4_takeOver 29 = .ok (.getfield 15, 3) by decide +kernel) vcX4 wiX4 (by decide) cw_144,
  List.forall_mem_cons.mpr ⟨qz_alen C (show decode c_X4_takeOver 32 = .ok (.arraylength, 1) by decide +kernel),
  List.forall_mem_cons.mpr ⟨qz_cpi C (show decode c_X4_takeOver 33 = .ok (.invokestatic 28, 3) by decide +kernel) cw_504 cw_415 cw_414 cw_93,
  List.forall_mem_cons.mpr ⟨qz_aload_n C (show decode c_X4_takeOver 36 = .ok (.aload_n 0, 1) by decide +kernel) rfl,
  List.forall_mem_cons.mpr ⟨qz_aload_n C (show decode c_X4_takeOver 37 = .ok (.aload_n 1, 1) by decide +kernel) rfl,
  List.forall_mem_cons.mpr ⟨qz_gf (k := 2) C (show decode c_X4_takeOver 38 = .ok (.getfield 18, 3) by decide +kernel) vcX4 wiX4 (by decide) cw_145,
  List.forall_mem_cons.mpr ⟨qz_pf (k := 2) C (show decode c_X4_takeOver 41 = .ok (.putfield 18, 3) by decide +kernel) vcX4 wiX4 tyX4_ok nmX4 (by decide) cw_145 rfl rfl,
  List.forall_mem_cons.mpr ⟨qz_aload_n C (show decode c_X4_takeOver 44 = .ok (.aload_n 0, 1) by decide +kernel) rfl,
  List.forall_mem_cons.mpr ⟨qz_aload_n C (show decode c_X4_takeOver 45 = .ok (.aload_n 1, 1) by decide +kernel) rfl,
  List.forall_mem_cons.mpr ⟨qz_gf (k := 3) C (show decode c_X4_takeOver 46 = .ok (.getfield 22, 3) by decide +kernel) vcX4 wiX4 (by decide) cw_146,
  List.forall_mem_cons.mpr ⟨qz_pf (k := 3) C (show decode c_X4_takeOver 49 = .ok (.putfield 22, 3) by decide +kernel) vcX4 wiX4 tyX4_ok nmX4 (by decide) cw_146 rfl rfl,
  List.forall_mem_cons.mpr ⟨qz_aload_n C (show decode c_X4_takeOver 52 = .ok (.aload_n 0, 1) by decide +kernel) rfl,
  List.forall_mem_cons.mpr ⟨qz_dup C (show decode c_X4_takeOver 53 = .ok (.dup, 1) by decide +kernel),
  List.forall_mem_cons.mpr ⟨qz_gf (k := 4) C (show decode c_X4_takeOver 54 = .ok (.getfield 25, 3) by decide +kernel) vcX4 wiX4 (by decide) cw_147,
  List.forall_mem_cons.mpr ⟨qz_iconst C (show decode c_X4_takeOver 57 = .ok (.iconst 1, 1) by decide +kernel) (by decide +kernel),
  List.forall_mem_cons.mpr ⟨qz_iadd C (show decode c_X4_takeOver 58 = .ok (.iadd, 1) by decide +kernel),
  List.forall_mem_cons.mpr ⟨qz_pf (k := 4) C (show decode c_X4_takeOver 59 = .ok (.putfield 25, 3) by decide +kernel) vcX4 wiX4 tyX4_ok nmX4 (by decide) cw_147 rfl rfl,
  List.forall_mem_cons.mpr ⟨qz_vret C (show decode c_X4_takeOver 62 = .ok (.return_, 1) by decide +kernel) rfl,
  (fun q h => by cases h)⟩⟩⟩⟩⟩⟩⟩⟩⟩⟩⟩⟩⟩⟩⟩⟩⟩⟩⟩⟩⟩⟩⟩⟩⟩⟩⟩⟩⟩⟩⟩⟩⟩⟩⟩
theorem sd_X4_takeOver {G : pj_E} {A : Nat → Prop} {P : pj_P} {S : pj_U} {Z : pj_Z} (C : pj_C (G, A, (c_X4_takeOver, y_X4_takeOver.cls, 2, none, 1), P, S, Z)) : ∀ q ∈ tb_X4_takeOver, pj_S (G, A, (c_X4_takeOver, y_X4_takeOver.cls, 2, none, 1), P, S, Z) pj_eV q.1 q.2 := sd_X4_takeOver_0 C
set_option maxRecDepth 20000 in
theorem eq_X4_takeOver (a0 : Nat) (a1 : Nat) (m : pj_M) : pj_run tb_X4_takeOver [] 37 0 [some (.inr (.inr (0, 4, a0))), some (.inr (.inr (0, 4, a1)))] [] m = F_X4_takeOver a0 a1 m := by rfl
theorem ct_X4_takeOver : pj_Ct pj_eV y_X4_takeOver c_X4_takeOver 2 none 1 W_X4_takeOver := by
  refine pj_ct_of (by decide +kernel) ?_ ?_
  · intro as m r h
    unfold W_X4_takeOver at h
    split at h
    · simp [pj_l0]
    · cases h
  · intro G A P S Z C as m r h hR
    unfold W_X4_takeOver at h
    split at h
    · split at h
      · rename_i hbq
        simp only [Bool.and_eq_true, Nat.beq_eq] at hbq
        obtain ⟨rfl, rfl, rfl, rfl⟩ := hbq
        exact pj_run_ok (sd_X4_takeOver C) (fun q h => by cases h) 37 0 _ _ _ _ ((eq_X4_takeOver _ _ _).trans h) hR
      · cases h
    · cases h
/-! AlikeSteps$Net.addState(I)V -/
abbrev c_X4_addState : ByteArray := prog_6_method_13_code
def y_X4_addState : MethodName := ⟨RX4, "addState", "(I)V"⟩
noncomputable def F_X4_addState (a0 : Nat) (x1 : Int32) (m : pj_M) : Option (pj_M) := (if (m.1 a0 2) < 10 then (if (m.1 a0 2) < 0 ∨ 10 ≤ (m.1 a0 2).toNatClampNeg then none else (some (pj_wr (pj_wr (pj_wr m (a0 + 1) (m.1 a0 2).toNatClampNeg x1) a0 2 (((pj_wr m (a0 + 1) (m.1 a0 2).toNatClampNeg x1).1 a0 2) + 1)) a0 4 (((pj_wr (pj_wr m (a0 + 1) (m.1 a0 2).toNatClampNeg x1) a0 2 (((pj_wr m (a0 + 1) (m.1 a0 2).toNatClampNeg x1).1 a0 2) + 1)).1 a0 4) + 1)))) else (some m))
noncomputable def W_X4_addState : List pj_V → pj_M → Option (pj_M) := fun as m => match as with
  | [.inr (.inr (t0, w0, a0)), .inl x1] => (match Nat.beq t0 0 && (Nat.beq w0 4) with
    | true => F_X4_addState a0 x1 m
    | false => none)
  | _ => none
noncomputable def tb_X4_addState_0 : List (Nat × pj_T (pj_M)) := [(0, qs_lda 0 1), (1, qs_gf 4 2 4), (4, qs_ci 10 6), (6, qs_icge 39 9), (9, qs_lda 0 10), (10, qs_gf 4 0 13), (13, qs_lda 0 14), (14, qs_gf 4 2 17), (17, qs_ldi 1 18), (18, qs_iast 19), (19, qs_lda 0 20), (20, qs_dup 21), (21, qs_gf 4 2 24), (24, qs_ci 1 25), (25, qs_b2 (fun x y => x + y) 26), (26, qs_pf 4 2 29), (29, qs_lda 0 30), (30, qs_dup 31), (31, qs_gf 4 4 34), (34, qs_ci 1 35), (35, qs_b2 (fun x y => x + y) 36), (36, qs_pf 4 4 39), (39, qs_vret)]
noncomputable abbrev tb_X4_addState : List (Nat × pj_T (pj_M)) := tb_X4_addState_0
theorem mv_X4_addState : pj_mv y_X4_addState c_X4_addState 2 none 1 := ⟨⟨cw_468, cw_466, cw_467, cw_84⟩, by decide +kernel, by decide⟩
set_option maxRecDepth 20000 in
theorem sd_X4_addState_0 {G : pj_E} {A : Nat → Prop} {P : pj_P} {S : pj_U} {Z : pj_Z} (C : pj_C (G, A, (c_X4_addState, y_X4_addState.cls, 2, none, 1), P, S, Z)) : ∀ q ∈ tb_X4_addState_0, pj_S (G, A, (c_X4_addState, y_X4_addState.cls, 2, none, 1), P, S, Z) pj_eV q.1 q.2 :=
  List.forall_mem_cons.mpr ⟨qz_aload_n C (show decode c_X4_addState 0 = .ok (.aload_n 0, 1) by decide +kernel) rfl,
  List.forall_mem_cons.mpr ⟨qz_gf (k := 2) C (show decode c_X4_addState 1 = .ok (.getfield 18, 3) by decide +kernel) vcX4 wiX4 (by decide) cw_145,
  List.forall_mem_cons.mpr ⟨qz_bipush C (show decode c_X4_addState 4 = .ok (.bipush 10, 2) by decide +kernel) (by decide +kernel),
  List.forall_mem_cons.mpr ⟨qz_icge C (show decode c_X4_addState 6 = .ok (.if_icmp .ge 33, 3) by decide +kernel) (by decide),
  List.forall_mem_cons.mpr ⟨qz_aload_n C (show decode c_X4_addState 9 = .ok (.aload_n 0, 1) by decide +kernel) rfl,
  List.forall_mem_cons.mpr ⟨qz_gf (k := 0) C (show decode c_X4_addState 10 = .ok (.getfield 9, 3) by decide +kernel) vcX4 wiX4 (by decide) cw_143,
  List.forall_mem_cons.mpr ⟨qz_aload_n C (show decode c_X4_addState 13 = .ok (.aload_n 0, 1) by decide +kernel) rfl,
  List.forall_mem_cons.mpr ⟨qz_gf (k := 2) C (show decode c_X4_addState 14 = .ok (.getfield 18, 3) by decide +kernel) vcX4 wiX4 (by decide) cw_145,
  List.forall_mem_cons.mpr ⟨qz_iload_n C (show decode c_X4_addState 17 = .ok (.iload_n 1, 1) by decide +kernel) rfl,
  List.forall_mem_cons.mpr ⟨qz_iast C (show decode c_X4_addState 18 = .ok (.iastore, 1) by decide +kernel),
  List.forall_mem_cons.mpr ⟨qz_aload_n C (show decode c_X4_addState 19 = .ok (.aload_n 0, 1) by decide +kernel) rfl,
  List.forall_mem_cons.mpr ⟨qz_dup C (show decode c_X4_addState 20 = .ok (.dup, 1) by decide +kernel),
  List.forall_mem_cons.mpr ⟨qz_gf (k := 2) C (show decode c_X4_addState 21 = .ok (.getfield 18, 3) by decide +kernel) vcX4 wiX4 (by decide) cw_145,
  List.forall_mem_cons.mpr ⟨qz_iconst C (show decode c_X4_addState 24 = .ok (.iconst 1, 1) by decide +kernel) (by decide +kernel),
  List.forall_mem_cons.mpr ⟨qz_iadd C (show decode c_X4_addState 25 = .ok (.iadd, 1) by decide +kernel),
  List.forall_mem_cons.mpr ⟨qz_pf (k := 2) C (show decode c_X4_addState 26 = .ok (.putfield 18, 3) by decide +kernel) vcX4 wiX4 tyX4_ok nmX4 (by decide) cw_145 rfl rfl,
  List.forall_mem_cons.mpr ⟨qz_aload_n C (show decode c_X4_addState 29 = .ok (.aload_n 0, 1) by decide +kernel) rfl,
  List.forall_mem_cons.mpr ⟨qz_dup C (show decode c_X4_addState 30 = .ok (.dup, 1) by decide +kernel),
  List.forall_mem_cons.mpr ⟨qz_gf (k := 4) C (show decode c_X4_addState 31 = .ok (.getfield 25, 3) by decide +kernel) vcX4 wiX4 (by decide) cw_147,
  List.forall_mem_cons.mpr ⟨qz_iconst C (show decode c_X4_addState 34 = .ok (.iconst 1, 1) by decide +kernel) (by decide +kernel),
  List.forall_mem_cons.mpr ⟨qz_iadd C (show decode c_X4_addState 35 = .ok (.iadd, 1) by decide +kernel),
  List.forall_mem_cons.mpr ⟨qz_pf (k := 4) C (show decode c_X4_addState 36 = .ok (.putfield 25, 3) by decide +kernel) vcX4 wiX4 tyX4_ok nmX4 (by decide) cw_147 rfl rfl,
  List.forall_mem_cons.mpr ⟨qz_vret C (show decode c_X4_addState 39 = .ok (.return_, 1) by decide +kernel) rfl,
  (fun q h => by cases h)⟩⟩⟩⟩⟩⟩⟩⟩⟩⟩⟩⟩⟩⟩⟩⟩⟩⟩⟩⟩⟩⟩⟩
theorem sd_X4_addState {G : pj_E} {A : Nat → Prop} {P : pj_P} {S : pj_U} {Z : pj_Z} (C : pj_C (G, A, (c_X4_addState, y_X4_addState.cls, 2, none, 1), P, S, Z)) : ∀ q ∈ tb_X4_addState, pj_S (G, A, (c_X4_addState, y_X4_addState.cls, 2, none, 1), P, S, Z) pj_eV q.1 q.2 := sd_X4_addState_0 C
set_option maxRecDepth 20000 in
theorem eq_X4_addState (a0 : Nat) (x1 : Int32) (m : pj_M) : pj_run tb_X4_addState [] 25 0 [some (.inr (.inr (0, 4, a0))), some (.inl x1)] [] m = F_X4_addState a0 x1 m := by rfl
theorem ct_X4_addState : pj_Ct pj_eV y_X4_addState c_X4_addState 2 none 1 W_X4_addState := by
  refine pj_ct_of (by decide +kernel) ?_ ?_
  · intro as m r h
    unfold W_X4_addState at h
    split at h
    · simp [pj_l0]
    · cases h
  · intro G A P S Z C as m r h hR
    unfold W_X4_addState at h
    split at h
    · split at h
      · rename_i hbq
        simp only [Bool.and_eq_true, Nat.beq_eq] at hbq
        obtain ⟨rfl, rfl⟩ := hbq
        exact pj_run_ok (sd_X4_addState C) (fun q h => by cases h) 25 0 _ _ _ _ ((eq_X4_addState _ _ _).trans h) hR
      · cases h
    · cases h
/-! AlikeSteps$Net.addArc(III)V -/
abbrev c_X4_addArc : ByteArray := prog_6_method_15_code
def y_X4_addArc : MethodName := ⟨RX4, "addArc", "(III)V"⟩
noncomputable def F_X4_addArc (a0 : Nat) (x1 : Int32) (x2 : Int32) (x3 : Int32) (m : pj_M) : Option (pj_M) := ((F_X4_insertArc a0 (m.1 a0 3) x1 x2 x3 m).bind fun q1 => (some q1))
noncomputable def W_X4_addArc : List pj_V → pj_M → Option (pj_M) := fun as m => match as with
  | [.inr (.inr (t0, w0, a0)), .inl x1, .inl x2, .inl x3] => (match Nat.beq t0 0 && (Nat.beq w0 4) with
    | true => F_X4_addArc a0 x1 x2 x3 m
    | false => none)
  | _ => none
noncomputable def tb_X4_addArc_0 : List (Nat × pj_T (pj_M)) := [(0, qs_lda 0 1), (1, qs_lda 0 2), (2, qs_gf 4 3 5), (5, qs_ldi 1 6), (6, qs_ldi 2 7), (7, qs_ldi 3 8), (8, qs_vV 4 5 W_X4_insertArc 11), (11, qs_vret)]
noncomputable abbrev tb_X4_addArc : List (Nat × pj_T (pj_M)) := tb_X4_addArc_0
theorem mv_X4_addArc : pj_mv y_X4_addArc c_X4_addArc 4 none 3 := ⟨⟨cw_495, cw_493, cw_494, cw_84⟩, by decide +kernel, by decide⟩
set_option maxRecDepth 20000 in
theorem sd_X4_addArc_0 {G : pj_E} {A : Nat → Prop} {P : pj_P} {S : pj_U} {Z : pj_Z} (C : pj_C (G, A, (c_X4_addArc, y_X4_addArc.cls, 4, none, 3), P, S, Z)) : ∀ q ∈ tb_X4_addArc_0, pj_S (G, A, (c_X4_addArc, y_X4_addArc.cls, 4, none, 3), P, S, Z) pj_eV q.1 q.2 :=
  List.forall_mem_cons.mpr ⟨qz_aload_n C (show decode c_X4_addArc 0 = .ok (.aload_n 0, 1) by decide +kernel) rfl,
  List.forall_mem_cons.mpr ⟨qz_aload_n C (show decode c_X4_addArc 1 = .ok (.aload_n 0, 1) by decide +kernel) rfl,
  List.forall_mem_cons.mpr ⟨qz_gf (k := 3) C (show decode c_X4_addArc 2 = .ok (.getfield 22, 3) by decide +kernel) vcX4 wiX4 (by decide) cw_146,
  List.forall_mem_cons.mpr ⟨qz_iload_n C (show decode c_X4_addArc 5 = .ok (.iload_n 1, 1) by decide +kernel) rfl,
  List.forall_mem_cons.mpr ⟨qz_iload_n C (show decode c_X4_addArc 6 = .ok (.iload_n 2, 1) by decide +kernel) rfl,
  List.forall_mem_cons.mpr ⟨qz_iload_n C (show decode c_X4_addArc 7 = .ok (.iload_n 3, 1) by decide +kernel) rfl,
  List.forall_mem_cons.mpr ⟨qz_vV C (show decode c_X4_addArc 8 = .ok (.invokevirtual 34, 3) by decide +kernel) ct_X4_insertArc mv_X4_insertArc cw_496 vcX4 (show 2 < 3 by omega),
  List.forall_mem_cons.mpr ⟨qz_vret C (show decode c_X4_addArc 11 = .ok (.return_, 1) by decide +kernel) rfl,
  (fun q h => by cases h)⟩⟩⟩⟩⟩⟩⟩⟩
theorem sd_X4_addArc {G : pj_E} {A : Nat → Prop} {P : pj_P} {S : pj_U} {Z : pj_Z} (C : pj_C (G, A, (c_X4_addArc, y_X4_addArc.cls, 4, none, 3), P, S, Z)) : ∀ q ∈ tb_X4_addArc, pj_S (G, A, (c_X4_addArc, y_X4_addArc.cls, 4, none, 3), P, S, Z) pj_eV q.1 q.2 := sd_X4_addArc_0 C
set_option maxRecDepth 20000 in
theorem eq_X4_addArc (a0 : Nat) (x1 : Int32) (x2 : Int32) (x3 : Int32) (m : pj_M) : pj_run tb_X4_addArc [] 10 0 [some (.inr (.inr (0, 4, a0))), some (.inl x1), some (.inl x2), some (.inl x3)] [] m = F_X4_addArc a0 x1 x2 x3 m := by rfl
theorem ct_X4_addArc : pj_Ct pj_eV y_X4_addArc c_X4_addArc 4 none 3 W_X4_addArc := by
  refine pj_ct_of (by decide +kernel) ?_ ?_
  · intro as m r h
    unfold W_X4_addArc at h
    split at h
    · simp [pj_l0]
    · cases h
  · intro G A P S Z C as m r h hR
    unfold W_X4_addArc at h
    split at h
    · split at h
      · rename_i hbq
        simp only [Bool.and_eq_true, Nat.beq_eq] at hbq
        obtain ⟨rfl, rfl⟩ := hbq
        exact pj_run_ok (sd_X4_addArc C) (fun q h => by cases h) 10 0 _ _ _ _ ((eq_X4_addArc _ _ _ _ _).trans h) hR
      · cases h
    · cases h
/-! AlikeSteps$Rows.exists(I)Z -/
abbrev c_X6_exists : ByteArray := prog_8_method_2_code
def y_X6_exists : MethodName := ⟨RX6, "exists", "(I)Z"⟩
noncomputable def F_X6_exists (x0 : Int32) (m : pj_M) : Option (Int32 × pj_M) := (if x0 < 0 then (some (0, m)) else (if x0 < 8 then (some (1, m)) else (some (0, m))))
noncomputable def W_X6_exists : List pj_V → pj_M → Option (Int32 × pj_M) := fun as m => match as with
  | [.inl x0] => F_X6_exists x0 m
  | _ => none
noncomputable def tb_X6_exists_0 : List (Nat × pj_T (Int32 × pj_M)) := [(0, qs_ldi 0 1), (1, qs_iflt 14 4), (4, qs_ldi 0 5), (5, qs_ci 8 7), (7, qs_icge 14 10), (10, qs_ci 1 11), (11, qs_go 15), (14, qs_ci 0 15), (15, qs_zret)]
noncomputable abbrev tb_X6_exists : List (Nat × pj_T (Int32 × pj_M)) := tb_X6_exists_0
theorem mv_X6_exists : pj_ms y_X6_exists c_X6_exists 1 (some .boolean) 1 := ⟨⟨cw_360, cw_359, cw_82⟩, by decide +kernel, by decide⟩
set_option maxRecDepth 20000 in
theorem sd_X6_exists_0 {G : pj_E} {A : Nat → Prop} {P : pj_P} {S : pj_U} {Z : pj_Z} (C : pj_C (G, A, (c_X6_exists, y_X6_exists.cls, 1, (some .boolean), 1), P, S, Z)) : ∀ q ∈ tb_X6_exists_0, pj_S (G, A, (c_X6_exists, y_X6_exists.cls, 1, (some .boolean), 1), P, S, Z) pj_eI q.1 q.2 :=
  List.forall_mem_cons.mpr ⟨qz_iload_n C (show decode c_X6_exists 0 = .ok (.iload_n 0, 1) by decide +kernel) rfl,
  List.forall_mem_cons.mpr ⟨qz_iflt C (show decode c_X6_exists 1 = .ok (.ifCond .lt 13, 3) by decide +kernel) (by decide),
  List.forall_mem_cons.mpr ⟨qz_iload_n C (show decode c_X6_exists 4 = .ok (.iload_n 0, 1) by decide +kernel) rfl,
  List.forall_mem_cons.mpr ⟨qz_bipush C (show decode c_X6_exists 5 = .ok (.bipush 8, 2) by decide +kernel) (by decide +kernel),
  List.forall_mem_cons.mpr ⟨qz_icge C (show decode c_X6_exists 7 = .ok (.if_icmp .ge 7, 3) by decide +kernel) (by decide),
  List.forall_mem_cons.mpr ⟨qz_iconst C (show decode c_X6_exists 10 = .ok (.iconst 1, 1) by decide +kernel) (by decide +kernel),
  List.forall_mem_cons.mpr ⟨qz_goto C (show decode c_X6_exists 11 = .ok (.goto 4, 3) by decide +kernel) (by decide),
  List.forall_mem_cons.mpr ⟨qz_iconst C (show decode c_X6_exists 14 = .ok (.iconst 0, 1) by decide +kernel) (by decide +kernel),
  List.forall_mem_cons.mpr ⟨qz_zret C (show decode c_X6_exists 15 = .ok (.ireturn, 1) by decide +kernel) rfl,
  (fun q h => by cases h)⟩⟩⟩⟩⟩⟩⟩⟩⟩
theorem sd_X6_exists {G : pj_E} {A : Nat → Prop} {P : pj_P} {S : pj_U} {Z : pj_Z} (C : pj_C (G, A, (c_X6_exists, y_X6_exists.cls, 1, (some .boolean), 1), P, S, Z)) : ∀ q ∈ tb_X6_exists, pj_S (G, A, (c_X6_exists, y_X6_exists.cls, 1, (some .boolean), 1), P, S, Z) pj_eI q.1 q.2 := sd_X6_exists_0 C
set_option maxRecDepth 20000 in
theorem eq_X6_exists (x0 : Int32) (m : pj_M) : pj_run tb_X6_exists [] 11 0 [some (.inl x0)] [] m = F_X6_exists x0 m := by rfl
theorem ct_X6_exists : pj_Ct pj_eI y_X6_exists c_X6_exists 1 (some .boolean) 1 W_X6_exists := by
  refine pj_ct_of (by decide +kernel) ?_ ?_
  · intro as m r h
    unfold W_X6_exists at h
    split at h
    · simp [pj_l0]
    · cases h
  · intro G A P S Z C as m r h hR
    unfold W_X6_exists at h
    split at h
    · exact pj_run_ok (sd_X6_exists C) (fun q h => by cases h) 11 0 _ _ _ _ ((eq_X6_exists _ _).trans h) hR
    · cases h
/-! AlikeSteps$Rows.isMissing(I)Z -/
abbrev c_X6_isMissing : ByteArray := prog_8_method_3_code
def y_X6_isMissing : MethodName := ⟨RX6, "isMissing", "(I)Z"⟩
noncomputable def F_X6_isMissing (x1 : Int32) (m : pj_M) : Option (Int32 × pj_M) := (if x1 < 0 ∨ 8 ≤ x1.toNatClampNeg then none else (if (m.1 2 x1.toNatClampNeg) = (-1) then (some (1, m)) else (some (0, m))))
noncomputable def W_X6_isMissing : List pj_V → pj_M → Option (Int32 × pj_M) := fun as m => match as with
  | [.inr (.inr (t0, w0, a0)), .inl x1] => (match Nat.beq t0 0 && (Nat.beq w0 6 && (Nat.beq a0 1)) with
    | true => F_X6_isMissing x1 m
    | false => none)
  | _ => none
noncomputable def tb_X6_isMissing_0 : List (Nat × pj_T (Int32 × pj_M)) := [(0, qs_lda 0 1), (1, qs_gf 6 0 4), (4, qs_ldi 1 5), (5, qs_iald 6), (6, qs_ci (-1) 7), (7, qs_icne 14 10), (10, qs_ci 1 11), (11, qs_go 15), (14, qs_ci 0 15), (15, qs_zret)]
noncomputable abbrev tb_X6_isMissing : List (Nat × pj_T (Int32 × pj_M)) := tb_X6_isMissing_0
theorem mv_X6_isMissing : pj_mv y_X6_isMissing c_X6_isMissing 2 (some .boolean) 1 := ⟨⟨cw_385, cw_383, cw_384, cw_82⟩, by decide +kernel, by decide⟩
set_option maxRecDepth 20000 in
theorem sd_X6_isMissing_0 {G : pj_E} {A : Nat → Prop} {P : pj_P} {S : pj_U} {Z : pj_Z} (C : pj_C (G, A, (c_X6_isMissing, y_X6_isMissing.cls, 2, (some .boolean), 1), P, S, Z)) : ∀ q ∈ tb_X6_isMissing_0, pj_S (G, A, (c_X6_isMissing, y_X6_isMissing.cls, 2, (some .boolean), 1), P, S, Z) pj_eI q.1 q.2 :=
  List.forall_mem_cons.mpr ⟨qz_aload_n C (show decode c_X6_isMissing 0 = .ok (.aload_n 0, 1) by decide +kernel) rfl,
  List.forall_mem_cons.mpr ⟨qz_gf (k := 0) C (show decode c_X6_isMissing 1 = .ok (.getfield 9, 3) by decide +kernel) vcX6 wiX6 (by decide) cw_110,
  List.forall_mem_cons.mpr ⟨qz_iload_n C (show decode c_X6_isMissing 4 = .ok (.iload_n 1, 1) by decide +kernel) rfl,
  List.forall_mem_cons.mpr ⟨qz_iald C (show decode c_X6_isMissing 5 = .ok (.iaload, 1) by decide +kernel),
  List.forall_mem_cons.mpr ⟨qz_iconst C (show decode c_X6_isMissing 6 = .ok (.iconst (-1), 1) by decide +kernel) (by decide +kernel),
  List.forall_mem_cons.mpr ⟨qz_icne C (show decode c_X6_isMissing 7 = .ok (.if_icmp .ne 7, 3) by decide +kernel) (by decide),
  List.forall_mem_cons.mpr ⟨qz_iconst C (show decode c_X6_isMissing 10 = .ok (.iconst 1, 1) by decide +kernel) (by decide +kernel),
  List.forall_mem_cons.mpr ⟨qz_goto C (show decode c_X6_isMissing 11 = .ok (.goto 4, 3) by decide +kernel) (by decide),
  List.forall_mem_cons.mpr ⟨qz_iconst C (show decode c_X6_isMissing 14 = .ok (.iconst 0, 1) by decide +kernel) (by decide +kernel),
  List.forall_mem_cons.mpr ⟨qz_zret C (show decode c_X6_isMissing 15 = .ok (.ireturn, 1) by decide +kernel) rfl,
  (fun q h => by cases h)⟩⟩⟩⟩⟩⟩⟩⟩⟩⟩
theorem sd_X6_isMissing {G : pj_E} {A : Nat → Prop} {P : pj_P} {S : pj_U} {Z : pj_Z} (C : pj_C (G, A, (c_X6_isMissing, y_X6_isMissing.cls, 2, (some .boolean), 1), P, S, Z)) : ∀ q ∈ tb_X6_isMissing, pj_S (G, A, (c_X6_isMissing, y_X6_isMissing.cls, 2, (some .boolean), 1), P, S, Z) pj_eI q.1 q.2 := sd_X6_isMissing_0 C
set_option maxRecDepth 20000 in
theorem eq_X6_isMissing (x1 : Int32) (m : pj_M) : pj_run tb_X6_isMissing [] 12 0 [some (.inr (.inr (0, 6, 1))), some (.inl x1)] [] m = F_X6_isMissing x1 m := by rfl
theorem ct_X6_isMissing : pj_Ct pj_eI y_X6_isMissing c_X6_isMissing 2 (some .boolean) 1 W_X6_isMissing := by
  refine pj_ct_of (by decide +kernel) ?_ ?_
  · intro as m r h
    unfold W_X6_isMissing at h
    split at h
    · simp [pj_l0]
    · cases h
  · intro G A P S Z C as m r h hR
    unfold W_X6_isMissing at h
    split at h
    · split at h
      · rename_i hbq
        simp only [Bool.and_eq_true, Nat.beq_eq] at hbq
        obtain ⟨rfl, rfl, rfl⟩ := hbq
        exact pj_run_ok (sd_X6_isMissing C) (fun q h => by cases h) 12 0 _ _ _ _ ((eq_X6_isMissing _ _).trans h) hR
      · cases h
    · cases h
/-! AlikeSteps$Rows.lane(I)I -/
abbrev c_X6_lane : ByteArray := prog_8_method_4_code
def y_X6_lane : MethodName := ⟨RX6, "lane", "(I)I"⟩
noncomputable def F_X6_lane (x1 : Int32) (m : pj_M) : Option (Int32 × pj_M) := (if x1 < 0 ∨ 8 ≤ x1.toNatClampNeg then none else (some (m.1 2 x1.toNatClampNeg, m)))
noncomputable def W_X6_lane : List pj_V → pj_M → Option (Int32 × pj_M) := fun as m => match as with
  | [.inr (.inr (t0, w0, a0)), .inl x1] => (match Nat.beq t0 0 && (Nat.beq w0 6 && (Nat.beq a0 1)) with
    | true => F_X6_lane x1 m
    | false => none)
  | _ => none
noncomputable def tb_X6_lane_0 : List (Nat × pj_T (Int32 × pj_M)) := [(0, qs_lda 0 1), (1, qs_gf 6 0 4), (4, qs_ldi 1 5), (5, qs_iald 6), (6, qs_iret)]
noncomputable abbrev tb_X6_lane : List (Nat × pj_T (Int32 × pj_M)) := tb_X6_lane_0
theorem mv_X6_lane : pj_mv y_X6_lane c_X6_lane 2 (some .int) 1 := ⟨⟨cw_404, cw_402, cw_403, cw_82⟩, by decide +kernel, by decide⟩
set_option maxRecDepth 20000 in
theorem sd_X6_lane_0 {G : pj_E} {A : Nat → Prop} {P : pj_P} {S : pj_U} {Z : pj_Z} (C : pj_C (G, A, (c_X6_lane, y_X6_lane.cls, 2, (some .int), 1), P, S, Z)) : ∀ q ∈ tb_X6_lane_0, pj_S (G, A, (c_X6_lane, y_X6_lane.cls, 2, (some .int), 1), P, S, Z) pj_eI q.1 q.2 :=
  List.forall_mem_cons.mpr ⟨qz_aload_n C (show decode c_X6_lane 0 = .ok (.aload_n 0, 1) by decide +kernel) rfl,
  List.forall_mem_cons.mpr ⟨qz_gf (k := 0) C (show decode c_X6_lane 1 = .ok (.getfield 9, 3) by decide +kernel) vcX6 wiX6 (by decide) cw_110,
  List.forall_mem_cons.mpr ⟨qz_iload_n C (show decode c_X6_lane 4 = .ok (.iload_n 1, 1) by decide +kernel) rfl,
  List.forall_mem_cons.mpr ⟨qz_iald C (show decode c_X6_lane 5 = .ok (.iaload, 1) by decide +kernel),
  List.forall_mem_cons.mpr ⟨qz_iret C (show decode c_X6_lane 6 = .ok (.ireturn, 1) by decide +kernel) rfl,
  (fun q h => by cases h)⟩⟩⟩⟩⟩
theorem sd_X6_lane {G : pj_E} {A : Nat → Prop} {P : pj_P} {S : pj_U} {Z : pj_Z} (C : pj_C (G, A, (c_X6_lane, y_X6_lane.cls, 2, (some .int), 1), P, S, Z)) : ∀ q ∈ tb_X6_lane, pj_S (G, A, (c_X6_lane, y_X6_lane.cls, 2, (some .int), 1), P, S, Z) pj_eI q.1 q.2 := sd_X6_lane_0 C
set_option maxRecDepth 20000 in
theorem eq_X6_lane (x1 : Int32) (m : pj_M) : pj_run tb_X6_lane [] 7 0 [some (.inr (.inr (0, 6, 1))), some (.inl x1)] [] m = F_X6_lane x1 m := by rfl
theorem ct_X6_lane : pj_Ct pj_eI y_X6_lane c_X6_lane 2 (some .int) 1 W_X6_lane := by
  refine pj_ct_of (by decide +kernel) ?_ ?_
  · intro as m r h
    unfold W_X6_lane at h
    split at h
    · simp [pj_l0]
    · cases h
  · intro G A P S Z C as m r h hR
    unfold W_X6_lane at h
    split at h
    · split at h
      · rename_i hbq
        simp only [Bool.and_eq_true, Nat.beq_eq] at hbq
        obtain ⟨rfl, rfl, rfl⟩ := hbq
        exact pj_run_ok (sd_X6_lane C) (fun q h => by cases h) 7 0 _ _ _ _ ((eq_X6_lane _ _).trans h) hR
      · cases h
    · cases h
/-! AlikeSteps$Rows.length(I)I -/
abbrev c_X6_length : ByteArray := prog_8_method_5_code
def y_X6_length : MethodName := ⟨RX6, "length", "(I)I"⟩
noncomputable def F_X6_length (x1 : Int32) (m : pj_M) : Option (Int32 × pj_M) := (if x1 < 0 ∨ 8 ≤ x1.toNatClampNeg then none else (some (m.1 3 x1.toNatClampNeg, m)))
noncomputable def W_X6_length : List pj_V → pj_M → Option (Int32 × pj_M) := fun as m => match as with
  | [.inr (.inr (t0, w0, a0)), .inl x1] => (match Nat.beq t0 0 && (Nat.beq w0 6 && (Nat.beq a0 1)) with
    | true => F_X6_length x1 m
    | false => none)
  | _ => none
noncomputable def tb_X6_length_0 : List (Nat × pj_T (Int32 × pj_M)) := [(0, qs_lda 0 1), (1, qs_gf 6 1 4), (4, qs_ldi 1 5), (5, qs_iald 6), (6, qs_iret)]
noncomputable abbrev tb_X6_length : List (Nat × pj_T (Int32 × pj_M)) := tb_X6_length_0
theorem mv_X6_length : pj_mv y_X6_length c_X6_length 2 (some .int) 1 := ⟨⟨cw_389, cw_387, cw_388, cw_82⟩, by decide +kernel, by decide⟩
set_option maxRecDepth 20000 in
theorem sd_X6_length_0 {G : pj_E} {A : Nat → Prop} {P : pj_P} {S : pj_U} {Z : pj_Z} (C : pj_C (G, A, (c_X6_length, y_X6_length.cls, 2, (some .int), 1), P, S, Z)) : ∀ q ∈ tb_X6_length_0, pj_S (G, A, (c_X6_length, y_X6_length.cls, 2, (some .int), 1), P, S, Z) pj_eI q.1 q.2 :=
  List.forall_mem_cons.mpr ⟨qz_aload_n C (show decode c_X6_length 0 = .ok (.aload_n 0, 1) by decide +kernel) rfl,
  List.forall_mem_cons.mpr ⟨qz_gf (k := 1) C (show decode c_X6_length 1 = .ok (.getfield 13, 3) by decide +kernel) vcX6 wiX6 (by decide) cw_111,
  List.forall_mem_cons.mpr ⟨qz_iload_n C (show decode c_X6_length 4 = .ok (.iload_n 1, 1) by decide +kernel) rfl,
  List.forall_mem_cons.mpr ⟨qz_iald C (show decode c_X6_length 5 = .ok (.iaload, 1) by decide +kernel),
  List.forall_mem_cons.mpr ⟨qz_iret C (show decode c_X6_length 6 = .ok (.ireturn, 1) by decide +kernel) rfl,
  (fun q h => by cases h)⟩⟩⟩⟩⟩
theorem sd_X6_length {G : pj_E} {A : Nat → Prop} {P : pj_P} {S : pj_U} {Z : pj_Z} (C : pj_C (G, A, (c_X6_length, y_X6_length.cls, 2, (some .int), 1), P, S, Z)) : ∀ q ∈ tb_X6_length, pj_S (G, A, (c_X6_length, y_X6_length.cls, 2, (some .int), 1), P, S, Z) pj_eI q.1 q.2 := sd_X6_length_0 C
set_option maxRecDepth 20000 in
theorem eq_X6_length (x1 : Int32) (m : pj_M) : pj_run tb_X6_length [] 7 0 [some (.inr (.inr (0, 6, 1))), some (.inl x1)] [] m = F_X6_length x1 m := by rfl
theorem ct_X6_length : pj_Ct pj_eI y_X6_length c_X6_length 2 (some .int) 1 W_X6_length := by
  refine pj_ct_of (by decide +kernel) ?_ ?_
  · intro as m r h
    unfold W_X6_length at h
    split at h
    · simp [pj_l0]
    · cases h
  · intro G A P S Z C as m r h hR
    unfold W_X6_length at h
    split at h
    · split at h
      · rename_i hbq
        simp only [Bool.and_eq_true, Nat.beq_eq] at hbq
        obtain ⟨rfl, rfl, rfl⟩ := hbq
        exact pj_run_ok (sd_X6_length C) (fun q h => by cases h) 7 0 _ _ _ _ ((eq_X6_length _ _).trans h) hR
      · cases h
    · cases h
/-! AlikeSteps$Rows.item(II)I -/
abbrev c_X6_item : ByteArray := prog_8_method_6_code
def y_X6_item : MethodName := ⟨RX6, "item", "(II)I"⟩
noncomputable def F_X6_item (x1 : Int32) (x2 : Int32) (m : pj_M) : Option (Int32 × pj_M) := (if ((x1 * 40) + x2) < 0 ∨ 320 ≤ ((x1 * 40) + x2).toNatClampNeg then none else (some (m.1 4 ((x1 * 40) + x2).toNatClampNeg, m)))
noncomputable def W_X6_item : List pj_V → pj_M → Option (Int32 × pj_M) := fun as m => match as with
  | [.inr (.inr (t0, w0, a0)), .inl x1, .inl x2] => (match Nat.beq t0 0 && (Nat.beq w0 6 && (Nat.beq a0 1)) with
    | true => F_X6_item x1 x2 m
    | false => none)
  | _ => none
noncomputable def tb_X6_item_0 : List (Nat × pj_T (Int32 × pj_M)) := [(0, qs_lda 0 1), (1, qs_gf 6 2 4), (4, qs_ldi 1 5), (5, qs_ci 40 7), (7, qs_b2 (fun x y => x * y) 8), (8, qs_ldi 2 9), (9, qs_b2 (fun x y => x + y) 10), (10, qs_iald 11), (11, qs_iret)]
noncomputable abbrev tb_X6_item : List (Nat × pj_T (Int32 × pj_M)) := tb_X6_item_0
theorem mv_X6_item : pj_mv y_X6_item c_X6_item 3 (some .int) 2 := ⟨⟨cw_855, cw_853, cw_854, cw_82⟩, by decide +kernel, by decide⟩
set_option maxRecDepth 20000 in
theorem sd_X6_item_0 {G : pj_E} {A : Nat → Prop} {P : pj_P} {S : pj_U} {Z : pj_Z} (C : pj_C (G, A, (c_X6_item, y_X6_item.cls, 3, (some .int), 1), P, S, Z)) : ∀ q ∈ tb_X6_item_0, pj_S (G, A, (c_X6_item, y_X6_item.cls, 3, (some .int), 1), P, S, Z) pj_eI q.1 q.2 :=
  List.forall_mem_cons.mpr ⟨qz_aload_n C (show decode c_X6_item 0 = .ok (.aload_n 0, 1) by decide +kernel) rfl,
  List.forall_mem_cons.mpr ⟨qz_gf (k := 2) C (show decode c_X6_item 1 = .ok (.getfield 16, 3) by decide +kernel) vcX6 wiX6 (by decide) cw_112,
  List.forall_mem_cons.mpr ⟨qz_iload_n C (show decode c_X6_item 4 = .ok (.iload_n 1, 1) by decide +kernel) rfl,
  List.forall_mem_cons.mpr ⟨qz_bipush C (show decode c_X6_item 5 = .ok (.bipush 40, 2) by decide +kernel) (by decide +kernel),
  List.forall_mem_cons.mpr ⟨qz_imul C (show decode c_X6_item 7 = .ok (.imul, 1) by decide +kernel),
  List.forall_mem_cons.mpr ⟨qz_iload_n C (show decode c_X6_item 8 = .ok (.iload_n 2, 1) by decide +kernel) rfl,
  List.forall_mem_cons.mpr ⟨qz_iadd C (show decode c_X6_item 9 = .ok (.iadd, 1) by decide +kernel),
  List.forall_mem_cons.mpr ⟨qz_iald C (show decode c_X6_item 10 = .ok (.iaload, 1) by decide +kernel),
  List.forall_mem_cons.mpr ⟨qz_iret C (show decode c_X6_item 11 = .ok (.ireturn, 1) by decide +kernel) rfl,
  (fun q h => by cases h)⟩⟩⟩⟩⟩⟩⟩⟩⟩
theorem sd_X6_item {G : pj_E} {A : Nat → Prop} {P : pj_P} {S : pj_U} {Z : pj_Z} (C : pj_C (G, A, (c_X6_item, y_X6_item.cls, 3, (some .int), 1), P, S, Z)) : ∀ q ∈ tb_X6_item, pj_S (G, A, (c_X6_item, y_X6_item.cls, 3, (some .int), 1), P, S, Z) pj_eI q.1 q.2 := sd_X6_item_0 C
set_option maxRecDepth 20000 in
theorem eq_X6_item (x1 : Int32) (x2 : Int32) (m : pj_M) : pj_run tb_X6_item [] 11 0 [some (.inr (.inr (0, 6, 1))), some (.inl x1), some (.inl x2)] [] m = F_X6_item x1 x2 m := by rfl
theorem ct_X6_item : pj_Ct pj_eI y_X6_item c_X6_item 3 (some .int) 1 W_X6_item := by
  refine pj_ct_of (by decide +kernel) ?_ ?_
  · intro as m r h
    unfold W_X6_item at h
    split at h
    · simp [pj_l0]
    · cases h
  · intro G A P S Z C as m r h hR
    unfold W_X6_item at h
    split at h
    · split at h
      · rename_i hbq
        simp only [Bool.and_eq_true, Nat.beq_eq] at hbq
        obtain ⟨rfl, rfl, rfl⟩ := hbq
        exact pj_run_ok (sd_X6_item C) (fun q h => by cases h) 11 0 _ _ _ _ ((eq_X6_item _ _ _).trans h) hR
      · cases h
    · cases h
/-! AlikeSteps$Rows.size()I -/
abbrev c_X6_size : ByteArray := prog_8_method_7_code
def y_X6_size : MethodName := ⟨RX6, "size", "()I"⟩
noncomputable def H_X6_size_4 : Nat → Int32 → Int32 → pj_M → Option (Int32 × pj_M)
  | 0, _, _, _ => none
  | n1 + 1, x1, x2, m => (if x2 < 8 then ((F_X6_isMissing x2 m).bind fun q1 => (if q1.1 = 0 then (H_X6_size_4 n1 (x1 + 1) (x2 + 1) q1.2) else (H_X6_size_4 n1 (x1 + 0) (x2 + 1) q1.2))) else (some (x1, m)))
noncomputable def F_X6_size (m : pj_M) : Option (Int32 × pj_M) := (H_X6_size_4 pj_z 0 0 m)
noncomputable def W_X6_size : List pj_V → pj_M → Option (Int32 × pj_M) := fun as m => match as with
  | [.inr (.inr (t0, w0, a0))] => (match Nat.beq t0 0 && (Nat.beq w0 6 && (Nat.beq a0 1)) with
    | true => F_X6_size m
    | false => none)
  | _ => none
noncomputable def tb_X6_size_0 : List (Nat × pj_T (Int32 × pj_M)) := [(0, qs_ci 0 1), (1, qs_sti 1 2), (2, qs_ci 0 3), (3, qs_sti 2 4), (4, qs_ldi 2 5), (5, qs_ci 8 7), (7, qs_icge 32 10), (10, qs_ldi 1 11), (11, qs_lda 0 12), (12, qs_ldi 2 13), (13, qs_vI 6 2 W_X6_isMissing 16), (16, qs_ifeq 23 19), (19, qs_ci 0 20), (20, qs_go 24), (23, qs_ci 1 24), (24, qs_b2 (fun x y => x + y) 25), (25, qs_sti 1 26), (26, qs_inc 2 1 29), (29, qs_go 4), (32, qs_ldi 1 33), (33, qs_iret)]
noncomputable abbrev tb_X6_size : List (Nat × pj_T (Int32 × pj_M)) := tb_X6_size_0
theorem mv_X6_size : pj_mv y_X6_size c_X6_size 3 (some .int) 0 := ⟨⟨cw_1001, cw_999, cw_1000, cw_82⟩, by decide +kernel, by decide⟩
set_option maxRecDepth 20000 in
theorem sd_X6_size_0 {G : pj_E} {A : Nat → Prop} {P : pj_P} {S : pj_U} {Z : pj_Z} (C : pj_C (G, A, (c_X6_size, y_X6_size.cls, 3, (some .int), 2), P, S, Z)) : ∀ q ∈ tb_X6_size_0, pj_S (G, A, (c_X6_size, y_X6_size.cls, 3, (some .int), 2), P, S, Z) pj_eI q.1 q.2 :=
  List.forall_mem_cons.mpr ⟨qz_iconst C (show decode c_X6_size 0 = .ok (.iconst 0, 1) by decide +kernel) (by decide +kernel),
  List.forall_mem_cons.mpr ⟨qz_istore_n C (show decode c_X6_size 1 = .ok (.istore_n 1, 1) by decide +kernel) rfl,
  List.forall_mem_cons.mpr ⟨qz_iconst C (show decode c_X6_size 2 = .ok (.iconst 0, 1) by decide +kernel) (by decide +kernel),
  List.forall_mem_cons.mpr ⟨qz_istore_n C (show decode c_X6_size 3 = .ok (.istore_n 2, 1) by decide +kernel) rfl,
  List.forall_mem_cons.mpr ⟨qz_iload_n C (show decode c_X6_size 4 = .ok (.iload_n 2, 1) by decide +kernel) rfl,
  List.forall_mem_cons.mpr ⟨qz_bipush C (show decode c_X6_size 5 = .ok (.bipush 8, 2) by decide +kernel) (by decide +kernel),
  List.forall_mem_cons.mpr ⟨qz_icge C (show decode c_X6_size 7 = .ok (.if_icmp .ge 25, 3) by decide +kernel) (by decide),
  List.forall_mem_cons.mpr ⟨qz_iload_n C (show decode c_X6_size 10 = .ok (.iload_n 1, 1) by decide +kernel) rfl,
  List.forall_mem_cons.mpr ⟨qz_aload_n C (show decode c_X6_size 11 = .ok (.aload_n 0, 1) by decide +kernel) rfl,
  List.forall_mem_cons.mpr ⟨qz_iload_n C (show decode c_X6_size 12 = .ok (.iload_n 2, 1) by decide +kernel) rfl,
  List.forall_mem_cons.mpr ⟨qz_vI C (show decode c_X6_size 13 = .ok (.invokevirtual 19, 3) by decide +kernel) ct_X6_isMissing mv_X6_isMissing cw_1002 vcX6 (show 1 < 2 by omega),
  List.forall_mem_cons.mpr ⟨qz_ifeq C (show decode c_X6_size 16 = .ok (.ifCond .eq 7, 3) by decide +kernel) (by decide),
  List.forall_mem_cons.mpr ⟨qz_iconst C (show decode c_X6_size 19 = .ok (.iconst 0, 1) by decide +kernel) (by decide +kernel),
  List.forall_mem_cons.mpr ⟨qz_goto C (show decode c_X6_size 20 = .ok (.goto 4, 3) by decide +kernel) (by decide),
  List.forall_mem_cons.mpr ⟨qz_iconst C (show decode c_X6_size 23 = .ok (.iconst 1, 1) by decide +kernel) (by decide +kernel),
  List.forall_mem_cons.mpr ⟨qz_iadd C (show decode c_X6_size 24 = .ok (.iadd, 1) by decide +kernel),
  List.forall_mem_cons.mpr ⟨qz_istore_n C (show decode c_X6_size 25 = .ok (.istore_n 1, 1) by decide +kernel) rfl,
  List.forall_mem_cons.mpr ⟨qz_iinc C (show decode c_X6_size 26 = .ok (.iinc 2 1, 3) by decide +kernel) (by decide +kernel),
  List.forall_mem_cons.mpr ⟨qz_goto C (show decode c_X6_size 29 = .ok (.goto (-25), 3) by decide +kernel) (by decide),
  List.forall_mem_cons.mpr ⟨qz_iload_n C (show decode c_X6_size 32 = .ok (.iload_n 1, 1) by decide +kernel) rfl,
  List.forall_mem_cons.mpr ⟨qz_iret C (show decode c_X6_size 33 = .ok (.ireturn, 1) by decide +kernel) rfl,
  (fun q h => by cases h)⟩⟩⟩⟩⟩⟩⟩⟩⟩⟩⟩⟩⟩⟩⟩⟩⟩⟩⟩⟩⟩
theorem sd_X6_size {G : pj_E} {A : Nat → Prop} {P : pj_P} {S : pj_U} {Z : pj_Z} (C : pj_C (G, A, (c_X6_size, y_X6_size.cls, 3, (some .int), 2), P, S, Z)) : ∀ q ∈ tb_X6_size, pj_S (G, A, (c_X6_size, y_X6_size.cls, 3, (some .int), 2), P, S, Z) pj_eI q.1 q.2 := sd_X6_size_0 C
noncomputable def C_X6_size_4 (f : Int32 → Int32 → pj_M → Option (Int32 × pj_M)) : pj_N (Int32 × pj_M) := fun L st m => match L, st with
  | [some (.inr (.inr (t0, w0, a0))), some (.inl x1), some (.inl x2)], [] => (match Nat.beq t0 0 && (Nat.beq w0 6 && (Nat.beq a0 1)) with
    | true => f x1 x2 m
    | false => none)
  | _, _ => none
set_option maxRecDepth 20000 in
theorem eq_X6_size_4 (n1 : Nat) (x1 : Int32) (x2 : Int32) (m : pj_M) : pj_run tb_X6_size [(4, C_X6_size_4 (H_X6_size_4 n1))] 23 4 [some (.inr (.inr (0, 6, 1))), some (.inl x1), some (.inl x2)] [] m = H_X6_size_4 (n1 + 1) x1 x2 m := by rfl
theorem sg_X6_size_4 {G : pj_E} {A : Nat → Prop} {P : pj_P} {S : pj_U} {Z : pj_Z} (C : pj_C (G, A, (c_X6_size, y_X6_size.cls, 3, (some .int), 2), P, S, Z)) : ∀ n1, pj_G (G, A, (c_X6_size, y_X6_size.cls, 3, (some .int), 2), P, S, Z) pj_eI 4 (C_X6_size_4 (H_X6_size_4 n1)) := by
  intro n1
  induction n1 with
  | zero =>
    intro L st m r h hR
    unfold C_X6_size_4 at h
    split at h
    · split at h
      · cases h
      · cases h
    · cases h
  | succ n1 ih1 =>
    intro L st m r h hR
    unfold C_X6_size_4 at h
    split at h
    · split at h
      · rename_i hbq
        simp only [Bool.and_eq_true, Nat.beq_eq] at hbq
        obtain ⟨rfl, rfl, rfl⟩ := hbq
        exact pj_run_ok (sd_X6_size C) (List.forall_mem_cons.mpr ⟨ih1, fun q h => by cases h⟩) 23 4 _ _ _ _ ((eq_X6_size_4 _ _ _ _).trans h) hR
      · cases h
    · cases h
set_option maxRecDepth 20000 in
theorem eq_X6_size (m : pj_M) : pj_run tb_X6_size [(4, C_X6_size_4 (H_X6_size_4  pj_z))] 23 0 [some (.inr (.inr (0, 6, 1))), none, none] [] m = F_X6_size m := by rfl
theorem ct_X6_size : pj_Ct pj_eI y_X6_size c_X6_size 3 (some .int) 2 W_X6_size := by
  refine pj_ct_of (by decide +kernel) ?_ ?_
  · intro as m r h
    unfold W_X6_size at h
    split at h
    · simp [pj_l0]
    · cases h
  · intro G A P S Z C as m r h hR
    unfold W_X6_size at h
    split at h
    · split at h
      · rename_i hbq
        simp only [Bool.and_eq_true, Nat.beq_eq] at hbq
        obtain ⟨rfl, rfl, rfl⟩ := hbq
        exact pj_run_ok (sd_X6_size C) (List.forall_mem_cons.mpr ⟨sg_X6_size_4 C  pj_z, fun q h => by cases h⟩) 23 0 _ _ _ _ ((eq_X6_size _).trans h) hR
      · cases h
    · cases h
/-! AlikeSteps$Rows.make(III)V -/
abbrev c_X6_make : ByteArray := prog_8_method_8_code
def y_X6_make : MethodName := ⟨RX6, "make", "(III)V"⟩
noncomputable def H_X6_make_17 : Nat → Int32 → Int32 → Int32 → pj_M → Option (pj_M)
  | 0, _, _, _, _ => none
  | n1 + 1, x1, x3, x4, m => (if x4 < x3 then (if ((x1 * 40) + x4) < 0 ∨ 320 ≤ ((x1 * 40) + x4).toNatClampNeg then none else (H_X6_make_17 n1 x1 x3 (x4 + 1) (pj_wr m 4 ((x1 * 40) + x4).toNatClampNeg 0))) else (some m))
noncomputable def F_X6_make (x1 : Int32) (x2 : Int32) (x3 : Int32) (m : pj_M) : Option (pj_M) := (if x1 < 0 ∨ 8 ≤ x1.toNatClampNeg then none else (if x1 < 0 ∨ 8 ≤ x1.toNatClampNeg then none else (H_X6_make_17 pj_z x1 x3 0 (pj_wr (pj_wr m 2 x1.toNatClampNeg x2) 3 x1.toNatClampNeg x3))))
noncomputable def W_X6_make : List pj_V → pj_M → Option (pj_M) := fun as m => match as with
  | [.inr (.inr (t0, w0, a0)), .inl x1, .inl x2, .inl x3] => (match Nat.beq t0 0 && (Nat.beq w0 6 && (Nat.beq a0 1)) with
    | true => F_X6_make x1 x2 x3 m
    | false => none)
  | _ => none
noncomputable def tb_X6_make_0 : List (Nat × pj_T (pj_M)) := [(0, qs_lda 0 1), (1, qs_gf 6 0 4), (4, qs_ldi 1 5), (5, qs_ldi 2 6), (6, qs_iast 7), (7, qs_lda 0 8), (8, qs_gf 6 1 11), (11, qs_ldi 1 12), (12, qs_ldi 3 13), (13, qs_iast 14), (14, qs_ci 0 15), (15, qs_sti 4 17), (17, qs_ldi 4 19), (19, qs_ldi 3 20), (20, qs_icge 42 23), (23, qs_lda 0 24), (24, qs_gf 6 2 27), (27, qs_ldi 1 28), (28, qs_ci 40 30), (30, qs_b2 (fun x y => x * y) 31), (31, qs_ldi 4 33), (33, qs_b2 (fun x y => x + y) 34), (34, qs_ci 0 35), (35, qs_iast 36), (36, qs_inc 4 1 39), (39, qs_go 17), (42, qs_vret)]
noncomputable abbrev tb_X6_make : List (Nat × pj_T (pj_M)) := tb_X6_make_0
theorem mv_X6_make : pj_mv y_X6_make c_X6_make 5 none 3 := ⟨⟨cw_373, cw_371, cw_372, cw_82⟩, by decide +kernel, by decide⟩
set_option maxRecDepth 20000 in
theorem sd_X6_make_0 {G : pj_E} {A : Nat → Prop} {P : pj_P} {S : pj_U} {Z : pj_Z} (C : pj_C (G, A, (c_X6_make, y_X6_make.cls, 5, none, 1), P, S, Z)) : ∀ q ∈ tb_X6_make_0, pj_S (G, A, (c_X6_make, y_X6_make.cls, 5, none, 1), P, S, Z) pj_eV q.1 q.2 :=
  List.forall_mem_cons.mpr ⟨qz_aload_n C (show decode c_X6_make 0 = .ok (.aload_n 0, 1) by decide +kernel) rfl,
  List.forall_mem_cons.mpr ⟨qz_gf (k := 0) C (show decode c_X6_make 1 = .ok (.getfield 9, 3) by decide +kernel) vcX6 wiX6 (by decide) cw_110,
  List.forall_mem_cons.mpr ⟨qz_iload_n C (show decode c_X6_make 4 = .ok (.iload_n 1, 1) by decide +kernel) rfl,
  List.forall_mem_cons.mpr ⟨qz_iload_n C (show decode c_X6_make 5 = .ok (.iload_n 2, 1) by decide +kernel) rfl,
  List.forall_mem_cons.mpr ⟨qz_iast C (show decode c_X6_make 6 = .ok (.iastore, 1) by decide +kernel),
  List.forall_mem_cons.mpr ⟨qz_aload_n C (show decode c_X6_make 7 = .ok (.aload_n 0, 1) by decide +kernel) rfl,
  List.forall_mem_cons.mpr ⟨qz_gf (k := 1) C (show decode c_X6_make 8 = .ok (.getfield 13, 3) by decide +kernel) vcX6 wiX6 (by decide) cw_111,
  List.forall_mem_cons.mpr ⟨qz_iload_n C (show decode c_X6_make 11 = .ok (.iload_n 1, 1) by decide +kernel) rfl,
  List.forall_mem_cons.mpr ⟨qz_iload_n C (show decode c_X6_make 12 = .ok (.iload_n 3, 1) by decide +kernel) rfl,
  List.forall_mem_cons.mpr ⟨qz_iast C (show decode c_X6_make 13 = .ok (.iastore, 1) by decide +kernel),
  List.forall_mem_cons.mpr ⟨qz_iconst C (show decode c_X6_make 14 = .ok (.iconst 0, 1) by decide +kernel) (by decide +kernel),
  List.forall_mem_cons.mpr ⟨qz_istore C (show decode c_X6_make 15 = .ok (.istore 4, 2) by decide +kernel),
  List.forall_mem_cons.mpr ⟨qz_iload C (show decode c_X6_make 17 = .ok (.iload 4, 2) by decide +kernel),
  List.forall_mem_cons.mpr ⟨qz_iload_n C (show decode c_X6_make 19 = .ok (.iload_n 3, 1) by decide +kernel) rfl,
  List.forall_mem_cons.mpr ⟨qz_icge C (show decode c_X6_make 20 = .ok (.if_icmp .ge 22, 3) by decide +kernel) (by decide),
  List.forall_mem_cons.mpr ⟨qz_aload_n C (show decode c_X6_make 23 = .ok (.aload_n 0, 1) by decide +kernel) rfl,
  List.forall_mem_cons.mpr ⟨qz_gf (k := 2) C (show decode c_X6_make 24 = .ok (.getfield 16, 3) by decide +kernel) vcX6 wiX6 (by decide) cw_112,
  List.forall_mem_cons.mpr ⟨qz_iload_n C (show decode c_X6_make 27 = .ok (.iload_n 1, 1) by decide +kernel) rfl,
  List.forall_mem_cons.mpr ⟨qz_bipush C (show decode c_X6_make 28 = .ok (.bipush 40, 2) by decide +kernel) (by decide +kernel),
  List.forall_mem_cons.mpr ⟨qz_imul C (show decode c_X6_make 30 = .ok (.imul, 1) by decide +kernel),
  List.forall_mem_cons.mpr ⟨qz_iload C (show decode c_X6_make 31 = .ok (.iload 4, 2) by decide +kernel),
  List.forall_mem_cons.mpr ⟨qz_iadd C (show decode c_X6_make 33 = .ok (.iadd, 1) by decide +kernel),
  List.forall_mem_cons.mpr ⟨qz_iconst C (show decode c_X6_make 34 = .ok (.iconst 0, 1) by decide +kernel) (by decide +kernel),
  List.forall_mem_cons.mpr ⟨qz_iast C (show decode c_X6_make 35 = .ok (.iastore, 1) by decide +kernel),
  List.forall_mem_cons.mpr ⟨qz_iinc C (show decode c_X6_make 36 = .ok (.iinc 4 1, 3) by decide +kernel) (by decide +kernel),
  List.forall_mem_cons.mpr ⟨qz_goto C (show decode c_X6_make 39 = .ok (.goto (-22), 3) by decide +kernel) (by decide),
  List.forall_mem_cons.mpr ⟨qz_vret C (show decode c_X6_make 42 = .ok (.return_, 1) by decide +kernel) rfl,
  (fun q h => by cases h)⟩⟩⟩⟩⟩⟩⟩⟩⟩⟩⟩⟩⟩⟩⟩⟩⟩⟩⟩⟩⟩⟩⟩⟩⟩⟩⟩
theorem sd_X6_make {G : pj_E} {A : Nat → Prop} {P : pj_P} {S : pj_U} {Z : pj_Z} (C : pj_C (G, A, (c_X6_make, y_X6_make.cls, 5, none, 1), P, S, Z)) : ∀ q ∈ tb_X6_make, pj_S (G, A, (c_X6_make, y_X6_make.cls, 5, none, 1), P, S, Z) pj_eV q.1 q.2 := sd_X6_make_0 C
noncomputable def C_X6_make_17 (f : Int32 → Int32 → Int32 → pj_M → Option (pj_M)) : pj_N (pj_M) := fun L st m => match L, st with
  | [some (.inr (.inr (t0, w0, a0))), some (.inl x1), _, some (.inl x3), some (.inl x4)], [] => (match Nat.beq t0 0 && (Nat.beq w0 6 && (Nat.beq a0 1)) with
    | true => f x1 x3 x4 m
    | false => none)
  | _, _ => none
set_option maxRecDepth 20000 in
theorem eq_X6_make_17 (n1 : Nat) (x1 : Int32) (x3 : Int32) (x4 : Int32) (d2 : Option pj_V) (m : pj_M) : pj_run tb_X6_make [(17, C_X6_make_17 (H_X6_make_17 n1))] 29 17 [some (.inr (.inr (0, 6, 1))), some (.inl x1), d2, some (.inl x3), some (.inl x4)] [] m = H_X6_make_17 (n1 + 1) x1 x3 x4 m := by rfl
theorem sg_X6_make_17 {G : pj_E} {A : Nat → Prop} {P : pj_P} {S : pj_U} {Z : pj_Z} (C : pj_C (G, A, (c_X6_make, y_X6_make.cls, 5, none, 1), P, S, Z)) : ∀ n1, pj_G (G, A, (c_X6_make, y_X6_make.cls, 5, none, 1), P, S, Z) pj_eV 17 (C_X6_make_17 (H_X6_make_17 n1)) := by
  intro n1
  induction n1 with
  | zero =>
    intro L st m r h hR
    unfold C_X6_make_17 at h
    split at h
    · split at h
      · cases h
      · cases h
    · cases h
  | succ n1 ih1 =>
    intro L st m r h hR
    unfold C_X6_make_17 at h
    split at h
    · split at h
      · rename_i hbq
        simp only [Bool.and_eq_true, Nat.beq_eq] at hbq
        obtain ⟨rfl, rfl, rfl⟩ := hbq
        exact pj_run_ok (sd_X6_make C) (List.forall_mem_cons.mpr ⟨ih1, fun q h => by cases h⟩) 29 17 _ _ _ _ ((eq_X6_make_17 _ _ _ _ _ _).trans h) hR
      · cases h
    · cases h
set_option maxRecDepth 20000 in
theorem eq_X6_make (x1 : Int32) (x2 : Int32) (x3 : Int32) (m : pj_M) : pj_run tb_X6_make [(17, C_X6_make_17 (H_X6_make_17  pj_z))] 29 0 [some (.inr (.inr (0, 6, 1))), some (.inl x1), some (.inl x2), some (.inl x3), none] [] m = F_X6_make x1 x2 x3 m := by rfl
theorem ct_X6_make : pj_Ct pj_eV y_X6_make c_X6_make 5 none 1 W_X6_make := by
  refine pj_ct_of (by decide +kernel) ?_ ?_
  · intro as m r h
    unfold W_X6_make at h
    split at h
    · simp [pj_l0]
    · cases h
  · intro G A P S Z C as m r h hR
    unfold W_X6_make at h
    split at h
    · split at h
      · rename_i hbq
        simp only [Bool.and_eq_true, Nat.beq_eq] at hbq
        obtain ⟨rfl, rfl, rfl⟩ := hbq
        exact pj_run_ok (sd_X6_make C) (List.forall_mem_cons.mpr ⟨sg_X6_make_17 C  pj_z, fun q h => by cases h⟩) 29 0 _ _ _ _ ((eq_X6_make _ _ _ _).trans h) hR
      · cases h
    · cases h
/-! AlikeSteps$Rows.remove(I)V -/
abbrev c_X6_remove : ByteArray := prog_8_method_9_code
def y_X6_remove : MethodName := ⟨RX6, "remove", "(I)V"⟩
noncomputable def F_X6_remove (x1 : Int32) (m : pj_M) : Option (pj_M) := (if x1 < 0 ∨ 8 ≤ x1.toNatClampNeg then none else (if x1 < 0 ∨ 8 ≤ x1.toNatClampNeg then none else (some (pj_wr (pj_wr m 2 x1.toNatClampNeg (-1)) 3 x1.toNatClampNeg 0))))
noncomputable def W_X6_remove : List pj_V → pj_M → Option (pj_M) := fun as m => match as with
  | [.inr (.inr (t0, w0, a0)), .inl x1] => (match Nat.beq t0 0 && (Nat.beq w0 6 && (Nat.beq a0 1)) with
    | true => F_X6_remove x1 m
    | false => none)
  | _ => none
noncomputable def tb_X6_remove_0 : List (Nat × pj_T (pj_M)) := [(0, qs_lda 0 1), (1, qs_gf 6 0 4), (4, qs_ldi 1 5), (5, qs_ci (-1) 6), (6, qs_iast 7), (7, qs_lda 0 8), (8, qs_gf 6 1 11), (11, qs_ldi 1 12), (12, qs_ci 0 13), (13, qs_iast 14), (14, qs_vret)]
noncomputable abbrev tb_X6_remove : List (Nat × pj_T (pj_M)) := tb_X6_remove_0
theorem mv_X6_remove : pj_mv y_X6_remove c_X6_remove 2 none 1 := ⟨⟨cw_423, cw_421, cw_422, cw_82⟩, by decide +kernel, by decide⟩
set_option maxRecDepth 20000 in
theorem sd_X6_remove_0 {G : pj_E} {A : Nat → Prop} {P : pj_P} {S : pj_U} {Z : pj_Z} (C : pj_C (G, A, (c_X6_remove, y_X6_remove.cls, 2, none, 1), P, S, Z)) : ∀ q ∈ tb_X6_remove_0, pj_S (G, A, (c_X6_remove, y_X6_remove.cls, 2, none, 1), P, S, Z) pj_eV q.1 q.2 :=
  List.forall_mem_cons.mpr ⟨qz_aload_n C (show decode c_X6_remove 0 = .ok (.aload_n 0, 1) by decide +kernel) rfl,
  List.forall_mem_cons.mpr ⟨qz_gf (k := 0) C (show decode c_X6_remove 1 = .ok (.getfield 9, 3) by decide +kernel) vcX6 wiX6 (by decide) cw_110,
  List.forall_mem_cons.mpr ⟨qz_iload_n C (show decode c_X6_remove 4 = .ok (.iload_n 1, 1) by decide +kernel) rfl,
  List.forall_mem_cons.mpr ⟨qz_iconst C (show decode c_X6_remove 5 = .ok (.iconst (-1), 1) by decide +kernel) (by decide +kernel),
  List.forall_mem_cons.mpr ⟨qz_iast C (show decode c_X6_remove 6 = .ok (.iastore, 1) by decide +kernel),
  List.forall_mem_cons.mpr ⟨qz_aload_n C (show decode c_X6_remove 7 = .ok (.aload_n 0, 1) by decide +kernel) rfl,
  List.forall_mem_cons.mpr ⟨qz_gf (k := 1) C (show decode c_X6_remove 8 = .ok (.getfield 13, 3) by decide +kernel) vcX6 wiX6 (by decide) cw_111,
  List.forall_mem_cons.mpr ⟨qz_iload_n C (show decode c_X6_remove 11 = .ok (.iload_n 1, 1) by decide +kernel) rfl,
  List.forall_mem_cons.mpr ⟨qz_iconst C (show decode c_X6_remove 12 = .ok (.iconst 0, 1) by decide +kernel) (by decide +kernel),
  List.forall_mem_cons.mpr ⟨qz_iast C (show decode c_X6_remove 13 = .ok (.iastore, 1) by decide +kernel),
  List.forall_mem_cons.mpr ⟨qz_vret C (show decode c_X6_remove 14 = .ok (.return_, 1) by decide +kernel) rfl,
  (fun q h => by cases h)⟩⟩⟩⟩⟩⟩⟩⟩⟩⟩⟩
theorem sd_X6_remove {G : pj_E} {A : Nat → Prop} {P : pj_P} {S : pj_U} {Z : pj_Z} (C : pj_C (G, A, (c_X6_remove, y_X6_remove.cls, 2, none, 1), P, S, Z)) : ∀ q ∈ tb_X6_remove, pj_S (G, A, (c_X6_remove, y_X6_remove.cls, 2, none, 1), P, S, Z) pj_eV q.1 q.2 := sd_X6_remove_0 C
set_option maxRecDepth 20000 in
theorem eq_X6_remove (x1 : Int32) (m : pj_M) : pj_run tb_X6_remove [] 13 0 [some (.inr (.inr (0, 6, 1))), some (.inl x1)] [] m = F_X6_remove x1 m := by rfl
theorem ct_X6_remove : pj_Ct pj_eV y_X6_remove c_X6_remove 2 none 1 W_X6_remove := by
  refine pj_ct_of (by decide +kernel) ?_ ?_
  · intro as m r h
    unfold W_X6_remove at h
    split at h
    · simp [pj_l0]
    · cases h
  · intro G A P S Z C as m r h hR
    unfold W_X6_remove at h
    split at h
    · split at h
      · rename_i hbq
        simp only [Bool.and_eq_true, Nat.beq_eq] at hbq
        obtain ⟨rfl, rfl, rfl⟩ := hbq
        exact pj_run_ok (sd_X6_remove C) (fun q h => by cases h) 13 0 _ _ _ _ ((eq_X6_remove _ _).trans h) hR
      · cases h
    · cases h
/-! AlikeSteps$Rows.cutToLane(II)I -/
abbrev c_X6_cutToLane : ByteArray := prog_8_method_13_code
def y_X6_cutToLane : MethodName := ⟨RX6, "cutToLane", "(II)I"⟩
noncomputable def F_X6_cutToLane (x0 : Int32) (x1 : Int32) (m : pj_M) : Option (Int32 × pj_M) := (if x0 = 0 then (some (x1.toInt8.toInt32, m)) else (if x0 = 1 then (some (x1.toInt16.toInt32, m)) else (some (x1, m))))
noncomputable def W_X6_cutToLane : List pj_V → pj_M → Option (Int32 × pj_M) := fun as m => match as with
  | [.inl x0, .inl x1] => F_X6_cutToLane x0 x1 m
  | _ => none
noncomputable def tb_X6_cutToLane_0 : List (Nat × pj_T (Int32 × pj_M)) := [(0, qs_ldi 0 1), (1, qs_sw [(0, 28), (1, 31)] 34), (28, qs_ldi 1 29), (29, qs_u1 (fun x => x.toInt8.toInt32) 30), (30, qs_iret), (31, qs_ldi 1 32), (32, qs_u1 (fun x => x.toInt16.toInt32) 33), (33, qs_iret), (34, qs_ldi 1 35), (35, qs_iret)]
noncomputable abbrev tb_X6_cutToLane : List (Nat × pj_T (Int32 × pj_M)) := tb_X6_cutToLane_0
theorem mv_X6_cutToLane : pj_ms y_X6_cutToLane c_X6_cutToLane 2 (some .int) 2 := ⟨⟨cw_396, cw_395, cw_82⟩, by decide +kernel, by decide⟩
set_option maxRecDepth 20000 in
theorem sd_X6_cutToLane_0 {G : pj_E} {A : Nat → Prop} {P : pj_P} {S : pj_U} {Z : pj_Z} (C : pj_C (G, A, (c_X6_cutToLane, y_X6_cutToLane.cls, 2, (some .int), 1), P, S, Z)) : ∀ q ∈ tb_X6_cutToLane_0, pj_S (G, A, (c_X6_cutToLane, y_X6_cutToLane.cls, 2, (some .int), 1), P, S, Z) pj_eI q.1 q.2 :=
  List.forall_mem_cons.mpr ⟨qz_iload_n C (show decode c_X6_cutToLane 0 = .ok (.iload_n 0, 1) by decide +kernel) rfl,
  List.forall_mem_cons.mpr ⟨qz_lsw C (show decode c_X6_cutToLane 1 = .ok (.lookupswitch 33 #[(0, 27), (1, 30)], 27) by decide +kernel) (by decide +kernel) (by decide +kernel),
  List.forall_mem_cons.mpr ⟨qz_iload_n C (show decode c_X6_cutToLane 28 = .ok (.iload_n 1, 1) by decide +kernel) rfl,
  List.forall_mem_cons.mpr ⟨qz_i2b C (show decode c_X6_cutToLane 29 = .ok (.i2b, 1) by decide +kernel),
  List.forall_mem_cons.mpr ⟨qz_iret C (show decode c_X6_cutToLane 30 = .ok (.ireturn, 1) by decide +kernel) rfl,
  List.forall_mem_cons.mpr ⟨qz_iload_n C (show decode c_X6_cutToLane 31 = .ok (.iload_n 1, 1) by decide +kernel) rfl,
  List.forall_mem_cons.mpr ⟨qz_i2s C (show decode c_X6_cutToLane 32 = .ok (.i2s, 1) by decide +kernel),
  List.forall_mem_cons.mpr ⟨qz_iret C (show decode c_X6_cutToLane 33 = .ok (.ireturn, 1) by decide +kernel) rfl,
  List.forall_mem_cons.mpr ⟨qz_iload_n C (show decode c_X6_cutToLane 34 = .ok (.iload_n 1, 1) by decide +kernel) rfl,
  List.forall_mem_cons.mpr ⟨qz_iret C (show decode c_X6_cutToLane 35 = .ok (.ireturn, 1) by decide +kernel) rfl,
  (fun q h => by cases h)⟩⟩⟩⟩⟩⟩⟩⟩⟩⟩
theorem sd_X6_cutToLane {G : pj_E} {A : Nat → Prop} {P : pj_P} {S : pj_U} {Z : pj_Z} (C : pj_C (G, A, (c_X6_cutToLane, y_X6_cutToLane.cls, 2, (some .int), 1), P, S, Z)) : ∀ q ∈ tb_X6_cutToLane, pj_S (G, A, (c_X6_cutToLane, y_X6_cutToLane.cls, 2, (some .int), 1), P, S, Z) pj_eI q.1 q.2 := sd_X6_cutToLane_0 C
set_option maxRecDepth 20000 in
theorem eq_X6_cutToLane (x0 : Int32) (x1 : Int32) (m : pj_M) : pj_run tb_X6_cutToLane [] 12 0 [some (.inl x0), some (.inl x1)] [] m = F_X6_cutToLane x0 x1 m := by rfl
theorem ct_X6_cutToLane : pj_Ct pj_eI y_X6_cutToLane c_X6_cutToLane 2 (some .int) 1 W_X6_cutToLane := by
  refine pj_ct_of (by decide +kernel) ?_ ?_
  · intro as m r h
    unfold W_X6_cutToLane at h
    split at h
    · simp [pj_l0]
    · cases h
  · intro G A P S Z C as m r h hR
    unfold W_X6_cutToLane at h
    split at h
    · exact pj_run_ok (sd_X6_cutToLane C) (fun q h => by cases h) 12 0 _ _ _ _ ((eq_X6_cutToLane _ _ _).trans h) hR
    · cases h
/-! AlikeSteps$Rows.put(III)I -/
abbrev c_X6_put : ByteArray := prog_8_method_10_code
def y_X6_put : MethodName := ⟨RX6, "put", "(III)I"⟩
noncomputable def F_X6_put (x1 : Int32) (x2 : Int32) (x3 : Int32) (m : pj_M) : Option (Int32 × pj_M) := (if x1 < 0 ∨ 8 ≤ x1.toNatClampNeg then none else ((F_X6_cutToLane (m.1 2 x1.toNatClampNeg) x3 m).bind fun q1 => (if ((x1 * 40) + x2) < 0 ∨ 320 ≤ ((x1 * 40) + x2).toNatClampNeg then none else (some (q1.1, (pj_wr q1.2 4 ((x1 * 40) + x2).toNatClampNeg q1.1))))))
noncomputable def W_X6_put : List pj_V → pj_M → Option (Int32 × pj_M) := fun as m => match as with
  | [.inr (.inr (t0, w0, a0)), .inl x1, .inl x2, .inl x3] => (match Nat.beq t0 0 && (Nat.beq w0 6 && (Nat.beq a0 1)) with
    | true => F_X6_put x1 x2 x3 m
    | false => none)
  | _ => none
noncomputable def tb_X6_put_0 : List (Nat × pj_T (Int32 × pj_M)) := [(0, qs_lda 0 1), (1, qs_gf 6 0 4), (4, qs_ldi 1 5), (5, qs_iald 6), (6, qs_ldi 3 7), (7, qs_sI 2 W_X6_cutToLane 10), (10, qs_sti 4 12), (12, qs_lda 0 13), (13, qs_gf 6 2 16), (16, qs_ldi 1 17), (17, qs_ci 40 19), (19, qs_b2 (fun x y => x * y) 20), (20, qs_ldi 2 21), (21, qs_b2 (fun x y => x + y) 22), (22, qs_ldi 4 24), (24, qs_iast 25), (25, qs_ldi 4 27), (27, qs_iret)]
noncomputable abbrev tb_X6_put : List (Nat × pj_T (Int32 × pj_M)) := tb_X6_put_0
theorem mv_X6_put : pj_mv y_X6_put c_X6_put 5 (some .int) 3 := ⟨⟨cw_393, cw_391, cw_392, cw_82⟩, by decide +kernel, by decide⟩
set_option maxRecDepth 20000 in
theorem sd_X6_put_0 {G : pj_E} {A : Nat → Prop} {P : pj_P} {S : pj_U} {Z : pj_Z} (C : pj_C (G, A, (c_X6_put, y_X6_put.cls, 5, (some .int), 2), P, S, Z)) : ∀ q ∈ tb_X6_put_0, pj_S (G, A, (c_X6_put, y_X6_put.cls, 5, (some .int), 2), P, S, Z) pj_eI q.1 q.2 :=
  List.forall_mem_cons.mpr ⟨qz_aload_n C (show decode c_X6_put 0 = .ok (.aload_n 0, 1) by decide +kernel) rfl,
  List.forall_mem_cons.mpr ⟨qz_gf (k := 0) C (show decode c_X6_put 1 = .ok (.getfield 9, 3) by decide +kernel) vcX6 wiX6 (by decide) cw_110,
  List.forall_mem_cons.mpr ⟨qz_iload_n C (show decode c_X6_put 4 = .ok (.iload_n 1, 1) by decide +kernel) rfl,
  List.forall_mem_cons.mpr ⟨qz_iald C (show decode c_X6_put 5 = .ok (.iaload, 1) by decide +kernel),
  List.forall_mem_cons.mpr ⟨qz_iload_n C (show decode c_X6_put 6 = .ok (.iload_n 3, 1) by decide +kernel) rfl,
  List.forall_mem_cons.mpr ⟨qz_sI C (show decode c_X6_put 7 = .ok (.invokestatic 23, 3) by decide +kernel) ct_X6_cutToLane mv_X6_cutToLane (Or.inl cw_394) (show 1 < 2 by omega),
  List.forall_mem_cons.mpr ⟨qz_istore C (show decode c_X6_put 10 = .ok (.istore 4, 2) by decide +kernel),
  List.forall_mem_cons.mpr ⟨qz_aload_n C (show decode c_X6_put 12 = .ok (.aload_n 0, 1) by decide +kernel) rfl,
  List.forall_mem_cons.mpr ⟨qz_gf (k := 2) C (show decode c_X6_put 13 = .ok (.getfield 16, 3) by decide +kernel) vcX6 wiX6 (by decide) cw_112,
  List.forall_mem_cons.mpr ⟨qz_iload_n C (show decode c_X6_put 16 = .ok (.iload_n 1, 1) by decide +kernel) rfl,
  List.forall_mem_cons.mpr ⟨qz_bipush C (show decode c_X6_put 17 = .ok (.bipush 40, 2) by decide +kernel) (by decide +kernel),
  List.forall_mem_cons.mpr ⟨qz_imul C (show decode c_X6_put 19 = .ok (.imul, 1) by decide +kernel),
  List.forall_mem_cons.mpr ⟨qz_iload_n C (show decode c_X6_put 20 = .ok (.iload_n 2, 1) by decide +kernel) rfl,
  List.forall_mem_cons.mpr ⟨qz_iadd C (show decode c_X6_put 21 = .ok (.iadd, 1) by decide +kernel),
  List.forall_mem_cons.mpr ⟨qz_iload C (show decode c_X6_put 22 = .ok (.iload 4, 2) by decide +kernel),
  List.forall_mem_cons.mpr ⟨qz_iast C (show decode c_X6_put 24 = .ok (.iastore, 1) by decide +kernel),
  List.forall_mem_cons.mpr ⟨qz_iload C (show decode c_X6_put 25 = .ok (.iload 4, 2) by decide +kernel),
  List.forall_mem_cons.mpr ⟨qz_iret C (show decode c_X6_put 27 = .ok (.ireturn, 1) by decide +kernel) rfl,
  (fun q h => by cases h)⟩⟩⟩⟩⟩⟩⟩⟩⟩⟩⟩⟩⟩⟩⟩⟩⟩⟩
theorem sd_X6_put {G : pj_E} {A : Nat → Prop} {P : pj_P} {S : pj_U} {Z : pj_Z} (C : pj_C (G, A, (c_X6_put, y_X6_put.cls, 5, (some .int), 2), P, S, Z)) : ∀ q ∈ tb_X6_put, pj_S (G, A, (c_X6_put, y_X6_put.cls, 5, (some .int), 2), P, S, Z) pj_eI q.1 q.2 := sd_X6_put_0 C
set_option maxRecDepth 20000 in
theorem eq_X6_put (x1 : Int32) (x2 : Int32) (x3 : Int32) (m : pj_M) : pj_run tb_X6_put [] 20 0 [some (.inr (.inr (0, 6, 1))), some (.inl x1), some (.inl x2), some (.inl x3), none] [] m = F_X6_put x1 x2 x3 m := by rfl
theorem ct_X6_put : pj_Ct pj_eI y_X6_put c_X6_put 5 (some .int) 2 W_X6_put := by
  refine pj_ct_of (by decide +kernel) ?_ ?_
  · intro as m r h
    unfold W_X6_put at h
    split at h
    · simp [pj_l0]
    · cases h
  · intro G A P S Z C as m r h hR
    unfold W_X6_put at h
    split at h
    · split at h
      · rename_i hbq
        simp only [Bool.and_eq_true, Nat.beq_eq] at hbq
        obtain ⟨rfl, rfl, rfl⟩ := hbq
        exact pj_run_ok (sd_X6_put C) (fun q h => by cases h) 20 0 _ _ _ _ ((eq_X6_put _ _ _ _).trans h) hR
      · cases h
    · cases h
/-! AlikeSteps$Rows.hasRange(III)Z -/
abbrev c_X6_hasRange : ByteArray := prog_8_method_11_code
def y_X6_hasRange : MethodName := ⟨RX6, "hasRange", "(III)Z"⟩
noncomputable def F_X6_hasRange (x1 : Int32) (x2 : Int32) (x3 : Int32) (m : pj_M) : Option (Int32 × pj_M) := (if x2 < 0 then (some (0, m)) else (if x3 < 0 then (some (0, m)) else (if x1 < 0 ∨ 8 ≤ x1.toNatClampNeg then none else (if ((m.1 3 x1.toNatClampNeg) - x3) < x2 then (some (0, m)) else (some (1, m))))))
noncomputable def W_X6_hasRange : List pj_V → pj_M → Option (Int32 × pj_M) := fun as m => match as with
  | [.inr (.inr (t0, w0, a0)), .inl x1, .inl x2, .inl x3] => (match Nat.beq t0 0 && (Nat.beq w0 6 && (Nat.beq a0 1)) with
    | true => F_X6_hasRange x1 x2 x3 m
    | false => none)
  | _ => none
noncomputable def tb_X6_hasRange_0 : List (Nat × pj_T (Int32 × pj_M)) := [(0, qs_ldi 2 1), (1, qs_iflt 24 4), (4, qs_ldi 3 5), (5, qs_iflt 24 8), (8, qs_ldi 2 9), (9, qs_lda 0 10), (10, qs_gf 6 1 13), (13, qs_ldi 1 14), (14, qs_iald 15), (15, qs_ldi 3 16), (16, qs_b2 (fun x y => x - y) 17), (17, qs_icgt 24 20), (20, qs_ci 1 21), (21, qs_go 25), (24, qs_ci 0 25), (25, qs_zret)]
noncomputable abbrev tb_X6_hasRange : List (Nat × pj_T (Int32 × pj_M)) := tb_X6_hasRange_0
theorem mv_X6_hasRange : pj_mv y_X6_hasRange c_X6_hasRange 4 (some .boolean) 3 := ⟨⟨cw_408, cw_406, cw_407, cw_82⟩, by decide +kernel, by decide⟩
set_option maxRecDepth 20000 in
theorem sd_X6_hasRange_0 {G : pj_E} {A : Nat → Prop} {P : pj_P} {S : pj_U} {Z : pj_Z} (C : pj_C (G, A, (c_X6_hasRange, y_X6_hasRange.cls, 4, (some .boolean), 1), P, S, Z)) : ∀ q ∈ tb_X6_hasRange_0, pj_S (G, A, (c_X6_hasRange, y_X6_hasRange.cls, 4, (some .boolean), 1), P, S, Z) pj_eI q.1 q.2 :=
  List.forall_mem_cons.mpr ⟨qz_iload_n C (show decode c_X6_hasRange 0 = .ok (.iload_n 2, 1) by decide +kernel) rfl,
  List.forall_mem_cons.mpr ⟨qz_iflt C (show decode c_X6_hasRange 1 = .ok (.ifCond .lt 23, 3) by decide +kernel) (by decide),
  List.forall_mem_cons.mpr ⟨qz_iload_n C (show decode c_X6_hasRange 4 = .ok (.iload_n 3, 1) by decide +kernel) rfl,
  List.forall_mem_cons.mpr ⟨qz_iflt C (show decode c_X6_hasRange 5 = .ok (.ifCond .lt 19, 3) by decide +kernel) (by decide),
  List.forall_mem_cons.mpr ⟨qz_iload_n C (show decode c_X6_hasRange 8 = .ok (.iload_n 2, 1) by decide +kernel) rfl,
  List.forall_mem_cons.mpr ⟨qz_aload_n C (show decode c_X6_hasRange 9 = .ok (.aload_n 0, 1) by decide +kernel) rfl,
  List.forall_mem_cons.mpr ⟨qz_gf (k := 1) C (show decode c_X6_hasRange 10 = .ok (.getfield 13, 3) by decide +kernel) vcX6 wiX6 (by decide) cw_111,
  List.forall_mem_cons.mpr ⟨qz_iload_n C (show decode c_X6_hasRange 13 = .ok (.iload_n 1, 1) by decide +kernel) rfl,
  List.forall_mem_cons.mpr ⟨qz_iald C (show decode c_X6_hasRange 14 = .ok (.iaload, 1) by decide +kernel),
  List.forall_mem_cons.mpr ⟨qz_iload_n C (show decode c_X6_hasRange 15 = .ok (.iload_n 3, 1) by decide +kernel) rfl,
  List.forall_mem_cons.mpr ⟨qz_isub C (show decode c_X6_hasRange 16 = .ok (.isub, 1) by decide +kernel),
  List.forall_mem_cons.mpr ⟨qz_icgt C (show decode c_X6_hasRange 17 = .ok (.if_icmp .gt 7, 3) by decide +kernel) (by decide),
  List.forall_mem_cons.mpr ⟨qz_iconst C (show decode c_X6_hasRange 20 = .ok (.iconst 1, 1) by decide +kernel) (by decide +kernel),
  List.forall_mem_cons.mpr ⟨qz_goto C (show decode c_X6_hasRange 21 = .ok (.goto 4, 3) by decide +kernel) (by decide),
  List.forall_mem_cons.mpr ⟨qz_iconst C (show decode c_X6_hasRange 24 = .ok (.iconst 0, 1) by decide +kernel) (by decide +kernel),
  List.forall_mem_cons.mpr ⟨qz_zret C (show decode c_X6_hasRange 25 = .ok (.ireturn, 1) by decide +kernel) rfl,
  (fun q h => by cases h)⟩⟩⟩⟩⟩⟩⟩⟩⟩⟩⟩⟩⟩⟩⟩⟩
theorem sd_X6_hasRange {G : pj_E} {A : Nat → Prop} {P : pj_P} {S : pj_U} {Z : pj_Z} (C : pj_C (G, A, (c_X6_hasRange, y_X6_hasRange.cls, 4, (some .boolean), 1), P, S, Z)) : ∀ q ∈ tb_X6_hasRange, pj_S (G, A, (c_X6_hasRange, y_X6_hasRange.cls, 4, (some .boolean), 1), P, S, Z) pj_eI q.1 q.2 := sd_X6_hasRange_0 C
set_option maxRecDepth 20000 in
theorem eq_X6_hasRange (x1 : Int32) (x2 : Int32) (x3 : Int32) (m : pj_M) : pj_run tb_X6_hasRange [] 18 0 [some (.inr (.inr (0, 6, 1))), some (.inl x1), some (.inl x2), some (.inl x3)] [] m = F_X6_hasRange x1 x2 x3 m := by rfl
theorem ct_X6_hasRange : pj_Ct pj_eI y_X6_hasRange c_X6_hasRange 4 (some .boolean) 1 W_X6_hasRange := by
  refine pj_ct_of (by decide +kernel) ?_ ?_
  · intro as m r h
    unfold W_X6_hasRange at h
    split at h
    · simp [pj_l0]
    · cases h
  · intro G A P S Z C as m r h hR
    unfold W_X6_hasRange at h
    split at h
    · split at h
      · rename_i hbq
        simp only [Bool.and_eq_true, Nat.beq_eq] at hbq
        obtain ⟨rfl, rfl, rfl⟩ := hbq
        exact pj_run_ok (sd_X6_hasRange C) (fun q h => by cases h) 18 0 _ _ _ _ ((eq_X6_hasRange _ _ _ _).trans h) hR
      · cases h
    · cases h
/-! AlikeSteps$Rows.carry(IIIII)V -/
abbrev c_X6_carry : ByteArray := prog_8_method_12_code
def y_X6_carry : MethodName := ⟨RX6, "carry", "(IIIII)V"⟩
noncomputable def F_X6_carry (x1 : Int32) (x2 : Int32) (x3 : Int32) (x4 : Int32) (x5 : Int32) (m : pj_M) : Option (pj_M) := (if (((x1 * 40) + x2) < 0 ∨ ((x3 * 40) + x4) < 0 ∨ x5 < 0) ∨ 320 < ((x1 * 40) + x2).toNatClampNeg + x5.toNatClampNeg ∨ 320 < ((x3 * 40) + x4).toNatClampNeg + x5.toNatClampNeg then none else (some (pj_cp m 4 ((x1 * 40) + x2).toNatClampNeg 4 ((x3 * 40) + x4).toNatClampNeg x5.toNatClampNeg)))
noncomputable def W_X6_carry : List pj_V → pj_M → Option (pj_M) := fun as m => match as with
  | [.inr (.inr (t0, w0, a0)), .inl x1, .inl x2, .inl x3, .inl x4, .inl x5] => (match Nat.beq t0 0 && (Nat.beq w0 6 && (Nat.beq a0 1)) with
    | true => F_X6_carry x1 x2 x3 x4 x5 m
    | false => none)
  | _ => none
noncomputable def tb_X6_carry_0 : List (Nat × pj_T (pj_M)) := [(0, qs_lda 0 1), (1, qs_gf 6 2 4), (4, qs_ldi 1 5), (5, qs_ci 40 7), (7, qs_b2 (fun x y => x * y) 8), (8, qs_ldi 2 9), (9, qs_b2 (fun x y => x + y) 10), (10, qs_lda 0 11), (11, qs_gf 6 2 14), (14, qs_ldi 3 15), (15, qs_ci 40 17), (17, qs_b2 (fun x y => x * y) 18), (18, qs_ldi 4 20), (20, qs_b2 (fun x y => x + y) 21), (21, qs_ldi 5 23), (23, qs_cpi 26), (26, qs_vret)]
noncomputable abbrev tb_X6_carry : List (Nat × pj_T (pj_M)) := tb_X6_carry_0
theorem mv_X6_carry : pj_mv y_X6_carry c_X6_carry 6 none 5 := ⟨⟨cw_412, cw_410, cw_411, cw_82⟩, by decide +kernel, by decide⟩
set_option maxRecDepth 20000 in
theorem sd_X6_carry_0 {G : pj_E} {A : Nat → Prop} {P : pj_P} {S : pj_U} {Z : pj_Z} (C : pj_C (G, A, (c_X6_carry, y_X6_carry.cls, 6, none, 1), P, S, Z)) : ∀ q ∈ tb_X6_carry_0, pj_S (G, A, (c_X6_carry, y_X6_carry.cls, 6, none, 1), P, S, Z) pj_eV q.1 q.2 :=
  List.forall_mem_cons.mpr ⟨qz_aload_n C (show decode c_X6_carry 0 = .ok (.aload_n 0, 1) by decide +kernel) rfl,
  List.forall_mem_cons.mpr ⟨qz_gf (k := 2) C (show decode c_X6_carry 1 = .ok (.getfield 16, 3) by decide +kernel) vcX6 wiX6 (by decide) cw_112,
  List.forall_mem_cons.mpr ⟨qz_iload_n C (show decode c_X6_carry 4 = .ok (.iload_n 1, 1) by decide +kernel) rfl,
  List.forall_mem_cons.mpr ⟨qz_bipush C (show decode c_X6_carry 5 = .ok (.bipush 40, 2) by decide +kernel) (by decide +kernel),
  List.forall_mem_cons.mpr ⟨qz_imul C (show decode c_X6_carry 7 = .ok (.imul, 1) by decide +kernel),
  List.forall_mem_cons.mpr ⟨qz_iload_n C (show decode c_X6_carry 8 = .ok (.iload_n 2, 1) by decide +kernel) rfl,
  List.forall_mem_cons.mpr ⟨qz_iadd C (show decode c_X6_carry 9 = .ok (.iadd, 1) by decide +kernel),
  List.forall_mem_cons.mpr ⟨qz_aload_n C (show decode c_X6_carry 10 = .ok (.aload_n 0, 1) by decide +kernel) rfl,
  List.forall_mem_cons.mpr ⟨qz_gf (k := 2) C (show decode c_X6_carry 11 = .ok (.getfield 16, 3) by decide +kernel) vcX6 wiX6 (by decide) cw_112,
  List.forall_mem_cons.mpr ⟨qz_iload_n C (show decode c_X6_carry 14 = .ok (.iload_n 3, 1) by decide +kernel) rfl,
  List.forall_mem_cons.mpr ⟨qz_bipush C (show decode c_X6_carry 15 = .ok (.bipush 40, 2) by decide +kernel) (by decide +kernel),
  List.forall_mem_cons.mpr ⟨qz_imul C (show decode c_X6_carry 17 = .ok (.imul, 1) by decide +kernel),
  List.forall_mem_cons.mpr ⟨qz_iload C (show decode c_X6_carry 18 = .ok (.iload 4, 2) by decide +kernel),
  List.forall_mem_cons.mpr ⟨qz_iadd C (show decode c_X6_carry 20 = .ok (.iadd, 1) by decide +kernel),
  List.forall_mem_cons.mpr ⟨qz_iload C (show decode c_X6_carry 21 = .ok (.iload 5, 2) by decide +kernel),
  List.forall_mem_cons.mpr ⟨qz_cpi C (show decode c_X6_carry 23 = .ok (.invokestatic 27, 3) by decide +kernel) cw_413 cw_415 cw_414 cw_93,
  List.forall_mem_cons.mpr ⟨qz_vret C (show decode c_X6_carry 26 = .ok (.return_, 1) by decide +kernel) rfl,
  (fun q h => by cases h)⟩⟩⟩⟩⟩⟩⟩⟩⟩⟩⟩⟩⟩⟩⟩⟩⟩
theorem sd_X6_carry {G : pj_E} {A : Nat → Prop} {P : pj_P} {S : pj_U} {Z : pj_Z} (C : pj_C (G, A, (c_X6_carry, y_X6_carry.cls, 6, none, 1), P, S, Z)) : ∀ q ∈ tb_X6_carry, pj_S (G, A, (c_X6_carry, y_X6_carry.cls, 6, none, 1), P, S, Z) pj_eV q.1 q.2 := sd_X6_carry_0 C
set_option maxRecDepth 20000 in
theorem eq_X6_carry (x1 : Int32) (x2 : Int32) (x3 : Int32) (x4 : Int32) (x5 : Int32) (m : pj_M) : pj_run tb_X6_carry [] 19 0 [some (.inr (.inr (0, 6, 1))), some (.inl x1), some (.inl x2), some (.inl x3), some (.inl x4), some (.inl x5)] [] m = F_X6_carry x1 x2 x3 x4 x5 m := by rfl
theorem ct_X6_carry : pj_Ct pj_eV y_X6_carry c_X6_carry 6 none 1 W_X6_carry := by
  refine pj_ct_of (by decide +kernel) ?_ ?_
  · intro as m r h
    unfold W_X6_carry at h
    split at h
    · simp [pj_l0]
    · cases h
  · intro G A P S Z C as m r h hR
    unfold W_X6_carry at h
    split at h
    · split at h
      · rename_i hbq
        simp only [Bool.and_eq_true, Nat.beq_eq] at hbq
        obtain ⟨rfl, rfl, rfl⟩ := hbq
        exact pj_run_ok (sd_X6_carry C) (fun q h => by cases h) 19 0 _ _ _ _ ((eq_X6_carry _ _ _ _ _ _).trans h) hR
      · cases h
    · cases h
/-! AlikeSteps$Tape.isFull()Z -/
abbrev c_X8_isFull : ByteArray := prog_10_method_2_code
def y_X8_isFull : MethodName := ⟨RX8, "isFull", "()Z"⟩
noncomputable def F_X8_isFull (m : pj_M) : Option (Int32 × pj_M) := (if (m.1 5 1) < 140 then (some (0, m)) else (some (1, m)))
noncomputable def W_X8_isFull : List pj_V → pj_M → Option (Int32 × pj_M) := fun as m => match as with
  | [.inr (.inr (t0, w0, a0))] => (match Nat.beq t0 0 && (Nat.beq w0 8 && (Nat.beq a0 5)) with
    | true => F_X8_isFull m
    | false => none)
  | _ => none
noncomputable def tb_X8_isFull_0 : List (Nat × pj_T (Int32 × pj_M)) := [(0, qs_lda 0 1), (1, qs_gf 8 1 4), (4, qs_ci 140 7), (7, qs_iclt 14 10), (10, qs_ci 1 11), (11, qs_go 15), (14, qs_ci 0 15), (15, qs_zret)]
noncomputable abbrev tb_X8_isFull : List (Nat × pj_T (Int32 × pj_M)) := tb_X8_isFull_0
theorem mv_X8_isFull : pj_mv y_X8_isFull c_X8_isFull 1 (some .boolean) 0 := ⟨⟨cw_431, cw_429, cw_430, cw_83⟩, by decide +kernel, by decide⟩
set_option maxRecDepth 20000 in
theorem sd_X8_isFull_0 {G : pj_E} {A : Nat → Prop} {P : pj_P} {S : pj_U} {Z : pj_Z} (C : pj_C (G, A, (c_X8_isFull, y_X8_isFull.cls, 1, (some .boolean), 1), P, S, Z)) : ∀ q ∈ tb_X8_isFull_0, pj_S (G, A, (c_X8_isFull, y_X8_isFull.cls, 1, (some .boolean), 1), P, S, Z) pj_eI q.1 q.2 :=
  List.forall_mem_cons.mpr ⟨qz_aload_n C (show decode c_X8_isFull 0 = .ok (.aload_n 0, 1) by decide +kernel) rfl,
  List.forall_mem_cons.mpr ⟨qz_gf (k := 1) C (show decode c_X8_isFull 1 = .ok (.getfield 15, 3) by decide +kernel) vcX8 wiX8 (by decide) cw_128,
  List.forall_mem_cons.mpr ⟨qz_sipush C (show decode c_X8_isFull 4 = .ok (.sipush 140, 3) by decide +kernel) (by decide +kernel),
  List.forall_mem_cons.mpr ⟨qz_iclt C (show decode c_X8_isFull 7 = .ok (.if_icmp .lt 7, 3) by decide +kernel) (by decide),
  List.forall_mem_cons.mpr ⟨qz_iconst C (show decode c_X8_isFull 10 = .ok (.iconst 1, 1) by decide +kernel) (by decide +kernel),
  List.forall_mem_cons.mpr ⟨qz_goto C (show decode c_X8_isFull 11 = .ok (.goto 4, 3) by decide +kernel) (by decide),
  List.forall_mem_cons.mpr ⟨qz_iconst C (show decode c_X8_isFull 14 = .ok (.iconst 0, 1) by decide +kernel) (by decide +kernel),
  List.forall_mem_cons.mpr ⟨qz_zret C (show decode c_X8_isFull 15 = .ok (.ireturn, 1) by decide +kernel) rfl,
  (fun q h => by cases h)⟩⟩⟩⟩⟩⟩⟩⟩
theorem sd_X8_isFull {G : pj_E} {A : Nat → Prop} {P : pj_P} {S : pj_U} {Z : pj_Z} (C : pj_C (G, A, (c_X8_isFull, y_X8_isFull.cls, 1, (some .boolean), 1), P, S, Z)) : ∀ q ∈ tb_X8_isFull, pj_S (G, A, (c_X8_isFull, y_X8_isFull.cls, 1, (some .boolean), 1), P, S, Z) pj_eI q.1 q.2 := sd_X8_isFull_0 C
set_option maxRecDepth 20000 in
theorem eq_X8_isFull (m : pj_M) : pj_run tb_X8_isFull [] 10 0 [some (.inr (.inr (0, 8, 5)))] [] m = F_X8_isFull m := by rfl
theorem ct_X8_isFull : pj_Ct pj_eI y_X8_isFull c_X8_isFull 1 (some .boolean) 1 W_X8_isFull := by
  refine pj_ct_of (by decide +kernel) ?_ ?_
  · intro as m r h
    unfold W_X8_isFull at h
    split at h
    · simp [pj_l0]
    · cases h
  · intro G A P S Z C as m r h hR
    unfold W_X8_isFull at h
    split at h
    · split at h
      · rename_i hbq
        simp only [Bool.and_eq_true, Nat.beq_eq] at hbq
        obtain ⟨rfl, rfl, rfl⟩ := hbq
        exact pj_run_ok (sd_X8_isFull C) (fun q h => by cases h) 10 0 _ _ _ _ ((eq_X8_isFull _).trans h) hR
      · cases h
    · cases h
/-! AlikeSteps$Tape.size()I -/
abbrev c_X8_size : ByteArray := prog_10_method_3_code
def y_X8_size : MethodName := ⟨RX8, "size", "()I"⟩
noncomputable def F_X8_size (m : pj_M) : Option (Int32 × pj_M) := (some (m.1 5 1, m))
noncomputable def W_X8_size : List pj_V → pj_M → Option (Int32 × pj_M) := fun as m => match as with
  | [.inr (.inr (t0, w0, a0))] => (match Nat.beq t0 0 && (Nat.beq w0 8 && (Nat.beq a0 5)) with
    | true => F_X8_size m
    | false => none)
  | _ => none
noncomputable def tb_X8_size_0 : List (Nat × pj_T (Int32 × pj_M)) := [(0, qs_lda 0 1), (1, qs_gf 8 1 4), (4, qs_iret)]
noncomputable abbrev tb_X8_size : List (Nat × pj_T (Int32 × pj_M)) := tb_X8_size_0
theorem mv_X8_size : pj_mv y_X8_size c_X8_size 1 (some .int) 0 := ⟨⟨cw_1006, cw_1004, cw_1005, cw_83⟩, by decide +kernel, by decide⟩
set_option maxRecDepth 20000 in
theorem sd_X8_size_0 {G : pj_E} {A : Nat → Prop} {P : pj_P} {S : pj_U} {Z : pj_Z} (C : pj_C (G, A, (c_X8_size, y_X8_size.cls, 1, (some .int), 1), P, S, Z)) : ∀ q ∈ tb_X8_size_0, pj_S (G, A, (c_X8_size, y_X8_size.cls, 1, (some .int), 1), P, S, Z) pj_eI q.1 q.2 :=
  List.forall_mem_cons.mpr ⟨qz_aload_n C (show decode c_X8_size 0 = .ok (.aload_n 0, 1) by decide +kernel) rfl,
  List.forall_mem_cons.mpr ⟨qz_gf (k := 1) C (show decode c_X8_size 1 = .ok (.getfield 15, 3) by decide +kernel) vcX8 wiX8 (by decide) cw_128,
  List.forall_mem_cons.mpr ⟨qz_iret C (show decode c_X8_size 4 = .ok (.ireturn, 1) by decide +kernel) rfl,
  (fun q h => by cases h)⟩⟩⟩
theorem sd_X8_size {G : pj_E} {A : Nat → Prop} {P : pj_P} {S : pj_U} {Z : pj_Z} (C : pj_C (G, A, (c_X8_size, y_X8_size.cls, 1, (some .int), 1), P, S, Z)) : ∀ q ∈ tb_X8_size, pj_S (G, A, (c_X8_size, y_X8_size.cls, 1, (some .int), 1), P, S, Z) pj_eI q.1 q.2 := sd_X8_size_0 C
set_option maxRecDepth 20000 in
theorem eq_X8_size (m : pj_M) : pj_run tb_X8_size [] 5 0 [some (.inr (.inr (0, 8, 5)))] [] m = F_X8_size m := by rfl
theorem ct_X8_size : pj_Ct pj_eI y_X8_size c_X8_size 1 (some .int) 1 W_X8_size := by
  refine pj_ct_of (by decide +kernel) ?_ ?_
  · intro as m r h
    unfold W_X8_size at h
    split at h
    · simp [pj_l0]
    · cases h
  · intro G A P S Z C as m r h hR
    unfold W_X8_size at h
    split at h
    · split at h
      · rename_i hbq
        simp only [Bool.and_eq_true, Nat.beq_eq] at hbq
        obtain ⟨rfl, rfl, rfl⟩ := hbq
        exact pj_run_ok (sd_X8_size C) (fun q h => by cases h) 5 0 _ _ _ _ ((eq_X8_size _).trans h) hR
      · cases h
    · cases h
/-! AlikeSteps$Tape.append(I)I -/
abbrev c_X8_append : ByteArray := prog_10_method_4_code
def y_X8_append : MethodName := ⟨RX8, "append", "(I)I"⟩
noncomputable def F_X8_append (x1 : Int32) (m : pj_M) : Option (Int32 × pj_M) := ((F_X8_isFull m).bind fun q1 => (if q1.1 = 0 then (if (q1.2.1 5 1) < 0 ∨ 140 ≤ (q1.2.1 5 1).toNatClampNeg then none else (some ((pj_wr (pj_wr q1.2 6 (q1.2.1 5 1).toNatClampNeg x1) 5 1 (((pj_wr q1.2 6 (q1.2.1 5 1).toNatClampNeg x1).1 5 1) + 1)).1 5 1, (pj_wr (pj_wr q1.2 6 (q1.2.1 5 1).toNatClampNeg x1) 5 1 (((pj_wr q1.2 6 (q1.2.1 5 1).toNatClampNeg x1).1 5 1) + 1))))) else (some (q1.2.1 5 1, q1.2))))
noncomputable def W_X8_append : List pj_V → pj_M → Option (Int32 × pj_M) := fun as m => match as with
  | [.inr (.inr (t0, w0, a0)), .inl x1] => (match Nat.beq t0 0 && (Nat.beq w0 8 && (Nat.beq a0 5)) with
    | true => F_X8_append x1 m
    | false => none)
  | _ => none
noncomputable def tb_X8_append_0 : List (Nat × pj_T (Int32 × pj_M)) := [(0, qs_lda 0 1), (1, qs_vI 8 1 W_X8_isFull 4), (4, qs_ifne 27 7), (7, qs_lda 0 8), (8, qs_gf 8 0 11), (11, qs_lda 0 12), (12, qs_gf 8 1 15), (15, qs_ldi 1 16), (16, qs_iast 17), (17, qs_lda 0 18), (18, qs_dup 19), (19, qs_gf 8 1 22), (22, qs_ci 1 23), (23, qs_b2 (fun x y => x + y) 24), (24, qs_pf 8 1 27), (27, qs_lda 0 28), (28, qs_gf 8 1 31), (31, qs_iret)]
noncomputable abbrev tb_X8_append : List (Nat × pj_T (Int32 × pj_M)) := tb_X8_append_0
theorem mv_X8_append : pj_mv y_X8_append c_X8_append 2 (some .int) 1 := ⟨⟨cw_436, cw_434, cw_435, cw_83⟩, by decide +kernel, by decide⟩
set_option maxRecDepth 20000 in
theorem sd_X8_append_0 {G : pj_E} {A : Nat → Prop} {P : pj_P} {S : pj_U} {Z : pj_Z} (C : pj_C (G, A, (c_X8_append, y_X8_append.cls, 2, (some .int), 2), P, S, Z)) : ∀ q ∈ tb_X8_append_0, pj_S (G, A, (c_X8_append, y_X8_append.cls, 2, (some .int), 2), P, S, Z) pj_eI q.1 q.2 :=
  List.forall_mem_cons.mpr ⟨qz_aload_n C (show decode c_X8_append 0 = .ok (.aload_n 0, 1) by decide +kernel) rfl,
  List.forall_mem_cons.mpr ⟨qz_vI C (show decode c_X8_append 1 = .ok (.invokevirtual 22, 3) by decide +kernel) ct_X8_isFull mv_X8_isFull cw_437 vcX8 (show 1 < 2 by omega),
  List.forall_mem_cons.mpr ⟨qz_ifne C (show decode c_X8_append 4 = .ok (.ifCond .ne 23, 3) by decide +kernel) (by decide),
  List.forall_mem_cons.mpr ⟨qz_aload_n C (show decode c_X8_append 7 = .ok (.aload_n 0, 1) by decide +kernel) rfl,
  List.forall_mem_cons.mpr ⟨qz_gf (k := 0) C (show decode c_X8_append 8 = .ok (.getfield 11, 3) by decide +kernel) vcX8 wiX8 (by decide) cw_127,
  List.forall_mem_cons.mpr ⟨qz_aload_n C (show decode c_X8_append 11 = .ok (.aload_n 0, 1) by decide +kernel) rfl,
  List.forall_mem_cons.mpr ⟨qz_gf (k := 1) C (show decode c_X8_append 12 = .ok (.getfield 15, 3) by decide +kernel) vcX8 wiX8 (by decide) cw_128,
  List.forall_mem_cons.mpr ⟨qz_iload_n C (show decode c_X8_append 15 = .ok (.iload_n 1, 1) by decide +kernel) rfl,
  List.forall_mem_cons.mpr ⟨qz_iast C (show decode c_X8_append 16 = .ok (.iastore, 1) by decide +kernel),
  List.forall_mem_cons.mpr ⟨qz_aload_n C (show decode c_X8_append 17 = .ok (.aload_n 0, 1) by decide +kernel) rfl,
  List.forall_mem_cons.mpr ⟨qz_dup C (show decode c_X8_append 18 = .ok (.dup, 1) by decide +kernel),
  List.forall_mem_cons.mpr ⟨qz_gf (k := 1) C (show decode c_X8_append 19 = .ok (.getfield 15, 3) by decide +kernel) vcX8 wiX8 (by decide) cw_128,
  List.forall_mem_cons.mpr ⟨qz_iconst C (show decode c_X8_append 22 = .ok (.iconst 1, 1) by decide +kernel) (by decide +kernel),
  List.forall_mem_cons.mpr ⟨qz_iadd C (show decode c_X8_append 23 = .ok (.iadd, 1) by decide +kernel),
  List.forall_mem_cons.mpr ⟨qz_pf (k := 1) C (show decode c_X8_append 24 = .ok (.putfield 15, 3) by decide +kernel) vcX8 wiX8 tyX8_ok nmX8 (by decide) cw_128 rfl rfl,
  List.forall_mem_cons.mpr ⟨qz_aload_n C (show decode c_X8_append 27 = .ok (.aload_n 0, 1) by decide +kernel) rfl,
  List.forall_mem_cons.mpr ⟨qz_gf (k := 1) C (show decode c_X8_append 28 = .ok (.getfield 15, 3) by decide +kernel) vcX8 wiX8 (by decide) cw_128,
  List.forall_mem_cons.mpr ⟨qz_iret C (show decode c_X8_append 31 = .ok (.ireturn, 1) by decide +kernel) rfl,
  (fun q h => by cases h)⟩⟩⟩⟩⟩⟩⟩⟩⟩⟩⟩⟩⟩⟩⟩⟩⟩⟩
theorem sd_X8_append {G : pj_E} {A : Nat → Prop} {P : pj_P} {S : pj_U} {Z : pj_Z} (C : pj_C (G, A, (c_X8_append, y_X8_append.cls, 2, (some .int), 2), P, S, Z)) : ∀ q ∈ tb_X8_append, pj_S (G, A, (c_X8_append, y_X8_append.cls, 2, (some .int), 2), P, S, Z) pj_eI q.1 q.2 := sd_X8_append_0 C
set_option maxRecDepth 20000 in
theorem eq_X8_append (x1 : Int32) (m : pj_M) : pj_run tb_X8_append [] 20 0 [some (.inr (.inr (0, 8, 5))), some (.inl x1)] [] m = F_X8_append x1 m := by rfl
theorem ct_X8_append : pj_Ct pj_eI y_X8_append c_X8_append 2 (some .int) 2 W_X8_append := by
  refine pj_ct_of (by decide +kernel) ?_ ?_
  · intro as m r h
    unfold W_X8_append at h
    split at h
    · simp [pj_l0]
    · cases h
  · intro G A P S Z C as m r h hR
    unfold W_X8_append at h
    split at h
    · split at h
      · rename_i hbq
        simp only [Bool.and_eq_true, Nat.beq_eq] at hbq
        obtain ⟨rfl, rfl, rfl⟩ := hbq
        exact pj_run_ok (sd_X8_append C) (fun q h => by cases h) 20 0 _ _ _ _ ((eq_X8_append _ _).trans h) hR
      · cases h
    · cases h
/-! AlikeSteps$Tape.clear()V -/
abbrev c_X8_clear : ByteArray := prog_10_method_5_code
def y_X8_clear : MethodName := ⟨RX8, "clear", "()V"⟩
noncomputable def F_X8_clear (m : pj_M) : Option (pj_M) := (some (pj_wr m 5 1 0))
noncomputable def W_X8_clear : List pj_V → pj_M → Option (pj_M) := fun as m => match as with
  | [.inr (.inr (t0, w0, a0))] => (match Nat.beq t0 0 && (Nat.beq w0 8 && (Nat.beq a0 5)) with
    | true => F_X8_clear m
    | false => none)
  | _ => none
noncomputable def tb_X8_clear_0 : List (Nat × pj_T (pj_M)) := [(0, qs_lda 0 1), (1, qs_ci 0 2), (2, qs_pf 8 1 5), (5, qs_vret)]
noncomputable abbrev tb_X8_clear : List (Nat × pj_T (pj_M)) := tb_X8_clear_0
theorem mv_X8_clear : pj_mv y_X8_clear c_X8_clear 1 none 0 := ⟨⟨cw_512, cw_510, cw_511, cw_83⟩, by decide +kernel, by decide⟩
set_option maxRecDepth 20000 in
theorem sd_X8_clear_0 {G : pj_E} {A : Nat → Prop} {P : pj_P} {S : pj_U} {Z : pj_Z} (C : pj_C (G, A, (c_X8_clear, y_X8_clear.cls, 1, none, 1), P, S, Z)) : ∀ q ∈ tb_X8_clear_0, pj_S (G, A, (c_X8_clear, y_X8_clear.cls, 1, none, 1), P, S, Z) pj_eV q.1 q.2 :=
  List.forall_mem_cons.mpr ⟨qz_aload_n C (show decode c_X8_clear 0 = .ok (.aload_n 0, 1) by decide +kernel) rfl,
  List.forall_mem_cons.mpr ⟨qz_iconst C (show decode c_X8_clear 1 = .ok (.iconst 0, 1) by decide +kernel) (by decide +kernel),
  List.forall_mem_cons.mpr ⟨qz_pf (k := 1) C (show decode c_X8_clear 2 = .ok (.putfield 15, 3) by decide +kernel) vcX8 wiX8 tyX8_ok nmX8 (by decide) cw_128 rfl rfl,
  List.forall_mem_cons.mpr ⟨qz_vret C (show decode c_X8_clear 5 = .ok (.return_, 1) by decide +kernel) rfl,
  (fun q h => by cases h)⟩⟩⟩⟩
theorem sd_X8_clear {G : pj_E} {A : Nat → Prop} {P : pj_P} {S : pj_U} {Z : pj_Z} (C : pj_C (G, A, (c_X8_clear, y_X8_clear.cls, 1, none, 1), P, S, Z)) : ∀ q ∈ tb_X8_clear, pj_S (G, A, (c_X8_clear, y_X8_clear.cls, 1, none, 1), P, S, Z) pj_eV q.1 q.2 := sd_X8_clear_0 C
set_option maxRecDepth 20000 in
theorem eq_X8_clear (m : pj_M) : pj_run tb_X8_clear [] 6 0 [some (.inr (.inr (0, 8, 5)))] [] m = F_X8_clear m := by rfl
theorem ct_X8_clear : pj_Ct pj_eV y_X8_clear c_X8_clear 1 none 1 W_X8_clear := by
  refine pj_ct_of (by decide +kernel) ?_ ?_
  · intro as m r h
    unfold W_X8_clear at h
    split at h
    · simp [pj_l0]
    · cases h
  · intro G A P S Z C as m r h hR
    unfold W_X8_clear at h
    split at h
    · split at h
      · rename_i hbq
        simp only [Bool.and_eq_true, Nat.beq_eq] at hbq
        obtain ⟨rfl, rfl, rfl⟩ := hbq
        exact pj_run_ok (sd_X8_clear C) (fun q h => by cases h) 6 0 _ _ _ _ ((eq_X8_clear _).trans h) hR
      · cases h
    · cases h
/-! AlikeSteps$Tape.place()I -/
abbrev c_X8_place : ByteArray := prog_10_method_6_code
def y_X8_place : MethodName := ⟨RX8, "place", "()I"⟩
noncomputable def F_X8_place (m : pj_M) : Option (Int32 × pj_M) := (some (m.1 5 2, m))
noncomputable def W_X8_place : List pj_V → pj_M → Option (Int32 × pj_M) := fun as m => match as with
  | [.inr (.inr (t0, w0, a0))] => (match Nat.beq t0 0 && (Nat.beq w0 8 && (Nat.beq a0 5)) with
    | true => F_X8_place m
    | false => none)
  | _ => none
noncomputable def tb_X8_place_0 : List (Nat × pj_T (Int32 × pj_M)) := [(0, qs_lda 0 1), (1, qs_gf 8 2 4), (4, qs_iret)]
noncomputable abbrev tb_X8_place : List (Nat × pj_T (Int32 × pj_M)) := tb_X8_place_0
theorem mv_X8_place : pj_mv y_X8_place c_X8_place 1 (some .int) 0 := ⟨⟨cw_517, cw_515, cw_516, cw_83⟩, by decide +kernel, by decide⟩
set_option maxRecDepth 20000 in
theorem sd_X8_place_0 {G : pj_E} {A : Nat → Prop} {P : pj_P} {S : pj_U} {Z : pj_Z} (C : pj_C (G, A, (c_X8_place, y_X8_place.cls, 1, (some .int), 1), P, S, Z)) : ∀ q ∈ tb_X8_place_0, pj_S (G, A, (c_X8_place, y_X8_place.cls, 1, (some .int), 1), P, S, Z) pj_eI q.1 q.2 :=
  List.forall_mem_cons.mpr ⟨qz_aload_n C (show decode c_X8_place 0 = .ok (.aload_n 0, 1) by decide +kernel) rfl,
  List.forall_mem_cons.mpr ⟨qz_gf (k := 2) C (show decode c_X8_place 1 = .ok (.getfield 19, 3) by decide +kernel) vcX8 wiX8 (by decide) cw_129,
  List.forall_mem_cons.mpr ⟨qz_iret C (show decode c_X8_place 4 = .ok (.ireturn, 1) by decide +kernel) rfl,
  (fun q h => by cases h)⟩⟩⟩
theorem sd_X8_place {G : pj_E} {A : Nat → Prop} {P : pj_P} {S : pj_U} {Z : pj_Z} (C : pj_C (G, A, (c_X8_place, y_X8_place.cls, 1, (some .int), 1), P, S, Z)) : ∀ q ∈ tb_X8_place, pj_S (G, A, (c_X8_place, y_X8_place.cls, 1, (some .int), 1), P, S, Z) pj_eI q.1 q.2 := sd_X8_place_0 C
set_option maxRecDepth 20000 in
theorem eq_X8_place (m : pj_M) : pj_run tb_X8_place [] 5 0 [some (.inr (.inr (0, 8, 5)))] [] m = F_X8_place m := by rfl
theorem ct_X8_place : pj_Ct pj_eI y_X8_place c_X8_place 1 (some .int) 1 W_X8_place := by
  refine pj_ct_of (by decide +kernel) ?_ ?_
  · intro as m r h
    unfold W_X8_place at h
    split at h
    · simp [pj_l0]
    · cases h
  · intro G A P S Z C as m r h hR
    unfold W_X8_place at h
    split at h
    · split at h
      · rename_i hbq
        simp only [Bool.and_eq_true, Nat.beq_eq] at hbq
        obtain ⟨rfl, rfl, rfl⟩ := hbq
        exact pj_run_ok (sd_X8_place C) (fun q h => by cases h) 5 0 _ _ _ _ ((eq_X8_place _).trans h) hR
      · cases h
    · cases h
/-! AlikeSteps$Tape.next()I -/
abbrev c_X8_next : ByteArray := prog_10_method_14_code
def y_X8_next : MethodName := ⟨RX8, "next", "()I"⟩
noncomputable def F_X8_next (m : pj_M) : Option (Int32 × pj_M) := (if (m.1 5 2) < (m.1 5 1) then (if (m.1 5 2) < 0 ∨ 140 ≤ (m.1 5 2).toNatClampNeg then none else (some (m.1 6 (m.1 5 2).toNatClampNeg, m))) else (some ((-1), m)))
noncomputable def W_X8_next : List pj_V → pj_M → Option (Int32 × pj_M) := fun as m => match as with
  | [.inr (.inr (t0, w0, a0))] => (match Nat.beq t0 0 && (Nat.beq w0 8 && (Nat.beq a0 5)) with
    | true => F_X8_next m
    | false => none)
  | _ => none
noncomputable def tb_X8_next_0 : List (Nat × pj_T (Int32 × pj_M)) := [(0, qs_lda 0 1), (1, qs_gf 8 2 4), (4, qs_lda 0 5), (5, qs_gf 8 1 8), (8, qs_icge 23 11), (11, qs_lda 0 12), (12, qs_gf 8 0 15), (15, qs_lda 0 16), (16, qs_gf 8 2 19), (19, qs_iald 20), (20, qs_go 24), (23, qs_ci (-1) 24), (24, qs_iret)]
noncomputable abbrev tb_X8_next : List (Nat × pj_T (Int32 × pj_M)) := tb_X8_next_0
theorem mv_X8_next : pj_mv y_X8_next c_X8_next 1 (some .int) 0 := ⟨⟨cw_457, cw_456, cw_3, cw_83⟩, by decide +kernel, by decide⟩
set_option maxRecDepth 20000 in
theorem sd_X8_next_0 {G : pj_E} {A : Nat → Prop} {P : pj_P} {S : pj_U} {Z : pj_Z} (C : pj_C (G, A, (c_X8_next, y_X8_next.cls, 1, (some .int), 1), P, S, Z)) : ∀ q ∈ tb_X8_next_0, pj_S (G, A, (c_X8_next, y_X8_next.cls, 1, (some .int), 1), P, S, Z) pj_eI q.1 q.2 :=
  List.forall_mem_cons.mpr ⟨qz_aload_n C (show decode c_X8_next 0 = .ok (.aload_n 0, 1) by decide +kernel) rfl,
  List.forall_mem_cons.mpr ⟨qz_gf (k := 2) C (show decode c_X8_next 1 = .ok (.getfield 19, 3) by decide +kernel) vcX8 wiX8 (by decide) cw_129,
  List.forall_mem_cons.mpr ⟨qz_aload_n C (show decode c_X8_next 4 = .ok (.aload_n 0, 1) by decide +kernel) rfl,
  List.forall_mem_cons.mpr ⟨qz_gf (k := 1) C (show decode c_X8_next 5 = .ok (.getfield 15, 3) by decide +kernel) vcX8 wiX8 (by decide) cw_128,
  List.forall_mem_cons.mpr ⟨qz_icge C (show decode c_X8_next 8 = .ok (.if_icmp .ge 15, 3) by decide +kernel) (by decide),
  List.forall_mem_cons.mpr ⟨qz_aload_n C (show decode c_X8_next 11 = .ok (.aload_n 0, 1) by decide +kernel) rfl,
  List.forall_mem_cons.mpr ⟨qz_gf (k := 0) C (show decode c_X8_next 12 = .ok (.getfield 11, 3) by decide +kernel) vcX8 wiX8 (by decide) cw_127,
  List.forall_mem_cons.mpr ⟨qz_aload_n C (show decode c_X8_next 15 = .ok (.aload_n 0, 1) by decide +kernel) rfl,
  List.forall_mem_cons.mpr ⟨qz_gf (k := 2) C (show decode c_X8_next 16 = .ok (.getfield 19, 3) by decide +kernel) vcX8 wiX8 (by decide) cw_129,
  List.forall_mem_cons.mpr ⟨qz_iald C (show decode c_X8_next 19 = .ok (.iaload, 1) by decide +kernel),
  List.forall_mem_cons.mpr ⟨qz_goto C (show decode c_X8_next 20 = .ok (.goto 4, 3) by decide +kernel) (by decide),
  List.forall_mem_cons.mpr ⟨qz_iconst C (show decode c_X8_next 23 = .ok (.iconst (-1), 1) by decide +kernel) (by decide +kernel),
  List.forall_mem_cons.mpr ⟨qz_iret C (show decode c_X8_next 24 = .ok (.ireturn, 1) by decide +kernel) rfl,
  (fun q h => by cases h)⟩⟩⟩⟩⟩⟩⟩⟩⟩⟩⟩⟩⟩
theorem sd_X8_next {G : pj_E} {A : Nat → Prop} {P : pj_P} {S : pj_U} {Z : pj_Z} (C : pj_C (G, A, (c_X8_next, y_X8_next.cls, 1, (some .int), 1), P, S, Z)) : ∀ q ∈ tb_X8_next, pj_S (G, A, (c_X8_next, y_X8_next.cls, 1, (some .int), 1), P, S, Z) pj_eI q.1 q.2 := sd_X8_next_0 C
set_option maxRecDepth 20000 in
theorem eq_X8_next (m : pj_M) : pj_run tb_X8_next [] 15 0 [some (.inr (.inr (0, 8, 5)))] [] m = F_X8_next m := by rfl
theorem ct_X8_next : pj_Ct pj_eI y_X8_next c_X8_next 1 (some .int) 1 W_X8_next := by
  refine pj_ct_of (by decide +kernel) ?_ ?_
  · intro as m r h
    unfold W_X8_next at h
    split at h
    · simp [pj_l0]
    · cases h
  · intro G A P S Z C as m r h hR
    unfold W_X8_next at h
    split at h
    · split at h
      · rename_i hbq
        simp only [Bool.and_eq_true, Nat.beq_eq] at hbq
        obtain ⟨rfl, rfl, rfl⟩ := hbq
        exact pj_run_ok (sd_X8_next C) (fun q h => by cases h) 15 0 _ _ _ _ ((eq_X8_next _).trans h) hR
      · cases h
    · cases h
/-! AlikeSteps$Tape.kindOfSort(I)I -/
abbrev c_X8_kindOfSort : ByteArray := prog_10_method_15_code
def y_X8_kindOfSort : MethodName := ⟨RX8, "kindOfSort", "(I)I"⟩
noncomputable def F_X8_kindOfSort (x0 : Int32) (m : pj_M) : Option (Int32 × pj_M) := (if x0 = 100 then (some (4, m)) else (if x0 = 103 then (some (2, m)) else (if x0 = 112 then (some (1, m)) else (if x0 = 119 then (some (5, m)) else (if x0 = 120 then (some (3, m)) else (some (0, m)))))))
noncomputable def W_X8_kindOfSort : List pj_V → pj_M → Option (Int32 × pj_M) := fun as m => match as with
  | [.inl x0] => F_X8_kindOfSort x0 m
  | _ => none
noncomputable def tb_X8_kindOfSort_0 : List (Nat × pj_T (Int32 × pj_M)) := [(0, qs_ldi 0 1), (1, qs_sw [(100, 58), (103, 54), (112, 52), (119, 60), (120, 56)] 62), (52, qs_ci 1 53), (53, qs_iret), (54, qs_ci 2 55), (55, qs_iret), (56, qs_ci 3 57), (57, qs_iret), (58, qs_ci 4 59), (59, qs_iret), (60, qs_ci 5 61), (61, qs_iret), (62, qs_ci 0 63), (63, qs_iret)]
noncomputable abbrev tb_X8_kindOfSort : List (Nat × pj_T (Int32 × pj_M)) := tb_X8_kindOfSort_0
theorem mv_X8_kindOfSort : pj_ms y_X8_kindOfSort c_X8_kindOfSort 1 (some .int) 1 := ⟨⟨cw_460, cw_459, cw_83⟩, by decide +kernel, by decide⟩
set_option maxRecDepth 20000 in
theorem sd_X8_kindOfSort_0 {G : pj_E} {A : Nat → Prop} {P : pj_P} {S : pj_U} {Z : pj_Z} (C : pj_C (G, A, (c_X8_kindOfSort, y_X8_kindOfSort.cls, 1, (some .int), 1), P, S, Z)) : ∀ q ∈ tb_X8_kindOfSort_0, pj_S (G, A, (c_X8_kindOfSort, y_X8_kindOfSort.cls, 1, (some .int), 1), P, S, Z) pj_eI q.1 q.2 :=
  List.forall_mem_cons.mpr ⟨qz_iload_n C (show decode c_X8_kindOfSort 0 = .ok (.iload_n 0, 1) by decide +kernel) rfl,
  List.forall_mem_cons.mpr ⟨qz_lsw C (show decode c_X8_kindOfSort 1 = .ok (.lookupswitch 61 #[(100, 57), (103, 53), (112, 51), (119, 59), (120, 55)], 51) by decide +kernel) (by decide +kernel) (by decide +kernel),
  List.forall_mem_cons.mpr ⟨qz_iconst C (show decode c_X8_kindOfSort 52 = .ok (.iconst 1, 1) by decide +kernel) (by decide +kernel),
  List.forall_mem_cons.mpr ⟨qz_iret C (show decode c_X8_kindOfSort 53 = .ok (.ireturn, 1) by decide +kernel) rfl,
  List.forall_mem_cons.mpr ⟨qz_iconst C (show decode c_X8_kindOfSort 54 = .ok (.iconst 2, 1) by decide +kernel) (by decide +kernel),
  List.forall_mem_cons.mpr ⟨qz_iret C (show decode c_X8_kindOfSort 55 = .ok (.ireturn, 1) by decide +kernel) rfl,
  List.forall_mem_cons.mpr ⟨qz_iconst C (show decode c_X8_kindOfSort 56 = .ok (.iconst 3, 1) by decide +kernel) (by decide +kernel),
  List.forall_mem_cons.mpr ⟨qz_iret C (show decode c_X8_kindOfSort 57 = .ok (.ireturn, 1) by decide +kernel) rfl,
  List.forall_mem_cons.mpr ⟨qz_iconst C (show decode c_X8_kindOfSort 58 = .ok (.iconst 4, 1) by decide +kernel) (by decide +kernel),
  List.forall_mem_cons.mpr ⟨qz_iret C (show decode c_X8_kindOfSort 59 = .ok (.ireturn, 1) by decide +kernel) rfl,
  List.forall_mem_cons.mpr ⟨qz_iconst C (show decode c_X8_kindOfSort 60 = .ok (.iconst 5, 1) by decide +kernel) (by decide +kernel),
  List.forall_mem_cons.mpr ⟨qz_iret C (show decode c_X8_kindOfSort 61 = .ok (.ireturn, 1) by decide +kernel) rfl,
  List.forall_mem_cons.mpr ⟨qz_iconst C (show decode c_X8_kindOfSort 62 = .ok (.iconst 0, 1) by decide +kernel) (by decide +kernel),
  List.forall_mem_cons.mpr ⟨qz_iret C (show decode c_X8_kindOfSort 63 = .ok (.ireturn, 1) by decide +kernel) rfl,
  (fun q h => by cases h)⟩⟩⟩⟩⟩⟩⟩⟩⟩⟩⟩⟩⟩⟩
theorem sd_X8_kindOfSort {G : pj_E} {A : Nat → Prop} {P : pj_P} {S : pj_U} {Z : pj_Z} (C : pj_C (G, A, (c_X8_kindOfSort, y_X8_kindOfSort.cls, 1, (some .int), 1), P, S, Z)) : ∀ q ∈ tb_X8_kindOfSort, pj_S (G, A, (c_X8_kindOfSort, y_X8_kindOfSort.cls, 1, (some .int), 1), P, S, Z) pj_eI q.1 q.2 := sd_X8_kindOfSort_0 C
set_option maxRecDepth 20000 in
theorem eq_X8_kindOfSort (x0 : Int32) (m : pj_M) : pj_run tb_X8_kindOfSort [] 16 0 [some (.inl x0)] [] m = F_X8_kindOfSort x0 m := by rfl
theorem ct_X8_kindOfSort : pj_Ct pj_eI y_X8_kindOfSort c_X8_kindOfSort 1 (some .int) 1 W_X8_kindOfSort := by
  refine pj_ct_of (by decide +kernel) ?_ ?_
  · intro as m r h
    unfold W_X8_kindOfSort at h
    split at h
    · simp [pj_l0]
    · cases h
  · intro G A P S Z C as m r h hR
    unfold W_X8_kindOfSort at h
    split at h
    · exact pj_run_ok (sd_X8_kindOfSort C) (fun q h => by cases h) 16 0 _ _ _ _ ((eq_X8_kindOfSort _ _).trans h) hR
    · cases h
/-! AlikeSteps$Tape.passes(C)Z -/
abbrev c_X8_passes : ByteArray := prog_10_method_13_code
def y_X8_passes : MethodName := ⟨RX8, "passes", "(C)Z"⟩
noncomputable def F_X8_passes (x1 : Int32) (m : pj_M) : Option (Int32 × pj_M) := ((F_X8_next m).bind fun q1 => (if q1.1 = x1 then (some (1, (pj_wr q1.2 5 2 ((q1.2.1 5 2) + 1)))) else (some (0, q1.2))))
noncomputable def W_X8_passes : List pj_V → pj_M → Option (Int32 × pj_M) := fun as m => match as with
  | [.inr (.inr (t0, w0, a0)), .inl x1] => (match Nat.beq t0 0 && (Nat.beq w0 8 && (Nat.beq a0 5)) with
    | true => F_X8_passes x1 m
    | false => none)
  | _ => none
noncomputable def tb_X8_passes_0 : List (Nat × pj_T (Int32 × pj_M)) := [(0, qs_lda 0 1), (1, qs_vI 8 1 W_X8_next 4), (4, qs_ldi 1 5), (5, qs_iceq 10 8), (8, qs_ci 0 9), (9, qs_zret), (10, qs_lda 0 11), (11, qs_dup 12), (12, qs_gf 8 2 15), (15, qs_ci 1 16), (16, qs_b2 (fun x y => x + y) 17), (17, qs_pf 8 2 20), (20, qs_ci 1 21), (21, qs_zret)]
noncomputable abbrev tb_X8_passes : List (Nat × pj_T (Int32 × pj_M)) := tb_X8_passes_0
theorem mv_X8_passes : pj_mv y_X8_passes c_X8_passes 2 (some .boolean) 1 := ⟨⟨cw_464, cw_463, cw_4, cw_83⟩, by decide +kernel, by decide⟩
set_option maxRecDepth 20000 in
theorem sd_X8_passes_0 {G : pj_E} {A : Nat → Prop} {P : pj_P} {S : pj_U} {Z : pj_Z} (C : pj_C (G, A, (c_X8_passes, y_X8_passes.cls, 2, (some .boolean), 2), P, S, Z)) : ∀ q ∈ tb_X8_passes_0, pj_S (G, A, (c_X8_passes, y_X8_passes.cls, 2, (some .boolean), 2), P, S, Z) pj_eI q.1 q.2 :=
  List.forall_mem_cons.mpr ⟨qz_aload_n C (show decode c_X8_passes 0 = .ok (.aload_n 0, 1) by decide +kernel) rfl,
  List.forall_mem_cons.mpr ⟨qz_vI C (show decode c_X8_passes 1 = .ok (.invokevirtual 38, 3) by decide +kernel) ct_X8_next mv_X8_next cw_454 vcX8 (show 1 < 2 by omega),
  List.forall_mem_cons.mpr ⟨qz_iload_n C (show decode c_X8_passes 4 = .ok (.iload_n 1, 1) by decide +kernel) rfl,
  List.forall_mem_cons.mpr ⟨qz_iceq C (show decode c_X8_passes 5 = .ok (.if_icmp .eq 5, 3) by decide +kernel) (by decide),
  List.forall_mem_cons.mpr ⟨qz_iconst C (show decode c_X8_passes 8 = .ok (.iconst 0, 1) by decide +kernel) (by decide +kernel),
  List.forall_mem_cons.mpr ⟨qz_zret C (show decode c_X8_passes 9 = .ok (.ireturn, 1) by decide +kernel) rfl,
  List.forall_mem_cons.mpr ⟨qz_aload_n C (show decode c_X8_passes 10 = .ok (.aload_n 0, 1) by decide +kernel) rfl,
  List.forall_mem_cons.mpr ⟨qz_dup C (show decode c_X8_passes 11 = .ok (.dup, 1) by decide +kernel),
  List.forall_mem_cons.mpr ⟨qz_gf (k := 2) C (show decode c_X8_passes 12 = .ok (.getfield 19, 3) by decide +kernel) vcX8 wiX8 (by decide) cw_129,
  List.forall_mem_cons.mpr ⟨qz_iconst C (show decode c_X8_passes 15 = .ok (.iconst 1, 1) by decide +kernel) (by decide +kernel),
  List.forall_mem_cons.mpr ⟨qz_iadd C (show decode c_X8_passes 16 = .ok (.iadd, 1) by decide +kernel),
  List.forall_mem_cons.mpr ⟨qz_pf (k := 2) C (show decode c_X8_passes 17 = .ok (.putfield 19, 3) by decide +kernel) vcX8 wiX8 tyX8_ok nmX8 (by decide) cw_129 rfl rfl,
  List.forall_mem_cons.mpr ⟨qz_iconst C (show decode c_X8_passes 20 = .ok (.iconst 1, 1) by decide +kernel) (by decide +kernel),
  List.forall_mem_cons.mpr ⟨qz_zret C (show decode c_X8_passes 21 = .ok (.ireturn, 1) by decide +kernel) rfl,
  (fun q h => by cases h)⟩⟩⟩⟩⟩⟩⟩⟩⟩⟩⟩⟩⟩⟩
theorem sd_X8_passes {G : pj_E} {A : Nat → Prop} {P : pj_P} {S : pj_U} {Z : pj_Z} (C : pj_C (G, A, (c_X8_passes, y_X8_passes.cls, 2, (some .boolean), 2), P, S, Z)) : ∀ q ∈ tb_X8_passes, pj_S (G, A, (c_X8_passes, y_X8_passes.cls, 2, (some .boolean), 2), P, S, Z) pj_eI q.1 q.2 := sd_X8_passes_0 C
set_option maxRecDepth 20000 in
theorem eq_X8_passes (x1 : Int32) (m : pj_M) : pj_run tb_X8_passes [] 16 0 [some (.inr (.inr (0, 8, 5))), some (.inl x1)] [] m = F_X8_passes x1 m := by rfl
theorem ct_X8_passes : pj_Ct pj_eI y_X8_passes c_X8_passes 2 (some .boolean) 2 W_X8_passes := by
  refine pj_ct_of (by decide +kernel) ?_ ?_
  · intro as m r h
    unfold W_X8_passes at h
    split at h
    · simp [pj_l0]
    · cases h
  · intro G A P S Z C as m r h hR
    unfold W_X8_passes at h
    split at h
    · split at h
      · rename_i hbq
        simp only [Bool.and_eq_true, Nat.beq_eq] at hbq
        obtain ⟨rfl, rfl, rfl⟩ := hbq
        exact pj_run_ok (sd_X8_passes C) (fun q h => by cases h) 16 0 _ _ _ _ ((eq_X8_passes _ _).trans h) hR
      · cases h
    · cases h
/-! AlikeSteps$Tape.readStates(LAlikeSteps$Net;)I -/
abbrev c_X8_readStates : ByteArray := prog_10_method_8_code
def y_X8_readStates : MethodName := ⟨RX8, "readStates", "(LAlikeSteps$Net;)I"⟩
noncomputable def J_X8_readStates_20 (x2 : Int32) (m : pj_M) : Option (Int32 × pj_M) := (if x2 = 0 then (some (1, m)) else (some (0, m)))
noncomputable def H_X8_readStates_2 : Nat → Nat → Int32 → pj_M → Option (Int32 × pj_M)
  | 0, _, _, _ => none
  | n1 + 1, a1, x2, m => (if (10 : Int32) < x2 then (some (0, m)) else ((F_X8_next m).bind fun q1 => ((F_X8_kindOfSort q1.1 q1.2).bind fun q2 => (if q2.1 = 0 then (J_X8_readStates_20 x2 q2.2) else (if x2 = 10 then (some (3, q2.2)) else ((F_X8_passes 59 (pj_wr q2.2 5 2 ((q2.2.1 5 2) + 1))).bind fun q3 => (if q3.1 = 0 then (some (1, q3.2)) else ((F_X4_addState a1 q2.1 q3.2).bind fun q4 => (H_X8_readStates_2 n1 a1 (x2 + 1) q4)))))))))
noncomputable def F_X8_readStates (a1 : Nat) (m : pj_M) : Option (Int32 × pj_M) := (H_X8_readStates_2 pj_z a1 0 m)
noncomputable def W_X8_readStates : List pj_V → pj_M → Option (Int32 × pj_M) := fun as m => match as with
  | [.inr (.inr (t0, w0, a0)), .inr (.inr (t1, w1, a1))] => (match Nat.beq t0 0 && (Nat.beq w0 8 && (Nat.beq a0 5 && (Nat.beq t1 0 && (Nat.beq w1 4)))) with
    | true => F_X8_readStates a1 m
    | false => none)
  | _ => none
noncomputable def tb_X8_readStates_0 : List (Nat × pj_T (Int32 × pj_M)) := [(0, qs_ci 0 1), (1, qs_sti 2 2), (2, qs_ldi 2 3), (3, qs_ci 10 5), (5, qs_icgt 70 8), (8, qs_lda 0 9), (9, qs_vI 8 1 W_X8_next 12), (12, qs_sI 1 W_X8_kindOfSort 15), (15, qs_sti 3 16), (16, qs_ldi 3 17), (17, qs_ifne 30 20), (20, qs_ldi 2 21), (21, qs_ifne 28 24), (24, qs_ci 1 25), (25, qs_go 29), (28, qs_ci 0 29), (29, qs_iret), (30, qs_ldi 2 31), (31, qs_ci 10 33), (33, qs_icne 38 36), (36, qs_ci 3 37), (37, qs_iret), (38, qs_lda 0 39), (39, qs_dup 40), (40, qs_gf 8 2 43), (43, qs_ci 1 44), (44, qs_b2 (fun x y => x + y) 45), (45, qs_pf 8 2 48), (48, qs_lda 0 49), (49, qs_ci 59 51), (51, qs_vI 8 2 W_X8_passes 54), (54, qs_ifne 59 57), (57, qs_ci 1 58), (58, qs_iret), (59, qs_lda 1 60), (60, qs_ldi 3 61), (61, qs_vV 4 2 W_X4_addState 64), (64, qs_inc 2 1 67), (67, qs_go 2), (70, qs_ci 0 71)]
noncomputable def tb_X8_readStates_1 : List (Nat × pj_T (Int32 × pj_M)) := [(71, qs_iret)]
noncomputable def tb_X8_readStates : List (Nat × pj_T (Int32 × pj_M)) := tb_X8_readStates_0 ++ (tb_X8_readStates_1)
theorem mv_X8_readStates : pj_mv y_X8_readStates c_X8_readStates 4 (some .int) 1 := ⟨⟨cw_453, cw_452, cw_2, cw_83⟩, by decide +kernel, by decide⟩
set_option maxRecDepth 20000 in
theorem sd_X8_readStates_0 {G : pj_E} {A : Nat → Prop} {P : pj_P} {S : pj_U} {Z : pj_Z} (C : pj_C (G, A, (c_X8_readStates, y_X8_readStates.cls, 4, (some .int), 3), P, S, Z)) : ∀ q ∈ tb_X8_readStates_0, pj_S (G, A, (c_X8_readStates, y_X8_readStates.cls, 4, (some .int), 3), P, S, Z) pj_eI q.1 q.2 :=
  List.forall_mem_cons.mpr ⟨qz_iconst C (show decode c_X8_readStates 0 = .ok (.iconst 0, 1) by decide +kernel) (by decide +kernel),
  List.forall_mem_cons.mpr ⟨qz_istore_n C (show decode c_X8_readStates 1 = .ok (.istore_n 2, 1) by decide +kernel) rfl,
  List.forall_mem_cons.mpr ⟨qz_iload_n C (show decode c_X8_readStates 2 = .ok (.iload_n 2, 1) by decide +kernel) rfl,
  List.forall_mem_cons.mpr ⟨qz_bipush C (show decode c_X8_readStates 3 = .ok (.bipush 10, 2) by decide +kernel) (by decide +kernel),
  List.forall_mem_cons.mpr ⟨qz_icgt C (show decode c_X8_readStates 5 = .ok (.if_icmp .gt 65, 3) by decide +kernel) (by decide),
  List.forall_mem_cons.mpr ⟨qz_aload_n C (show decode c_X8_readStates 8 = .ok (.aload_n 0, 1) by decide +kernel) rfl,
  List.forall_mem_cons.mpr ⟨qz_vI C (show decode c_X8_readStates 9 = .ok (.invokevirtual 38, 3) by decide +kernel) ct_X8_next mv_X8_next cw_454 vcX8 (show 1 < 3 by omega),
  List.forall_mem_cons.mpr ⟨qz_sI C (show decode c_X8_readStates 12 = .ok (.invokestatic 42, 3) by decide +kernel) ct_X8_kindOfSort mv_X8_kindOfSort (Or.inl cw_458) (show 1 < 3 by omega),
  List.forall_mem_cons.mpr ⟨qz_istore_n C (show decode c_X8_readStates 15 = .ok (.istore_n 3, 1) by decide +kernel) rfl,
  List.forall_mem_cons.mpr ⟨qz_iload_n C (show decode c_X8_readStates 16 = .ok (.iload_n 3, 1) by decide +kernel) rfl,
  List.forall_mem_cons.mpr ⟨qz_ifne C (show decode c_X8_readStates 17 = .ok (.ifCond .ne 13, 3) by decide +kernel) (by decide),
  List.forall_mem_cons.mpr ⟨qz_iload_n C (show decode c_X8_readStates 20 = .ok (.iload_n 2, 1) by decide +kernel) rfl,
  List.forall_mem_cons.mpr ⟨qz_ifne C (show decode c_X8_readStates 21 = .ok (.ifCond .ne 7, 3) by decide +kernel) (by decide),
  List.forall_mem_cons.mpr ⟨qz_iconst C (show decode c_X8_readStates 24 = .ok (.iconst 1, 1) by decide +kernel) (by decide +kernel),
  List.forall_mem_cons.mpr ⟨qz_goto C (show decode c_X8_readStates 25 = .ok (.goto 4, 3) by decide +kernel) (by decide),
  List.forall_mem_cons.mpr ⟨qz_iconst C (show decode c_X8_readStates 28 = .ok (.iconst 0, 1) by decide +kernel) (by decide +kernel),
  List.forall_mem_cons.mpr ⟨qz_iret C (show decode c_X8_readStates 29 = .ok (.ireturn, 1) by decide +kernel) rfl,
  List.forall_mem_cons.mpr ⟨qz_iload_n C (show decode c_X8_readStates 30 = .ok (.iload_n 2, 1) by decide +kernel) rfl,
  List.forall_mem_cons.mpr ⟨qz_bipush C (show decode c_X8_readStates 31 = .ok (.bipush 10, 2) by decide +kernel) (by decide +kernel),
  List.forall_mem_cons.mpr ⟨qz_icne C (show decode c_X8_readStates 33 = .ok (.if_icmp .ne 5, 3) by decide +kernel) (by decide),
  List.forall_mem_cons.mpr ⟨qz_iconst C (show decode c_X8_readStates 36 = .ok (.iconst 3, 1) by decide +kernel) (by decide +kernel),
  List.forall_mem_cons.mpr ⟨qz_iret C (show decode c_X8_readStates 37 = .ok (.ireturn, 1) by decide +kernel) rfl,
  List.forall_mem_cons.mpr ⟨qz_aload_n C (show decode c_X8_readStates 38 = .ok (.aload_n 0, 1) by decide +kernel) rfl,
  List.forall_mem_cons.mpr ⟨qz_dup C (show decode c_X8_readStates 39 = .ok (.dup, 1) by decide +kernel),
  List.forall_mem_cons.mpr ⟨qz_gf (k := 2) C (show decode c_X8_readStates 40 = .ok (.getfield 19, 3) by decide +kernel) vcX8 wiX8 (by decide) cw_129,
  List.forall_mem_cons.mpr ⟨qz_iconst C (show decode c_X8_readStates 43 = .ok (.iconst 1, 1) by decide +kernel) (by decide +kernel),
  List.forall_mem_cons.mpr ⟨qz_iadd C (show decode c_X8_readStates 44 = .ok (.iadd, 1) by decide +kernel),
  List.forall_mem_cons.mpr ⟨qz_pf (k := 2) C (show decode c_X8_readStates 45 = .ok (.putfield 19, 3) by decide +kernel) vcX8 wiX8 tyX8_ok nmX8 (by decide) cw_129 rfl rfl,
  List.forall_mem_cons.mpr ⟨qz_aload_n C (show decode c_X8_readStates 48 = .ok (.aload_n 0, 1) by decide +kernel) rfl,
  List.forall_mem_cons.mpr ⟨qz_bipush C (show decode c_X8_readStates 49 = .ok (.bipush 59, 2) by decide +kernel) (by decide +kernel),
  List.forall_mem_cons.mpr ⟨qz_vI C (show decode c_X8_readStates 51 = .ok (.invokevirtual 46, 3) by decide +kernel) ct_X8_passes mv_X8_passes cw_461 vcX8 (show 2 < 3 by omega),
  List.forall_mem_cons.mpr ⟨qz_ifne C (show decode c_X8_readStates 54 = .ok (.ifCond .ne 5, 3) by decide +kernel) (by decide),
  List.forall_mem_cons.mpr ⟨qz_iconst C (show decode c_X8_readStates 57 = .ok (.iconst 1, 1) by decide +kernel) (by decide +kernel),
  List.forall_mem_cons.mpr ⟨qz_iret C (show decode c_X8_readStates 58 = .ok (.ireturn, 1) by decide +kernel) rfl,
  List.forall_mem_cons.mpr ⟨qz_aload_n C (show decode c_X8_readStates 59 = .ok (.aload_n 1, 1) by decide +kernel) rfl,
  List.forall_mem_cons.mpr ⟨qz_iload_n C (show decode c_X8_readStates 60 = .ok (.iload_n 3, 1) by decide +kernel) rfl,
  List.forall_mem_cons.mpr ⟨qz_vV C (show decode c_X8_readStates 61 = .ok (.invokevirtual 50, 3) by decide +kernel) ct_X4_addState mv_X4_addState cw_465 vcX4 (show 1 < 3 by omega),
  List.forall_mem_cons.mpr ⟨qz_iinc C (show decode c_X8_readStates 64 = .ok (.iinc 2 1, 3) by decide +kernel) (by decide +kernel),
  List.forall_mem_cons.mpr ⟨qz_goto C (show decode c_X8_readStates 67 = .ok (.goto (-65), 3) by decide +kernel) (by decide),
  List.forall_mem_cons.mpr ⟨qz_iconst C (show decode c_X8_readStates 70 = .ok (.iconst 0, 1) by decide +kernel) (by decide +kernel),
  (fun q h => by cases h)⟩⟩⟩⟩⟩⟩⟩⟩⟩⟩⟩⟩⟩⟩⟩⟩⟩⟩⟩⟩⟩⟩⟩⟩⟩⟩⟩⟩⟩⟩⟩⟩⟩⟩⟩⟩⟩⟩⟩⟩
set_option maxRecDepth 20000 in
theorem sd_X8_readStates_1 {G : pj_E} {A : Nat → Prop} {P : pj_P} {S : pj_U} {Z : pj_Z} (C : pj_C (G, A, (c_X8_readStates, y_X8_readStates.cls, 4, (some .int), 3), P, S, Z)) : ∀ q ∈ tb_X8_readStates_1, pj_S (G, A, (c_X8_readStates, y_X8_readStates.cls, 4, (some .int), 3), P, S, Z) pj_eI q.1 q.2 :=
  List.forall_mem_cons.mpr ⟨qz_iret C (show decode c_X8_readStates 71 = .ok (.ireturn, 1) by decide +kernel) rfl,
  (fun q h => by cases h)⟩
theorem sd_X8_readStates {G : pj_E} {A : Nat → Prop} {P : pj_P} {S : pj_U} {Z : pj_Z} (C : pj_C (G, A, (c_X8_readStates, y_X8_readStates.cls, 4, (some .int), 3), P, S, Z)) : ∀ q ∈ tb_X8_readStates, pj_S (G, A, (c_X8_readStates, y_X8_readStates.cls, 4, (some .int), 3), P, S, Z) pj_eI q.1 q.2 := List.forall_mem_append.mpr ⟨sd_X8_readStates_0 C, sd_X8_readStates_1 C⟩
noncomputable def C_X8_readStates_20 (f : Int32 → pj_M → Option (Int32 × pj_M)) : pj_N (Int32 × pj_M) := fun L st m => match L, st with
  | [_, _, some (.inl x2), _], [] => f x2 m
  | _, _ => none
noncomputable def C_X8_readStates_2 (f : Nat → Int32 → pj_M → Option (Int32 × pj_M)) : pj_N (Int32 × pj_M) := fun L st m => match L, st with
  | [some (.inr (.inr (t0, w0, a0))), some (.inr (.inr (t1, w1, a1))), some (.inl x2), _], [] => (match Nat.beq t0 0 && (Nat.beq w0 8 && (Nat.beq a0 5 && (Nat.beq t1 0 && (Nat.beq w1 4)))) with
    | true => f a1 x2 m
    | false => none)
  | _, _ => none
set_option maxRecDepth 20000 in
theorem eq_X8_readStates_20 (x2 : Int32) (d0 d1 d3 : Option pj_V) (m : pj_M) : pj_run tb_X8_readStates [] 43 20 [d0, d1, some (.inl x2), d3] [] m = J_X8_readStates_20 x2 m := by rfl
theorem sg_X8_readStates_20 {G : pj_E} {A : Nat → Prop} {P : pj_P} {S : pj_U} {Z : pj_Z} (C : pj_C (G, A, (c_X8_readStates, y_X8_readStates.cls, 4, (some .int), 3), P, S, Z)) : pj_G (G, A, (c_X8_readStates, y_X8_readStates.cls, 4, (some .int), 3), P, S, Z) pj_eI 20 (C_X8_readStates_20 (J_X8_readStates_20)) := by
  intro L st m r h hR
  unfold C_X8_readStates_20 at h
  split at h
  · exact pj_run_ok (sd_X8_readStates C) (fun q h => by cases h) 43 20 _ _ _ _ ((eq_X8_readStates_20 _ _ _ _ _).trans h) hR
  · cases h
set_option maxRecDepth 20000 in
theorem eq_X8_readStates_2 (n1 : Nat) (a1 : Nat) (x2 : Int32) (d3 : Option pj_V) (m : pj_M) : pj_run tb_X8_readStates [(2, C_X8_readStates_2 (H_X8_readStates_2 n1)), (20, C_X8_readStates_20 (J_X8_readStates_20 ))] 43 2 [some (.inr (.inr (0, 8, 5))), some (.inr (.inr (0, 4, a1))), some (.inl x2), d3] [] m = H_X8_readStates_2 (n1 + 1) a1 x2 m := by rfl
theorem sg_X8_readStates_2 {G : pj_E} {A : Nat → Prop} {P : pj_P} {S : pj_U} {Z : pj_Z} (C : pj_C (G, A, (c_X8_readStates, y_X8_readStates.cls, 4, (some .int), 3), P, S, Z)) : ∀ n1, pj_G (G, A, (c_X8_readStates, y_X8_readStates.cls, 4, (some .int), 3), P, S, Z) pj_eI 2 (C_X8_readStates_2 (H_X8_readStates_2 n1)) := by
  intro n1
  induction n1 with
  | zero =>
    intro L st m r h hR
    unfold C_X8_readStates_2 at h
    split at h
    · split at h
      · cases h
      · cases h
    · cases h
  | succ n1 ih1 =>
    intro L st m r h hR
    unfold C_X8_readStates_2 at h
    split at h
    · split at h
      · rename_i hbq
        simp only [Bool.and_eq_true, Nat.beq_eq] at hbq
        obtain ⟨rfl, rfl, rfl, rfl, rfl⟩ := hbq
        exact pj_run_ok (sd_X8_readStates C) (List.forall_mem_cons.mpr ⟨ih1, List.forall_mem_cons.mpr ⟨sg_X8_readStates_20 C , fun q h => by cases h⟩⟩) 43 2 _ _ _ _ ((eq_X8_readStates_2 _ _ _ _ _).trans h) hR
      · cases h
    · cases h
set_option maxRecDepth 20000 in
theorem eq_X8_readStates (a1 : Nat) (m : pj_M) : pj_run tb_X8_readStates [(2, C_X8_readStates_2 (H_X8_readStates_2  pj_z))] 43 0 [some (.inr (.inr (0, 8, 5))), some (.inr (.inr (0, 4, a1))), none, none] [] m = F_X8_readStates a1 m := by rfl
theorem ct_X8_readStates : pj_Ct pj_eI y_X8_readStates c_X8_readStates 4 (some .int) 3 W_X8_readStates := by
  refine pj_ct_of (by decide +kernel) ?_ ?_
  · intro as m r h
    unfold W_X8_readStates at h
    split at h
    · simp [pj_l0]
    · cases h
  · intro G A P S Z C as m r h hR
    unfold W_X8_readStates at h
    split at h
    · split at h
      · rename_i hbq
        simp only [Bool.and_eq_true, Nat.beq_eq] at hbq
        obtain ⟨rfl, rfl, rfl, rfl, rfl⟩ := hbq
        exact pj_run_ok (sd_X8_readStates C) (List.forall_mem_cons.mpr ⟨sg_X8_readStates_2 C  pj_z, fun q h => by cases h⟩) 43 0 _ _ _ _ ((eq_X8_readStates _ _).trans h) hR
      · cases h
    · cases h
/-! AlikeSteps$Tape.letterOf(I)I -/
abbrev c_X8_letterOf : ByteArray := prog_10_method_16_code
def y_X8_letterOf : MethodName := ⟨RX8, "letterOf", "(I)I"⟩
noncomputable def F_X8_letterOf (x0 : Int32) (m : pj_M) : Option (Int32 × pj_M) := (if x0 = 97 then (some (1, m)) else (if x0 = 98 then (some (2, m)) else (if x0 = 99 then (some (3, m)) else (if x0 = 116 then (some (0, m)) else (some ((-1), m))))))
noncomputable def W_X8_letterOf : List pj_V → pj_M → Option (Int32 × pj_M) := fun as m => match as with
  | [.inl x0] => F_X8_letterOf x0 m
  | _ => none
noncomputable def tb_X8_letterOf_0 : List (Nat × pj_T (Int32 × pj_M)) := [(0, qs_ldi 0 1), (1, qs_sw [(97, 46), (98, 48), (99, 50), (116, 44)] 52), (44, qs_ci 0 45), (45, qs_iret), (46, qs_ci 1 47), (47, qs_iret), (48, qs_ci 2 49), (49, qs_iret), (50, qs_ci 3 51), (51, qs_iret), (52, qs_ci (-1) 53), (53, qs_iret)]
noncomputable abbrev tb_X8_letterOf : List (Nat × pj_T (Int32 × pj_M)) := tb_X8_letterOf_0
theorem mv_X8_letterOf : pj_ms y_X8_letterOf c_X8_letterOf 1 (some .int) 1 := ⟨⟨cw_475, cw_474, cw_83⟩, by decide +kernel, by decide⟩
set_option maxRecDepth 20000 in
theorem sd_X8_letterOf_0 {G : pj_E} {A : Nat → Prop} {P : pj_P} {S : pj_U} {Z : pj_Z} (C : pj_C (G, A, (c_X8_letterOf, y_X8_letterOf.cls, 1, (some .int), 1), P, S, Z)) : ∀ q ∈ tb_X8_letterOf_0, pj_S (G, A, (c_X8_letterOf, y_X8_letterOf.cls, 1, (some .int), 1), P, S, Z) pj_eI q.1 q.2 :=
  List.forall_mem_cons.mpr ⟨qz_iload_n C (show decode c_X8_letterOf 0 = .ok (.iload_n 0, 1) by decide +kernel) rfl,
  List.forall_mem_cons.mpr ⟨qz_lsw C (show decode c_X8_letterOf 1 = .ok (.lookupswitch 51 #[(97, 45), (98, 47), (99, 49), (116, 43)], 43) by decide +kernel) (by decide +kernel) (by decide +kernel),
  List.forall_mem_cons.mpr ⟨qz_iconst C (show decode c_X8_letterOf 44 = .ok (.iconst 0, 1) by decide +kernel) (by decide +kernel),
  List.forall_mem_cons.mpr ⟨qz_iret C (show decode c_X8_letterOf 45 = .ok (.ireturn, 1) by decide +kernel) rfl,
  List.forall_mem_cons.mpr ⟨qz_iconst C (show decode c_X8_letterOf 46 = .ok (.iconst 1, 1) by decide +kernel) (by decide +kernel),
  List.forall_mem_cons.mpr ⟨qz_iret C (show decode c_X8_letterOf 47 = .ok (.ireturn, 1) by decide +kernel) rfl,
  List.forall_mem_cons.mpr ⟨qz_iconst C (show decode c_X8_letterOf 48 = .ok (.iconst 2, 1) by decide +kernel) (by decide +kernel),
  List.forall_mem_cons.mpr ⟨qz_iret C (show decode c_X8_letterOf 49 = .ok (.ireturn, 1) by decide +kernel) rfl,
  List.forall_mem_cons.mpr ⟨qz_iconst C (show decode c_X8_letterOf 50 = .ok (.iconst 3, 1) by decide +kernel) (by decide +kernel),
  List.forall_mem_cons.mpr ⟨qz_iret C (show decode c_X8_letterOf 51 = .ok (.ireturn, 1) by decide +kernel) rfl,
  List.forall_mem_cons.mpr ⟨qz_iconst C (show decode c_X8_letterOf 52 = .ok (.iconst (-1), 1) by decide +kernel) (by decide +kernel),
  List.forall_mem_cons.mpr ⟨qz_iret C (show decode c_X8_letterOf 53 = .ok (.ireturn, 1) by decide +kernel) rfl,
  (fun q h => by cases h)⟩⟩⟩⟩⟩⟩⟩⟩⟩⟩⟩⟩
theorem sd_X8_letterOf {G : pj_E} {A : Nat → Prop} {P : pj_P} {S : pj_U} {Z : pj_Z} (C : pj_C (G, A, (c_X8_letterOf, y_X8_letterOf.cls, 1, (some .int), 1), P, S, Z)) : ∀ q ∈ tb_X8_letterOf, pj_S (G, A, (c_X8_letterOf, y_X8_letterOf.cls, 1, (some .int), 1), P, S, Z) pj_eI q.1 q.2 := sd_X8_letterOf_0 C
set_option maxRecDepth 20000 in
theorem eq_X8_letterOf (x0 : Int32) (m : pj_M) : pj_run tb_X8_letterOf [] 14 0 [some (.inl x0)] [] m = F_X8_letterOf x0 m := by rfl
theorem ct_X8_letterOf : pj_Ct pj_eI y_X8_letterOf c_X8_letterOf 1 (some .int) 1 W_X8_letterOf := by
  refine pj_ct_of (by decide +kernel) ?_ ?_
  · intro as m r h
    unfold W_X8_letterOf at h
    split at h
    · simp [pj_l0]
    · cases h
  · intro G A P S Z C as m r h hR
    unfold W_X8_letterOf at h
    split at h
    · exact pj_run_ok (sd_X8_letterOf C) (fun q h => by cases h) 14 0 _ _ _ _ ((eq_X8_letterOf _ _).trans h) hR
    · cases h
/-! AlikeSteps$Tape.isFigure(I)Z -/
abbrev c_X8_isFigure : ByteArray := prog_10_method_12_code
def y_X8_isFigure : MethodName := ⟨RX8, "isFigure", "(I)Z"⟩
noncomputable def F_X8_isFigure (x1 : Int32) (m : pj_M) : Option (Int32 × pj_M) := (if x1 < (m.1 5 1) then (if x1 < 0 ∨ 140 ≤ x1.toNatClampNeg then none else (if (m.1 6 x1.toNatClampNeg) < 48 then (some (0, m)) else (if x1 < 0 ∨ 140 ≤ x1.toNatClampNeg then none else (if (57 : Int32) < (m.1 6 x1.toNatClampNeg) then (some (0, m)) else (some (1, m)))))) else (some (0, m)))
noncomputable def W_X8_isFigure : List pj_V → pj_M → Option (Int32 × pj_M) := fun as m => match as with
  | [.inr (.inr (t0, w0, a0)), .inl x1] => (match Nat.beq t0 0 && (Nat.beq w0 8 && (Nat.beq a0 5)) with
    | true => F_X8_isFigure x1 m
    | false => none)
  | _ => none
noncomputable def tb_X8_isFigure_0 : List (Nat × pj_T (Int32 × pj_M)) := [(0, qs_ldi 1 1), (1, qs_lda 0 2), (2, qs_gf 8 1 5), (5, qs_icge 34 8), (8, qs_lda 0 9), (9, qs_gf 8 0 12), (12, qs_ldi 1 13), (13, qs_iald 14), (14, qs_ci 48 16), (16, qs_iclt 34 19), (19, qs_lda 0 20), (20, qs_gf 8 0 23), (23, qs_ldi 1 24), (24, qs_iald 25), (25, qs_ci 57 27), (27, qs_icgt 34 30), (30, qs_ci 1 31), (31, qs_go 35), (34, qs_ci 0 35), (35, qs_zret)]
noncomputable abbrev tb_X8_isFigure : List (Nat × pj_T (Int32 × pj_M)) := tb_X8_isFigure_0
theorem mv_X8_isFigure : pj_mv y_X8_isFigure c_X8_isFigure 2 (some .boolean) 1 := ⟨⟨cw_487, cw_486, cw_8, cw_83⟩, by decide +kernel, by decide⟩
set_option maxRecDepth 20000 in
theorem sd_X8_isFigure_0 {G : pj_E} {A : Nat → Prop} {P : pj_P} {S : pj_U} {Z : pj_Z} (C : pj_C (G, A, (c_X8_isFigure, y_X8_isFigure.cls, 2, (some .boolean), 1), P, S, Z)) : ∀ q ∈ tb_X8_isFigure_0, pj_S (G, A, (c_X8_isFigure, y_X8_isFigure.cls, 2, (some .boolean), 1), P, S, Z) pj_eI q.1 q.2 :=
  List.forall_mem_cons.mpr ⟨qz_iload_n C (show decode c_X8_isFigure 0 = .ok (.iload_n 1, 1) by decide +kernel) rfl,
  List.forall_mem_cons.mpr ⟨qz_aload_n C (show decode c_X8_isFigure 1 = .ok (.aload_n 0, 1) by decide +kernel) rfl,
  List.forall_mem_cons.mpr ⟨qz_gf (k := 1) C (show decode c_X8_isFigure 2 = .ok (.getfield 15, 3) by decide +kernel) vcX8 wiX8 (by decide) cw_128,
  List.forall_mem_cons.mpr ⟨qz_icge C (show decode c_X8_isFigure 5 = .ok (.if_icmp .ge 29, 3) by decide +kernel) (by decide),
  List.forall_mem_cons.mpr ⟨qz_aload_n C (show decode c_X8_isFigure 8 = .ok (.aload_n 0, 1) by decide +kernel) rfl,
  List.forall_mem_cons.mpr ⟨qz_gf (k := 0) C (show decode c_X8_isFigure 9 = .ok (.getfield 11, 3) by decide +kernel) vcX8 wiX8 (by decide) cw_127,
  List.forall_mem_cons.mpr ⟨qz_iload_n C (show decode c_X8_isFigure 12 = .ok (.iload_n 1, 1) by decide +kernel) rfl,
  List.forall_mem_cons.mpr ⟨qz_iald C (show decode c_X8_isFigure 13 = .ok (.iaload, 1) by decide +kernel),
  List.forall_mem_cons.mpr ⟨qz_bipush C (show decode c_X8_isFigure 14 = .ok (.bipush 48, 2) by decide +kernel) (by decide +kernel),
  List.forall_mem_cons.mpr ⟨qz_iclt C (show decode c_X8_isFigure 16 = .ok (.if_icmp .lt 18, 3) by decide +kernel) (by decide),
  List.forall_mem_cons.mpr ⟨qz_aload_n C (show decode c_X8_isFigure 19 = .ok (.aload_n 0, 1) by decide +kernel) rfl,
  List.forall_mem_cons.mpr ⟨qz_gf (k := 0) C (show decode c_X8_isFigure 20 = .ok (.getfield 11, 3) by decide +kernel) vcX8 wiX8 (by decide) cw_127,
  List.forall_mem_cons.mpr ⟨qz_iload_n C (show decode c_X8_isFigure 23 = .ok (.iload_n 1, 1) by decide +kernel) rfl,
  List.forall_mem_cons.mpr ⟨qz_iald C (show decode c_X8_isFigure 24 = .ok (.iaload, 1) by decide +kernel),
  List.forall_mem_cons.mpr ⟨qz_bipush C (show decode c_X8_isFigure 25 = .ok (.bipush 57, 2) by decide +kernel) (by decide +kernel),
  List.forall_mem_cons.mpr ⟨qz_icgt C (show decode c_X8_isFigure 27 = .ok (.if_icmp .gt 7, 3) by decide +kernel) (by decide),
  List.forall_mem_cons.mpr ⟨qz_iconst C (show decode c_X8_isFigure 30 = .ok (.iconst 1, 1) by decide +kernel) (by decide +kernel),
  List.forall_mem_cons.mpr ⟨qz_goto C (show decode c_X8_isFigure 31 = .ok (.goto 4, 3) by decide +kernel) (by decide),
  List.forall_mem_cons.mpr ⟨qz_iconst C (show decode c_X8_isFigure 34 = .ok (.iconst 0, 1) by decide +kernel) (by decide +kernel),
  List.forall_mem_cons.mpr ⟨qz_zret C (show decode c_X8_isFigure 35 = .ok (.ireturn, 1) by decide +kernel) rfl,
  (fun q h => by cases h)⟩⟩⟩⟩⟩⟩⟩⟩⟩⟩⟩⟩⟩⟩⟩⟩⟩⟩⟩⟩
theorem sd_X8_isFigure {G : pj_E} {A : Nat → Prop} {P : pj_P} {S : pj_U} {Z : pj_Z} (C : pj_C (G, A, (c_X8_isFigure, y_X8_isFigure.cls, 2, (some .boolean), 1), P, S, Z)) : ∀ q ∈ tb_X8_isFigure, pj_S (G, A, (c_X8_isFigure, y_X8_isFigure.cls, 2, (some .boolean), 1), P, S, Z) pj_eI q.1 q.2 := sd_X8_isFigure_0 C
set_option maxRecDepth 20000 in
theorem eq_X8_isFigure (x1 : Int32) (m : pj_M) : pj_run tb_X8_isFigure [] 22 0 [some (.inr (.inr (0, 8, 5))), some (.inl x1)] [] m = F_X8_isFigure x1 m := by rfl
theorem ct_X8_isFigure : pj_Ct pj_eI y_X8_isFigure c_X8_isFigure 2 (some .boolean) 1 W_X8_isFigure := by
  refine pj_ct_of (by decide +kernel) ?_ ?_
  · intro as m r h
    unfold W_X8_isFigure at h
    split at h
    · simp [pj_l0]
    · cases h
  · intro G A P S Z C as m r h hR
    unfold W_X8_isFigure at h
    split at h
    · split at h
      · rename_i hbq
        simp only [Bool.and_eq_true, Nat.beq_eq] at hbq
        obtain ⟨rfl, rfl, rfl⟩ := hbq
        exact pj_run_ok (sd_X8_isFigure C) (fun q h => by cases h) 22 0 _ _ _ _ ((eq_X8_isFigure _ _).trans h) hR
      · cases h
    · cases h
/-! AlikeSteps$Tape.readNumber(LAlikeSteps$Net;)I -/
abbrev c_X8_readNumber : ByteArray := prog_10_method_11_code
def y_X8_readNumber : MethodName := ⟨RX8, "readNumber", "(LAlikeSteps$Net;)I"⟩
noncomputable def J_X8_readNumber_48 (a1 : Nat) (x2 : Int32) (x3 : Int32) (m : pj_M) : Option (Int32 × pj_M) := (if x2 = 0 then (some ((-1), m)) else (if (2 : Int32) < x2 then (some ((-1), m)) else ((F_X4_hasState a1 x3 m).bind fun q1 => (if q1.1 = 0 then (some ((-2), q1.2)) else (some (x3, (pj_wr q1.2 5 2 ((q1.2.1 5 2) + x2))))))))
noncomputable def H_X8_readNumber_4 : Nat → Nat → Int32 → Int32 → pj_M → Option (Int32 × pj_M)
  | 0, _, _, _, _ => none
  | n1 + 1, a1, x2, x3, m => (if x2 < 3 then ((F_X8_isFigure ((m.1 5 2) + x2) m).bind fun q1 => (if q1.1 = 0 then (J_X8_readNumber_48 a1 x2 x3 q1.2) else (if ((q1.2.1 5 2) + x2) < 0 ∨ 140 ≤ ((q1.2.1 5 2) + x2).toNatClampNeg then none else (H_X8_readNumber_4 n1 a1 (x2 + 1) (((x3 * 10) + (q1.2.1 6 ((q1.2.1 5 2) + x2).toNatClampNeg)) - 48) q1.2)))) else (J_X8_readNumber_48 a1 x2 x3 m))
noncomputable def F_X8_readNumber (a1 : Nat) (m : pj_M) : Option (Int32 × pj_M) := (H_X8_readNumber_4 pj_z a1 0 0 m)
noncomputable def W_X8_readNumber : List pj_V → pj_M → Option (Int32 × pj_M) := fun as m => match as with
  | [.inr (.inr (t0, w0, a0)), .inr (.inr (t1, w1, a1))] => (match Nat.beq t0 0 && (Nat.beq w0 8 && (Nat.beq a0 5 && (Nat.beq t1 0 && (Nat.beq w1 4)))) with
    | true => F_X8_readNumber a1 m
    | false => none)
  | _ => none
noncomputable def tb_X8_readNumber_0 : List (Nat × pj_T (Int32 × pj_M)) := [(0, qs_ci 0 1), (1, qs_sti 2 2), (2, qs_ci 0 3), (3, qs_sti 3 4), (4, qs_ldi 2 5), (5, qs_ci 3 6), (6, qs_icge 48 9), (9, qs_lda 0 10), (10, qs_lda 0 11), (11, qs_gf 8 2 14), (14, qs_ldi 2 15), (15, qs_b2 (fun x y => x + y) 16), (16, qs_vI 8 2 W_X8_isFigure 19), (19, qs_ifeq 48 22), (22, qs_ldi 3 23), (23, qs_ci 10 25), (25, qs_b2 (fun x y => x * y) 26), (26, qs_lda 0 27), (27, qs_gf 8 0 30), (30, qs_lda 0 31), (31, qs_gf 8 2 34), (34, qs_ldi 2 35), (35, qs_b2 (fun x y => x + y) 36), (36, qs_iald 37), (37, qs_b2 (fun x y => x + y) 38), (38, qs_ci 48 40), (40, qs_b2 (fun x y => x - y) 41), (41, qs_sti 3 42), (42, qs_inc 2 1 45), (45, qs_go 4), (48, qs_ldi 2 49), (49, qs_ifeq 57 52), (52, qs_ldi 2 53), (53, qs_ci 2 54), (54, qs_icle 59 57), (57, qs_ci (-1) 58), (58, qs_iret), (59, qs_lda 1 60), (60, qs_ldi 3 61), (61, qs_vI 4 2 W_X4_hasState 64)]
noncomputable def tb_X8_readNumber_1 : List (Nat × pj_T (Int32 × pj_M)) := [(64, qs_ifne 70 67), (67, qs_ci (-2) 69), (69, qs_iret), (70, qs_lda 0 71), (71, qs_dup 72), (72, qs_gf 8 2 75), (75, qs_ldi 2 76), (76, qs_b2 (fun x y => x + y) 77), (77, qs_pf 8 2 80), (80, qs_ldi 3 81), (81, qs_iret)]
noncomputable def tb_X8_readNumber : List (Nat × pj_T (Int32 × pj_M)) := tb_X8_readNumber_0 ++ (tb_X8_readNumber_1)
theorem mv_X8_readNumber : pj_mv y_X8_readNumber c_X8_readNumber 4 (some .int) 1 := ⟨⟨cw_483, cw_482, cw_7, cw_83⟩, by decide +kernel, by decide⟩
set_option maxRecDepth 20000 in
theorem sd_X8_readNumber_0 {G : pj_E} {A : Nat → Prop} {P : pj_P} {S : pj_U} {Z : pj_Z} (C : pj_C (G, A, (c_X8_readNumber, y_X8_readNumber.cls, 4, (some .int), 2), P, S, Z)) : ∀ q ∈ tb_X8_readNumber_0, pj_S (G, A, (c_X8_readNumber, y_X8_readNumber.cls, 4, (some .int), 2), P, S, Z) pj_eI q.1 q.2 :=
  List.forall_mem_cons.mpr ⟨qz_iconst C (show decode c_X8_readNumber 0 = .ok (.iconst 0, 1) by decide +kernel) (by decide +kernel),
  List.forall_mem_cons.mpr ⟨qz_istore_n C (show decode c_X8_readNumber 1 = .ok (.istore_n 2, 1) by decide +kernel) rfl,
  List.forall_mem_cons.mpr ⟨qz_iconst C (show decode c_X8_readNumber 2 = .ok (.iconst 0, 1) by decide +kernel) (by decide +kernel),
  List.forall_mem_cons.mpr ⟨qz_istore_n C (show decode c_X8_readNumber 3 = .ok (.istore_n 3, 1) by decide +kernel) rfl,
  List.forall_mem_cons.mpr ⟨qz_iload_n C (show decode c_X8_readNumber 4 = .ok (.iload_n 2, 1) by decide +kernel) rfl,
  List.forall_mem_cons.mpr ⟨qz_iconst C (show decode c_X8_readNumber 5 = .ok (.iconst 3, 1) by decide +kernel) (by decide +kernel),
  List.forall_mem_cons.mpr ⟨qz_icge C (show decode c_X8_readNumber 6 = .ok (.if_icmp .ge 42, 3) by decide +kernel) (by decide),
  List.forall_mem_cons.mpr ⟨qz_aload_n C (show decode c_X8_readNumber 9 = .ok (.aload_n 0, 1) by decide +kernel) rfl,
  List.forall_mem_cons.mpr ⟨qz_aload_n C (show decode c_X8_readNumber 10 = .ok (.aload_n 0, 1) by decide +kernel) rfl,
  List.forall_mem_cons.mpr ⟨qz_gf (k := 2) C (show decode c_X8_readNumber 11 = .ok (.getfield 19, 3) by decide +kernel) vcX8 wiX8 (by decide) cw_129,
  List.forall_mem_cons.mpr ⟨qz_iload_n C (show decode c_X8_readNumber 14 = .ok (.iload_n 2, 1) by decide +kernel) rfl,
  List.forall_mem_cons.mpr ⟨qz_iadd C (show decode c_X8_readNumber 15 = .ok (.iadd, 1) by decide +kernel),
  List.forall_mem_cons.mpr ⟨qz_vI C (show decode c_X8_readNumber 16 = .ok (.invokevirtual 68, 3) by decide +kernel) ct_X8_isFigure mv_X8_isFigure cw_484 vcX8 (show 1 < 2 by omega),
  List.forall_mem_cons.mpr ⟨qz_ifeq C (show decode c_X8_readNumber 19 = .ok (.ifCond .eq 29, 3) by decide +kernel) (by decide),
  List.forall_mem_cons.mpr ⟨qz_iload_n C (show decode c_X8_readNumber 22 = .ok (.iload_n 3, 1) by decide +kernel) rfl,
  List.forall_mem_cons.mpr ⟨qz_bipush C (show decode c_X8_readNumber 23 = .ok (.bipush 10, 2) by decide +kernel) (by decide +kernel),
  List.forall_mem_cons.mpr ⟨qz_imul C (show decode c_X8_readNumber 25 = .ok (.imul, 1) by decide +kernel),
  List.forall_mem_cons.mpr ⟨qz_aload_n C (show decode c_X8_readNumber 26 = .ok (.aload_n 0, 1) by decide +kernel) rfl,
  List.forall_mem_cons.mpr ⟨qz_gf (k := 0) C (show decode c_X8_readNumber 27 = .ok (.getfield 11, 3) by decide +kernel) vcX8 wiX8 (by decide) cw_127,
  List.forall_mem_cons.mpr ⟨qz_aload_n C (show decode c_X8_readNumber 30 = .ok (.aload_n 0, 1) by decide +kernel) rfl,
  List.forall_mem_cons.mpr ⟨qz_gf (k := 2) C (show decode c_X8_readNumber 31 = .ok (.getfield 19, 3) by decide +kernel) vcX8 wiX8 (by decide) cw_129,
  List.forall_mem_cons.mpr ⟨qz_iload_n C (show decode c_X8_readNumber 34 = .ok (.iload_n 2, 1) by decide +kernel) rfl,
  List.forall_mem_cons.mpr ⟨qz_iadd C (show decode c_X8_readNumber 35 = .ok (.iadd, 1) by decide +kernel),
  List.forall_mem_cons.mpr ⟨qz_iald C (show decode c_X8_readNumber 36 = .ok (.iaload, 1) by decide +kernel),
  List.forall_mem_cons.mpr ⟨qz_iadd C (show decode c_X8_readNumber 37 = .ok (.iadd, 1) by decide +kernel),
  List.forall_mem_cons.mpr ⟨qz_bipush C (show decode c_X8_readNumber 38 = .ok (.bipush 48, 2) by decide +kernel) (by decide +kernel),
  List.forall_mem_cons.mpr ⟨qz_isub C (show decode c_X8_readNumber 40 = .ok (.isub, 1) by decide +kernel),
  List.forall_mem_cons.mpr ⟨qz_istore_n C (show decode c_X8_readNumber 41 = .ok (.istore_n 3, 1) by decide +kernel) rfl,
  List.forall_mem_cons.mpr ⟨qz_iinc C (show decode c_X8_readNumber 42 = .ok (.iinc 2 1, 3) by decide +kernel) (by decide +kernel),
  List.forall_mem_cons.mpr ⟨qz_goto C (show decode c_X8_readNumber 45 = .ok (.goto (-41), 3) by decide +kernel) (by decide),
  List.forall_mem_cons.mpr ⟨qz_iload_n C (show decode c_X8_readNumber 48 = .ok (.iload_n 2, 1) by decide +kernel) rfl,
  List.forall_mem_cons.mpr ⟨qz_ifeq C (show decode c_X8_readNumber 49 = .ok (.ifCond .eq 8, 3) by decide +kernel) (by decide),
  List.forall_mem_cons.mpr ⟨qz_iload_n C (show decode c_X8_readNumber 52 = .ok (.iload_n 2, 1) by decide +kernel) rfl,
  List.forall_mem_cons.mpr ⟨qz_iconst C (show decode c_X8_readNumber 53 = .ok (.iconst 2, 1) by decide +kernel) (by decide +kernel),
  List.forall_mem_cons.mpr ⟨qz_icle C (show decode c_X8_readNumber 54 = .ok (.if_icmp .le 5, 3) by decide +kernel) (by decide),
  List.forall_mem_cons.mpr ⟨qz_iconst C (show decode c_X8_readNumber 57 = .ok (.iconst (-1), 1) by decide +kernel) (by decide +kernel),
  List.forall_mem_cons.mpr ⟨qz_iret C (show decode c_X8_readNumber 58 = .ok (.ireturn, 1) by decide +kernel) rfl,
  List.forall_mem_cons.mpr ⟨qz_aload_n C (show decode c_X8_readNumber 59 = .ok (.aload_n 1, 1) by decide +kernel) rfl,
  List.forall_mem_cons.mpr ⟨qz_iload_n C (show decode c_X8_readNumber 60 = .ok (.iload_n 3, 1) by decide +kernel) rfl,
  List.forall_mem_cons.mpr ⟨qz_vI C (show decode c_X8_readNumber 61 = .ok (.invokevirtual 72, 3) by decide +kernel) ct_X4_hasState mv_X4_hasState cw_488 vcX4 (show 1 < 2 by omega),
  (fun q h => by cases h)⟩⟩⟩⟩⟩⟩⟩⟩⟩⟩⟩⟩⟩⟩⟩⟩⟩⟩⟩⟩⟩⟩⟩⟩⟩⟩⟩⟩⟩⟩⟩⟩⟩⟩⟩⟩⟩⟩⟩⟩
set_option maxRecDepth 20000 in
theorem sd_X8_readNumber_1 {G : pj_E} {A : Nat → Prop} {P : pj_P} {S : pj_U} {Z : pj_Z} (C : pj_C (G, A, (c_X8_readNumber, y_X8_readNumber.cls, 4, (some .int), 2), P, S, Z)) : ∀ q ∈ tb_X8_readNumber_1, pj_S (G, A, (c_X8_readNumber, y_X8_readNumber.cls, 4, (some .int), 2), P, S, Z) pj_eI q.1 q.2 :=
  List.forall_mem_cons.mpr ⟨qz_ifne C (show decode c_X8_readNumber 64 = .ok (.ifCond .ne 6, 3) by decide +kernel) (by decide),
  List.forall_mem_cons.mpr ⟨qz_bipush C (show decode c_X8_readNumber 67 = .ok (.bipush (-2), 2) by decide +kernel) (by decide +kernel),
  List.forall_mem_cons.mpr ⟨qz_iret C (show decode c_X8_readNumber 69 = .ok (.ireturn, 1) by decide +kernel) rfl,
  List.forall_mem_cons.mpr ⟨qz_aload_n C (show decode c_X8_readNumber 70 = .ok (.aload_n 0, 1) by decide +kernel) rfl,
  List.forall_mem_cons.mpr ⟨qz_dup C (show decode c_X8_readNumber 71 = .ok (.dup, 1) by decide +kernel),
  List.forall_mem_cons.mpr ⟨qz_gf (k := 2) C (show decode c_X8_readNumber 72 = .ok (.getfield 19, 3) by decide +kernel) vcX8 wiX8 (by decide) cw_129,
  List.forall_mem_cons.mpr ⟨qz_iload_n C (show decode c_X8_readNumber 75 = .ok (.iload_n 2, 1) by decide +kernel) rfl,
  List.forall_mem_cons.mpr ⟨qz_iadd C (show decode c_X8_readNumber 76 = .ok (.iadd, 1) by decide +kernel),
  List.forall_mem_cons.mpr ⟨qz_pf (k := 2) C (show decode c_X8_readNumber 77 = .ok (.putfield 19, 3) by decide +kernel) vcX8 wiX8 tyX8_ok nmX8 (by decide) cw_129 rfl rfl,
  List.forall_mem_cons.mpr ⟨qz_iload_n C (show decode c_X8_readNumber 80 = .ok (.iload_n 3, 1) by decide +kernel) rfl,
  List.forall_mem_cons.mpr ⟨qz_iret C (show decode c_X8_readNumber 81 = .ok (.ireturn, 1) by decide +kernel) rfl,
  (fun q h => by cases h)⟩⟩⟩⟩⟩⟩⟩⟩⟩⟩⟩
theorem sd_X8_readNumber {G : pj_E} {A : Nat → Prop} {P : pj_P} {S : pj_U} {Z : pj_Z} (C : pj_C (G, A, (c_X8_readNumber, y_X8_readNumber.cls, 4, (some .int), 2), P, S, Z)) : ∀ q ∈ tb_X8_readNumber, pj_S (G, A, (c_X8_readNumber, y_X8_readNumber.cls, 4, (some .int), 2), P, S, Z) pj_eI q.1 q.2 := List.forall_mem_append.mpr ⟨sd_X8_readNumber_0 C, sd_X8_readNumber_1 C⟩
noncomputable def C_X8_readNumber_48 (f : Nat → Int32 → Int32 → pj_M → Option (Int32 × pj_M)) : pj_N (Int32 × pj_M) := fun L st m => match L, st with
  | [some (.inr (.inr (t0, w0, a0))), some (.inr (.inr (t1, w1, a1))), some (.inl x2), some (.inl x3)], [] => (match Nat.beq t0 0 && (Nat.beq w0 8 && (Nat.beq a0 5 && (Nat.beq t1 0 && (Nat.beq w1 4)))) with
    | true => f a1 x2 x3 m
    | false => none)
  | _, _ => none
noncomputable def C_X8_readNumber_4 (f : Nat → Int32 → Int32 → pj_M → Option (Int32 × pj_M)) : pj_N (Int32 × pj_M) := fun L st m => match L, st with
  | [some (.inr (.inr (t0, w0, a0))), some (.inr (.inr (t1, w1, a1))), some (.inl x2), some (.inl x3)], [] => (match Nat.beq t0 0 && (Nat.beq w0 8 && (Nat.beq a0 5 && (Nat.beq t1 0 && (Nat.beq w1 4)))) with
    | true => f a1 x2 x3 m
    | false => none)
  | _, _ => none
set_option maxRecDepth 20000 in
theorem eq_X8_readNumber_48 (a1 : Nat) (x2 : Int32) (x3 : Int32) (m : pj_M) : pj_run tb_X8_readNumber [] 53 48 [some (.inr (.inr (0, 8, 5))), some (.inr (.inr (0, 4, a1))), some (.inl x2), some (.inl x3)] [] m = J_X8_readNumber_48 a1 x2 x3 m := by rfl
theorem sg_X8_readNumber_48 {G : pj_E} {A : Nat → Prop} {P : pj_P} {S : pj_U} {Z : pj_Z} (C : pj_C (G, A, (c_X8_readNumber, y_X8_readNumber.cls, 4, (some .int), 2), P, S, Z)) : pj_G (G, A, (c_X8_readNumber, y_X8_readNumber.cls, 4, (some .int), 2), P, S, Z) pj_eI 48 (C_X8_readNumber_48 (J_X8_readNumber_48)) := by
  intro L st m r h hR
  unfold C_X8_readNumber_48 at h
  split at h
  · split at h
    · rename_i hbq
      simp only [Bool.and_eq_true, Nat.beq_eq] at hbq
      obtain ⟨rfl, rfl, rfl, rfl, rfl⟩ := hbq
      exact pj_run_ok (sd_X8_readNumber C) (fun q h => by cases h) 53 48 _ _ _ _ ((eq_X8_readNumber_48 _ _ _ _).trans h) hR
    · cases h
  · cases h
set_option maxRecDepth 20000 in
theorem eq_X8_readNumber_4 (n1 : Nat) (a1 : Nat) (x2 : Int32) (x3 : Int32) (m : pj_M) : pj_run tb_X8_readNumber [(4, C_X8_readNumber_4 (H_X8_readNumber_4 n1)), (48, C_X8_readNumber_48 (J_X8_readNumber_48 ))] 53 4 [some (.inr (.inr (0, 8, 5))), some (.inr (.inr (0, 4, a1))), some (.inl x2), some (.inl x3)] [] m = H_X8_readNumber_4 (n1 + 1) a1 x2 x3 m := by rfl
theorem sg_X8_readNumber_4 {G : pj_E} {A : Nat → Prop} {P : pj_P} {S : pj_U} {Z : pj_Z} (C : pj_C (G, A, (c_X8_readNumber, y_X8_readNumber.cls, 4, (some .int), 2), P, S, Z)) : ∀ n1, pj_G (G, A, (c_X8_readNumber, y_X8_readNumber.cls, 4, (some .int), 2), P, S, Z) pj_eI 4 (C_X8_readNumber_4 (H_X8_readNumber_4 n1)) := by
  intro n1
  induction n1 with
  | zero =>
    intro L st m r h hR
    unfold C_X8_readNumber_4 at h
    split at h
    · split at h
      · cases h
      · cases h
    · cases h
  | succ n1 ih1 =>
    intro L st m r h hR
    unfold C_X8_readNumber_4 at h
    split at h
    · split at h
      · rename_i hbq
        simp only [Bool.and_eq_true, Nat.beq_eq] at hbq
        obtain ⟨rfl, rfl, rfl, rfl, rfl⟩ := hbq
        exact pj_run_ok (sd_X8_readNumber C) (List.forall_mem_cons.mpr ⟨ih1, List.forall_mem_cons.mpr ⟨sg_X8_readNumber_48 C , fun q h => by cases h⟩⟩) 53 4 _ _ _ _ ((eq_X8_readNumber_4 _ _ _ _ _).trans h) hR
      · cases h
    · cases h
set_option maxRecDepth 20000 in
theorem eq_X8_readNumber (a1 : Nat) (m : pj_M) : pj_run tb_X8_readNumber [(4, C_X8_readNumber_4 (H_X8_readNumber_4  pj_z))] 53 0 [some (.inr (.inr (0, 8, 5))), some (.inr (.inr (0, 4, a1))), none, none] [] m = F_X8_readNumber a1 m := by rfl
theorem ct_X8_readNumber : pj_Ct pj_eI y_X8_readNumber c_X8_readNumber 4 (some .int) 2 W_X8_readNumber := by
  refine pj_ct_of (by decide +kernel) ?_ ?_
  · intro as m r h
    unfold W_X8_readNumber at h
    split at h
    · simp [pj_l0]
    · cases h
  · intro G A P S Z C as m r h hR
    unfold W_X8_readNumber at h
    split at h
    · split at h
      · rename_i hbq
        simp only [Bool.and_eq_true, Nat.beq_eq] at hbq
        obtain ⟨rfl, rfl, rfl, rfl, rfl⟩ := hbq
        exact pj_run_ok (sd_X8_readNumber C) (List.forall_mem_cons.mpr ⟨sg_X8_readNumber_4 C  pj_z, fun q h => by cases h⟩) 53 0 _ _ _ _ ((eq_X8_readNumber _ _).trans h) hR
      · cases h
    · cases h
/-! AlikeSteps$Tape.readEnds(LAlikeSteps$Net;I)I -/
abbrev c_X8_readEnds : ByteArray := prog_10_method_10_code
def y_X8_readEnds : MethodName := ⟨RX8, "readEnds", "(LAlikeSteps$Net;I)I"⟩
noncomputable def F_X8_readEnds (a1 : Nat) (x2 : Int32) (m : pj_M) : Option (Int32 × pj_M) := ((F_X8_readNumber a1 m).bind fun q1 => (if q1.1 < 0 then (some (-q1.1, q1.2)) else ((F_X8_passes 44 q1.2).bind fun q2 => (if q2.1 = 0 then (some (1, q2.2)) else ((F_X8_readNumber a1 q2.2).bind fun q3 => (if q3.1 < 0 then (some (-q3.1, q3.2)) else ((F_X8_passes 59 q3.2).bind fun q4 => (if q4.1 = 0 then (some (1, q4.2)) else ((F_X4_addArc a1 x2 q1.1 q3.1 q4.2).bind fun q5 => (some (0, q5)))))))))))
noncomputable def W_X8_readEnds : List pj_V → pj_M → Option (Int32 × pj_M) := fun as m => match as with
  | [.inr (.inr (t0, w0, a0)), .inr (.inr (t1, w1, a1)), .inl x2] => (match Nat.beq t0 0 && (Nat.beq w0 8 && (Nat.beq a0 5 && (Nat.beq t1 0 && (Nat.beq w1 4)))) with
    | true => F_X8_readEnds a1 x2 m
    | false => none)
  | _ => none
noncomputable def tb_X8_readEnds_0 : List (Nat × pj_T (Int32 × pj_M)) := [(0, qs_lda 0 1), (1, qs_lda 1 2), (2, qs_vI 8 2 W_X8_readNumber 5), (5, qs_sti 3 6), (6, qs_ldi 3 7), (7, qs_ifge 13 10), (10, qs_ldi 3 11), (11, qs_u1 (fun x => -x) 12), (12, qs_iret), (13, qs_lda 0 14), (14, qs_ci 44 16), (16, qs_vI 8 2 W_X8_passes 19), (19, qs_ifne 24 22), (22, qs_ci 1 23), (23, qs_iret), (24, qs_lda 0 25), (25, qs_lda 1 26), (26, qs_vI 8 2 W_X8_readNumber 29), (29, qs_sti 4 31), (31, qs_ldi 4 33), (33, qs_ifge 40 36), (36, qs_ldi 4 38), (38, qs_u1 (fun x => -x) 39), (39, qs_iret), (40, qs_lda 0 41), (41, qs_ci 59 43), (43, qs_vI 8 2 W_X8_passes 46), (46, qs_ifne 51 49), (49, qs_ci 1 50), (50, qs_iret), (51, qs_lda 1 52), (52, qs_ldi 2 53), (53, qs_ldi 3 54), (54, qs_ldi 4 56), (56, qs_vV 4 4 W_X4_addArc 59), (59, qs_ci 0 60), (60, qs_iret)]
noncomputable abbrev tb_X8_readEnds : List (Nat × pj_T (Int32 × pj_M)) := tb_X8_readEnds_0
theorem mv_X8_readEnds : pj_mv y_X8_readEnds c_X8_readEnds 5 (some .int) 2 := ⟨⟨cw_479, cw_478, cw_6, cw_83⟩, by decide +kernel, by decide⟩
set_option maxRecDepth 20000 in
theorem sd_X8_readEnds_0 {G : pj_E} {A : Nat → Prop} {P : pj_P} {S : pj_U} {Z : pj_Z} (C : pj_C (G, A, (c_X8_readEnds, y_X8_readEnds.cls, 5, (some .int), 4), P, S, Z)) : ∀ q ∈ tb_X8_readEnds_0, pj_S (G, A, (c_X8_readEnds, y_X8_readEnds.cls, 5, (some .int), 4), P, S, Z) pj_eI q.1 q.2 :=
  List.forall_mem_cons.mpr ⟨qz_aload_n C (show decode c_X8_readEnds 0 = .ok (.aload_n 0, 1) by decide +kernel) rfl,
  List.forall_mem_cons.mpr ⟨qz_aload_n C (show decode c_X8_readEnds 1 = .ok (.aload_n 1, 1) by decide +kernel) rfl,
  List.forall_mem_cons.mpr ⟨qz_vI C (show decode c_X8_readEnds 2 = .ok (.invokevirtual 61, 3) by decide +kernel) ct_X8_readNumber mv_X8_readNumber cw_480 vcX8 (show 2 < 4 by omega),
  List.forall_mem_cons.mpr ⟨qz_istore_n C (show decode c_X8_readEnds 5 = .ok (.istore_n 3, 1) by decide +kernel) rfl,
  List.forall_mem_cons.mpr ⟨qz_iload_n C (show decode c_X8_readEnds 6 = .ok (.iload_n 3, 1) by decide +kernel) rfl,
  List.forall_mem_cons.mpr ⟨qz_ifge C (show decode c_X8_readEnds 7 = .ok (.ifCond .ge 6, 3) by decide +kernel) (by decide),
  List.forall_mem_cons.mpr ⟨qz_iload_n C (show decode c_X8_readEnds 10 = .ok (.iload_n 3, 1) by decide +kernel) rfl,
  List.forall_mem_cons.mpr ⟨qz_ineg C (show decode c_X8_readEnds 11 = .ok (.ineg, 1) by decide +kernel),
  List.forall_mem_cons.mpr ⟨qz_iret C (show decode c_X8_readEnds 12 = .ok (.ireturn, 1) by decide +kernel) rfl,
  List.forall_mem_cons.mpr ⟨qz_aload_n C (show decode c_X8_readEnds 13 = .ok (.aload_n 0, 1) by decide +kernel) rfl,
  List.forall_mem_cons.mpr ⟨qz_bipush C (show decode c_X8_readEnds 14 = .ok (.bipush 44, 2) by decide +kernel) (by decide +kernel),
  List.forall_mem_cons.mpr ⟨qz_vI C (show decode c_X8_readEnds 16 = .ok (.invokevirtual 46, 3) by decide +kernel) ct_X8_passes mv_X8_passes cw_461 vcX8 (show 2 < 4 by omega),
  List.forall_mem_cons.mpr ⟨qz_ifne C (show decode c_X8_readEnds 19 = .ok (.ifCond .ne 5, 3) by decide +kernel) (by decide),
  List.forall_mem_cons.mpr ⟨qz_iconst C (show decode c_X8_readEnds 22 = .ok (.iconst 1, 1) by decide +kernel) (by decide +kernel),
  List.forall_mem_cons.mpr ⟨qz_iret C (show decode c_X8_readEnds 23 = .ok (.ireturn, 1) by decide +kernel) rfl,
  List.forall_mem_cons.mpr ⟨qz_aload_n C (show decode c_X8_readEnds 24 = .ok (.aload_n 0, 1) by decide +kernel) rfl,
  List.forall_mem_cons.mpr ⟨qz_aload_n C (show decode c_X8_readEnds 25 = .ok (.aload_n 1, 1) by decide +kernel) rfl,
  List.forall_mem_cons.mpr ⟨qz_vI C (show decode c_X8_readEnds 26 = .ok (.invokevirtual 61, 3) by decide +kernel) ct_X8_readNumber mv_X8_readNumber cw_480 vcX8 (show 2 < 4 by omega),
  List.forall_mem_cons.mpr ⟨qz_istore C (show decode c_X8_readEnds 29 = .ok (.istore 4, 2) by decide +kernel),
  List.forall_mem_cons.mpr ⟨qz_iload C (show decode c_X8_readEnds 31 = .ok (.iload 4, 2) by decide +kernel),
  List.forall_mem_cons.mpr ⟨qz_ifge C (show decode c_X8_readEnds 33 = .ok (.ifCond .ge 7, 3) by decide +kernel) (by decide),
  List.forall_mem_cons.mpr ⟨qz_iload C (show decode c_X8_readEnds 36 = .ok (.iload 4, 2) by decide +kernel),
  List.forall_mem_cons.mpr ⟨qz_ineg C (show decode c_X8_readEnds 38 = .ok (.ineg, 1) by decide +kernel),
  List.forall_mem_cons.mpr ⟨qz_iret C (show decode c_X8_readEnds 39 = .ok (.ireturn, 1) by decide +kernel) rfl,
  List.forall_mem_cons.mpr ⟨qz_aload_n C (show decode c_X8_readEnds 40 = .ok (.aload_n 0, 1) by decide +kernel) rfl,
  List.forall_mem_cons.mpr ⟨qz_bipush C (show decode c_X8_readEnds 41 = .ok (.bipush 59, 2) by decide +kernel) (by decide +kernel),
  List.forall_mem_cons.mpr ⟨qz_vI C (show decode c_X8_readEnds 43 = .ok (.invokevirtual 46, 3) by decide +kernel) ct_X8_passes mv_X8_passes cw_461 vcX8 (show 2 < 4 by omega),
  List.forall_mem_cons.mpr ⟨qz_ifne C (show decode c_X8_readEnds 46 = .ok (.ifCond .ne 5, 3) by decide +kernel) (by decide),
  List.forall_mem_cons.mpr ⟨qz_iconst C (show decode c_X8_readEnds 49 = .ok (.iconst 1, 1) by decide +kernel) (by decide +kernel),
  List.forall_mem_cons.mpr ⟨qz_iret C (show decode c_X8_readEnds 50 = .ok (.ireturn, 1) by decide +kernel) rfl,
  List.forall_mem_cons.mpr ⟨qz_aload_n C (show decode c_X8_readEnds 51 = .ok (.aload_n 1, 1) by decide +kernel) rfl,
  List.forall_mem_cons.mpr ⟨qz_iload_n C (show decode c_X8_readEnds 52 = .ok (.iload_n 2, 1) by decide +kernel) rfl,
  List.forall_mem_cons.mpr ⟨qz_iload_n C (show decode c_X8_readEnds 53 = .ok (.iload_n 3, 1) by decide +kernel) rfl,
  List.forall_mem_cons.mpr ⟨qz_iload C (show decode c_X8_readEnds 54 = .ok (.iload 4, 2) by decide +kernel),
  List.forall_mem_cons.mpr ⟨qz_vV C (show decode c_X8_readEnds 56 = .ok (.invokevirtual 64, 3) by decide +kernel) ct_X4_addArc mv_X4_addArc cw_492 vcX4 (show 3 < 4 by omega),
  List.forall_mem_cons.mpr ⟨qz_iconst C (show decode c_X8_readEnds 59 = .ok (.iconst 0, 1) by decide +kernel) (by decide +kernel),
  List.forall_mem_cons.mpr ⟨qz_iret C (show decode c_X8_readEnds 60 = .ok (.ireturn, 1) by decide +kernel) rfl,
  (fun q h => by cases h)⟩⟩⟩⟩⟩⟩⟩⟩⟩⟩⟩⟩⟩⟩⟩⟩⟩⟩⟩⟩⟩⟩⟩⟩⟩⟩⟩⟩⟩⟩⟩⟩⟩⟩⟩⟩⟩
theorem sd_X8_readEnds {G : pj_E} {A : Nat → Prop} {P : pj_P} {S : pj_U} {Z : pj_Z} (C : pj_C (G, A, (c_X8_readEnds, y_X8_readEnds.cls, 5, (some .int), 4), P, S, Z)) : ∀ q ∈ tb_X8_readEnds, pj_S (G, A, (c_X8_readEnds, y_X8_readEnds.cls, 5, (some .int), 4), P, S, Z) pj_eI q.1 q.2 := sd_X8_readEnds_0 C
set_option maxRecDepth 20000 in
theorem eq_X8_readEnds (a1 : Nat) (x2 : Int32) (m : pj_M) : pj_run tb_X8_readEnds [] 39 0 [some (.inr (.inr (0, 8, 5))), some (.inr (.inr (0, 4, a1))), some (.inl x2), none, none] [] m = F_X8_readEnds a1 x2 m := by rfl
theorem ct_X8_readEnds : pj_Ct pj_eI y_X8_readEnds c_X8_readEnds 5 (some .int) 4 W_X8_readEnds := by
  refine pj_ct_of (by decide +kernel) ?_ ?_
  · intro as m r h
    unfold W_X8_readEnds at h
    split at h
    · simp [pj_l0]
    · cases h
  · intro G A P S Z C as m r h hR
    unfold W_X8_readEnds at h
    split at h
    · split at h
      · rename_i hbq
        simp only [Bool.and_eq_true, Nat.beq_eq] at hbq
        obtain ⟨rfl, rfl, rfl, rfl, rfl⟩ := hbq
        exact pj_run_ok (sd_X8_readEnds C) (fun q h => by cases h) 39 0 _ _ _ _ ((eq_X8_readEnds _ _ _).trans h) hR
      · cases h
    · cases h
/-! AlikeSteps$Tape.readArcs(LAlikeSteps$Net;)I -/
abbrev c_X8_readArcs : ByteArray := prog_10_method_9_code
def y_X8_readArcs : MethodName := ⟨RX8, "readArcs", "(LAlikeSteps$Net;)I"⟩
noncomputable def H_X8_readArcs_2 : Nat → Nat → Int32 → pj_M → Option (Int32 × pj_M)
  | 0, _, _, _ => none
  | n1 + 1, a1, x2, m => (if (20 : Int32) < x2 then (some (0, m)) else (if (m.1 5 2) < (m.1 5 1) then ((F_X8_next m).bind fun q1 => ((F_X8_letterOf q1.1 q1.2).bind fun q2 => (if q2.1 < 0 then (some (1, q2.2)) else (if x2 = 20 then (some (3, q2.2)) else ((F_X8_readEnds a1 q2.1 (pj_wr q2.2 5 2 ((q2.2.1 5 2) + 1))).bind fun q3 => (if q3.1 = 0 then (H_X8_readArcs_2 n1 a1 (x2 + 1) q3.2) else (some (q3.1, q3.2)))))))) else (some (0, m))))
noncomputable def F_X8_readArcs (a1 : Nat) (m : pj_M) : Option (Int32 × pj_M) := (H_X8_readArcs_2 pj_z a1 0 m)
noncomputable def W_X8_readArcs : List pj_V → pj_M → Option (Int32 × pj_M) := fun as m => match as with
  | [.inr (.inr (t0, w0, a0)), .inr (.inr (t1, w1, a1))] => (match Nat.beq t0 0 && (Nat.beq w0 8 && (Nat.beq a0 5 && (Nat.beq t1 0 && (Nat.beq w1 4)))) with
    | true => F_X8_readArcs a1 m
    | false => none)
  | _ => none
noncomputable def tb_X8_readArcs_0 : List (Nat × pj_T (Int32 × pj_M)) := [(0, qs_ci 0 1), (1, qs_sti 2 2), (2, qs_ldi 2 3), (3, qs_ci 20 5), (5, qs_icgt 73 8), (8, qs_lda 0 9), (9, qs_gf 8 2 12), (12, qs_lda 0 13), (13, qs_gf 8 1 16), (16, qs_icge 73 19), (19, qs_lda 0 20), (20, qs_vI 8 1 W_X8_next 23), (23, qs_sI 1 W_X8_letterOf 26), (26, qs_sti 3 27), (27, qs_ldi 3 28), (28, qs_ifge 33 31), (31, qs_ci 1 32), (32, qs_iret), (33, qs_ldi 2 34), (34, qs_ci 20 36), (36, qs_icne 41 39), (39, qs_ci 3 40), (40, qs_iret), (41, qs_lda 0 42), (42, qs_dup 43), (43, qs_gf 8 2 46), (46, qs_ci 1 47), (47, qs_b2 (fun x y => x + y) 48), (48, qs_pf 8 2 51), (51, qs_lda 0 52), (52, qs_lda 1 53), (53, qs_ldi 3 54), (54, qs_vI 8 3 W_X8_readEnds 57), (57, qs_sti 4 59), (59, qs_ldi 4 61), (61, qs_ifeq 67 64), (64, qs_ldi 4 66), (66, qs_iret), (67, qs_inc 2 1 70), (70, qs_go 2)]
noncomputable def tb_X8_readArcs_1 : List (Nat × pj_T (Int32 × pj_M)) := [(73, qs_ci 0 74), (74, qs_iret)]
noncomputable def tb_X8_readArcs : List (Nat × pj_T (Int32 × pj_M)) := tb_X8_readArcs_0 ++ (tb_X8_readArcs_1)
theorem mv_X8_readArcs : pj_mv y_X8_readArcs c_X8_readArcs 5 (some .int) 1 := ⟨⟨cw_472, cw_471, cw_5, cw_83⟩, by decide +kernel, by decide⟩
set_option maxRecDepth 20000 in
theorem sd_X8_readArcs_0 {G : pj_E} {A : Nat → Prop} {P : pj_P} {S : pj_U} {Z : pj_Z} (C : pj_C (G, A, (c_X8_readArcs, y_X8_readArcs.cls, 5, (some .int), 5), P, S, Z)) : ∀ q ∈ tb_X8_readArcs_0, pj_S (G, A, (c_X8_readArcs, y_X8_readArcs.cls, 5, (some .int), 5), P, S, Z) pj_eI q.1 q.2 :=
  List.forall_mem_cons.mpr ⟨qz_iconst C (show decode c_X8_readArcs 0 = .ok (.iconst 0, 1) by decide +kernel) (by decide +kernel),
  List.forall_mem_cons.mpr ⟨qz_istore_n C (show decode c_X8_readArcs 1 = .ok (.istore_n 2, 1) by decide +kernel) rfl,
  List.forall_mem_cons.mpr ⟨qz_iload_n C (show decode c_X8_readArcs 2 = .ok (.iload_n 2, 1) by decide +kernel) rfl,
  List.forall_mem_cons.mpr ⟨qz_bipush C (show decode c_X8_readArcs 3 = .ok (.bipush 20, 2) by decide +kernel) (by decide +kernel),
  List.forall_mem_cons.mpr ⟨qz_icgt C (show decode c_X8_readArcs 5 = .ok (.if_icmp .gt 68, 3) by decide +kernel) (by decide),
  List.forall_mem_cons.mpr ⟨qz_aload_n C (show decode c_X8_readArcs 8 = .ok (.aload_n 0, 1) by decide +kernel) rfl,
  List.forall_mem_cons.mpr ⟨qz_gf (k := 2) C (show decode c_X8_readArcs 9 = .ok (.getfield 19, 3) by decide +kernel) vcX8 wiX8 (by decide) cw_129,
  List.forall_mem_cons.mpr ⟨qz_aload_n C (show decode c_X8_readArcs 12 = .ok (.aload_n 0, 1) by decide +kernel) rfl,
  List.forall_mem_cons.mpr ⟨qz_gf (k := 1) C (show decode c_X8_readArcs 13 = .ok (.getfield 15, 3) by decide +kernel) vcX8 wiX8 (by decide) cw_128,
  List.forall_mem_cons.mpr ⟨qz_icge C (show decode c_X8_readArcs 16 = .ok (.if_icmp .ge 57, 3) by decide +kernel) (by decide),
  List.forall_mem_cons.mpr ⟨qz_aload_n C (show decode c_X8_readArcs 19 = .ok (.aload_n 0, 1) by decide +kernel) rfl,
  List.forall_mem_cons.mpr ⟨qz_vI C (show decode c_X8_readArcs 20 = .ok (.invokevirtual 38, 3) by decide +kernel) ct_X8_next mv_X8_next cw_454 vcX8 (show 1 < 5 by omega),
  List.forall_mem_cons.mpr ⟨qz_sI C (show decode c_X8_readArcs 23 = .ok (.invokestatic 54, 3) by decide +kernel) ct_X8_letterOf mv_X8_letterOf (Or.inl cw_473) (show 1 < 5 by omega),
  List.forall_mem_cons.mpr ⟨qz_istore_n C (show decode c_X8_readArcs 26 = .ok (.istore_n 3, 1) by decide +kernel) rfl,
  List.forall_mem_cons.mpr ⟨qz_iload_n C (show decode c_X8_readArcs 27 = .ok (.iload_n 3, 1) by decide +kernel) rfl,
  List.forall_mem_cons.mpr ⟨qz_ifge C (show decode c_X8_readArcs 28 = .ok (.ifCond .ge 5, 3) by decide +kernel) (by decide),
  List.forall_mem_cons.mpr ⟨qz_iconst C (show decode c_X8_readArcs 31 = .ok (.iconst 1, 1) by decide +kernel) (by decide +kernel),
  List.forall_mem_cons.mpr ⟨qz_iret C (show decode c_X8_readArcs 32 = .ok (.ireturn, 1) by decide +kernel) rfl,
  List.forall_mem_cons.mpr ⟨qz_iload_n C (show decode c_X8_readArcs 33 = .ok (.iload_n 2, 1) by decide +kernel) rfl,
  List.forall_mem_cons.mpr ⟨qz_bipush C (show decode c_X8_readArcs 34 = .ok (.bipush 20, 2) by decide +kernel) (by decide +kernel),
  List.forall_mem_cons.mpr ⟨qz_icne C (show decode c_X8_readArcs 36 = .ok (.if_icmp .ne 5, 3) by decide +kernel) (by decide),
  List.forall_mem_cons.mpr ⟨qz_iconst C (show decode c_X8_readArcs 39 = .ok (.iconst 3, 1) by decide +kernel) (by decide +kernel),
  List.forall_mem_cons.mpr ⟨qz_iret C (show decode c_X8_readArcs 40 = .ok (.ireturn, 1) by decide +kernel) rfl,
  List.forall_mem_cons.mpr ⟨qz_aload_n C (show decode c_X8_readArcs 41 = .ok (.aload_n 0, 1) by decide +kernel) rfl,
  List.forall_mem_cons.mpr ⟨qz_dup C (show decode c_X8_readArcs 42 = .ok (.dup, 1) by decide +kernel),
  List.forall_mem_cons.mpr ⟨qz_gf (k := 2) C (show decode c_X8_readArcs 43 = .ok (.getfield 19, 3) by decide +kernel) vcX8 wiX8 (by decide) cw_129,
  List.forall_mem_cons.mpr ⟨qz_iconst C (show decode c_X8_readArcs 46 = .ok (.iconst 1, 1) by decide +kernel) (by decide +kernel),
  List.forall_mem_cons.mpr ⟨qz_iadd C (show decode c_X8_readArcs 47 = .ok (.iadd, 1) by decide +kernel),
  List.forall_mem_cons.mpr ⟨qz_pf (k := 2) C (show decode c_X8_readArcs 48 = .ok (.putfield 19, 3) by decide +kernel) vcX8 wiX8 tyX8_ok nmX8 (by decide) cw_129 rfl rfl,
  List.forall_mem_cons.mpr ⟨qz_aload_n C (show decode c_X8_readArcs 51 = .ok (.aload_n 0, 1) by decide +kernel) rfl,
  List.forall_mem_cons.mpr ⟨qz_aload_n C (show decode c_X8_readArcs 52 = .ok (.aload_n 1, 1) by decide +kernel) rfl,
  List.forall_mem_cons.mpr ⟨qz_iload_n C (show decode c_X8_readArcs 53 = .ok (.iload_n 3, 1) by decide +kernel) rfl,
  List.forall_mem_cons.mpr ⟨qz_vI C (show decode c_X8_readArcs 54 = .ok (.invokevirtual 57, 3) by decide +kernel) ct_X8_readEnds mv_X8_readEnds cw_476 vcX8 (show 4 < 5 by omega),
  List.forall_mem_cons.mpr ⟨qz_istore C (show decode c_X8_readArcs 57 = .ok (.istore 4, 2) by decide +kernel),
  List.forall_mem_cons.mpr ⟨qz_iload C (show decode c_X8_readArcs 59 = .ok (.iload 4, 2) by decide +kernel),
  List.forall_mem_cons.mpr ⟨qz_ifeq C (show decode c_X8_readArcs 61 = .ok (.ifCond .eq 6, 3) by decide +kernel) (by decide),
  List.forall_mem_cons.mpr ⟨qz_iload C (show decode c_X8_readArcs 64 = .ok (.iload 4, 2) by decide +kernel),
  List.forall_mem_cons.mpr ⟨qz_iret C (show decode c_X8_readArcs 66 = .ok (.ireturn, 1) by decide +kernel) rfl,
  List.forall_mem_cons.mpr ⟨qz_iinc C (show decode c_X8_readArcs 67 = .ok (.iinc 2 1, 3) by decide +kernel) (by decide +kernel),
  List.forall_mem_cons.mpr ⟨qz_goto C (show decode c_X8_readArcs 70 = .ok (.goto (-68), 3) by decide +kernel) (by decide),
  (fun q h => by cases h)⟩⟩⟩⟩⟩⟩⟩⟩⟩⟩⟩⟩⟩⟩⟩⟩⟩⟩⟩⟩⟩⟩⟩⟩⟩⟩⟩⟩⟩⟩⟩⟩⟩⟩⟩⟩⟩⟩⟩⟩
set_option maxRecDepth 20000 in
theorem sd_X8_readArcs_1 {G : pj_E} {A : Nat → Prop} {P : pj_P} {S : pj_U} {Z : pj_Z} (C : pj_C (G, A, (c_X8_readArcs, y_X8_readArcs.cls, 5, (some .int), 5), P, S, Z)) : ∀ q ∈ tb_X8_readArcs_1, pj_S (G, A, (c_X8_readArcs, y_X8_readArcs.cls, 5, (some .int), 5), P, S, Z) pj_eI q.1 q.2 :=
  List.forall_mem_cons.mpr ⟨qz_iconst C (show decode c_X8_readArcs 73 = .ok (.iconst 0, 1) by decide +kernel) (by decide +kernel),
  List.forall_mem_cons.mpr ⟨qz_iret C (show decode c_X8_readArcs 74 = .ok (.ireturn, 1) by decide +kernel) rfl,
  (fun q h => by cases h)⟩⟩
theorem sd_X8_readArcs {G : pj_E} {A : Nat → Prop} {P : pj_P} {S : pj_U} {Z : pj_Z} (C : pj_C (G, A, (c_X8_readArcs, y_X8_readArcs.cls, 5, (some .int), 5), P, S, Z)) : ∀ q ∈ tb_X8_readArcs, pj_S (G, A, (c_X8_readArcs, y_X8_readArcs.cls, 5, (some .int), 5), P, S, Z) pj_eI q.1 q.2 := List.forall_mem_append.mpr ⟨sd_X8_readArcs_0 C, sd_X8_readArcs_1 C⟩
noncomputable def C_X8_readArcs_2 (f : Nat → Int32 → pj_M → Option (Int32 × pj_M)) : pj_N (Int32 × pj_M) := fun L st m => match L, st with
  | [some (.inr (.inr (t0, w0, a0))), some (.inr (.inr (t1, w1, a1))), some (.inl x2), _, _], [] => (match Nat.beq t0 0 && (Nat.beq w0 8 && (Nat.beq a0 5 && (Nat.beq t1 0 && (Nat.beq w1 4)))) with
    | true => f a1 x2 m
    | false => none)
  | _, _ => none
set_option maxRecDepth 20000 in
theorem eq_X8_readArcs_2 (n1 : Nat) (a1 : Nat) (x2 : Int32) (d3 d4 : Option pj_V) (m : pj_M) : pj_run tb_X8_readArcs [(2, C_X8_readArcs_2 (H_X8_readArcs_2 n1))] 44 2 [some (.inr (.inr (0, 8, 5))), some (.inr (.inr (0, 4, a1))), some (.inl x2), d3, d4] [] m = H_X8_readArcs_2 (n1 + 1) a1 x2 m := by rfl
theorem sg_X8_readArcs_2 {G : pj_E} {A : Nat → Prop} {P : pj_P} {S : pj_U} {Z : pj_Z} (C : pj_C (G, A, (c_X8_readArcs, y_X8_readArcs.cls, 5, (some .int), 5), P, S, Z)) : ∀ n1, pj_G (G, A, (c_X8_readArcs, y_X8_readArcs.cls, 5, (some .int), 5), P, S, Z) pj_eI 2 (C_X8_readArcs_2 (H_X8_readArcs_2 n1)) := by
  intro n1
  induction n1 with
  | zero =>
    intro L st m r h hR
    unfold C_X8_readArcs_2 at h
    split at h
    · split at h
      · cases h
      · cases h
    · cases h
  | succ n1 ih1 =>
    intro L st m r h hR
    unfold C_X8_readArcs_2 at h
    split at h
    · split at h
      · rename_i hbq
        simp only [Bool.and_eq_true, Nat.beq_eq] at hbq
        obtain ⟨rfl, rfl, rfl, rfl, rfl⟩ := hbq
        exact pj_run_ok (sd_X8_readArcs C) (List.forall_mem_cons.mpr ⟨ih1, fun q h => by cases h⟩) 44 2 _ _ _ _ ((eq_X8_readArcs_2 _ _ _ _ _ _).trans h) hR
      · cases h
    · cases h
set_option maxRecDepth 20000 in
theorem eq_X8_readArcs (a1 : Nat) (m : pj_M) : pj_run tb_X8_readArcs [(2, C_X8_readArcs_2 (H_X8_readArcs_2  pj_z))] 44 0 [some (.inr (.inr (0, 8, 5))), some (.inr (.inr (0, 4, a1))), none, none, none] [] m = F_X8_readArcs a1 m := by rfl
theorem ct_X8_readArcs : pj_Ct pj_eI y_X8_readArcs c_X8_readArcs 5 (some .int) 5 W_X8_readArcs := by
  refine pj_ct_of (by decide +kernel) ?_ ?_
  · intro as m r h
    unfold W_X8_readArcs at h
    split at h
    · simp [pj_l0]
    · cases h
  · intro G A P S Z C as m r h hR
    unfold W_X8_readArcs at h
    split at h
    · split at h
      · rename_i hbq
        simp only [Bool.and_eq_true, Nat.beq_eq] at hbq
        obtain ⟨rfl, rfl, rfl, rfl, rfl⟩ := hbq
        exact pj_run_ok (sd_X8_readArcs C) (List.forall_mem_cons.mpr ⟨sg_X8_readArcs_2 C  pj_z, fun q h => by cases h⟩) 44 0 _ _ _ _ ((eq_X8_readArcs _ _).trans h) hR
      · cases h
    · cases h
/-! AlikeSteps$Tape.read(LAlikeSteps$Net;)I -/
abbrev c_X8_read : ByteArray := prog_10_method_7_code
def y_X8_read : MethodName := ⟨RX8, "read", "(LAlikeSteps$Net;)I"⟩
noncomputable def F_X8_read (a1 : Nat) (m : pj_M) : Option (Int32 × pj_M) := ((F_X4_clear a1 (pj_wr m 5 2 0)).bind fun q1 => ((F_X8_readStates a1 q1).bind fun q2 => (if q2.1 = 0 then ((F_X8_readArcs a1 q2.2).bind fun q3 => (some (q3.1, q3.2))) else (some (q2.1, q2.2)))))
noncomputable def W_X8_read : List pj_V → pj_M → Option (Int32 × pj_M) := fun as m => match as with
  | [.inr (.inr (t0, w0, a0)), .inr (.inr (t1, w1, a1))] => (match Nat.beq t0 0 && (Nat.beq w0 8 && (Nat.beq a0 5 && (Nat.beq t1 0 && (Nat.beq w1 4)))) with
    | true => F_X8_read a1 m
    | false => none)
  | _ => none
noncomputable def tb_X8_read_0 : List (Nat × pj_T (Int32 × pj_M)) := [(0, qs_lda 0 1), (1, qs_ci 0 2), (2, qs_pf 8 2 5), (5, qs_lda 1 6), (6, qs_vV 4 1 W_X4_clear 9), (9, qs_lda 0 10), (10, qs_lda 1 11), (11, qs_vI 8 2 W_X8_readStates 14), (14, qs_sti 2 15), (15, qs_ldi 2 16), (16, qs_ifeq 23 19), (19, qs_ldi 2 20), (20, qs_go 28), (23, qs_lda 0 24), (24, qs_lda 1 25), (25, qs_vI 8 2 W_X8_readArcs 28), (28, qs_iret)]
noncomputable abbrev tb_X8_read : List (Nat × pj_T (Int32 × pj_M)) := tb_X8_read_0
theorem mv_X8_read : pj_mv y_X8_read c_X8_read 3 (some .int) 1 := ⟨⟨cw_445, cw_443, cw_444, cw_83⟩, by decide +kernel, by decide⟩
set_option maxRecDepth 20000 in
theorem sd_X8_read_0 {G : pj_E} {A : Nat → Prop} {P : pj_P} {S : pj_U} {Z : pj_Z} (C : pj_C (G, A, (c_X8_read, y_X8_read.cls, 3, (some .int), 6), P, S, Z)) : ∀ q ∈ tb_X8_read_0, pj_S (G, A, (c_X8_read, y_X8_read.cls, 3, (some .int), 6), P, S, Z) pj_eI q.1 q.2 :=
  List.forall_mem_cons.mpr ⟨qz_aload_n C (show decode c_X8_read 0 = .ok (.aload_n 0, 1) by decide +kernel) rfl,
  List.forall_mem_cons.mpr ⟨qz_iconst C (show decode c_X8_read 1 = .ok (.iconst 0, 1) by decide +kernel) (by decide +kernel),
  List.forall_mem_cons.mpr ⟨qz_pf (k := 2) C (show decode c_X8_read 2 = .ok (.putfield 19, 3) by decide +kernel) vcX8 wiX8 tyX8_ok nmX8 (by decide) cw_129 rfl rfl,
  List.forall_mem_cons.mpr ⟨qz_aload_n C (show decode c_X8_read 5 = .ok (.aload_n 1, 1) by decide +kernel) rfl,
  List.forall_mem_cons.mpr ⟨qz_vV C (show decode c_X8_read 6 = .ok (.invokevirtual 26, 3) by decide +kernel) ct_X4_clear mv_X4_clear cw_446 vcX4 (show 1 < 6 by omega),
  List.forall_mem_cons.mpr ⟨qz_aload_n C (show decode c_X8_read 9 = .ok (.aload_n 0, 1) by decide +kernel) rfl,
  List.forall_mem_cons.mpr ⟨qz_aload_n C (show decode c_X8_read 10 = .ok (.aload_n 1, 1) by decide +kernel) rfl,
  List.forall_mem_cons.mpr ⟨qz_vI C (show decode c_X8_read 11 = .ok (.invokevirtual 31, 3) by decide +kernel) ct_X8_readStates mv_X8_readStates cw_450 vcX8 (show 3 < 6 by omega),
  List.forall_mem_cons.mpr ⟨qz_istore_n C (show decode c_X8_read 14 = .ok (.istore_n 2, 1) by decide +kernel) rfl,
  List.forall_mem_cons.mpr ⟨qz_iload_n C (show decode c_X8_read 15 = .ok (.iload_n 2, 1) by decide +kernel) rfl,
  List.forall_mem_cons.mpr ⟨qz_ifeq C (show decode c_X8_read 16 = .ok (.ifCond .eq 7, 3) by decide +kernel) (by decide),
  List.forall_mem_cons.mpr ⟨qz_iload_n C (show decode c_X8_read 19 = .ok (.iload_n 2, 1) by decide +kernel) rfl,
  List.forall_mem_cons.mpr ⟨qz_goto C (show decode c_X8_read 20 = .ok (.goto 8, 3) by decide +kernel) (by decide),
  List.forall_mem_cons.mpr ⟨qz_aload_n C (show decode c_X8_read 23 = .ok (.aload_n 0, 1) by decide +kernel) rfl,
  List.forall_mem_cons.mpr ⟨qz_aload_n C (show decode c_X8_read 24 = .ok (.aload_n 1, 1) by decide +kernel) rfl,
  List.forall_mem_cons.mpr ⟨qz_vI C (show decode c_X8_read 25 = .ok (.invokevirtual 35, 3) by decide +kernel) ct_X8_readArcs mv_X8_readArcs cw_469 vcX8 (show 5 < 6 by omega),
  List.forall_mem_cons.mpr ⟨qz_iret C (show decode c_X8_read 28 = .ok (.ireturn, 1) by decide +kernel) rfl,
  (fun q h => by cases h)⟩⟩⟩⟩⟩⟩⟩⟩⟩⟩⟩⟩⟩⟩⟩⟩⟩
theorem sd_X8_read {G : pj_E} {A : Nat → Prop} {P : pj_P} {S : pj_U} {Z : pj_Z} (C : pj_C (G, A, (c_X8_read, y_X8_read.cls, 3, (some .int), 6), P, S, Z)) : ∀ q ∈ tb_X8_read, pj_S (G, A, (c_X8_read, y_X8_read.cls, 3, (some .int), 6), P, S, Z) pj_eI q.1 q.2 := sd_X8_read_0 C
set_option maxRecDepth 20000 in
theorem eq_X8_read (a1 : Nat) (m : pj_M) : pj_run tb_X8_read [] 19 0 [some (.inr (.inr (0, 8, 5))), some (.inr (.inr (0, 4, a1))), none] [] m = F_X8_read a1 m := by rfl
theorem ct_X8_read : pj_Ct pj_eI y_X8_read c_X8_read 3 (some .int) 6 W_X8_read := by
  refine pj_ct_of (by decide +kernel) ?_ ?_
  · intro as m r h
    unfold W_X8_read at h
    split at h
    · simp [pj_l0]
    · cases h
  · intro G A P S Z C as m r h hR
    unfold W_X8_read at h
    split at h
    · split at h
      · rename_i hbq
        simp only [Bool.and_eq_true, Nat.beq_eq] at hbq
        obtain ⟨rfl, rfl, rfl, rfl, rfl⟩ := hbq
        exact pj_run_ok (sd_X8_read C) (fun q h => by cases h) 19 0 _ _ _ _ ((eq_X8_read _ _).trans h) hR
      · cases h
    · cases h
