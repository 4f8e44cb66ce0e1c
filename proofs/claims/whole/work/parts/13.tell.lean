/-! AlikeSteps$Asker.begin(IIII)V -/
abbrev c_X2_begin : ByteArray := prog_4_method_2_code
def y_X2_begin : MethodName := ⟨RX2, "begin", "(IIII)V"⟩
noncomputable def F_X2_begin (x1 : Int32) (x2 : Int32) (x3 : Int32) (x4 : Int32) (m : pj_M) : Option (pj_M) := (some (pj_wr (pj_wr (pj_wr (pj_wr (pj_wr m 56 2 x1) 56 3 x2) 56 4 x3) 56 5 x4) 56 1 0))
noncomputable def W_X2_begin : List pj_V → pj_M → Option (pj_M) := fun as m => match as with
  | [.inr (.inr (t0, w0, a0)), .inl x1, .inl x2, .inl x3, .inl x4] => (match Nat.beq t0 0 && (Nat.beq w0 2 && (Nat.beq a0 56)) with
    | true => F_X2_begin x1 x2 x3 x4 m
    | false => none)
  | _ => none
noncomputable def tb_X2_begin_0 : List (Nat × pj_T (pj_M)) := [(0, qs_lda 0 1), (1, qs_ldi 1 2), (2, qs_pf 2 2 5), (5, qs_lda 0 6), (6, qs_ldi 2 7), (7, qs_pf 2 3 10), (10, qs_lda 0 11), (11, qs_ldi 3 12), (12, qs_pf 2 4 15), (15, qs_lda 0 16), (16, qs_ldi 4 18), (18, qs_pf 2 5 21), (21, qs_lda 0 22), (22, qs_ci 0 23), (23, qs_pf 2 1 26), (26, qs_vret)]
noncomputable abbrev tb_X2_begin : List (Nat × pj_T (pj_M)) := tb_X2_begin_0
theorem mv_X2_begin : pj_mv y_X2_begin c_X2_begin 5 none 4 := ⟨⟨cw_964, cw_962, cw_963, cw_90⟩, by decide +kernel, by decide⟩
set_option maxRecDepth 20000 in
theorem sd_X2_begin_0 {G : pj_E} {A : Nat → Prop} {P : pj_P} {S : pj_U} {Z : pj_Z} (C : pj_C (G, A, (c_X2_begin, y_X2_begin.cls, 5, none, 1), P, S, Z)) : ∀ q ∈ tb_X2_begin_0, pj_S (G, A, (c_X2_begin, y_X2_begin.cls, 5, none, 1), P, S, Z) pj_eV q.1 q.2 :=
  List.forall_mem_cons.mpr ⟨qz_aload_n C (show decode c_X2_begin 0 = .ok (.aload_n 0, 1) by decide +kernel) rfl,
  List.forall_mem_cons.mpr ⟨qz_iload_n C (show decode c_X2_begin 1 = .ok (.iload_n 1, 1) by decide +kernel) rfl,
  List.forall_mem_cons.mpr ⟨qz_pf (k := 2) C (show decode c_X2_begin 2 = .ok (.putfield 19, 3) by decide +kernel) vcX2 wiX2 tyX2_ok nmX2 (by decide) cw_273 rfl rfl,
  List.forall_mem_cons.mpr ⟨qz_aload_n C (show decode c_X2_begin 5 = .ok (.aload_n 0, 1) by decide +kernel) rfl,
  List.forall_mem_cons.mpr ⟨qz_iload_n C (show decode c_X2_begin 6 = .ok (.iload_n 2, 1) by decide +kernel) rfl,
  List.forall_mem_cons.mpr ⟨qz_pf (k := 3) C (show decode c_X2_begin 7 = .ok (.putfield 22, 3) by decide +kernel) vcX2 wiX2 tyX2_ok nmX2 (by decide) cw_274 rfl rfl,
  List.forall_mem_cons.mpr ⟨qz_aload_n C (show decode c_X2_begin 10 = .ok (.aload_n 0, 1) by decide +kernel) rfl,
  List.forall_mem_cons.mpr ⟨qz_iload_n C (show decode c_X2_begin 11 = .ok (.iload_n 3, 1) by decide +kernel) rfl,
  List.forall_mem_cons.mpr ⟨qz_pf (k := 4) C (show decode c_X2_begin 12 = .ok (.putfield 25, 3) by decide +kernel) vcX2 wiX2 tyX2_ok nmX2 (by decide) cw_275 rfl rfl,
  List.forall_mem_cons.mpr ⟨qz_aload_n C (show decode c_X2_begin 15 = .ok (.aload_n 0, 1) by decide +kernel) rfl,
  List.forall_mem_cons.mpr ⟨qz_iload C (show decode c_X2_begin 16 = .ok (.iload 4, 2) by decide +kernel),
  List.forall_mem_cons.mpr ⟨qz_pf (k := 5) C (show decode c_X2_begin 18 = .ok (.putfield 28, 3) by decide +kernel) vcX2 wiX2 tyX2_ok nmX2 (by decide) cw_276 rfl rfl,
  List.forall_mem_cons.mpr ⟨qz_aload_n C (show decode c_X2_begin 21 = .ok (.aload_n 0, 1) by decide +kernel) rfl,
  List.forall_mem_cons.mpr ⟨qz_iconst C (show decode c_X2_begin 22 = .ok (.iconst 0, 1) by decide +kernel) (by decide +kernel),
  List.forall_mem_cons.mpr ⟨qz_pf (k := 1) C (show decode c_X2_begin 23 = .ok (.putfield 15, 3) by decide +kernel) vcX2 wiX2 tyX2_ok nmX2 (by decide) cw_272 rfl rfl,
  List.forall_mem_cons.mpr ⟨qz_vret C (show decode c_X2_begin 26 = .ok (.return_, 1) by decide +kernel) rfl,
  (fun q h => by cases h)⟩⟩⟩⟩⟩⟩⟩⟩⟩⟩⟩⟩⟩⟩⟩⟩
theorem sd_X2_begin {G : pj_E} {A : Nat → Prop} {P : pj_P} {S : pj_U} {Z : pj_Z} (C : pj_C (G, A, (c_X2_begin, y_X2_begin.cls, 5, none, 1), P, S, Z)) : ∀ q ∈ tb_X2_begin, pj_S (G, A, (c_X2_begin, y_X2_begin.cls, 5, none, 1), P, S, Z) pj_eV q.1 q.2 := sd_X2_begin_0 C
set_option maxRecDepth 20000 in
theorem eq_X2_begin (x1 : Int32) (x2 : Int32) (x3 : Int32) (x4 : Int32) (m : pj_M) : pj_run tb_X2_begin [] 18 0 [some (.inr (.inr (0, 2, 56))), some (.inl x1), some (.inl x2), some (.inl x3), some (.inl x4)] [] m = F_X2_begin x1 x2 x3 x4 m := by rfl
theorem ct_X2_begin : pj_Ct pj_eV y_X2_begin c_X2_begin 5 none 1 W_X2_begin := by
  refine pj_ct_of (by decide +kernel) ?_ ?_
  · intro as m r h
    unfold W_X2_begin at h
    split at h
    · simp [pj_l0]
    · cases h
  · intro G A P S Z C as m r h hR
    unfold W_X2_begin at h
    split at h
    · split at h
      · rename_i hbq
        simp only [Bool.and_eq_true, Nat.beq_eq] at hbq
        obtain ⟨rfl, rfl, rfl⟩ := hbq
        exact pj_run_ok (sd_X2_begin C) (fun q h => by cases h) 18 0 _ _ _ _ ((eq_X2_begin _ _ _ _ _).trans h) hR
      · cases h
    · cases h
/-! AlikeSteps$Asker.sizeBody()I -/
abbrev c_X2_sizeBody : ByteArray := prog_4_method_5_code
def y_X2_sizeBody : MethodName := ⟨RX2, "sizeBody", "()I"⟩
noncomputable def F_X2_sizeBody (m : pj_M) : Option (Int32 × pj_M) := (if (m.1 56 3) = 1 then (some (11, m)) else (if (m.1 56 3) = 2 then (some (12, m)) else (if (m.1 56 3) = 3 then (some (11, m)) else (if (m.1 56 3) = 4 then (some (13, m)) else (if (m.1 56 3) = 5 then (some (14, m)) else (some (10, m)))))))
noncomputable def W_X2_sizeBody : List pj_V → pj_M → Option (Int32 × pj_M) := fun as m => match as with
  | [.inr (.inr (t0, w0, a0))] => (match Nat.beq t0 0 && (Nat.beq w0 2 && (Nat.beq a0 56)) with
    | true => F_X2_sizeBody m
    | false => none)
  | _ => none
noncomputable def tb_X2_sizeBody_0 : List (Nat × pj_T (Int32 × pj_M)) := [(0, qs_lda 0 1), (1, qs_gf 2 3 4), (4, qs_sw [(1, 40), (2, 43), (3, 46), (4, 49), (5, 52)] 55), (40, qs_ci 11 42), (42, qs_iret), (43, qs_ci 12 45), (45, qs_iret), (46, qs_ci 11 48), (48, qs_iret), (49, qs_ci 13 51), (51, qs_iret), (52, qs_ci 14 54), (54, qs_iret), (55, qs_ci 10 57), (57, qs_iret)]
noncomputable abbrev tb_X2_sizeBody : List (Nat × pj_T (Int32 × pj_M)) := tb_X2_sizeBody_0
theorem mv_X2_sizeBody : pj_mv y_X2_sizeBody c_X2_sizeBody 1 (some .int) 0 := ⟨⟨cw_972, cw_971, cw_28, cw_90⟩, by decide +kernel, by decide⟩
set_option maxRecDepth 20000 in
theorem sd_X2_sizeBody_0 {G : pj_E} {A : Nat → Prop} {P : pj_P} {S : pj_U} {Z : pj_Z} (C : pj_C (G, A, (c_X2_sizeBody, y_X2_sizeBody.cls, 1, (some .int), 1), P, S, Z)) : ∀ q ∈ tb_X2_sizeBody_0, pj_S (G, A, (c_X2_sizeBody, y_X2_sizeBody.cls, 1, (some .int), 1), P, S, Z) pj_eI q.1 q.2 :=
  List.forall_mem_cons.mpr ⟨qz_aload_n C (show decode c_X2_sizeBody 0 = .ok (.aload_n 0, 1) by decide +kernel) rfl,
  List.forall_mem_cons.mpr ⟨qz_gf (k := 3) C (show decode c_X2_sizeBody 1 = .ok (.getfield 22, 3) by decide +kernel) vcX2 wiX2 (by decide) cw_274,
  List.forall_mem_cons.mpr ⟨qz_tsw C (show decode c_X2_sizeBody 4 = .ok (.tableswitch 51 1 5 #[36, 39, 42, 45, 48], 36) by decide +kernel) (by decide +kernel),
  List.forall_mem_cons.mpr ⟨qz_bipush C (show decode c_X2_sizeBody 40 = .ok (.bipush 11, 2) by decide +kernel) (by decide +kernel),
  List.forall_mem_cons.mpr ⟨qz_iret C (show decode c_X2_sizeBody 42 = .ok (.ireturn, 1) by decide +kernel) rfl,
  List.forall_mem_cons.mpr ⟨qz_bipush C (show decode c_X2_sizeBody 43 = .ok (.bipush 12, 2) by decide +kernel) (by decide +kernel),
  List.forall_mem_cons.mpr ⟨qz_iret C (show decode c_X2_sizeBody 45 = .ok (.ireturn, 1) by decide +kernel) rfl,
  List.forall_mem_cons.mpr ⟨qz_bipush C (show decode c_X2_sizeBody 46 = .ok (.bipush 11, 2) by decide +kernel) (by decide +kernel),
  List.forall_mem_cons.mpr ⟨qz_iret C (show decode c_X2_sizeBody 48 = .ok (.ireturn, 1) by decide +kernel) rfl,
  List.forall_mem_cons.mpr ⟨qz_bipush C (show decode c_X2_sizeBody 49 = .ok (.bipush 13, 2) by decide +kernel) (by decide +kernel),
  List.forall_mem_cons.mpr ⟨qz_iret C (show decode c_X2_sizeBody 51 = .ok (.ireturn, 1) by decide +kernel) rfl,
  List.forall_mem_cons.mpr ⟨qz_bipush C (show decode c_X2_sizeBody 52 = .ok (.bipush 14, 2) by decide +kernel) (by decide +kernel),
  List.forall_mem_cons.mpr ⟨qz_iret C (show decode c_X2_sizeBody 54 = .ok (.ireturn, 1) by decide +kernel) rfl,
  List.forall_mem_cons.mpr ⟨qz_bipush C (show decode c_X2_sizeBody 55 = .ok (.bipush 10, 2) by decide +kernel) (by decide +kernel),
  List.forall_mem_cons.mpr ⟨qz_iret C (show decode c_X2_sizeBody 57 = .ok (.ireturn, 1) by decide +kernel) rfl,
  (fun q h => by cases h)⟩⟩⟩⟩⟩⟩⟩⟩⟩⟩⟩⟩⟩⟩⟩
theorem sd_X2_sizeBody {G : pj_E} {A : Nat → Prop} {P : pj_P} {S : pj_U} {Z : pj_Z} (C : pj_C (G, A, (c_X2_sizeBody, y_X2_sizeBody.cls, 1, (some .int), 1), P, S, Z)) : ∀ q ∈ tb_X2_sizeBody, pj_S (G, A, (c_X2_sizeBody, y_X2_sizeBody.cls, 1, (some .int), 1), P, S, Z) pj_eI q.1 q.2 := sd_X2_sizeBody_0 C
set_option maxRecDepth 20000 in
theorem eq_X2_sizeBody (m : pj_M) : pj_run tb_X2_sizeBody [] 17 0 [some (.inr (.inr (0, 2, 56)))] [] m = F_X2_sizeBody m := by rfl
theorem ct_X2_sizeBody : pj_Ct pj_eI y_X2_sizeBody c_X2_sizeBody 1 (some .int) 1 W_X2_sizeBody := by
  refine pj_ct_of (by decide +kernel) ?_ ?_
  · intro as m r h
    unfold W_X2_sizeBody at h
    split at h
    · simp [pj_l0]
    · cases h
  · intro G A P S Z C as m r h hR
    unfold W_X2_sizeBody at h
    split at h
    · split at h
      · rename_i hbq
        simp only [Bool.and_eq_true, Nat.beq_eq] at hbq
        obtain ⟨rfl, rfl, rfl⟩ := hbq
        exact pj_run_ok (sd_X2_sizeBody C) (fun q h => by cases h) 17 0 _ _ _ _ ((eq_X2_sizeBody _).trans h) hR
      · cases h
    · cases h
/-! AlikeSteps$Asker.markBody()I -/
abbrev c_X2_markBody : ByteArray := prog_4_method_6_code
def y_X2_markBody : MethodName := ⟨RX2, "markBody", "()I"⟩
noncomputable def F_X2_markBody (m : pj_M) : Option (Int32 × pj_M) := (if (m.1 56 3) = 1 then (some (21, m)) else (if (m.1 56 3) = 2 then (some (24, m)) else (if (m.1 56 3) = 3 then (some (22, m)) else (if (m.1 56 3) = 4 then (some (23, m)) else (if (m.1 56 3) = 5 then (some (23, m)) else (some (20, m)))))))
noncomputable def W_X2_markBody : List pj_V → pj_M → Option (Int32 × pj_M) := fun as m => match as with
  | [.inr (.inr (t0, w0, a0))] => (match Nat.beq t0 0 && (Nat.beq w0 2 && (Nat.beq a0 56)) with
    | true => F_X2_markBody m
    | false => none)
  | _ => none
noncomputable def tb_X2_markBody_0 : List (Nat × pj_T (Int32 × pj_M)) := [(0, qs_lda 0 1), (1, qs_gf 2 3 4), (4, qs_sw [(1, 40), (2, 43), (3, 46), (4, 49), (5, 52)] 55), (40, qs_ci 21 42), (42, qs_iret), (43, qs_ci 24 45), (45, qs_iret), (46, qs_ci 22 48), (48, qs_iret), (49, qs_ci 23 51), (51, qs_iret), (52, qs_ci 23 54), (54, qs_iret), (55, qs_ci 20 57), (57, qs_iret)]
noncomputable abbrev tb_X2_markBody : List (Nat × pj_T (Int32 × pj_M)) := tb_X2_markBody_0
theorem mv_X2_markBody : pj_mv y_X2_markBody c_X2_markBody 1 (some .int) 0 := ⟨⟨cw_976, cw_975, cw_29, cw_90⟩, by decide +kernel, by decide⟩
set_option maxRecDepth 20000 in
theorem sd_X2_markBody_0 {G : pj_E} {A : Nat → Prop} {P : pj_P} {S : pj_U} {Z : pj_Z} (C : pj_C (G, A, (c_X2_markBody, y_X2_markBody.cls, 1, (some .int), 1), P, S, Z)) : ∀ q ∈ tb_X2_markBody_0, pj_S (G, A, (c_X2_markBody, y_X2_markBody.cls, 1, (some .int), 1), P, S, Z) pj_eI q.1 q.2 :=
  List.forall_mem_cons.mpr ⟨qz_aload_n C (show decode c_X2_markBody 0 = .ok (.aload_n 0, 1) by decide +kernel) rfl,
  List.forall_mem_cons.mpr ⟨qz_gf (k := 3) C (show decode c_X2_markBody 1 = .ok (.getfield 22, 3) by decide +kernel) vcX2 wiX2 (by decide) cw_274,
  List.forall_mem_cons.mpr ⟨qz_tsw C (show decode c_X2_markBody 4 = .ok (.tableswitch 51 1 5 #[36, 39, 42, 45, 48], 36) by decide +kernel) (by decide +kernel),
  List.forall_mem_cons.mpr ⟨qz_bipush C (show decode c_X2_markBody 40 = .ok (.bipush 21, 2) by decide +kernel) (by decide +kernel),
  List.forall_mem_cons.mpr ⟨qz_iret C (show decode c_X2_markBody 42 = .ok (.ireturn, 1) by decide +kernel) rfl,
  List.forall_mem_cons.mpr ⟨qz_bipush C (show decode c_X2_markBody 43 = .ok (.bipush 24, 2) by decide +kernel) (by decide +kernel),
  List.forall_mem_cons.mpr ⟨qz_iret C (show decode c_X2_markBody 45 = .ok (.ireturn, 1) by decide +kernel) rfl,
  List.forall_mem_cons.mpr ⟨qz_bipush C (show decode c_X2_markBody 46 = .ok (.bipush 22, 2) by decide +kernel) (by decide +kernel),
  List.forall_mem_cons.mpr ⟨qz_iret C (show decode c_X2_markBody 48 = .ok (.ireturn, 1) by decide +kernel) rfl,
  List.forall_mem_cons.mpr ⟨qz_bipush C (show decode c_X2_markBody 49 = .ok (.bipush 23, 2) by decide +kernel) (by decide +kernel),
  List.forall_mem_cons.mpr ⟨qz_iret C (show decode c_X2_markBody 51 = .ok (.ireturn, 1) by decide +kernel) rfl,
  List.forall_mem_cons.mpr ⟨qz_bipush C (show decode c_X2_markBody 52 = .ok (.bipush 23, 2) by decide +kernel) (by decide +kernel),
  List.forall_mem_cons.mpr ⟨qz_iret C (show decode c_X2_markBody 54 = .ok (.ireturn, 1) by decide +kernel) rfl,
  List.forall_mem_cons.mpr ⟨qz_bipush C (show decode c_X2_markBody 55 = .ok (.bipush 20, 2) by decide +kernel) (by decide +kernel),
  List.forall_mem_cons.mpr ⟨qz_iret C (show decode c_X2_markBody 57 = .ok (.ireturn, 1) by decide +kernel) rfl,
  (fun q h => by cases h)⟩⟩⟩⟩⟩⟩⟩⟩⟩⟩⟩⟩⟩⟩⟩
theorem sd_X2_markBody {G : pj_E} {A : Nat → Prop} {P : pj_P} {S : pj_U} {Z : pj_Z} (C : pj_C (G, A, (c_X2_markBody, y_X2_markBody.cls, 1, (some .int), 1), P, S, Z)) : ∀ q ∈ tb_X2_markBody, pj_S (G, A, (c_X2_markBody, y_X2_markBody.cls, 1, (some .int), 1), P, S, Z) pj_eI q.1 q.2 := sd_X2_markBody_0 C
set_option maxRecDepth 20000 in
theorem eq_X2_markBody (m : pj_M) : pj_run tb_X2_markBody [] 17 0 [some (.inr (.inr (0, 2, 56)))] [] m = F_X2_markBody m := by rfl
theorem ct_X2_markBody : pj_Ct pj_eI y_X2_markBody c_X2_markBody 1 (some .int) 1 W_X2_markBody := by
  refine pj_ct_of (by decide +kernel) ?_ ?_
  · intro as m r h
    unfold W_X2_markBody at h
    split at h
    · simp [pj_l0]
    · cases h
  · intro G A P S Z C as m r h hR
    unfold W_X2_markBody at h
    split at h
    · split at h
      · rename_i hbq
        simp only [Bool.and_eq_true, Nat.beq_eq] at hbq
        obtain ⟨rfl, rfl, rfl⟩ := hbq
        exact pj_run_ok (sd_X2_markBody C) (fun q h => by cases h) 17 0 _ _ _ _ ((eq_X2_markBody _).trans h) hR
      · cases h
    · cases h
/-! AlikeSteps$Asker.leave(I)V -/
abbrev c_X2_leave : ByteArray := prog_4_method_8_code
def y_X2_leave : MethodName := ⟨RX2, "leave", "(I)V"⟩
noncomputable def F_X2_leave (x1 : Int32) (m : pj_M) : Option (pj_M) := (if (m.1 56 1) < 16 then (if (m.1 56 1) < 0 ∨ 16 ≤ (m.1 56 1).toNatClampNeg then none else (some (pj_wr (pj_wr m 57 (m.1 56 1).toNatClampNeg x1) 56 1 (((pj_wr m 57 (m.1 56 1).toNatClampNeg x1).1 56 1) + 1)))) else (some m))
noncomputable def W_X2_leave : List pj_V → pj_M → Option (pj_M) := fun as m => match as with
  | [.inr (.inr (t0, w0, a0)), .inl x1] => (match Nat.beq t0 0 && (Nat.beq w0 2 && (Nat.beq a0 56)) with
    | true => F_X2_leave x1 m
    | false => none)
  | _ => none
noncomputable def tb_X2_leave_0 : List (Nat × pj_T (pj_M)) := [(0, qs_lda 0 1), (1, qs_gf 2 1 4), (4, qs_ci 16 6), (6, qs_icge 29 9), (9, qs_lda 0 10), (10, qs_gf 2 0 13), (13, qs_lda 0 14), (14, qs_gf 2 1 17), (17, qs_ldi 1 18), (18, qs_iast 19), (19, qs_lda 0 20), (20, qs_dup 21), (21, qs_gf 2 1 24), (24, qs_ci 1 25), (25, qs_b2 (fun x y => x + y) 26), (26, qs_pf 2 1 29), (29, qs_vret)]
noncomputable abbrev tb_X2_leave : List (Nat × pj_T (pj_M)) := tb_X2_leave_0
theorem mv_X2_leave : pj_mv y_X2_leave c_X2_leave 2 none 1 := ⟨⟨cw_984, cw_983, cw_31, cw_90⟩, by decide +kernel, by decide⟩
set_option maxRecDepth 20000 in
theorem sd_X2_leave_0 {G : pj_E} {A : Nat → Prop} {P : pj_P} {S : pj_U} {Z : pj_Z} (C : pj_C (G, A, (c_X2_leave, y_X2_leave.cls, 2, none, 1), P, S, Z)) : ∀ q ∈ tb_X2_leave_0, pj_S (G, A, (c_X2_leave, y_X2_leave.cls, 2, none, 1), P, S, Z) pj_eV q.1 q.2 :=
  List.forall_mem_cons.mpr ⟨qz_aload_n C (show decode c_X2_leave 0 = .ok (.aload_n 0, 1) by decide +kernel) rfl,
  List.forall_mem_cons.mpr ⟨qz_gf (k := 1) C (show decode c_X2_leave 1 = .ok (.getfield 15, 3) by decide +kernel) vcX2 wiX2 (by decide) cw_272,
  List.forall_mem_cons.mpr ⟨qz_bipush C (show decode c_X2_leave 4 = .ok (.bipush 16, 2) by decide +kernel) (by decide +kernel),
  List.forall_mem_cons.mpr ⟨qz_icge C (show decode c_X2_leave 6 = .ok (.if_icmp .ge 23, 3) by decide +kernel) (by decide),
  List.forall_mem_cons.mpr ⟨qz_aload_n C (show decode c_X2_leave 9 = .ok (.aload_n 0, 1) by decide +kernel) rfl,
  List.forall_mem_cons.mpr ⟨qz_gf (k := 0) C (show decode c_X2_leave 10 = .ok (.getfield 11, 3) by decide +kernel) vcX2 wiX2 (by decide) cw_271,
  List.forall_mem_cons.mpr ⟨qz_aload_n C (show decode c_X2_leave 13 = .ok (.aload_n 0, 1) by decide +kernel) rfl,
  List.forall_mem_cons.mpr ⟨qz_gf (k := 1) C (show decode c_X2_leave 14 = .ok (.getfield 15, 3) by decide +kernel) vcX2 wiX2 (by decide) cw_272,
  List.forall_mem_cons.mpr ⟨qz_iload_n C (show decode c_X2_leave 17 = .ok (.iload_n 1, 1) by decide +kernel) rfl,
  List.forall_mem_cons.mpr ⟨qz_iast C (show decode c_X2_leave 18 = .ok (.iastore, 1) by decide +kernel),
  List.forall_mem_cons.mpr ⟨qz_aload_n C (show decode c_X2_leave 19 = .ok (.aload_n 0, 1) by decide +kernel) rfl,
  List.forall_mem_cons.mpr ⟨qz_dup C (show decode c_X2_leave 20 = .ok (.dup, 1) by decide +kernel),
  List.forall_mem_cons.mpr ⟨qz_gf (k := 1) C (show decode c_X2_leave 21 = .ok (.getfield 15, 3) by decide +kernel) vcX2 wiX2 (by decide) cw_272,
  List.forall_mem_cons.mpr ⟨qz_iconst C (show decode c_X2_leave 24 = .ok (.iconst 1, 1) by decide +kernel) (by decide +kernel),
  List.forall_mem_cons.mpr ⟨qz_iadd C (show decode c_X2_leave 25 = .ok (.iadd, 1) by decide +kernel),
  List.forall_mem_cons.mpr ⟨qz_pf (k := 1) C (show decode c_X2_leave 26 = .ok (.putfield 15, 3) by decide +kernel) vcX2 wiX2 tyX2_ok nmX2 (by decide) cw_272 rfl rfl,
  List.forall_mem_cons.mpr ⟨qz_vret C (show decode c_X2_leave 29 = .ok (.return_, 1) by decide +kernel) rfl,
  (fun q h => by cases h)⟩⟩⟩⟩⟩⟩⟩⟩⟩⟩⟩⟩⟩⟩⟩⟩⟩
theorem sd_X2_leave {G : pj_E} {A : Nat → Prop} {P : pj_P} {S : pj_U} {Z : pj_Z} (C : pj_C (G, A, (c_X2_leave, y_X2_leave.cls, 2, none, 1), P, S, Z)) : ∀ q ∈ tb_X2_leave, pj_S (G, A, (c_X2_leave, y_X2_leave.cls, 2, none, 1), P, S, Z) pj_eV q.1 q.2 := sd_X2_leave_0 C
set_option maxRecDepth 20000 in
theorem eq_X2_leave (x1 : Int32) (m : pj_M) : pj_run tb_X2_leave [] 19 0 [some (.inr (.inr (0, 2, 56))), some (.inl x1)] [] m = F_X2_leave x1 m := by rfl
theorem ct_X2_leave : pj_Ct pj_eV y_X2_leave c_X2_leave 2 none 1 W_X2_leave := by
  refine pj_ct_of (by decide +kernel) ?_ ?_
  · intro as m r h
    unfold W_X2_leave at h
    split at h
    · simp [pj_l0]
    · cases h
  · intro G A P S Z C as m r h hR
    unfold W_X2_leave at h
    split at h
    · split at h
      · rename_i hbq
        simp only [Bool.and_eq_true, Nat.beq_eq] at hbq
        obtain ⟨rfl, rfl, rfl⟩ := hbq
        exact pj_run_ok (sd_X2_leave C) (fun q h => by cases h) 19 0 _ _ _ _ ((eq_X2_leave _ _).trans h) hR
      · cases h
    · cases h
/-! AlikeSteps$Asker.body(II)I -/
abbrev c_X2_body : ByteArray := prog_4_method_7_code
def y_X2_body : MethodName := ⟨RX2, "body", "(II)I"⟩
noncomputable def F_X2_body : Nat → Int32 → Int32 → pj_M → Option (Int32 × pj_M)
  | 0, _, _, _ => none
  | n + 1, x1, x2, m => (if (8 : Int32) < x2 then (some (0, m)) else ((F_X2_leave x1 m).bind fun q1 => (if x1 = 10 then (some (q1.1 56 4, q1)) else (if x1 = 11 then ((F_X2_body n 10 (x2 + 1) q1).bind fun q2 => ((F_X2_markBody q2.2).bind fun q3 => ((F_X2_body n q3.1 (x2 + 1) q3.2).bind fun q4 => (some (q2.1 + q4.1, q4.2))))) else (if x1 = 12 then ((F_X2_body n 11 (x2 + 1) q1).bind fun q5 => (some (0 - q5.1, q5.2))) else (if x1 = 13 then ((F_X2_body n 10 (x2 + 1) q1).bind fun q6 => (some (q6.1 - 100, q6.2))) else (if x1 = 14 then ((F_X2_body n 13 (x2 + 1) q1).bind fun q7 => (some (q7.1 * 2, q7.2))) else (if x1 = 15 then (some (0, q1)) else (if x1 = 16 then (some (0, q1)) else (if x1 = 17 then (some (0, q1)) else (if x1 = 18 then (some (0, q1)) else (if x1 = 19 then (some (0, q1)) else (if x1 = 20 then (some (q1.1 56 2, q1)) else (if x1 = 21 then ((F_X2_body n 20 (x2 + 1) q1).bind fun q8 => (some (q8.1 + (q8.2.1 56 5), q8.2))) else (if x1 = 22 then ((F_X2_body n 21 (x2 + 1) q1).bind fun q9 => (some (q9.1 - 1000, q9.2))) else (if x1 = 23 then ((F_X2_body n 20 (x2 + 1) q1).bind fun q10 => ((F_X2_sizeBody q10.2).bind fun q11 => ((F_X2_body n q11.1 (x2 + 1) q11.2).bind fun q12 => (some (q10.1 - q12.1, q12.2))))) else (if x1 = 24 then ((F_X2_body n 21 (x2 + 1) q1).bind fun q13 => (some (q13.1 * 2, q13.2))) else (some (0, q1)))))))))))))))))))
noncomputable def W_X2_body (n : Nat) : List pj_V → pj_M → Option (Int32 × pj_M) := fun as m => match as with
  | [.inr (.inr (t0, w0, a0)), .inl x1, .inl x2] => (match Nat.beq t0 0 && (Nat.beq w0 2 && (Nat.beq a0 56)) with
    | true => F_X2_body n x1 x2 m
    | false => none)
  | _ => none
noncomputable def tb_X2_body_0 (n : Nat) : List (Nat × pj_T (Int32 × pj_M)) := [(0, qs_ldi 2 1), (1, qs_ci 8 3), (3, qs_icle 8 6), (6, qs_ci 0 7), (7, qs_iret), (8, qs_lda 0 9), (9, qs_ldi 1 10), (10, qs_vV 2 2 W_X2_leave 13), (13, qs_ldi 2 14), (14, qs_ci 1 15), (15, qs_b2 (fun x y => x + y) 16), (16, qs_sti 3 17), (17, qs_ldi 1 18), (18, qs_sw [(10, 92), (11, 97), (12, 115), (13, 125), (14, 136), (15, 204), (16, 204), (17, 204), (18, 204), (19, 204), (20, 146), (21, 151), (22, 164), (23, 176), (24, 194)] 204), (92, qs_lda 0 93), (93, qs_gf 2 4 96), (96, qs_iret), (97, qs_lda 0 98), (98, qs_ci 10 100), (100, qs_ldi 3 101), (101, qs_vI 2 3 (W_X2_body n) 104), (104, qs_lda 0 105), (105, qs_lda 0 106), (106, qs_vI 2 1 W_X2_markBody 109), (109, qs_ldi 3 110), (110, qs_vI 2 3 (W_X2_body n) 113), (113, qs_b2 (fun x y => x + y) 114), (114, qs_iret), (115, qs_ci 0 116), (116, qs_lda 0 117), (117, qs_ci 11 119), (119, qs_ldi 3 120), (120, qs_vI 2 3 (W_X2_body n) 123), (123, qs_b2 (fun x y => x - y) 124), (124, qs_iret), (125, qs_lda 0 126), (126, qs_ci 10 128), (128, qs_ldi 3 129), (129, qs_vI 2 3 (W_X2_body n) 132), (132, qs_ci 100 134)]
noncomputable def tb_X2_body_1 (n : Nat) : List (Nat × pj_T (Int32 × pj_M)) := [(134, qs_b2 (fun x y => x - y) 135), (135, qs_iret), (136, qs_lda 0 137), (137, qs_ci 13 139), (139, qs_ldi 3 140), (140, qs_vI 2 3 (W_X2_body n) 143), (143, qs_ci 2 144), (144, qs_b2 (fun x y => x * y) 145), (145, qs_iret), (146, qs_lda 0 147), (147, qs_gf 2 2 150), (150, qs_iret), (151, qs_lda 0 152), (152, qs_ci 20 154), (154, qs_ldi 3 155), (155, qs_vI 2 3 (W_X2_body n) 158), (158, qs_lda 0 159), (159, qs_gf 2 5 162), (162, qs_b2 (fun x y => x + y) 163), (163, qs_iret), (164, qs_lda 0 165), (165, qs_ci 21 167), (167, qs_ldi 3 168), (168, qs_vI 2 3 (W_X2_body n) 171), (171, qs_ci 1000 174), (174, qs_b2 (fun x y => x - y) 175), (175, qs_iret), (176, qs_lda 0 177), (177, qs_ci 20 179), (179, qs_ldi 3 180), (180, qs_vI 2 3 (W_X2_body n) 183), (183, qs_lda 0 184), (184, qs_lda 0 185), (185, qs_vI 2 1 W_X2_sizeBody 188), (188, qs_ldi 3 189), (189, qs_vI 2 3 (W_X2_body n) 192), (192, qs_b2 (fun x y => x - y) 193), (193, qs_iret), (194, qs_lda 0 195), (195, qs_ci 21 197)]
noncomputable def tb_X2_body_2 (n : Nat) : List (Nat × pj_T (Int32 × pj_M)) := [(197, qs_ldi 3 198), (198, qs_vI 2 3 (W_X2_body n) 201), (201, qs_ci 2 202), (202, qs_b2 (fun x y => x * y) 203), (203, qs_iret), (204, qs_ci 0 205), (205, qs_iret)]
noncomputable def tb_X2_body (n : Nat) : List (Nat × pj_T (Int32 × pj_M)) := tb_X2_body_0 n ++ (tb_X2_body_1 n ++ (tb_X2_body_2 n))
theorem mv_X2_body : pj_mv y_X2_body c_X2_body 4 (some .int) 2 := ⟨⟨cw_980, cw_979, cw_30, cw_90⟩, by decide +kernel, by decide⟩
set_option maxRecDepth 20000 in
theorem sd_X2_body_0 (n : Nat) (ih : pj_Ct pj_eI y_X2_body c_X2_body 4 (some .int) (2 + n) (W_X2_body n)) {G : pj_E} {A : Nat → Prop} {P : pj_P} {S : pj_U} {Z : pj_Z} (C : pj_C (G, A, (c_X2_body, y_X2_body.cls, 4, (some .int), 2 + (n + 1)), P, S, Z)) : ∀ q ∈ tb_X2_body_0 n, pj_S (G, A, (c_X2_body, y_X2_body.cls, 4, (some .int), 2 + (n + 1)), P, S, Z) pj_eI q.1 q.2 :=
  List.forall_mem_cons.mpr ⟨qz_iload_n C (show decode c_X2_body 0 = .ok (.iload_n 2, 1) by decide +kernel) rfl,
  List.forall_mem_cons.mpr ⟨qz_bipush C (show decode c_X2_body 1 = .ok (.bipush 8, 2) by decide +kernel) (by decide +kernel),
  List.forall_mem_cons.mpr ⟨qz_icle C (show decode c_X2_body 3 = .ok (.if_icmp .le 5, 3) by decide +kernel) (by decide),
  List.forall_mem_cons.mpr ⟨qz_iconst C (show decode c_X2_body 6 = .ok (.iconst 0, 1) by decide +kernel) (by decide +kernel),
  List.forall_mem_cons.mpr ⟨qz_iret C (show decode c_X2_body 7 = .ok (.ireturn, 1) by decide +kernel) rfl,
  List.forall_mem_cons.mpr ⟨qz_aload_n C (show decode c_X2_body 8 = .ok (.aload_n 0, 1) by decide +kernel) rfl,
  List.forall_mem_cons.mpr ⟨qz_iload_n C (show decode c_X2_body 9 = .ok (.iload_n 1, 1) by decide +kernel) rfl,
  List.forall_mem_cons.mpr ⟨qz_vV C (show decode c_X2_body 10 = .ok (.invokevirtual 43, 3) by decide +kernel) ct_X2_leave mv_X2_leave cw_981 vcX2 (show 1 < 2 + (n + 1) by omega),
  List.forall_mem_cons.mpr ⟨qz_iload_n C (show decode c_X2_body 13 = .ok (.iload_n 2, 1) by decide +kernel) rfl,
  List.forall_mem_cons.mpr ⟨qz_iconst C (show decode c_X2_body 14 = .ok (.iconst 1, 1) by decide +kernel) (by decide +kernel),
  List.forall_mem_cons.mpr ⟨qz_iadd C (show decode c_X2_body 15 = .ok (.iadd, 1) by decide +kernel),
  List.forall_mem_cons.mpr ⟨qz_istore_n C (show decode c_X2_body 16 = .ok (.istore_n 3, 1) by decide +kernel) rfl,
  List.forall_mem_cons.mpr ⟨qz_iload_n C (show decode c_X2_body 17 = .ok (.iload_n 1, 1) by decide +kernel) rfl,
  List.forall_mem_cons.mpr ⟨qz_tsw C (show decode c_X2_body 18 = .ok (.tableswitch 186 10 24 #[74, 79, 97, 107, 118, 186, 186, 186, 186, 186, 128, 133, 146, 158, 176], 74) by decide +kernel) (by decide +kernel),
  List.forall_mem_cons.mpr ⟨qz_aload_n C (show decode c_X2_body 92 = .ok (.aload_n 0, 1) by decide +kernel) rfl,
  List.forall_mem_cons.mpr ⟨qz_gf (k := 4) C (show decode c_X2_body 93 = .ok (.getfield 25, 3) by decide +kernel) vcX2 wiX2 (by decide) cw_275,
  List.forall_mem_cons.mpr ⟨qz_iret C (show decode c_X2_body 96 = .ok (.ireturn, 1) by decide +kernel) rfl,
  List.forall_mem_cons.mpr ⟨qz_aload_n C (show decode c_X2_body 97 = .ok (.aload_n 0, 1) by decide +kernel) rfl,
  List.forall_mem_cons.mpr ⟨qz_bipush C (show decode c_X2_body 98 = .ok (.bipush 10, 2) by decide +kernel) (by decide +kernel),
  List.forall_mem_cons.mpr ⟨qz_iload_n C (show decode c_X2_body 100 = .ok (.iload_n 3, 1) by decide +kernel) rfl,
  List.forall_mem_cons.mpr ⟨qz_vI C (show decode c_X2_body 101 = .ok (.invokevirtual 38, 3) by decide +kernel) ih mv_X2_body cw_977 vcX2 (show 2 + n < 2 + (n + 1) by omega),
  List.forall_mem_cons.mpr ⟨qz_aload_n C (show decode c_X2_body 104 = .ok (.aload_n 0, 1) by decide +kernel) rfl,
  List.forall_mem_cons.mpr ⟨qz_aload_n C (show decode c_X2_body 105 = .ok (.aload_n 0, 1) by decide +kernel) rfl,
  List.forall_mem_cons.mpr ⟨qz_vI C (show decode c_X2_body 106 = .ok (.invokevirtual 35, 3) by decide +kernel) ct_X2_markBody mv_X2_markBody cw_973 vcX2 (show 1 < 2 + (n + 1) by omega),
  List.forall_mem_cons.mpr ⟨qz_iload_n C (show decode c_X2_body 109 = .ok (.iload_n 3, 1) by decide +kernel) rfl,
  List.forall_mem_cons.mpr ⟨qz_vI C (show decode c_X2_body 110 = .ok (.invokevirtual 38, 3) by decide +kernel) ih mv_X2_body cw_977 vcX2 (show 2 + n < 2 + (n + 1) by omega),
  List.forall_mem_cons.mpr ⟨qz_iadd C (show decode c_X2_body 113 = .ok (.iadd, 1) by decide +kernel),
  List.forall_mem_cons.mpr ⟨qz_iret C (show decode c_X2_body 114 = .ok (.ireturn, 1) by decide +kernel) rfl,
  List.forall_mem_cons.mpr ⟨qz_iconst C (show decode c_X2_body 115 = .ok (.iconst 0, 1) by decide +kernel) (by decide +kernel),
  List.forall_mem_cons.mpr ⟨qz_aload_n C (show decode c_X2_body 116 = .ok (.aload_n 0, 1) by decide +kernel) rfl,
  List.forall_mem_cons.mpr ⟨qz_bipush C (show decode c_X2_body 117 = .ok (.bipush 11, 2) by decide +kernel) (by decide +kernel),
  List.forall_mem_cons.mpr ⟨qz_iload_n C (show decode c_X2_body 119 = .ok (.iload_n 3, 1) by decide +kernel) rfl,
  List.forall_mem_cons.mpr ⟨qz_vI C (show decode c_X2_body 120 = .ok (.invokevirtual 38, 3) by decide +kernel) ih mv_X2_body cw_977 vcX2 (show 2 + n < 2 + (n + 1) by omega),
  List.forall_mem_cons.mpr ⟨qz_isub C (show decode c_X2_body 123 = .ok (.isub, 1) by decide +kernel),
  List.forall_mem_cons.mpr ⟨qz_iret C (show decode c_X2_body 124 = .ok (.ireturn, 1) by decide +kernel) rfl,
  List.forall_mem_cons.mpr ⟨qz_aload_n C (show decode c_X2_body 125 = .ok (.aload_n 0, 1) by decide +kernel) rfl,
  List.forall_mem_cons.mpr ⟨qz_bipush C (show decode c_X2_body 126 = .ok (.bipush 10, 2) by decide +kernel) (by decide +kernel),
  List.forall_mem_cons.mpr ⟨qz_iload_n C (show decode c_X2_body 128 = .ok (.iload_n 3, 1) by decide +kernel) rfl,
  List.forall_mem_cons.mpr ⟨qz_vI C (show decode c_X2_body 129 = .ok (.invokevirtual 38, 3) by decide +kernel) ih mv_X2_body cw_977 vcX2 (show 2 + n < 2 + (n + 1) by omega),
  List.forall_mem_cons.mpr ⟨qz_bipush C (show decode c_X2_body 132 = .ok (.bipush 100, 2) by decide +kernel) (by decide +kernel),
  (fun q h => by cases h)⟩⟩⟩⟩⟩⟩⟩⟩⟩⟩⟩⟩⟩⟩⟩⟩⟩⟩⟩⟩⟩⟩⟩⟩⟩⟩⟩⟩⟩⟩⟩⟩⟩⟩⟩⟩⟩⟩⟩⟩
set_option maxRecDepth 20000 in
theorem sd_X2_body_1 (n : Nat) (ih : pj_Ct pj_eI y_X2_body c_X2_body 4 (some .int) (2 + n) (W_X2_body n)) {G : pj_E} {A : Nat → Prop} {P : pj_P} {S : pj_U} {Z : pj_Z} (C : pj_C (G, A, (c_X2_body, y_X2_body.cls, 4, (some .int), 2 + (n + 1)), P, S, Z)) : ∀ q ∈ tb_X2_body_1 n, pj_S (G, A, (c_X2_body, y_X2_body.cls, 4, (some .int), 2 + (n + 1)), P, S, Z) pj_eI q.1 q.2 :=
  List.forall_mem_cons.mpr ⟨qz_isub C (show decode c_X2_body 134 = .ok (.isub, 1) by decide +kernel),
  List.forall_mem_cons.mpr ⟨qz_iret C (show decode c_X2_body 135 = .ok (.ireturn, 1) by decide +kernel) rfl,
  List.forall_mem_cons.mpr ⟨qz_aload_n C (show decode c_X2_body 136 = .ok (.aload_n 0, 1) by decide +kernel) rfl,
  List.forall_mem_cons.mpr ⟨qz_bipush C (show decode c_X2_body 137 = .ok (.bipush 13, 2) by decide +kernel) (by decide +kernel),
  List.forall_mem_cons.mpr ⟨qz_iload_n C (show decode c_X2_body 139 = .ok (.iload_n 3, 1) by decide +kernel) rfl,
  List.forall_mem_cons.mpr ⟨qz_vI C (show decode c_X2_body 140 = .ok (.invokevirtual 38, 3) by decide +kernel) ih mv_X2_body cw_977 vcX2 (show 2 + n < 2 + (n + 1) by omega),
  List.forall_mem_cons.mpr ⟨qz_iconst C (show decode c_X2_body 143 = .ok (.iconst 2, 1) by decide +kernel) (by decide +kernel),
  List.forall_mem_cons.mpr ⟨qz_imul C (show decode c_X2_body 144 = .ok (.imul, 1) by decide +kernel),
  List.forall_mem_cons.mpr ⟨qz_iret C (show decode c_X2_body 145 = .ok (.ireturn, 1) by decide +kernel) rfl,
  List.forall_mem_cons.mpr ⟨qz_aload_n C (show decode c_X2_body 146 = .ok (.aload_n 0, 1) by decide +kernel) rfl,
  List.forall_mem_cons.mpr ⟨qz_gf (k := 2) C (show decode c_X2_body 147 = .ok (.getfield 19, 3) by decide +kernel) vcX2 wiX2 (by decide) cw_273,
  List.forall_mem_cons.mpr ⟨qz_iret C (show decode c_X2_body 150 = .ok (.ireturn, 1) by decide +kernel) rfl,
  List.forall_mem_cons.mpr ⟨qz_aload_n C (show decode c_X2_body 151 = .ok (.aload_n 0, 1) by decide +kernel) rfl,
  List.forall_mem_cons.mpr ⟨qz_bipush C (show decode c_X2_body 152 = .ok (.bipush 20, 2) by decide +kernel) (by decide +kernel),
  List.forall_mem_cons.mpr ⟨qz_iload_n C (show decode c_X2_body 154 = .ok (.iload_n 3, 1) by decide +kernel) rfl,
  List.forall_mem_cons.mpr ⟨qz_vI C (show decode c_X2_body 155 = .ok (.invokevirtual 38, 3) by decide +kernel) ih mv_X2_body cw_977 vcX2 (show 2 + n < 2 + (n + 1) by omega),
  List.forall_mem_cons.mpr ⟨qz_aload_n C (show decode c_X2_body 158 = .ok (.aload_n 0, 1) by decide +kernel) rfl,
  List.forall_mem_cons.mpr ⟨qz_gf (k := 5) C (show decode c_X2_body 159 = .ok (.getfield 28, 3) by decide +kernel) vcX2 wiX2 (by decide) cw_276,
  List.forall_mem_cons.mpr ⟨qz_iadd C (show decode c_X2_body 162 = .ok (.iadd, 1) by decide +kernel),
  List.forall_mem_cons.mpr ⟨qz_iret C (show decode c_X2_body 163 = .ok (.ireturn, 1) by decide +kernel) rfl,
  List.forall_mem_cons.mpr ⟨qz_aload_n C (show decode c_X2_body 164 = .ok (.aload_n 0, 1) by decide +kernel) rfl,
  List.forall_mem_cons.mpr ⟨qz_bipush C (show decode c_X2_body 165 = .ok (.bipush 21, 2) by decide +kernel) (by decide +kernel),
  List.forall_mem_cons.mpr ⟨qz_iload_n C (show decode c_X2_body 167 = .ok (.iload_n 3, 1) by decide +kernel) rfl,
  List.forall_mem_cons.mpr ⟨qz_vI C (show decode c_X2_body 168 = .ok (.invokevirtual 38, 3) by decide +kernel) ih mv_X2_body cw_977 vcX2 (show 2 + n < 2 + (n + 1) by omega),
  List.forall_mem_cons.mpr ⟨qz_sipush C (show decode c_X2_body 171 = .ok (.sipush 1000, 3) by decide +kernel) (by decide +kernel),
  List.forall_mem_cons.mpr ⟨qz_isub C (show decode c_X2_body 174 = .ok (.isub, 1) by decide +kernel),
  List.forall_mem_cons.mpr ⟨qz_iret C (show decode c_X2_body 175 = .ok (.ireturn, 1) by decide +kernel) rfl,
  List.forall_mem_cons.mpr ⟨qz_aload_n C (show decode c_X2_body 176 = .ok (.aload_n 0, 1) by decide +kernel) rfl,
  List.forall_mem_cons.mpr ⟨qz_bipush C (show decode c_X2_body 177 = .ok (.bipush 20, 2) by decide +kernel) (by decide +kernel),
  List.forall_mem_cons.mpr ⟨qz_iload_n C (show decode c_X2_body 179 = .ok (.iload_n 3, 1) by decide +kernel) rfl,
  List.forall_mem_cons.mpr ⟨qz_vI C (show decode c_X2_body 180 = .ok (.invokevirtual 38, 3) by decide +kernel) ih mv_X2_body cw_977 vcX2 (show 2 + n < 2 + (n + 1) by omega),
  List.forall_mem_cons.mpr ⟨qz_aload_n C (show decode c_X2_body 183 = .ok (.aload_n 0, 1) by decide +kernel) rfl,
  List.forall_mem_cons.mpr ⟨qz_aload_n C (show decode c_X2_body 184 = .ok (.aload_n 0, 1) by decide +kernel) rfl,
  List.forall_mem_cons.mpr ⟨qz_vI C (show decode c_X2_body 185 = .ok (.invokevirtual 31, 3) by decide +kernel) ct_X2_sizeBody mv_X2_sizeBody cw_969 vcX2 (show 1 < 2 + (n + 1) by omega),
  List.forall_mem_cons.mpr ⟨qz_iload_n C (show decode c_X2_body 188 = .ok (.iload_n 3, 1) by decide +kernel) rfl,
  List.forall_mem_cons.mpr ⟨qz_vI C (show decode c_X2_body 189 = .ok (.invokevirtual 38, 3) by decide +kernel) ih mv_X2_body cw_977 vcX2 (show 2 + n < 2 + (n + 1) by omega),
  List.forall_mem_cons.mpr ⟨qz_isub C (show decode c_X2_body 192 = .ok (.isub, 1) by decide +kernel),
  List.forall_mem_cons.mpr ⟨qz_iret C (show decode c_X2_body 193 = .ok (.ireturn, 1) by decide +kernel) rfl,
  List.forall_mem_cons.mpr ⟨qz_aload_n C (show decode c_X2_body 194 = .ok (.aload_n 0, 1) by decide +kernel) rfl,
  List.forall_mem_cons.mpr ⟨qz_bipush C (show decode c_X2_body 195 = .ok (.bipush 21, 2) by decide +kernel) (by decide +kernel),
  (fun q h => by cases h)⟩⟩⟩⟩⟩⟩⟩⟩⟩⟩⟩⟩⟩⟩⟩⟩⟩⟩⟩⟩⟩⟩⟩⟩⟩⟩⟩⟩⟩⟩⟩⟩⟩⟩⟩⟩⟩⟩⟩⟩
set_option maxRecDepth 20000 in
theorem sd_X2_body_2 (n : Nat) (ih : pj_Ct pj_eI y_X2_body c_X2_body 4 (some .int) (2 + n) (W_X2_body n)) {G : pj_E} {A : Nat → Prop} {P : pj_P} {S : pj_U} {Z : pj_Z} (C : pj_C (G, A, (c_X2_body, y_X2_body.cls, 4, (some .int), 2 + (n + 1)), P, S, Z)) : ∀ q ∈ tb_X2_body_2 n, pj_S (G, A, (c_X2_body, y_X2_body.cls, 4, (some .int), 2 + (n + 1)), P, S, Z) pj_eI q.1 q.2 :=
  List.forall_mem_cons.mpr ⟨qz_iload_n C (show decode c_X2_body 197 = .ok (.iload_n 3, 1) by decide +kernel) rfl,
  List.forall_mem_cons.mpr ⟨qz_vI C (show decode c_X2_body 198 = .ok (.invokevirtual 38, 3) by decide +kernel) ih mv_X2_body cw_977 vcX2 (show 2 + n < 2 + (n + 1) by omega),
  List.forall_mem_cons.mpr ⟨qz_iconst C (show decode c_X2_body 201 = .ok (.iconst 2, 1) by decide +kernel) (by decide +kernel),
  List.forall_mem_cons.mpr ⟨qz_imul C (show decode c_X2_body 202 = .ok (.imul, 1) by decide +kernel),
  List.forall_mem_cons.mpr ⟨qz_iret C (show decode c_X2_body 203 = .ok (.ireturn, 1) by decide +kernel) rfl,
  List.forall_mem_cons.mpr ⟨qz_iconst C (show decode c_X2_body 204 = .ok (.iconst 0, 1) by decide +kernel) (by decide +kernel),
  List.forall_mem_cons.mpr ⟨qz_iret C (show decode c_X2_body 205 = .ok (.ireturn, 1) by decide +kernel) rfl,
  (fun q h => by cases h)⟩⟩⟩⟩⟩⟩⟩
theorem sd_X2_body (n : Nat) (ih : pj_Ct pj_eI y_X2_body c_X2_body 4 (some .int) (2 + n) (W_X2_body n)) {G : pj_E} {A : Nat → Prop} {P : pj_P} {S : pj_U} {Z : pj_Z} (C : pj_C (G, A, (c_X2_body, y_X2_body.cls, 4, (some .int), 2 + (n + 1)), P, S, Z)) : ∀ q ∈ (tb_X2_body n), pj_S (G, A, (c_X2_body, y_X2_body.cls, 4, (some .int), 2 + (n + 1)), P, S, Z) pj_eI q.1 q.2 := List.forall_mem_append.mpr ⟨sd_X2_body_0 n ih C, List.forall_mem_append.mpr ⟨sd_X2_body_1 n ih C, sd_X2_body_2 n ih C⟩⟩
set_option maxRecDepth 20000 in
theorem eq_X2_body (n : Nat) (x1 : Int32) (x2 : Int32) (m : pj_M) : pj_run (tb_X2_body n) [] 89 0 [some (.inr (.inr (0, 2, 56))), some (.inl x1), some (.inl x2), none] [] m = F_X2_body (n + 1) x1 x2 m := by rfl
theorem ct_X2_body : ∀ n, pj_Ct pj_eI y_X2_body c_X2_body 4 (some .int) (2 + n) (W_X2_body n) := by
  intro n
  induction n with
  | zero =>
    intro l G as m r h
    unfold W_X2_body at h
    split at h
    · split at h
      · cases h
      · cases h
    · cases h
  | succ n ih =>
    refine pj_ct_of (by decide +kernel) ?_ ?_
    · intro as m r h
      unfold W_X2_body at h
      split at h
      · simp [pj_l0]
      · cases h
    · intro G A P S Z C as m r h hR
      unfold W_X2_body at h
      split at h
      · split at h
        · rename_i hbq
          simp only [Bool.and_eq_true, Nat.beq_eq] at hbq
          obtain ⟨rfl, rfl, rfl⟩ := hbq
          exact pj_run_ok (sd_X2_body n ih C) (fun q h => by cases h) 89 0 _ _ _ _ ((eq_X2_body _ _ _ _).trans h) hR
        · cases h
      · cases h
/-! AlikeSteps$Asker.answer(I)I -/
abbrev c_X2_answer : ByteArray := prog_4_method_3_code
def y_X2_answer : MethodName := ⟨RX2, "answer", "(I)I"⟩
noncomputable def F_X2_answer (x1 : Int32) (m : pj_M) : Option (Int32 × pj_M) := (if x1 = 0 then ((F_X2_sizeBody m).bind fun q3 => ((F_X2_body 12 q3.1 0 q3.2).bind fun q4 => (some (q4.1, q4.2)))) else ((F_X2_markBody m).bind fun q1 => ((F_X2_body 12 q1.1 0 q1.2).bind fun q2 => (some (q2.1, q2.2)))))
noncomputable def W_X2_answer : List pj_V → pj_M → Option (Int32 × pj_M) := fun as m => match as with
  | [.inr (.inr (t0, w0, a0)), .inl x1] => (match Nat.beq t0 0 && (Nat.beq w0 2 && (Nat.beq a0 56)) with
    | true => F_X2_answer x1 m
    | false => none)
  | _ => none
noncomputable def tb_X2_answer_0 : List (Nat × pj_T (Int32 × pj_M)) := [(0, qs_lda 0 1), (1, qs_ldi 1 2), (2, qs_ifne 12 5), (5, qs_lda 0 6), (6, qs_vI 2 1 W_X2_sizeBody 9), (9, qs_go 16), (12, qs_lda 0 13), (13, qs_vI 2 1 W_X2_markBody 16), (16, qs_ci 0 17), (17, qs_vI 2 3 (W_X2_body 12) 20), (20, qs_iret)]
noncomputable abbrev tb_X2_answer : List (Nat × pj_T (Int32 × pj_M)) := tb_X2_answer_0
theorem mv_X2_answer : pj_mv y_X2_answer c_X2_answer 2 (some .int) 1 := ⟨⟨cw_968, cw_966, cw_967, cw_90⟩, by decide +kernel, by decide⟩
set_option maxRecDepth 20000 in
theorem sd_X2_answer_0 {G : pj_E} {A : Nat → Prop} {P : pj_P} {S : pj_U} {Z : pj_Z} (C : pj_C (G, A, (c_X2_answer, y_X2_answer.cls, 2, (some .int), 15), P, S, Z)) : ∀ q ∈ tb_X2_answer_0, pj_S (G, A, (c_X2_answer, y_X2_answer.cls, 2, (some .int), 15), P, S, Z) pj_eI q.1 q.2 :=
  List.forall_mem_cons.mpr ⟨qz_aload_n C (show decode c_X2_answer 0 = .ok (.aload_n 0, 1) by decide +kernel) rfl,
  List.forall_mem_cons.mpr ⟨qz_iload_n C (show decode c_X2_answer 1 = .ok (.iload_n 1, 1) by decide +kernel) rfl,
  List.forall_mem_cons.mpr ⟨qz_ifne C (show decode c_X2_answer 2 = .ok (.ifCond .ne 10, 3) by decide +kernel) (by decide),
  List.forall_mem_cons.mpr ⟨qz_aload_n C (show decode c_X2_answer 5 = .ok (.aload_n 0, 1) by decide +kernel) rfl,
  List.forall_mem_cons.mpr ⟨qz_vI C (show decode c_X2_answer 6 = .ok (.invokevirtual 31, 3) by decide +kernel) ct_X2_sizeBody mv_X2_sizeBody cw_969 vcX2 (show 1 < 15 by omega),
  List.forall_mem_cons.mpr ⟨qz_goto C (show decode c_X2_answer 9 = .ok (.goto 7, 3) by decide +kernel) (by decide),
  List.forall_mem_cons.mpr ⟨qz_aload_n C (show decode c_X2_answer 12 = .ok (.aload_n 0, 1) by decide +kernel) rfl,
  List.forall_mem_cons.mpr ⟨qz_vI C (show decode c_X2_answer 13 = .ok (.invokevirtual 35, 3) by decide +kernel) ct_X2_markBody mv_X2_markBody cw_973 vcX2 (show 1 < 15 by omega),
  List.forall_mem_cons.mpr ⟨qz_iconst C (show decode c_X2_answer 16 = .ok (.iconst 0, 1) by decide +kernel) (by decide +kernel),
  List.forall_mem_cons.mpr ⟨qz_vI C (show decode c_X2_answer 17 = .ok (.invokevirtual 38, 3) by decide +kernel) (ct_X2_body 12) mv_X2_body cw_977 vcX2 (show 2 + 12 < 15 by omega),
  List.forall_mem_cons.mpr ⟨qz_iret C (show decode c_X2_answer 20 = .ok (.ireturn, 1) by decide +kernel) rfl,
  (fun q h => by cases h)⟩⟩⟩⟩⟩⟩⟩⟩⟩⟩⟩
theorem sd_X2_answer {G : pj_E} {A : Nat → Prop} {P : pj_P} {S : pj_U} {Z : pj_Z} (C : pj_C (G, A, (c_X2_answer, y_X2_answer.cls, 2, (some .int), 15), P, S, Z)) : ∀ q ∈ tb_X2_answer, pj_S (G, A, (c_X2_answer, y_X2_answer.cls, 2, (some .int), 15), P, S, Z) pj_eI q.1 q.2 := sd_X2_answer_0 C
set_option maxRecDepth 20000 in
theorem eq_X2_answer (x1 : Int32) (m : pj_M) : pj_run tb_X2_answer [] 13 0 [some (.inr (.inr (0, 2, 56))), some (.inl x1)] [] m = F_X2_answer x1 m := by rfl
theorem ct_X2_answer : pj_Ct pj_eI y_X2_answer c_X2_answer 2 (some .int) 15 W_X2_answer := by
  refine pj_ct_of (by decide +kernel) ?_ ?_
  · intro as m r h
    unfold W_X2_answer at h
    split at h
    · simp [pj_l0]
    · cases h
  · intro G A P S Z C as m r h hR
    unfold W_X2_answer at h
    split at h
    · split at h
      · rename_i hbq
        simp only [Bool.and_eq_true, Nat.beq_eq] at hbq
        obtain ⟨rfl, rfl, rfl⟩ := hbq
        exact pj_run_ok (sd_X2_answer C) (fun q h => by cases h) 13 0 _ _ _ _ ((eq_X2_answer _ _).trans h) hR
      · cases h
    · cases h
/-! AlikeSteps$Asker.traceAt(I)I -/
abbrev c_X2_traceAt : ByteArray := prog_4_method_4_code
def y_X2_traceAt : MethodName := ⟨RX2, "traceAt", "(I)I"⟩
noncomputable def F_X2_traceAt (x1 : Int32) (m : pj_M) : Option (Int32 × pj_M) := (if x1 < 0 then (some ((-1000000), m)) else (if x1 < (m.1 56 1) then (if x1 < 0 ∨ 16 ≤ x1.toNatClampNeg then none else (some (m.1 57 x1.toNatClampNeg, m))) else (some ((-1000000), m))))
noncomputable def W_X2_traceAt : List pj_V → pj_M → Option (Int32 × pj_M) := fun as m => match as with
  | [.inr (.inr (t0, w0, a0)), .inl x1] => (match Nat.beq t0 0 && (Nat.beq w0 2 && (Nat.beq a0 56)) with
    | true => F_X2_traceAt x1 m
    | false => none)
  | _ => none
noncomputable def tb_X2_traceAt_0 : List (Nat × pj_T (Int32 × pj_M)) := [(0, qs_ldi 1 1), (1, qs_iflt 21 4), (4, qs_ldi 1 5), (5, qs_lda 0 6), (6, qs_gf 2 1 9), (9, qs_icge 21 12), (12, qs_lda 0 13), (13, qs_gf 2 0 16), (16, qs_ldi 1 17), (17, qs_iald 18), (18, qs_go 23), (21, qs_ci (-1000000) 23), (23, qs_iret)]
noncomputable abbrev tb_X2_traceAt : List (Nat × pj_T (Int32 × pj_M)) := tb_X2_traceAt_0
theorem mv_X2_traceAt : pj_mv y_X2_traceAt c_X2_traceAt 2 (some .int) 1 := ⟨⟨cw_992, cw_990, cw_991, cw_90⟩, by decide +kernel, by decide⟩
set_option maxRecDepth 20000 in
theorem sd_X2_traceAt_0 {G : pj_E} {A : Nat → Prop} {P : pj_P} {S : pj_U} {Z : pj_Z} (C : pj_C (G, A, (c_X2_traceAt, y_X2_traceAt.cls, 2, (some .int), 1), P, S, Z)) : ∀ q ∈ tb_X2_traceAt_0, pj_S (G, A, (c_X2_traceAt, y_X2_traceAt.cls, 2, (some .int), 1), P, S, Z) pj_eI q.1 q.2 :=
  List.forall_mem_cons.mpr ⟨qz_iload_n C (show decode c_X2_traceAt 0 = .ok (.iload_n 1, 1) by decide +kernel) rfl,
  List.forall_mem_cons.mpr ⟨qz_iflt C (show decode c_X2_traceAt 1 = .ok (.ifCond .lt 20, 3) by decide +kernel) (by decide),
  List.forall_mem_cons.mpr ⟨qz_iload_n C (show decode c_X2_traceAt 4 = .ok (.iload_n 1, 1) by decide +kernel) rfl,
  List.forall_mem_cons.mpr ⟨qz_aload_n C (show decode c_X2_traceAt 5 = .ok (.aload_n 0, 1) by decide +kernel) rfl,
  List.forall_mem_cons.mpr ⟨qz_gf (k := 1) C (show decode c_X2_traceAt 6 = .ok (.getfield 15, 3) by decide +kernel) vcX2 wiX2 (by decide) cw_272,
  List.forall_mem_cons.mpr ⟨qz_icge C (show decode c_X2_traceAt 9 = .ok (.if_icmp .ge 12, 3) by decide +kernel) (by decide),
  List.forall_mem_cons.mpr ⟨qz_aload_n C (show decode c_X2_traceAt 12 = .ok (.aload_n 0, 1) by decide +kernel) rfl,
  List.forall_mem_cons.mpr ⟨qz_gf (k := 0) C (show decode c_X2_traceAt 13 = .ok (.getfield 11, 3) by decide +kernel) vcX2 wiX2 (by decide) cw_271,
  List.forall_mem_cons.mpr ⟨qz_iload_n C (show decode c_X2_traceAt 16 = .ok (.iload_n 1, 1) by decide +kernel) rfl,
  List.forall_mem_cons.mpr ⟨qz_iald C (show decode c_X2_traceAt 17 = .ok (.iaload, 1) by decide +kernel),
  List.forall_mem_cons.mpr ⟨qz_goto C (show decode c_X2_traceAt 18 = .ok (.goto 5, 3) by decide +kernel) (by decide),
  List.forall_mem_cons.mpr ⟨qz_ldc C (show decode c_X2_traceAt 21 = .ok (.ldc 42, 2) by decide +kernel) cw_993,
  List.forall_mem_cons.mpr ⟨qz_iret C (show decode c_X2_traceAt 23 = .ok (.ireturn, 1) by decide +kernel) rfl,
  (fun q h => by cases h)⟩⟩⟩⟩⟩⟩⟩⟩⟩⟩⟩⟩⟩
theorem sd_X2_traceAt {G : pj_E} {A : Nat → Prop} {P : pj_P} {S : pj_U} {Z : pj_Z} (C : pj_C (G, A, (c_X2_traceAt, y_X2_traceAt.cls, 2, (some .int), 1), P, S, Z)) : ∀ q ∈ tb_X2_traceAt, pj_S (G, A, (c_X2_traceAt, y_X2_traceAt.cls, 2, (some .int), 1), P, S, Z) pj_eI q.1 q.2 := sd_X2_traceAt_0 C
set_option maxRecDepth 20000 in
theorem eq_X2_traceAt (x1 : Int32) (m : pj_M) : pj_run tb_X2_traceAt [] 15 0 [some (.inr (.inr (0, 2, 56))), some (.inl x1)] [] m = F_X2_traceAt x1 m := by rfl
theorem ct_X2_traceAt : pj_Ct pj_eI y_X2_traceAt c_X2_traceAt 2 (some .int) 1 W_X2_traceAt := by
  refine pj_ct_of (by decide +kernel) ?_ ?_
  · intro as m r h
    unfold W_X2_traceAt at h
    split at h
    · simp [pj_l0]
    · cases h
  · intro G A P S Z C as m r h hR
    unfold W_X2_traceAt at h
    split at h
    · split at h
      · rename_i hbq
        simp only [Bool.and_eq_true, Nat.beq_eq] at hbq
        obtain ⟨rfl, rfl, rfl⟩ := hbq
        exact pj_run_ok (sd_X2_traceAt C) (fun q h => by cases h) 15 0 _ _ _ _ ((eq_X2_traceAt _ _).trans h) hR
      · cases h
    · cases h
/-! AlikeSteps$Formula.begin(III)V -/
abbrev c_X3_begin : ByteArray := prog_5_method_2_code
def y_X3_begin : MethodName := ⟨RX3, "begin", "(III)V"⟩
noncomputable def F_X3_begin (x1 : Int32) (x2 : Int32) (x3 : Int32) (m : pj_M) : Option (pj_M) := (some (pj_wr (pj_wr (pj_wr (pj_wr (pj_wr (pj_wr m 54 1 x1) 54 2 x2) 54 3 x3) 54 4 0) 54 6 0) 54 7 0))
noncomputable def W_X3_begin : List pj_V → pj_M → Option (pj_M) := fun as m => match as with
  | [.inr (.inr (t0, w0, a0)), .inl x1, .inl x2, .inl x3] => (match Nat.beq t0 0 && (Nat.beq w0 3 && (Nat.beq a0 54)) with
    | true => F_X3_begin x1 x2 x3 m
    | false => none)
  | _ => none
noncomputable def tb_X3_begin_0 : List (Nat × pj_T (pj_M)) := [(0, qs_lda 0 1), (1, qs_ldi 1 2), (2, qs_pf 3 1 5), (5, qs_lda 0 6), (6, qs_ldi 2 7), (7, qs_pf 3 2 10), (10, qs_lda 0 11), (11, qs_ldi 3 12), (12, qs_pf 3 3 15), (15, qs_lda 0 16), (16, qs_ci 0 17), (17, qs_pf 3 4 20), (20, qs_lda 0 21), (21, qs_ci 0 22), (22, qs_pz 3 6 25), (25, qs_lda 0 26), (26, qs_ci 0 27), (27, qs_pz 3 7 30), (30, qs_vret)]
noncomputable abbrev tb_X3_begin : List (Nat × pj_T (pj_M)) := tb_X3_begin_0
theorem mv_X3_begin : pj_mv y_X3_begin c_X3_begin 4 none 3 := ⟨⟨cw_851, cw_849, cw_850, cw_89⟩, by decide +kernel, by decide⟩
set_option maxRecDepth 20000 in
theorem sd_X3_begin_0 {G : pj_E} {A : Nat → Prop} {P : pj_P} {S : pj_U} {Z : pj_Z} (C : pj_C (G, A, (c_X3_begin, y_X3_begin.cls, 4, none, 1), P, S, Z)) : ∀ q ∈ tb_X3_begin_0, pj_S (G, A, (c_X3_begin, y_X3_begin.cls, 4, none, 1), P, S, Z) pj_eV q.1 q.2 :=
  List.forall_mem_cons.mpr ⟨qz_aload_n C (show decode c_X3_begin 0 = .ok (.aload_n 0, 1) by decide +kernel) rfl,
  List.forall_mem_cons.mpr ⟨qz_iload_n C (show decode c_X3_begin 1 = .ok (.iload_n 1, 1) by decide +kernel) rfl,
  List.forall_mem_cons.mpr ⟨qz_pf (k := 1) C (show decode c_X3_begin 2 = .ok (.putfield 15, 3) by decide +kernel) vcX3 wiX3 tyX3_ok nmX3 (by decide) cw_241 rfl rfl,
  List.forall_mem_cons.mpr ⟨qz_aload_n C (show decode c_X3_begin 5 = .ok (.aload_n 0, 1) by decide +kernel) rfl,
  List.forall_mem_cons.mpr ⟨qz_iload_n C (show decode c_X3_begin 6 = .ok (.iload_n 2, 1) by decide +kernel) rfl,
  List.forall_mem_cons.mpr ⟨qz_pf (k := 2) C (show decode c_X3_begin 7 = .ok (.putfield 19, 3) by decide +kernel) vcX3 wiX3 tyX3_ok nmX3 (by decide) cw_242 rfl rfl,
  List.forall_mem_cons.mpr ⟨qz_aload_n C (show decode c_X3_begin 10 = .ok (.aload_n 0, 1) by decide +kernel) rfl,
  List.forall_mem_cons.mpr ⟨qz_iload_n C (show decode c_X3_begin 11 = .ok (.iload_n 3, 1) by decide +kernel) rfl,
  List.forall_mem_cons.mpr ⟨qz_pf (k := 3) C (show decode c_X3_begin 12 = .ok (.putfield 22, 3) by decide +kernel) vcX3 wiX3 tyX3_ok nmX3 (by decide) cw_243 rfl rfl,
  List.forall_mem_cons.mpr ⟨qz_aload_n C (show decode c_X3_begin 15 = .ok (.aload_n 0, 1) by decide +kernel) rfl,
  List.forall_mem_cons.mpr ⟨qz_iconst C (show decode c_X3_begin 16 = .ok (.iconst 0, 1) by decide +kernel) (by decide +kernel),
  List.forall_mem_cons.mpr ⟨qz_pf (k := 4) C (show decode c_X3_begin 17 = .ok (.putfield 25, 3) by decide +kernel) vcX3 wiX3 tyX3_ok nmX3 (by decide) cw_244 rfl rfl,
  List.forall_mem_cons.mpr ⟨qz_aload_n C (show decode c_X3_begin 20 = .ok (.aload_n 0, 1) by decide +kernel) rfl,
  List.forall_mem_cons.mpr ⟨qz_iconst C (show decode c_X3_begin 21 = .ok (.iconst 0, 1) by decide +kernel) (by decide +kernel),
  List.forall_mem_cons.mpr ⟨qz_pz (k := 6) C (show decode c_X3_begin 22 = .ok (.putfield 31, 3) by decide +kernel) vcX3 wiX3 tyX3_ok nmX3 (by decide) cw_246 rfl rfl,
  List.forall_mem_cons.mpr ⟨qz_aload_n C (show decode c_X3_begin 25 = .ok (.aload_n 0, 1) by decide +kernel) rfl,
  List.forall_mem_cons.mpr ⟨qz_iconst C (show decode c_X3_begin 26 = .ok (.iconst 0, 1) by decide +kernel) (by decide +kernel),
  List.forall_mem_cons.mpr ⟨qz_pz (k := 7) C (show decode c_X3_begin 27 = .ok (.putfield 35, 3) by decide +kernel) vcX3 wiX3 tyX3_ok nmX3 (by decide) cw_247 rfl rfl,
  List.forall_mem_cons.mpr ⟨qz_vret C (show decode c_X3_begin 30 = .ok (.return_, 1) by decide +kernel) rfl,
  (fun q h => by cases h)⟩⟩⟩⟩⟩⟩⟩⟩⟩⟩⟩⟩⟩⟩⟩⟩⟩⟩⟩
theorem sd_X3_begin {G : pj_E} {A : Nat → Prop} {P : pj_P} {S : pj_U} {Z : pj_Z} (C : pj_C (G, A, (c_X3_begin, y_X3_begin.cls, 4, none, 1), P, S, Z)) : ∀ q ∈ tb_X3_begin, pj_S (G, A, (c_X3_begin, y_X3_begin.cls, 4, none, 1), P, S, Z) pj_eV q.1 q.2 := sd_X3_begin_0 C
set_option maxRecDepth 20000 in
theorem eq_X3_begin (x1 : Int32) (x2 : Int32) (x3 : Int32) (m : pj_M) : pj_run tb_X3_begin [] 21 0 [some (.inr (.inr (0, 3, 54))), some (.inl x1), some (.inl x2), some (.inl x3)] [] m = F_X3_begin x1 x2 x3 m := by rfl
theorem ct_X3_begin : pj_Ct pj_eV y_X3_begin c_X3_begin 4 none 1 W_X3_begin := by
  refine pj_ct_of (by decide +kernel) ?_ ?_
  · intro as m r h
    unfold W_X3_begin at h
    split at h
    · simp [pj_l0]
    · cases h
  · intro G A P S Z C as m r h hR
    unfold W_X3_begin at h
    split at h
    · split at h
      · rename_i hbq
        simp only [Bool.and_eq_true, Nat.beq_eq] at hbq
        obtain ⟨rfl, rfl, rfl⟩ := hbq
        exact pj_run_ok (sd_X3_begin C) (fun q h => by cases h) 21 0 _ _ _ _ ((eq_X3_begin _ _ _ _).trans h) hR
      · cases h
    · cases h
/-! AlikeSteps$Formula.push(I)V -/
abbrev c_X3_push : ByteArray := prog_5_method_6_code
def y_X3_push : MethodName := ⟨RX3, "push", "(I)V"⟩
noncomputable def F_X3_push (x1 : Int32) (m : pj_M) : Option (pj_M) := (if (m.1 54 4) < 30 then (if (m.1 54 4) < 0 ∨ 30 ≤ (m.1 54 4).toNatClampNeg then none else (some (pj_wr (pj_wr m 55 (m.1 54 4).toNatClampNeg x1) 54 4 (((pj_wr m 55 (m.1 54 4).toNatClampNeg x1).1 54 4) + 1)))) else (some (pj_wr m 54 7 1)))
noncomputable def W_X3_push : List pj_V → pj_M → Option (pj_M) := fun as m => match as with
  | [.inr (.inr (t0, w0, a0)), .inl x1] => (match Nat.beq t0 0 && (Nat.beq w0 3 && (Nat.beq a0 54)) with
    | true => F_X3_push x1 m
    | false => none)
  | _ => none
noncomputable def tb_X3_push_0 : List (Nat × pj_T (pj_M)) := [(0, qs_lda 0 1), (1, qs_gf 3 4 4), (4, qs_ci 30 6), (6, qs_icge 32 9), (9, qs_lda 0 10), (10, qs_gf 3 0 13), (13, qs_lda 0 14), (14, qs_gf 3 4 17), (17, qs_ldi 1 18), (18, qs_iast 19), (19, qs_lda 0 20), (20, qs_dup 21), (21, qs_gf 3 4 24), (24, qs_ci 1 25), (25, qs_b2 (fun x y => x + y) 26), (26, qs_pf 3 4 29), (29, qs_go 37), (32, qs_lda 0 33), (33, qs_ci 1 34), (34, qs_pz 3 7 37), (37, qs_vret)]
noncomputable abbrev tb_X3_push : List (Nat × pj_T (pj_M)) := tb_X3_push_0
theorem mv_X3_push : pj_mv y_X3_push c_X3_push 2 none 1 := ⟨⟨cw_868, cw_867, cw_24, cw_89⟩, by decide +kernel, by decide⟩
set_option maxRecDepth 20000 in
theorem sd_X3_push_0 {G : pj_E} {A : Nat → Prop} {P : pj_P} {S : pj_U} {Z : pj_Z} (C : pj_C (G, A, (c_X3_push, y_X3_push.cls, 2, none, 1), P, S, Z)) : ∀ q ∈ tb_X3_push_0, pj_S (G, A, (c_X3_push, y_X3_push.cls, 2, none, 1), P, S, Z) pj_eV q.1 q.2 :=
  List.forall_mem_cons.mpr ⟨qz_aload_n C (show decode c_X3_push 0 = .ok (.aload_n 0, 1) by decide +kernel) rfl,
  List.forall_mem_cons.mpr ⟨qz_gf (k := 4) C (show decode c_X3_push 1 = .ok (.getfield 25, 3) by decide +kernel) vcX3 wiX3 (by decide) cw_244,
  List.forall_mem_cons.mpr ⟨qz_bipush C (show decode c_X3_push 4 = .ok (.bipush 30, 2) by decide +kernel) (by decide +kernel),
  List.forall_mem_cons.mpr ⟨qz_icge C (show decode c_X3_push 6 = .ok (.if_icmp .ge 26, 3) by decide +kernel) (by decide),
  List.forall_mem_cons.mpr ⟨qz_aload_n C (show decode c_X3_push 9 = .ok (.aload_n 0, 1) by decide +kernel) rfl,
  List.forall_mem_cons.mpr ⟨qz_gf (k := 0) C (show decode c_X3_push 10 = .ok (.getfield 11, 3) by decide +kernel) vcX3 wiX3 (by decide) cw_240,
  List.forall_mem_cons.mpr ⟨qz_aload_n C (show decode c_X3_push 13 = .ok (.aload_n 0, 1) by decide +kernel) rfl,
  List.forall_mem_cons.mpr ⟨qz_gf (k := 4) C (show decode c_X3_push 14 = .ok (.getfield 25, 3) by decide +kernel) vcX3 wiX3 (by decide) cw_244,
  List.forall_mem_cons.mpr ⟨qz_iload_n C (show decode c_X3_push 17 = .ok (.iload_n 1, 1) by decide +kernel) rfl,
  List.forall_mem_cons.mpr ⟨qz_iast C (show decode c_X3_push 18 = .ok (.iastore, 1) by decide +kernel),
  List.forall_mem_cons.mpr ⟨qz_aload_n C (show decode c_X3_push 19 = .ok (.aload_n 0, 1) by decide +kernel) rfl,
  List.forall_mem_cons.mpr ⟨qz_dup C (show decode c_X3_push 20 = .ok (.dup, 1) by decide +kernel),
  List.forall_mem_cons.mpr ⟨qz_gf (k := 4) C (show decode c_X3_push 21 = .ok (.getfield 25, 3) by decide +kernel) vcX3 wiX3 (by decide) cw_244,
  List.forall_mem_cons.mpr ⟨qz_iconst C (show decode c_X3_push 24 = .ok (.iconst 1, 1) by decide +kernel) (by decide +kernel),
  List.forall_mem_cons.mpr ⟨qz_iadd C (show decode c_X3_push 25 = .ok (.iadd, 1) by decide +kernel),
  List.forall_mem_cons.mpr ⟨qz_pf (k := 4) C (show decode c_X3_push 26 = .ok (.putfield 25, 3) by decide +kernel) vcX3 wiX3 tyX3_ok nmX3 (by decide) cw_244 rfl rfl,
  List.forall_mem_cons.mpr ⟨qz_goto C (show decode c_X3_push 29 = .ok (.goto 8, 3) by decide +kernel) (by decide),
  List.forall_mem_cons.mpr ⟨qz_aload_n C (show decode c_X3_push 32 = .ok (.aload_n 0, 1) by decide +kernel) rfl,
  List.forall_mem_cons.mpr ⟨qz_iconst C (show decode c_X3_push 33 = .ok (.iconst 1, 1) by decide +kernel) (by decide +kernel),
  List.forall_mem_cons.mpr ⟨qz_pz (k := 7) C (show decode c_X3_push 34 = .ok (.putfield 35, 3) by decide +kernel) vcX3 wiX3 tyX3_ok nmX3 (by decide) cw_247 rfl rfl,
  List.forall_mem_cons.mpr ⟨qz_vret C (show decode c_X3_push 37 = .ok (.return_, 1) by decide +kernel) rfl,
  (fun q h => by cases h)⟩⟩⟩⟩⟩⟩⟩⟩⟩⟩⟩⟩⟩⟩⟩⟩⟩⟩⟩⟩⟩
theorem sd_X3_push {G : pj_E} {A : Nat → Prop} {P : pj_P} {S : pj_U} {Z : pj_Z} (C : pj_C (G, A, (c_X3_push, y_X3_push.cls, 2, none, 1), P, S, Z)) : ∀ q ∈ tb_X3_push, pj_S (G, A, (c_X3_push, y_X3_push.cls, 2, none, 1), P, S, Z) pj_eV q.1 q.2 := sd_X3_push_0 C
set_option maxRecDepth 20000 in
theorem eq_X3_push (x1 : Int32) (m : pj_M) : pj_run tb_X3_push [] 23 0 [some (.inr (.inr (0, 3, 54))), some (.inl x1)] [] m = F_X3_push x1 m := by rfl
theorem ct_X3_push : pj_Ct pj_eV y_X3_push c_X3_push 2 none 1 W_X3_push := by
  refine pj_ct_of (by decide +kernel) ?_ ?_
  · intro as m r h
    unfold W_X3_push at h
    split at h
    · simp [pj_l0]
    · cases h
  · intro G A P S Z C as m r h hR
    unfold W_X3_push at h
    split at h
    · split at h
      · rename_i hbq
        simp only [Bool.and_eq_true, Nat.beq_eq] at hbq
        obtain ⟨rfl, rfl, rfl⟩ := hbq
        exact pj_run_ok (sd_X3_push C) (fun q h => by cases h) 23 0 _ _ _ _ ((eq_X3_push _ _).trans h) hR
      · cases h
    · cases h
/-! AlikeSteps$Formula.takeList(I)V -/
abbrev c_X3_takeList : ByteArray := prog_5_method_7_code
def y_X3_takeList : MethodName := ⟨RX3, "takeList", "(I)V"⟩
noncomputable def H_X3_takeList_24 : Nat → Int32 → Int32 → pj_M → Option (pj_M)
  | 0, _, _, _ => none
  | n1 + 1, x1, x2, m => (if x2 < x1 then (if ((pj_wr m 54 4 ((m.1 54 4) - 1)).1 54 4) < 0 ∨ 30 ≤ ((pj_wr m 54 4 ((m.1 54 4) - 1)).1 54 4).toNatClampNeg then none else (H_X3_takeList_24 n1 x1 (x2 + 1) (pj_wr (pj_wr m 54 4 ((m.1 54 4) - 1)) 54 5 (((pj_wr m 54 4 ((m.1 54 4) - 1)).1 54 5) &&& ((pj_wr m 54 4 ((m.1 54 4) - 1)).1 55 ((pj_wr m 54 4 ((m.1 54 4) - 1)).1 54 4).toNatClampNeg))))) else (some (pj_wr m 54 6 1)))
noncomputable def F_X3_takeList (x1 : Int32) (m : pj_M) : Option (pj_M) := (if (m.1 54 4) < x1 then (some (pj_wr m 54 7 1)) else (H_X3_takeList_24 pj_z x1 0 (pj_wr m 54 5 (m.1 54 2))))
noncomputable def W_X3_takeList : List pj_V → pj_M → Option (pj_M) := fun as m => match as with
  | [.inr (.inr (t0, w0, a0)), .inl x1] => (match Nat.beq t0 0 && (Nat.beq w0 3 && (Nat.beq a0 54)) with
    | true => F_X3_takeList x1 m
    | false => none)
  | _ => none
noncomputable def tb_X3_takeList_0 : List (Nat × pj_T (pj_M)) := [(0, qs_ldi 1 1), (1, qs_lda 0 2), (2, qs_gf 3 4 5), (5, qs_icle 14 8), (8, qs_lda 0 9), (9, qs_ci 1 10), (10, qs_pz 3 7 13), (13, qs_vret), (14, qs_lda 0 15), (15, qs_lda 0 16), (16, qs_gf 3 2 19), (19, qs_pf 3 5 22), (22, qs_ci 0 23), (23, qs_sti 2 24), (24, qs_ldi 2 25), (25, qs_ldi 1 26), (26, qs_icge 63 29), (29, qs_lda 0 30), (30, qs_dup 31), (31, qs_gf 3 4 34), (34, qs_ci 1 35), (35, qs_b2 (fun x y => x - y) 36), (36, qs_pf 3 4 39), (39, qs_lda 0 40), (40, qs_dup 41), (41, qs_gf 3 5 44), (44, qs_lda 0 45), (45, qs_gf 3 0 48), (48, qs_lda 0 49), (49, qs_gf 3 4 52), (52, qs_iald 53), (53, qs_b2 (fun x y => x &&& y) 54), (54, qs_pf 3 5 57), (57, qs_inc 2 1 60), (60, qs_go 24), (63, qs_lda 0 64), (64, qs_ci 1 65), (65, qs_pz 3 6 68), (68, qs_vret)]
noncomputable abbrev tb_X3_takeList : List (Nat × pj_T (pj_M)) := tb_X3_takeList_0
theorem mv_X3_takeList : pj_mv y_X3_takeList c_X3_takeList 3 none 1 := ⟨⟨cw_872, cw_871, cw_25, cw_89⟩, by decide +kernel, by decide⟩
set_option maxRecDepth 20000 in
theorem sd_X3_takeList_0 {G : pj_E} {A : Nat → Prop} {P : pj_P} {S : pj_U} {Z : pj_Z} (C : pj_C (G, A, (c_X3_takeList, y_X3_takeList.cls, 3, none, 1), P, S, Z)) : ∀ q ∈ tb_X3_takeList_0, pj_S (G, A, (c_X3_takeList, y_X3_takeList.cls, 3, none, 1), P, S, Z) pj_eV q.1 q.2 :=
  List.forall_mem_cons.mpr ⟨qz_iload_n C (show decode c_X3_takeList 0 = .ok (.iload_n 1, 1) by decide +kernel) rfl,
  List.forall_mem_cons.mpr ⟨qz_aload_n C (show decode c_X3_takeList 1 = .ok (.aload_n 0, 1) by decide +kernel) rfl,
  List.forall_mem_cons.mpr ⟨qz_gf (k := 4) C (show decode c_X3_takeList 2 = .ok (.getfield 25, 3) by decide +kernel) vcX3 wiX3 (by decide) cw_244,
  List.forall_mem_cons.mpr ⟨qz_icle C (show decode c_X3_takeList 5 = .ok (.if_icmp .le 9, 3) by decide +kernel) (by decide),
  List.forall_mem_cons.mpr ⟨qz_aload_n C (show decode c_X3_takeList 8 = .ok (.aload_n 0, 1) by decide +kernel) rfl,
  List.forall_mem_cons.mpr ⟨qz_iconst C (show decode c_X3_takeList 9 = .ok (.iconst 1, 1) by decide +kernel) (by decide +kernel),
  List.forall_mem_cons.mpr ⟨qz_pz (k := 7) C (show decode c_X3_takeList 10 = .ok (.putfield 35, 3) by decide +kernel) vcX3 wiX3 tyX3_ok nmX3 (by decide) cw_247 rfl rfl,
  List.forall_mem_cons.mpr ⟨qz_vret C (show decode c_X3_takeList 13 = .ok (.return_, 1) by decide +kernel) rfl,
  List.forall_mem_cons.mpr ⟨qz_aload_n C (show decode c_X3_takeList 14 = .ok (.aload_n 0, 1) by decide +kernel) rfl,
  List.forall_mem_cons.mpr ⟨qz_aload_n C (show decode c_X3_takeList 15 = .ok (.aload_n 0, 1) by decide +kernel) rfl,
  List.forall_mem_cons.mpr ⟨qz_gf (k := 2) C (show decode c_X3_takeList 16 = .ok (.getfield 19, 3) by decide +kernel) vcX3 wiX3 (by decide) cw_242,
  List.forall_mem_cons.mpr ⟨qz_pf (k := 5) C (show decode c_X3_takeList 19 = .ok (.putfield 28, 3) by decide +kernel) vcX3 wiX3 tyX3_ok nmX3 (by decide) cw_245 rfl rfl,
  List.forall_mem_cons.mpr ⟨qz_iconst C (show decode c_X3_takeList 22 = .ok (.iconst 0, 1) by decide +kernel) (by decide +kernel),
  List.forall_mem_cons.mpr ⟨qz_istore_n C (show decode c_X3_takeList 23 = .ok (.istore_n 2, 1) by decide +kernel) rfl,
  List.forall_mem_cons.mpr ⟨qz_iload_n C (show decode c_X3_takeList 24 = .ok (.iload_n 2, 1) by decide +kernel) rfl,
  List.forall_mem_cons.mpr ⟨qz_iload_n C (show decode c_X3_takeList 25 = .ok (.iload_n 1, 1) by decide +kernel) rfl,
  List.forall_mem_cons.mpr ⟨qz_icge C (show decode c_X3_takeList 26 = .ok (.if_icmp .ge 37, 3) by decide +kernel) (by decide),
  List.forall_mem_cons.mpr ⟨qz_aload_n C (show decode c_X3_takeList 29 = .ok (.aload_n 0, 1) by decide +kernel) rfl,
  List.forall_mem_cons.mpr ⟨qz_dup C (show decode c_X3_takeList 30 = .ok (.dup, 1) by decide +kernel),
  List.forall_mem_cons.mpr ⟨qz_gf (k := 4) C (show decode c_X3_takeList 31 = .ok (.getfield 25, 3) by decide +kernel) vcX3 wiX3 (by decide) cw_244,
  List.forall_mem_cons.mpr ⟨qz_iconst C (show decode c_X3_takeList 34 = .ok (.iconst 1, 1) by decide +kernel) (by decide +kernel),
  List.forall_mem_cons.mpr ⟨qz_isub C (show decode c_X3_takeList 35 = .ok (.isub, 1) by decide +kernel),
  List.forall_mem_cons.mpr ⟨qz_pf (k := 4) C (show decode c_X3_takeList 36 = .ok (.putfield 25, 3) by decide +kernel) vcX3 wiX3 tyX3_ok nmX3 (by decide) cw_244 rfl rfl,
  List.forall_mem_cons.mpr ⟨qz_aload_n C (show decode c_X3_takeList 39 = .ok (.aload_n 0, 1) by decide +kernel) rfl,
  List.forall_mem_cons.mpr ⟨qz_dup C (show decode c_X3_takeList 40 = .ok (.dup, 1) by decide +kernel),
  List.forall_mem_cons.mpr ⟨qz_gf (k := 5) C (show decode c_X3_takeList 41 = .ok (.getfield 28, 3) by decide +kernel) vcX3 wiX3 (by decide) cw_245,
  List.forall_mem_cons.mpr ⟨qz_aload_n C (show decode c_X3_takeList 44 = .ok (.aload_n 0, 1) by decide +kernel) rfl,
  List.forall_mem_cons.mpr ⟨qz_gf (k := 0) C (show decode c_X3_takeList 45 = .ok (.getfield 11, 3) by decide +kernel) vcX3 wiX3 (by decide) cw_240,
  List.forall_mem_cons.mpr ⟨qz_aload_n C (show decode c_X3_takeList 48 = .ok (.aload_n 0, 1) by decide +kernel) rfl,
  List.forall_mem_cons.mpr ⟨qz_gf (k := 4) C (show decode c_X3_takeList 49 = .ok (.getfield 25, 3) by decide +kernel) vcX3 wiX3 (by decide) cw_244,
  List.forall_mem_cons.mpr ⟨qz_iald C (show decode c_X3_takeList 52 = .ok (.iaload, 1) by decide +kernel),
  List.forall_mem_cons.mpr ⟨qz_iand C (show decode c_X3_takeList 53 = .ok (.iand, 1) by decide +kernel),
  List.forall_mem_cons.mpr ⟨qz_pf (k := 5) C (show decode c_X3_takeList 54 = .ok (.putfield 28, 3) by decide +kernel) vcX3 wiX3 tyX3_ok nmX3 (by decide) cw_245 rfl rfl,
  List.forall_mem_cons.mpr ⟨qz_iinc C (show decode c_X3_takeList 57 = .ok (.iinc 2 1, 3) by decide +kernel) (by decide +kernel),
  List.forall_mem_cons.mpr ⟨qz_goto C (show decode c_X3_takeList 60 = .ok (.goto (-36), 3) by decide +kernel) (by decide),
  List.forall_mem_cons.mpr ⟨qz_aload_n C (show decode c_X3_takeList 63 = .ok (.aload_n 0, 1) by decide +kernel) rfl,
  List.forall_mem_cons.mpr ⟨qz_iconst C (show decode c_X3_takeList 64 = .ok (.iconst 1, 1) by decide +kernel) (by decide +kernel),
  List.forall_mem_cons.mpr ⟨qz_pz (k := 6) C (show decode c_X3_takeList 65 = .ok (.putfield 31, 3) by decide +kernel) vcX3 wiX3 tyX3_ok nmX3 (by decide) cw_246 rfl rfl,
  List.forall_mem_cons.mpr ⟨qz_vret C (show decode c_X3_takeList 68 = .ok (.return_, 1) by decide +kernel) rfl,
  (fun q h => by cases h)⟩⟩⟩⟩⟩⟩⟩⟩⟩⟩⟩⟩⟩⟩⟩⟩⟩⟩⟩⟩⟩⟩⟩⟩⟩⟩⟩⟩⟩⟩⟩⟩⟩⟩⟩⟩⟩⟩⟩
theorem sd_X3_takeList {G : pj_E} {A : Nat → Prop} {P : pj_P} {S : pj_U} {Z : pj_Z} (C : pj_C (G, A, (c_X3_takeList, y_X3_takeList.cls, 3, none, 1), P, S, Z)) : ∀ q ∈ tb_X3_takeList, pj_S (G, A, (c_X3_takeList, y_X3_takeList.cls, 3, none, 1), P, S, Z) pj_eV q.1 q.2 := sd_X3_takeList_0 C
noncomputable def C_X3_takeList_24 (f : Int32 → Int32 → pj_M → Option (pj_M)) : pj_N (pj_M) := fun L st m => match L, st with
  | [some (.inr (.inr (t0, w0, a0))), some (.inl x1), some (.inl x2)], [] => (match Nat.beq t0 0 && (Nat.beq w0 3 && (Nat.beq a0 54)) with
    | true => f x1 x2 m
    | false => none)
  | _, _ => none
set_option maxRecDepth 20000 in
theorem eq_X3_takeList_24 (n1 : Nat) (x1 : Int32) (x2 : Int32) (m : pj_M) : pj_run tb_X3_takeList [(24, C_X3_takeList_24 (H_X3_takeList_24 n1))] 41 24 [some (.inr (.inr (0, 3, 54))), some (.inl x1), some (.inl x2)] [] m = H_X3_takeList_24 (n1 + 1) x1 x2 m := by rfl
theorem sg_X3_takeList_24 {G : pj_E} {A : Nat → Prop} {P : pj_P} {S : pj_U} {Z : pj_Z} (C : pj_C (G, A, (c_X3_takeList, y_X3_takeList.cls, 3, none, 1), P, S, Z)) : ∀ n1, pj_G (G, A, (c_X3_takeList, y_X3_takeList.cls, 3, none, 1), P, S, Z) pj_eV 24 (C_X3_takeList_24 (H_X3_takeList_24 n1)) := by
  intro n1
  induction n1 with
  | zero =>
    intro L st m r h hR
    unfold C_X3_takeList_24 at h
    split at h
    · split at h
      · cases h
      · cases h
    · cases h
  | succ n1 ih1 =>
    intro L st m r h hR
    unfold C_X3_takeList_24 at h
    split at h
    · split at h
      · rename_i hbq
        simp only [Bool.and_eq_true, Nat.beq_eq] at hbq
        obtain ⟨rfl, rfl, rfl⟩ := hbq
        exact pj_run_ok (sd_X3_takeList C) (List.forall_mem_cons.mpr ⟨ih1, fun q h => by cases h⟩) 41 24 _ _ _ _ ((eq_X3_takeList_24 _ _ _ _).trans h) hR
      · cases h
    · cases h
set_option maxRecDepth 20000 in
theorem eq_X3_takeList (x1 : Int32) (m : pj_M) : pj_run tb_X3_takeList [(24, C_X3_takeList_24 (H_X3_takeList_24  pj_z))] 41 0 [some (.inr (.inr (0, 3, 54))), some (.inl x1), none] [] m = F_X3_takeList x1 m := by rfl
theorem ct_X3_takeList : pj_Ct pj_eV y_X3_takeList c_X3_takeList 3 none 1 W_X3_takeList := by
  refine pj_ct_of (by decide +kernel) ?_ ?_
  · intro as m r h
    unfold W_X3_takeList at h
    split at h
    · simp [pj_l0]
    · cases h
  · intro G A P S Z C as m r h hR
    unfold W_X3_takeList at h
    split at h
    · split at h
      · rename_i hbq
        simp only [Bool.and_eq_true, Nat.beq_eq] at hbq
        obtain ⟨rfl, rfl, rfl⟩ := hbq
        exact pj_run_ok (sd_X3_takeList C) (List.forall_mem_cons.mpr ⟨sg_X3_takeList_24 C  pj_z, fun q h => by cases h⟩) 41 0 _ _ _ _ ((eq_X3_takeList _ _).trans h) hR
      · cases h
    · cases h
/-! AlikeSteps$Formula.takeBackwards(ILAlikeSteps$Steps;)V -/
abbrev c_X3_takeBackwards : ByteArray := prog_5_method_3_code
def y_X3_takeBackwards : MethodName := ⟨RX3, "takeBackwards", "(ILAlikeSteps$Steps;)V"⟩
noncomputable def J_X3_takeBackwards_135 (x1 : Int32) (m : pj_M) : Option (pj_M) := (if x1 = 30 then ((F_X3_push (m.1 54 3) m).bind fun q1 => (some q1)) else (some (pj_wr m 54 7 1)))
noncomputable def J_X3_takeBackwards_90 (x1 : Int32) (m : pj_M) : Option (pj_M) := (if x1 = 20 then (if (0 : Int32) < (m.1 54 4) then (if ((m.1 54 4) - 1) < 0 ∨ 30 ≤ ((m.1 54 4) - 1).toNatClampNeg then none else (if ((m.1 54 4) - 1) < 0 ∨ 30 ≤ ((m.1 54 4) - 1).toNatClampNeg then none else (some (pj_wr m 55 ((m.1 54 4) - 1).toNatClampNeg ((m.1 54 2) &&& ((m.1 55 ((m.1 54 4) - 1).toNatClampNeg) ^^^ (-1))))))) else (J_X3_takeBackwards_135 x1 m)) else (J_X3_takeBackwards_135 x1 m))
noncomputable def J_X3_takeBackwards_14 (x1 : Int32) (a2 : Nat) (s0 : Int32) (m : pj_M) : Option (pj_M) := (if (m.1 54 7) = 0 then (if s0 = (m.1 54 6) then (if s0 = 0 then (if x1 < 10 then (J_X3_takeBackwards_90 x1 m) else (if (19 : Int32) < x1 then (J_X3_takeBackwards_90 x1 m) else ((F_X3_takeList (x1 - 10) m).bind fun q1 => (some q1)))) else ((F_X7_movingTo a2 ((pj_wr m 54 6 0).1 54 1) x1 ((pj_wr m 54 6 0).1 54 5) (pj_wr m 54 6 0)).bind fun q2 => ((F_X3_push q2.1 q2.2).bind fun q3 => (some q3)))) else (some (pj_wr m 54 7 1))) else (some (pj_wr m 54 7 1)))
noncomputable def F_X3_takeBackwards (x1 : Int32) (a2 : Nat) (m : pj_M) : Option (pj_M) := (if x1 < 0 then (J_X3_takeBackwards_14 x1 a2 0 m) else (if x1 < 4 then (J_X3_takeBackwards_14 x1 a2 1 m) else (J_X3_takeBackwards_14 x1 a2 0 m)))
noncomputable def W_X3_takeBackwards : List pj_V → pj_M → Option (pj_M) := fun as m => match as with
  | [.inr (.inr (t0, w0, a0)), .inl x1, .inr (.inr (t2, w2, a2))] => (match Nat.beq t0 0 && (Nat.beq w0 3 && (Nat.beq a0 54 && (Nat.beq t2 0 && (Nat.beq w2 7)))) with
    | true => F_X3_takeBackwards x1 a2 m
    | false => none)
  | _ => none
noncomputable def tb_X3_takeBackwards_0 : List (Nat × pj_T (pj_M)) := [(0, qs_ldi 1 1), (1, qs_iflt 13 4), (4, qs_ldi 1 5), (5, qs_ci 4 6), (6, qs_icge 13 9), (9, qs_ci 1 10), (10, qs_go 14), (13, qs_ci 0 14), (14, qs_sti 3 15), (15, qs_lda 0 16), (16, qs_gf 3 7 19), (19, qs_ifne 30 22), (22, qs_ldi 3 23), (23, qs_lda 0 24), (24, qs_gf 3 6 27), (27, qs_iceq 38 30), (30, qs_lda 0 31), (31, qs_ci 1 32), (32, qs_pz 3 7 35), (35, qs_go 157), (38, qs_ldi 3 39), (39, qs_ifeq 67 42), (42, qs_lda 0 43), (43, qs_ci 0 44), (44, qs_pz 3 6 47), (47, qs_lda 0 48), (48, qs_lda 2 49), (49, qs_lda 0 50), (50, qs_gf 3 1 53), (53, qs_ldi 1 54), (54, qs_lda 0 55), (55, qs_gf 3 5 58), (58, qs_vI 7 4 W_X7_movingTo 61), (61, qs_vV 3 2 W_X3_push 64), (64, qs_go 157), (67, qs_ldi 1 68), (68, qs_ci 10 70), (70, qs_iclt 90 73), (73, qs_ldi 1 74), (74, qs_ci 19 76)]
noncomputable def tb_X3_takeBackwards_1 : List (Nat × pj_T (pj_M)) := [(76, qs_icgt 90 79), (79, qs_lda 0 80), (80, qs_ldi 1 81), (81, qs_ci 10 83), (83, qs_b2 (fun x y => x - y) 84), (84, qs_vV 3 2 W_X3_takeList 87), (87, qs_go 157), (90, qs_ldi 1 91), (91, qs_ci 20 93), (93, qs_icne 135 96), (96, qs_lda 0 97), (97, qs_gf 3 4 100), (100, qs_ifle 135 103), (103, qs_lda 0 104), (104, qs_gf 3 0 107), (107, qs_lda 0 108), (108, qs_gf 3 4 111), (111, qs_ci 1 112), (112, qs_b2 (fun x y => x - y) 113), (113, qs_lda 0 114), (114, qs_gf 3 2 117), (117, qs_lda 0 118), (118, qs_gf 3 0 121), (121, qs_lda 0 122), (122, qs_gf 3 4 125), (125, qs_ci 1 126), (126, qs_b2 (fun x y => x - y) 127), (127, qs_iald 128), (128, qs_ci (-1) 129), (129, qs_b2 (fun x y => x ^^^ y) 130), (130, qs_b2 (fun x y => x &&& y) 131), (131, qs_iast 132), (132, qs_go 157), (135, qs_ldi 1 136), (136, qs_ci 30 138), (138, qs_icne 152 141), (141, qs_lda 0 142), (142, qs_lda 0 143), (143, qs_gf 3 3 146), (146, qs_vV 3 2 W_X3_push 149)]
noncomputable def tb_X3_takeBackwards_2 : List (Nat × pj_T (pj_M)) := [(149, qs_go 157), (152, qs_lda 0 153), (153, qs_ci 1 154), (154, qs_pz 3 7 157), (157, qs_vret)]
noncomputable def tb_X3_takeBackwards : List (Nat × pj_T (pj_M)) := tb_X3_takeBackwards_0 ++ (tb_X3_takeBackwards_1 ++ (tb_X3_takeBackwards_2))
theorem mv_X3_takeBackwards : pj_mv y_X3_takeBackwards c_X3_takeBackwards 4 none 2 := ⟨⟨cw_859, cw_857, cw_858, cw_89⟩, by decide +kernel, by decide⟩
set_option maxRecDepth 20000 in
theorem sd_X3_takeBackwards_0 {G : pj_E} {A : Nat → Prop} {P : pj_P} {S : pj_U} {Z : pj_Z} (C : pj_C (G, A, (c_X3_takeBackwards, y_X3_takeBackwards.cls, 4, none, 4), P, S, Z)) : ∀ q ∈ tb_X3_takeBackwards_0, pj_S (G, A, (c_X3_takeBackwards, y_X3_takeBackwards.cls, 4, none, 4), P, S, Z) pj_eV q.1 q.2 :=
  List.forall_mem_cons.mpr ⟨qz_iload_n C (show decode c_X3_takeBackwards 0 = .ok (.iload_n 1, 1) by decide +kernel) rfl,
  List.forall_mem_cons.mpr ⟨qz_iflt C (show decode c_X3_takeBackwards 1 = .ok (.ifCond .lt 12, 3) by decide +kernel) (by decide),
  List.forall_mem_cons.mpr ⟨qz_iload_n C (show decode c_X3_takeBackwards 4 = .ok (.iload_n 1, 1) by decide +kernel) rfl,
  List.forall_mem_cons.mpr ⟨qz_iconst C (show decode c_X3_takeBackwards 5 = .ok (.iconst 4, 1) by decide +kernel) (by decide +kernel),
  List.forall_mem_cons.mpr ⟨qz_icge C (show decode c_X3_takeBackwards 6 = .ok (.if_icmp .ge 7, 3) by decide +kernel) (by decide),
  List.forall_mem_cons.mpr ⟨qz_iconst C (show decode c_X3_takeBackwards 9 = .ok (.iconst 1, 1) by decide +kernel) (by decide +kernel),
  List.forall_mem_cons.mpr ⟨qz_goto C (show decode c_X3_takeBackwards 10 = .ok (.goto 4, 3) by decide +kernel) (by decide),
  List.forall_mem_cons.mpr ⟨qz_iconst C (show decode c_X3_takeBackwards 13 = .ok (.iconst 0, 1) by decide +kernel) (by decide +kernel),
  List.forall_mem_cons.mpr ⟨qz_istore_n C (show decode c_X3_takeBackwards 14 = .ok (.istore_n 3, 1) by decide +kernel) rfl,
  List.forall_mem_cons.mpr ⟨qz_aload_n C (show decode c_X3_takeBackwards 15 = .ok (.aload_n 0, 1) by decide +kernel) rfl,
  List.forall_mem_cons.mpr ⟨qz_gf (k := 7) C (show decode c_X3_takeBackwards 16 = .ok (.getfield 35, 3) by decide +kernel) vcX3 wiX3 (by decide) cw_247,
  List.forall_mem_cons.mpr ⟨qz_ifne C (show decode c_X3_takeBackwards 19 = .ok (.ifCond .ne 11, 3) by decide +kernel) (by decide),
  List.forall_mem_cons.mpr ⟨qz_iload_n C (show decode c_X3_takeBackwards 22 = .ok (.iload_n 3, 1) by decide +kernel) rfl,
  List.forall_mem_cons.mpr ⟨qz_aload_n C (show decode c_X3_takeBackwards 23 = .ok (.aload_n 0, 1) by decide +kernel) rfl,
  List.forall_mem_cons.mpr ⟨qz_gf (k := 6) C (show decode c_X3_takeBackwards 24 = .ok (.getfield 31, 3) by decide +kernel) vcX3 wiX3 (by decide) cw_246,
  List.forall_mem_cons.mpr ⟨qz_iceq C (show decode c_X3_takeBackwards 27 = .ok (.if_icmp .eq 11, 3) by decide +kernel) (by decide),
  List.forall_mem_cons.mpr ⟨qz_aload_n C (show decode c_X3_takeBackwards 30 = .ok (.aload_n 0, 1) by decide +kernel) rfl,
  List.forall_mem_cons.mpr ⟨qz_iconst C (show decode c_X3_takeBackwards 31 = .ok (.iconst 1, 1) by decide +kernel) (by decide +kernel),
  List.forall_mem_cons.mpr ⟨qz_pz (k := 7) C (show decode c_X3_takeBackwards 32 = .ok (.putfield 35, 3) by decide +kernel) vcX3 wiX3 tyX3_ok nmX3 (by decide) cw_247 rfl rfl,
  List.forall_mem_cons.mpr ⟨qz_goto C (show decode c_X3_takeBackwards 35 = .ok (.goto 122, 3) by decide +kernel) (by decide),
  List.forall_mem_cons.mpr ⟨qz_iload_n C (show decode c_X3_takeBackwards 38 = .ok (.iload_n 3, 1) by decide +kernel) rfl,
  List.forall_mem_cons.mpr ⟨qz_ifeq C (show decode c_X3_takeBackwards 39 = .ok (.ifCond .eq 28, 3) by decide +kernel) (by decide),
  List.forall_mem_cons.mpr ⟨qz_aload_n C (show decode c_X3_takeBackwards 42 = .ok (.aload_n 0, 1) by decide +kernel) rfl,
  List.forall_mem_cons.mpr ⟨qz_iconst C (show decode c_X3_takeBackwards 43 = .ok (.iconst 0, 1) by decide +kernel) (by decide +kernel),
  List.forall_mem_cons.mpr ⟨qz_pz (k := 6) C (show decode c_X3_takeBackwards 44 = .ok (.putfield 31, 3) by decide +kernel) vcX3 wiX3 tyX3_ok nmX3 (by decide) cw_246 rfl rfl,
  List.forall_mem_cons.mpr ⟨qz_aload_n C (show decode c_X3_takeBackwards 47 = .ok (.aload_n 0, 1) by decide +kernel) rfl,
  List.forall_mem_cons.mpr ⟨qz_aload_n C (show decode c_X3_takeBackwards 48 = .ok (.aload_n 2, 1) by decide +kernel) rfl,
  List.forall_mem_cons.mpr ⟨qz_aload_n C (show decode c_X3_takeBackwards 49 = .ok (.aload_n 0, 1) by decide +kernel) rfl,
  List.forall_mem_cons.mpr ⟨qz_gf (k := 1) C (show decode c_X3_takeBackwards 50 = .ok (.getfield 15, 3) by decide +kernel) vcX3 wiX3 (by decide) cw_241,
  List.forall_mem_cons.mpr ⟨qz_iload_n C (show decode c_X3_takeBackwards 53 = .ok (.iload_n 1, 1) by decide +kernel) rfl,
  List.forall_mem_cons.mpr ⟨qz_aload_n C (show decode c_X3_takeBackwards 54 = .ok (.aload_n 0, 1) by decide +kernel) rfl,
  List.forall_mem_cons.mpr ⟨qz_gf (k := 5) C (show decode c_X3_takeBackwards 55 = .ok (.getfield 28, 3) by decide +kernel) vcX3 wiX3 (by decide) cw_245,
  List.forall_mem_cons.mpr ⟨qz_vI C (show decode c_X3_takeBackwards 58 = .ok (.invokevirtual 38, 3) by decide +kernel) ct_X7_movingTo mv_X7_movingTo cw_860 vcX7 (show 3 < 4 by omega),
  List.forall_mem_cons.mpr ⟨qz_vV C (show decode c_X3_takeBackwards 61 = .ok (.invokevirtual 44, 3) by decide +kernel) ct_X3_push mv_X3_push cw_865 vcX3 (show 1 < 4 by omega),
  List.forall_mem_cons.mpr ⟨qz_goto C (show decode c_X3_takeBackwards 64 = .ok (.goto 93, 3) by decide +kernel) (by decide),
  List.forall_mem_cons.mpr ⟨qz_iload_n C (show decode c_X3_takeBackwards 67 = .ok (.iload_n 1, 1) by decide +kernel) rfl,
  List.forall_mem_cons.mpr ⟨qz_bipush C (show decode c_X3_takeBackwards 68 = .ok (.bipush 10, 2) by decide +kernel) (by decide +kernel),
  List.forall_mem_cons.mpr ⟨qz_iclt C (show decode c_X3_takeBackwards 70 = .ok (.if_icmp .lt 20, 3) by decide +kernel) (by decide),
  List.forall_mem_cons.mpr ⟨qz_iload_n C (show decode c_X3_takeBackwards 73 = .ok (.iload_n 1, 1) by decide +kernel) rfl,
  List.forall_mem_cons.mpr ⟨qz_bipush C (show decode c_X3_takeBackwards 74 = .ok (.bipush 19, 2) by decide +kernel) (by decide +kernel),
  (fun q h => by cases h)⟩⟩⟩⟩⟩⟩⟩⟩⟩⟩⟩⟩⟩⟩⟩⟩⟩⟩⟩⟩⟩⟩⟩⟩⟩⟩⟩⟩⟩⟩⟩⟩⟩⟩⟩⟩⟩⟩⟩⟩
set_option maxRecDepth 20000 in
theorem sd_X3_takeBackwards_1 {G : pj_E} {A : Nat → Prop} {P : pj_P} {S : pj_U} {Z : pj_Z} (C : pj_C (G, A, (c_X3_takeBackwards, y_X3_takeBackwards.cls, 4, none, 4), P, S, Z)) : ∀ q ∈ tb_X3_takeBackwards_1, pj_S (G, A, (c_X3_takeBackwards, y_X3_takeBackwards.cls, 4, none, 4), P, S, Z) pj_eV q.1 q.2 :=
  List.forall_mem_cons.mpr ⟨qz_icgt C (show decode c_X3_takeBackwards 76 = .ok (.if_icmp .gt 14, 3) by decide +kernel) (by decide),
  List.forall_mem_cons.mpr ⟨qz_aload_n C (show decode c_X3_takeBackwards 79 = .ok (.aload_n 0, 1) by decide +kernel) rfl,
  List.forall_mem_cons.mpr ⟨qz_iload_n C (show decode c_X3_takeBackwards 80 = .ok (.iload_n 1, 1) by decide +kernel) rfl,
  List.forall_mem_cons.mpr ⟨qz_bipush C (show decode c_X3_takeBackwards 81 = .ok (.bipush 10, 2) by decide +kernel) (by decide +kernel),
  List.forall_mem_cons.mpr ⟨qz_isub C (show decode c_X3_takeBackwards 83 = .ok (.isub, 1) by decide +kernel),
  List.forall_mem_cons.mpr ⟨qz_vV C (show decode c_X3_takeBackwards 84 = .ok (.invokevirtual 48, 3) by decide +kernel) ct_X3_takeList mv_X3_takeList cw_869 vcX3 (show 1 < 4 by omega),
  List.forall_mem_cons.mpr ⟨qz_goto C (show decode c_X3_takeBackwards 87 = .ok (.goto 70, 3) by decide +kernel) (by decide),
  List.forall_mem_cons.mpr ⟨qz_iload_n C (show decode c_X3_takeBackwards 90 = .ok (.iload_n 1, 1) by decide +kernel) rfl,
  List.forall_mem_cons.mpr ⟨qz_bipush C (show decode c_X3_takeBackwards 91 = .ok (.bipush 20, 2) by decide +kernel) (by decide +kernel),
  List.forall_mem_cons.mpr ⟨qz_icne C (show decode c_X3_takeBackwards 93 = .ok (.if_icmp .ne 42, 3) by decide +kernel) (by decide),
  List.forall_mem_cons.mpr ⟨qz_aload_n C (show decode c_X3_takeBackwards 96 = .ok (.aload_n 0, 1) by decide +kernel) rfl,
  List.forall_mem_cons.mpr ⟨qz_gf (k := 4) C (show decode c_X3_takeBackwards 97 = .ok (.getfield 25, 3) by decide +kernel) vcX3 wiX3 (by decide) cw_244,
  List.forall_mem_cons.mpr ⟨qz_ifle C (show decode c_X3_takeBackwards 100 = .ok (.ifCond .le 35, 3) by decide +kernel) (by decide),
  List.forall_mem_cons.mpr ⟨qz_aload_n C (show decode c_X3_takeBackwards 103 = .ok (.aload_n 0, 1) by decide +kernel) rfl,
  List.forall_mem_cons.mpr ⟨qz_gf (k := 0) C (show decode c_X3_takeBackwards 104 = .ok (.getfield 11, 3) by decide +kernel) vcX3 wiX3 (by decide) cw_240,
  List.forall_mem_cons.mpr ⟨qz_aload_n C (show decode c_X3_takeBackwards 107 = .ok (.aload_n 0, 1) by decide +kernel) rfl,
  List.forall_mem_cons.mpr ⟨qz_gf (k := 4) C (show decode c_X3_takeBackwards 108 = .ok (.getfield 25, 3) by decide +kernel) vcX3 wiX3 (by decide) cw_244,
  List.forall_mem_cons.mpr ⟨qz_iconst C (show decode c_X3_takeBackwards 111 = .ok (.iconst 1, 1) by decide +kernel) (by decide +kernel),
  List.forall_mem_cons.mpr ⟨qz_isub C (show decode c_X3_takeBackwards 112 = .ok (.isub, 1) by decide +kernel),
  List.forall_mem_cons.mpr ⟨qz_aload_n C (show decode c_X3_takeBackwards 113 = .ok (.aload_n 0, 1) by decide +kernel) rfl,
  List.forall_mem_cons.mpr ⟨qz_gf (k := 2) C (show decode c_X3_takeBackwards 114 = .ok (.getfield 19, 3) by decide +kernel) vcX3 wiX3 (by decide) cw_242,
  List.forall_mem_cons.mpr ⟨qz_aload_n C (show decode c_X3_takeBackwards 117 = .ok (.aload_n 0, 1) by decide +kernel) rfl,
  List.forall_mem_cons.mpr ⟨qz_gf (k := 0) C (show decode c_X3_takeBackwards 118 = .ok (.getfield 11, 3) by decide +kernel) vcX3 wiX3 (by decide) cw_240,
  List.forall_mem_cons.mpr ⟨qz_aload_n C (show decode c_X3_takeBackwards 121 = .ok (.aload_n 0, 1) by decide +kernel) rfl,
  List.forall_mem_cons.mpr ⟨qz_gf (k := 4) C (show decode c_X3_takeBackwards 122 = .ok (.getfield 25, 3) by decide +kernel) vcX3 wiX3 (by decide) cw_244,
  List.forall_mem_cons.mpr ⟨qz_iconst C (show decode c_X3_takeBackwards 125 = .ok (.iconst 1, 1) by decide +kernel) (by decide +kernel),
  List.forall_mem_cons.mpr ⟨qz_isub C (show decode c_X3_takeBackwards 126 = .ok (.isub, 1) by decide +kernel),
  List.forall_mem_cons.mpr ⟨qz_iald C (show decode c_X3_takeBackwards 127 = .ok (.iaload, 1) by decide +kernel),
  List.forall_mem_cons.mpr ⟨qz_iconst C (show decode c_X3_takeBackwards 128 = .ok (.iconst (-1), 1) by decide +kernel) (by decide +kernel),
  List.forall_mem_cons.mpr ⟨qz_ixor C (show decode c_X3_takeBackwards 129 = .ok (.ixor, 1) by decide +kernel),
  List.forall_mem_cons.mpr ⟨qz_iand C (show decode c_X3_takeBackwards 130 = .ok (.iand, 1) by decide +kernel),
  List.forall_mem_cons.mpr ⟨qz_iast C (show decode c_X3_takeBackwards 131 = .ok (.iastore, 1) by decide +kernel),
  List.forall_mem_cons.mpr ⟨qz_goto C (show decode c_X3_takeBackwards 132 = .ok (.goto 25, 3) by decide +kernel) (by decide),
  List.forall_mem_cons.mpr ⟨qz_iload_n C (show decode c_X3_takeBackwards 135 = .ok (.iload_n 1, 1) by decide +kernel) rfl,
  List.forall_mem_cons.mpr ⟨qz_bipush C (show decode c_X3_takeBackwards 136 = .ok (.bipush 30, 2) by decide +kernel) (by decide +kernel),
  List.forall_mem_cons.mpr ⟨qz_icne C (show decode c_X3_takeBackwards 138 = .ok (.if_icmp .ne 14, 3) by decide +kernel) (by decide),
  List.forall_mem_cons.mpr ⟨qz_aload_n C (show decode c_X3_takeBackwards 141 = .ok (.aload_n 0, 1) by decide +kernel) rfl,
  List.forall_mem_cons.mpr ⟨qz_aload_n C (show decode c_X3_takeBackwards 142 = .ok (.aload_n 0, 1) by decide +kernel) rfl,
  List.forall_mem_cons.mpr ⟨qz_gf (k := 3) C (show decode c_X3_takeBackwards 143 = .ok (.getfield 22, 3) by decide +kernel) vcX3 wiX3 (by decide) cw_243,
  List.forall_mem_cons.mpr ⟨qz_vV C (show decode c_X3_takeBackwards 146 = .ok (.invokevirtual 44, 3) by decide +kernel) ct_X3_push mv_X3_push cw_865 vcX3 (show 1 < 4 by omega),
  (fun q h => by cases h)⟩⟩⟩⟩⟩⟩⟩⟩⟩⟩⟩⟩⟩⟩⟩⟩⟩⟩⟩⟩⟩⟩⟩⟩⟩⟩⟩⟩⟩⟩⟩⟩⟩⟩⟩⟩⟩⟩⟩⟩
set_option maxRecDepth 20000 in
theorem sd_X3_takeBackwards_2 {G : pj_E} {A : Nat → Prop} {P : pj_P} {S : pj_U} {Z : pj_Z} (C : pj_C (G, A, (c_X3_takeBackwards, y_X3_takeBackwards.cls, 4, none, 4), P, S, Z)) : ∀ q ∈ tb_X3_takeBackwards_2, pj_S (G, A, (c_X3_takeBackwards, y_X3_takeBackwards.cls, 4, none, 4), P, S, Z) pj_eV q.1 q.2 :=
  List.forall_mem_cons.mpr ⟨qz_goto C (show decode c_X3_takeBackwards 149 = .ok (.goto 8, 3) by decide +kernel) (by decide),
  List.forall_mem_cons.mpr ⟨qz_aload_n C (show decode c_X3_takeBackwards 152 = .ok (.aload_n 0, 1) by decide +kernel) rfl,
  List.forall_mem_cons.mpr ⟨qz_iconst C (show decode c_X3_takeBackwards 153 = .ok (.iconst 1, 1) by decide +kernel) (by decide +kernel),
  List.forall_mem_cons.mpr ⟨qz_pz (k := 7) C (show decode c_X3_takeBackwards 154 = .ok (.putfield 35, 3) by decide +kernel) vcX3 wiX3 tyX3_ok nmX3 (by decide) cw_247 rfl rfl,
  List.forall_mem_cons.mpr ⟨qz_vret C (show decode c_X3_takeBackwards 157 = .ok (.return_, 1) by decide +kernel) rfl,
  (fun q h => by cases h)⟩⟩⟩⟩⟩
theorem sd_X3_takeBackwards {G : pj_E} {A : Nat → Prop} {P : pj_P} {S : pj_U} {Z : pj_Z} (C : pj_C (G, A, (c_X3_takeBackwards, y_X3_takeBackwards.cls, 4, none, 4), P, S, Z)) : ∀ q ∈ tb_X3_takeBackwards, pj_S (G, A, (c_X3_takeBackwards, y_X3_takeBackwards.cls, 4, none, 4), P, S, Z) pj_eV q.1 q.2 := List.forall_mem_append.mpr ⟨sd_X3_takeBackwards_0 C, List.forall_mem_append.mpr ⟨sd_X3_takeBackwards_1 C, sd_X3_takeBackwards_2 C⟩⟩
noncomputable def C_X3_takeBackwards_135 (f : Int32 → pj_M → Option (pj_M)) : pj_N (pj_M) := fun L st m => match L, st with
  | [some (.inr (.inr (t0, w0, a0))), some (.inl x1), _, _], [] => (match Nat.beq t0 0 && (Nat.beq w0 3 && (Nat.beq a0 54)) with
    | true => f x1 m
    | false => none)
  | _, _ => none
noncomputable def C_X3_takeBackwards_90 (f : Int32 → pj_M → Option (pj_M)) : pj_N (pj_M) := fun L st m => match L, st with
  | [some (.inr (.inr (t0, w0, a0))), some (.inl x1), _, _], [] => (match Nat.beq t0 0 && (Nat.beq w0 3 && (Nat.beq a0 54)) with
    | true => f x1 m
    | false => none)
  | _, _ => none
noncomputable def C_X3_takeBackwards_14 (f : Int32 → Nat → Int32 → pj_M → Option (pj_M)) : pj_N (pj_M) := fun L st m => match L, st with
  | [some (.inr (.inr (t0, w0, a0))), some (.inl x1), some (.inr (.inr (t2, w2, a2))), _], [.inl s0] => (match Nat.beq t0 0 && (Nat.beq w0 3 && (Nat.beq a0 54 && (Nat.beq t2 0 && (Nat.beq w2 7)))) with
    | true => f x1 a2 s0 m
    | false => none)
  | _, _ => none
set_option maxRecDepth 20000 in
theorem eq_X3_takeBackwards_135 (x1 : Int32) (d2 d3 : Option pj_V) (m : pj_M) : pj_run tb_X3_takeBackwards [] 87 135 [some (.inr (.inr (0, 3, 54))), some (.inl x1), d2, d3] [] m = J_X3_takeBackwards_135 x1 m := by rfl
theorem sg_X3_takeBackwards_135 {G : pj_E} {A : Nat → Prop} {P : pj_P} {S : pj_U} {Z : pj_Z} (C : pj_C (G, A, (c_X3_takeBackwards, y_X3_takeBackwards.cls, 4, none, 4), P, S, Z)) : pj_G (G, A, (c_X3_takeBackwards, y_X3_takeBackwards.cls, 4, none, 4), P, S, Z) pj_eV 135 (C_X3_takeBackwards_135 (J_X3_takeBackwards_135)) := by
  intro L st m r h hR
  unfold C_X3_takeBackwards_135 at h
  split at h
  · split at h
    · rename_i hbq
      simp only [Bool.and_eq_true, Nat.beq_eq] at hbq
      obtain ⟨rfl, rfl, rfl⟩ := hbq
      exact pj_run_ok (sd_X3_takeBackwards C) (fun q h => by cases h) 87 135 _ _ _ _ ((eq_X3_takeBackwards_135 _ _ _ _).trans h) hR
    · cases h
  · cases h
set_option maxRecDepth 20000 in
theorem eq_X3_takeBackwards_90 (x1 : Int32) (d2 d3 : Option pj_V) (m : pj_M) : pj_run tb_X3_takeBackwards [(135, C_X3_takeBackwards_135 (J_X3_takeBackwards_135 ))] 87 90 [some (.inr (.inr (0, 3, 54))), some (.inl x1), d2, d3] [] m = J_X3_takeBackwards_90 x1 m := by rfl
theorem sg_X3_takeBackwards_90 {G : pj_E} {A : Nat → Prop} {P : pj_P} {S : pj_U} {Z : pj_Z} (C : pj_C (G, A, (c_X3_takeBackwards, y_X3_takeBackwards.cls, 4, none, 4), P, S, Z)) : pj_G (G, A, (c_X3_takeBackwards, y_X3_takeBackwards.cls, 4, none, 4), P, S, Z) pj_eV 90 (C_X3_takeBackwards_90 (J_X3_takeBackwards_90)) := by
  intro L st m r h hR
  unfold C_X3_takeBackwards_90 at h
  split at h
  · split at h
    · rename_i hbq
      simp only [Bool.and_eq_true, Nat.beq_eq] at hbq
      obtain ⟨rfl, rfl, rfl⟩ := hbq
      exact pj_run_ok (sd_X3_takeBackwards C) (List.forall_mem_cons.mpr ⟨sg_X3_takeBackwards_135 C , fun q h => by cases h⟩) 87 90 _ _ _ _ ((eq_X3_takeBackwards_90 _ _ _ _).trans h) hR
    · cases h
  · cases h
set_option maxRecDepth 20000 in
theorem eq_X3_takeBackwards_14 (x1 : Int32) (a2 : Nat) (s0 : Int32) (d3 : Option pj_V) (m : pj_M) : pj_run tb_X3_takeBackwards [(90, C_X3_takeBackwards_90 (J_X3_takeBackwards_90 ))] 87 14 [some (.inr (.inr (0, 3, 54))), some (.inl x1), some (.inr (.inr (0, 7, a2))), d3] [.inl s0] m = J_X3_takeBackwards_14 x1 a2 s0 m := by rfl
theorem sg_X3_takeBackwards_14 {G : pj_E} {A : Nat → Prop} {P : pj_P} {S : pj_U} {Z : pj_Z} (C : pj_C (G, A, (c_X3_takeBackwards, y_X3_takeBackwards.cls, 4, none, 4), P, S, Z)) : pj_G (G, A, (c_X3_takeBackwards, y_X3_takeBackwards.cls, 4, none, 4), P, S, Z) pj_eV 14 (C_X3_takeBackwards_14 (J_X3_takeBackwards_14)) := by
  intro L st m r h hR
  unfold C_X3_takeBackwards_14 at h
  split at h
  · split at h
    · rename_i hbq
      simp only [Bool.and_eq_true, Nat.beq_eq] at hbq
      obtain ⟨rfl, rfl, rfl, rfl, rfl⟩ := hbq
      exact pj_run_ok (sd_X3_takeBackwards C) (List.forall_mem_cons.mpr ⟨sg_X3_takeBackwards_90 C , fun q h => by cases h⟩) 87 14 _ _ _ _ ((eq_X3_takeBackwards_14 _ _ _ _ _).trans h) hR
    · cases h
  · cases h
set_option maxRecDepth 20000 in
theorem eq_X3_takeBackwards (x1 : Int32) (a2 : Nat) (m : pj_M) : pj_run tb_X3_takeBackwards [(14, C_X3_takeBackwards_14 (J_X3_takeBackwards_14 ))] 87 0 [some (.inr (.inr (0, 3, 54))), some (.inl x1), some (.inr (.inr (0, 7, a2))), none] [] m = F_X3_takeBackwards x1 a2 m := by rfl
theorem ct_X3_takeBackwards : pj_Ct pj_eV y_X3_takeBackwards c_X3_takeBackwards 4 none 4 W_X3_takeBackwards := by
  refine pj_ct_of (by decide +kernel) ?_ ?_
  · intro as m r h
    unfold W_X3_takeBackwards at h
    split at h
    · simp [pj_l0]
    · cases h
  · intro G A P S Z C as m r h hR
    unfold W_X3_takeBackwards at h
    split at h
    · split at h
      · rename_i hbq
        simp only [Bool.and_eq_true, Nat.beq_eq] at hbq
        obtain ⟨rfl, rfl, rfl, rfl, rfl⟩ := hbq
        exact pj_run_ok (sd_X3_takeBackwards C) (List.forall_mem_cons.mpr ⟨sg_X3_takeBackwards_14 C , fun q h => by cases h⟩) 87 0 _ _ _ _ ((eq_X3_takeBackwards _ _ _).trans h) hR
      · cases h
    · cases h
/-! AlikeSteps$Formula.isOne()Z -/
abbrev c_X3_isOne : ByteArray := prog_5_method_4_code
def y_X3_isOne : MethodName := ⟨RX3, "isOne", "()Z"⟩
noncomputable def F_X3_isOne (m : pj_M) : Option (Int32 × pj_M) := (if (m.1 54 7) = 0 then (if (m.1 54 6) = 0 then (if (m.1 54 4) = 1 then (some (1, m)) else (some (0, m))) else (some (0, m))) else (some (0, m)))
noncomputable def W_X3_isOne : List pj_V → pj_M → Option (Int32 × pj_M) := fun as m => match as with
  | [.inr (.inr (t0, w0, a0))] => (match Nat.beq t0 0 && (Nat.beq w0 3 && (Nat.beq a0 54)) with
    | true => F_X3_isOne m
    | false => none)
  | _ => none
noncomputable def tb_X3_isOne_0 : List (Nat × pj_T (Int32 × pj_M)) := [(0, qs_lda 0 1), (1, qs_gf 3 7 4), (4, qs_ifne 26 7), (7, qs_lda 0 8), (8, qs_gf 3 6 11), (11, qs_ifne 26 14), (14, qs_lda 0 15), (15, qs_gf 3 4 18), (18, qs_ci 1 19), (19, qs_icne 26 22), (22, qs_ci 1 23), (23, qs_go 27), (26, qs_ci 0 27), (27, qs_zret)]
noncomputable abbrev tb_X3_isOne : List (Nat × pj_T (Int32 × pj_M)) := tb_X3_isOne_0
theorem mv_X3_isOne : pj_mv y_X3_isOne c_X3_isOne 1 (some .boolean) 0 := ⟨⟨cw_876, cw_874, cw_875, cw_89⟩, by decide +kernel, by decide⟩
set_option maxRecDepth 20000 in
theorem sd_X3_isOne_0 {G : pj_E} {A : Nat → Prop} {P : pj_P} {S : pj_U} {Z : pj_Z} (C : pj_C (G, A, (c_X3_isOne, y_X3_isOne.cls, 1, (some .boolean), 1), P, S, Z)) : ∀ q ∈ tb_X3_isOne_0, pj_S (G, A, (c_X3_isOne, y_X3_isOne.cls, 1, (some .boolean), 1), P, S, Z) pj_eI q.1 q.2 :=
  List.forall_mem_cons.mpr ⟨qz_aload_n C (show decode c_X3_isOne 0 = .ok (.aload_n 0, 1) by decide +kernel) rfl,
  List.forall_mem_cons.mpr ⟨qz_gf (k := 7) C (show decode c_X3_isOne 1 = .ok (.getfield 35, 3) by decide +kernel) vcX3 wiX3 (by decide) cw_247,
  List.forall_mem_cons.mpr ⟨qz_ifne C (show decode c_X3_isOne 4 = .ok (.ifCond .ne 22, 3) by decide +kernel) (by decide),
  List.forall_mem_cons.mpr ⟨qz_aload_n C (show decode c_X3_isOne 7 = .ok (.aload_n 0, 1) by decide +kernel) rfl,
  List.forall_mem_cons.mpr ⟨qz_gf (k := 6) C (show decode c_X3_isOne 8 = .ok (.getfield 31, 3) by decide +kernel) vcX3 wiX3 (by decide) cw_246,
  List.forall_mem_cons.mpr ⟨qz_ifne C (show decode c_X3_isOne 11 = .ok (.ifCond .ne 15, 3) by decide +kernel) (by decide),
  List.forall_mem_cons.mpr ⟨qz_aload_n C (show decode c_X3_isOne 14 = .ok (.aload_n 0, 1) by decide +kernel) rfl,
  List.forall_mem_cons.mpr ⟨qz_gf (k := 4) C (show decode c_X3_isOne 15 = .ok (.getfield 25, 3) by decide +kernel) vcX3 wiX3 (by decide) cw_244,
  List.forall_mem_cons.mpr ⟨qz_iconst C (show decode c_X3_isOne 18 = .ok (.iconst 1, 1) by decide +kernel) (by decide +kernel),
  List.forall_mem_cons.mpr ⟨qz_icne C (show decode c_X3_isOne 19 = .ok (.if_icmp .ne 7, 3) by decide +kernel) (by decide),
  List.forall_mem_cons.mpr ⟨qz_iconst C (show decode c_X3_isOne 22 = .ok (.iconst 1, 1) by decide +kernel) (by decide +kernel),
  List.forall_mem_cons.mpr ⟨qz_goto C (show decode c_X3_isOne 23 = .ok (.goto 4, 3) by decide +kernel) (by decide),
  List.forall_mem_cons.mpr ⟨qz_iconst C (show decode c_X3_isOne 26 = .ok (.iconst 0, 1) by decide +kernel) (by decide +kernel),
  List.forall_mem_cons.mpr ⟨qz_zret C (show decode c_X3_isOne 27 = .ok (.ireturn, 1) by decide +kernel) rfl,
  (fun q h => by cases h)⟩⟩⟩⟩⟩⟩⟩⟩⟩⟩⟩⟩⟩⟩
theorem sd_X3_isOne {G : pj_E} {A : Nat → Prop} {P : pj_P} {S : pj_U} {Z : pj_Z} (C : pj_C (G, A, (c_X3_isOne, y_X3_isOne.cls, 1, (some .boolean), 1), P, S, Z)) : ∀ q ∈ tb_X3_isOne, pj_S (G, A, (c_X3_isOne, y_X3_isOne.cls, 1, (some .boolean), 1), P, S, Z) pj_eI q.1 q.2 := sd_X3_isOne_0 C
set_option maxRecDepth 20000 in
theorem eq_X3_isOne (m : pj_M) : pj_run tb_X3_isOne [] 16 0 [some (.inr (.inr (0, 3, 54)))] [] m = F_X3_isOne m := by rfl
theorem ct_X3_isOne : pj_Ct pj_eI y_X3_isOne c_X3_isOne 1 (some .boolean) 1 W_X3_isOne := by
  refine pj_ct_of (by decide +kernel) ?_ ?_
  · intro as m r h
    unfold W_X3_isOne at h
    split at h
    · simp [pj_l0]
    · cases h
  · intro G A P S Z C as m r h hR
    unfold W_X3_isOne at h
    split at h
    · split at h
      · rename_i hbq
        simp only [Bool.and_eq_true, Nat.beq_eq] at hbq
        obtain ⟨rfl, rfl, rfl⟩ := hbq
        exact pj_run_ok (sd_X3_isOne C) (fun q h => by cases h) 16 0 _ _ _ _ ((eq_X3_isOne _).trans h) hR
      · cases h
    · cases h
/-! AlikeSteps$Formula.answer()I -/
abbrev c_X3_answer : ByteArray := prog_5_method_5_code
def y_X3_answer : MethodName := ⟨RX3, "answer", "()I"⟩
noncomputable def F_X3_answer (m : pj_M) : Option (Int32 × pj_M) := (if (0 : Int32) < 0 ∨ 30 ≤ (0 : Int32).toNatClampNeg then none else (some (m.1 55 (0 : Int32).toNatClampNeg, m)))
noncomputable def W_X3_answer : List pj_V → pj_M → Option (Int32 × pj_M) := fun as m => match as with
  | [.inr (.inr (t0, w0, a0))] => (match Nat.beq t0 0 && (Nat.beq w0 3 && (Nat.beq a0 54)) with
    | true => F_X3_answer m
    | false => none)
  | _ => none
noncomputable def tb_X3_answer_0 : List (Nat × pj_T (Int32 × pj_M)) := [(0, qs_lda 0 1), (1, qs_gf 3 0 4), (4, qs_ci 0 5), (5, qs_iald 6), (6, qs_iret)]
noncomputable abbrev tb_X3_answer : List (Nat × pj_T (Int32 × pj_M)) := tb_X3_answer_0
theorem mv_X3_answer : pj_mv y_X3_answer c_X3_answer 1 (some .int) 0 := ⟨⟨cw_880, cw_878, cw_879, cw_89⟩, by decide +kernel, by decide⟩
set_option maxRecDepth 20000 in
theorem sd_X3_answer_0 {G : pj_E} {A : Nat → Prop} {P : pj_P} {S : pj_U} {Z : pj_Z} (C : pj_C (G, A, (c_X3_answer, y_X3_answer.cls, 1, (some .int), 1), P, S, Z)) : ∀ q ∈ tb_X3_answer_0, pj_S (G, A, (c_X3_answer, y_X3_answer.cls, 1, (some .int), 1), P, S, Z) pj_eI q.1 q.2 :=
  List.forall_mem_cons.mpr ⟨qz_aload_n C (show decode c_X3_answer 0 = .ok (.aload_n 0, 1) by decide +kernel) rfl,
  List.forall_mem_cons.mpr ⟨qz_gf (k := 0) C (show decode c_X3_answer 1 = .ok (.getfield 11, 3) by decide +kernel) vcX3 wiX3 (by decide) cw_240,
  List.forall_mem_cons.mpr ⟨qz_iconst C (show decode c_X3_answer 4 = .ok (.iconst 0, 1) by decide +kernel) (by decide +kernel),
  List.forall_mem_cons.mpr ⟨qz_iald C (show decode c_X3_answer 5 = .ok (.iaload, 1) by decide +kernel),
  List.forall_mem_cons.mpr ⟨qz_iret C (show decode c_X3_answer 6 = .ok (.ireturn, 1) by decide +kernel) rfl,
  (fun q h => by cases h)⟩⟩⟩⟩⟩
theorem sd_X3_answer {G : pj_E} {A : Nat → Prop} {P : pj_P} {S : pj_U} {Z : pj_Z} (C : pj_C (G, A, (c_X3_answer, y_X3_answer.cls, 1, (some .int), 1), P, S, Z)) : ∀ q ∈ tb_X3_answer, pj_S (G, A, (c_X3_answer, y_X3_answer.cls, 1, (some .int), 1), P, S, Z) pj_eI q.1 q.2 := sd_X3_answer_0 C
set_option maxRecDepth 20000 in
theorem eq_X3_answer (m : pj_M) : pj_run tb_X3_answer [] 7 0 [some (.inr (.inr (0, 3, 54)))] [] m = F_X3_answer m := by rfl
theorem ct_X3_answer : pj_Ct pj_eI y_X3_answer c_X3_answer 1 (some .int) 1 W_X3_answer := by
  refine pj_ct_of (by decide +kernel) ?_ ?_
  · intro as m r h
    unfold W_X3_answer at h
    split at h
    · simp [pj_l0]
    · cases h
  · intro G A P S Z C as m r h hR
    unfold W_X3_answer at h
    split at h
    · split at h
      · rename_i hbq
        simp only [Bool.and_eq_true, Nat.beq_eq] at hbq
        obtain ⟨rfl, rfl, rfl⟩ := hbq
        exact pj_run_ok (sd_X3_answer C) (fun q h => by cases h) 7 0 _ _ _ _ ((eq_X3_answer _).trans h) hR
      · cases h
    · cases h
/-! AlikeSteps$Teller.findLead(LAlikeSteps$Steps;LAlikeSteps$Parting;II)I -/
abbrev c_X9_findLead : ByteArray := prog_11_method_5_code
def y_X9_findLead : MethodName := ⟨RX9, "findLead", "(LAlikeSteps$Steps;LAlikeSteps$Parting;II)I"⟩
noncomputable def J_X9_findLead_94 (x6 : Int32) (x9 : Int32) (m : pj_M) : Option (Int32 × pj_M) := (some ((x6 * 10) + x9, m))
noncomputable def H_X9_findLead_61 (k19 : Nat → Nat → Nat → Int32 → Int32 → Int32 → Int32 → pj_M → Option (Int32 × pj_M)) : Nat → Nat → Nat → Nat → Int32 → Int32 → Int32 → Int32 → Int32 → Int32 → Int32 → pj_M → Option (Int32 × pj_M)
  | 0, _, _, _, _, _, _, _, _, _, _, _ => none
  | n1 + 1, a0, a1, a2, x3, x4, x5, x6, x7, x8, x9, m => (if x9 < 10 then (if ((x7 >>> (x9 &&& 31)) &&& 1) = 0 then (H_X9_findLead_61 k19 n1 a0 a1 a2 x3 x4 x5 x6 x7 x8 (x9 + 1) m) else ((F_X5_blockBehind a2 x5 x9 m).bind fun q1 => (if ((x8 >>> (q1.1 &&& 31)) &&& 1) = 0 then (J_X9_findLead_94 x6 x9 q1.2) else (H_X9_findLead_61 k19 n1 a0 a1 a2 x3 x4 x5 x6 x7 x8 (x9 + 1) q1.2)))) else (k19 a0 a1 a2 x3 x4 x5 (x6 + 1) m))
noncomputable def H_X9_findLead_19 : Nat → Nat → Nat → Nat → Int32 → Int32 → Int32 → Int32 → pj_M → Option (Int32 × pj_M)
  | 0, _, _, _, _, _, _, _, _ => none
  | n1 + 1, a0, a1, a2, x3, x4, x5, x6, m => (if x6 < 4 then ((F_X7_moved a1 (m.1 a0 0) x6 x3 m).bind fun q1 => ((F_X7_moved a1 (q1.2.1 a0 0) x6 x4 q1.2).bind fun q2 => ((F_X5_blocksOf a2 x5 q2.1 q2.2).bind fun q3 => (H_X9_findLead_61 (H_X9_findLead_19 n1) pj_z a0 a1 a2 x3 x4 x5 x6 q1.1 q3.1 0 q3.2)))) else (some ((-1), m)))
noncomputable def F_X9_findLead (a0 : Nat) (a1 : Nat) (a2 : Nat) (x3 : Int32) (x4 : Int32) (m : pj_M) : Option (Int32 × pj_M) := (if ((x3 * 10) + x4) < 0 ∨ 100 ≤ ((x3 * 10) + x4).toNatClampNeg then none else (H_X9_findLead_19 pj_z a0 a1 a2 x3 x4 ((m.1 (a0 + 1) ((x3 * 10) + x4).toNatClampNeg) - 1) 0 m))
noncomputable def W_X9_findLead : List pj_V → pj_M → Option (Int32 × pj_M) := fun as m => match as with
  | [.inr (.inr (t0, w0, a0)), .inr (.inr (t1, w1, a1)), .inr (.inr (t2, w2, a2)), .inl x3, .inl x4] => (match Nat.beq t0 0 && (Nat.beq w0 9 && (Nat.beq t1 0 && (Nat.beq w1 7 && (Nat.beq t2 0 && (Nat.beq w2 5))))) with
    | true => F_X9_findLead a0 a1 a2 x3 x4 m
    | false => none)
  | _ => none
noncomputable def tb_X9_findLead_0 : List (Nat × pj_T (Int32 × pj_M)) := [(0, qs_lda 0 1), (1, qs_gf 9 1 4), (4, qs_ldi 3 5), (5, qs_ci 10 7), (7, qs_b2 (fun x y => x * y) 8), (8, qs_ldi 4 10), (10, qs_b2 (fun x y => x + y) 11), (11, qs_iald 12), (12, qs_ci 1 13), (13, qs_b2 (fun x y => x - y) 14), (14, qs_sti 5 16), (16, qs_ci 0 17), (17, qs_sti 6 19), (19, qs_ldi 6 21), (21, qs_ci 4 22), (22, qs_icge 115 25), (25, qs_lda 1 26), (26, qs_lda 0 27), (27, qs_gf 9 0 30), (30, qs_ldi 6 32), (32, qs_ldi 3 33), (33, qs_vI 7 4 W_X7_moved 36), (36, qs_sti 7 38), (38, qs_lda 2 39), (39, qs_ldi 5 41), (41, qs_lda 1 42), (42, qs_lda 0 43), (43, qs_gf 9 0 46), (46, qs_ldi 6 48), (48, qs_ldi 4 50), (50, qs_vI 7 4 W_X7_moved 53), (53, qs_vI 5 3 W_X5_blocksOf 56), (56, qs_sti 8 58), (58, qs_ci 0 59), (59, qs_sti 9 61), (61, qs_ldi 9 63), (63, qs_ci 10 65), (65, qs_icge 109 68), (68, qs_ldi 7 70), (70, qs_ldi 9 72)]
noncomputable def tb_X9_findLead_1 : List (Nat × pj_T (Int32 × pj_M)) := [(72, qs_b2 (fun x y => x >>> (y &&& 31)) 73), (73, qs_ci 1 74), (74, qs_b2 (fun x y => x &&& y) 75), (75, qs_ifeq 103 78), (78, qs_ldi 8 80), (80, qs_lda 2 81), (81, qs_ldi 5 83), (83, qs_ldi 9 85), (85, qs_vI 5 3 W_X5_blockBehind 88), (88, qs_b2 (fun x y => x >>> (y &&& 31)) 89), (89, qs_ci 1 90), (90, qs_b2 (fun x y => x &&& y) 91), (91, qs_ifne 103 94), (94, qs_ldi 6 96), (96, qs_ci 10 98), (98, qs_b2 (fun x y => x * y) 99), (99, qs_ldi 9 101), (101, qs_b2 (fun x y => x + y) 102), (102, qs_iret), (103, qs_inc 9 1 106), (106, qs_go 61), (109, qs_inc 6 1 112), (112, qs_go 19), (115, qs_ci (-1) 116), (116, qs_iret)]
noncomputable def tb_X9_findLead : List (Nat × pj_T (Int32 × pj_M)) := tb_X9_findLead_0 ++ (tb_X9_findLead_1)
theorem mv_X9_findLead : pj_mv y_X9_findLead c_X9_findLead 10 (some .int) 4 := ⟨⟨cw_793, cw_792, cw_19, cw_91⟩, by decide +kernel, by decide⟩
set_option maxRecDepth 20000 in
theorem sd_X9_findLead_0 {G : pj_E} {A : Nat → Prop} {P : pj_P} {S : pj_U} {Z : pj_Z} (C : pj_C (G, A, (c_X9_findLead, y_X9_findLead.cls, 10, (some .int), 3), P, S, Z)) : ∀ q ∈ tb_X9_findLead_0, pj_S (G, A, (c_X9_findLead, y_X9_findLead.cls, 10, (some .int), 3), P, S, Z) pj_eI q.1 q.2 :=
  List.forall_mem_cons.mpr ⟨qz_aload_n C (show decode c_X9_findLead 0 = .ok (.aload_n 0, 1) by decide +kernel) rfl,
  List.forall_mem_cons.mpr ⟨qz_gf (k := 1) C (show decode c_X9_findLead 1 = .ok (.getfield 9, 3) by decide +kernel) vcX9 wiX9 (by decide) cw_296,
  List.forall_mem_cons.mpr ⟨qz_iload_n C (show decode c_X9_findLead 4 = .ok (.iload_n 3, 1) by decide +kernel) rfl,
  List.forall_mem_cons.mpr ⟨qz_bipush C (show decode c_X9_findLead 5 = .ok (.bipush 10, 2) by decide +kernel) (by decide +kernel),
  List.forall_mem_cons.mpr ⟨qz_imul C (show decode c_X9_findLead 7 = .ok (.imul, 1) by decide +kernel),
  List.forall_mem_cons.mpr ⟨qz_iload C (show decode c_X9_findLead 8 = .ok (.iload 4, 2) by decide +kernel),
  List.forall_mem_cons.mpr ⟨qz_iadd C (show decode c_X9_findLead 10 = .ok (.iadd, 1) by decide +kernel),
  List.forall_mem_cons.mpr ⟨qz_iald C (show decode c_X9_findLead 11 = .ok (.iaload, 1) by decide +kernel),
  List.forall_mem_cons.mpr ⟨qz_iconst C (show decode c_X9_findLead 12 = .ok (.iconst 1, 1) by decide +kernel) (by decide +kernel),
  List.forall_mem_cons.mpr ⟨qz_isub C (show decode c_X9_findLead 13 = .ok (.isub, 1) by decide +kernel),
  List.forall_mem_cons.mpr ⟨qz_istore C (show decode c_X9_findLead 14 = .ok (.istore 5, 2) by decide +kernel),
  List.forall_mem_cons.mpr ⟨qz_iconst C (show decode c_X9_findLead 16 = .ok (.iconst 0, 1) by decide +kernel) (by decide +kernel),
  List.forall_mem_cons.mpr ⟨qz_istore C (show decode c_X9_findLead 17 = .ok (.istore 6, 2) by decide +kernel),
  List.forall_mem_cons.mpr ⟨qz_iload C (show decode c_X9_findLead 19 = .ok (.iload 6, 2) by decide +kernel),
  List.forall_mem_cons.mpr ⟨qz_iconst C (show decode c_X9_findLead 21 = .ok (.iconst 4, 1) by decide +kernel) (by decide +kernel),
  List.forall_mem_cons.mpr ⟨qz_icge C (show decode c_X9_findLead 22 = .ok (.if_icmp .ge 93, 3) by decide +kernel) (by decide),
  List.forall_mem_cons.mpr ⟨qz_aload_n C (show decode c_X9_findLead 25 = .ok (.aload_n 1, 1) by decide +kernel) rfl,
  List.forall_mem_cons.mpr ⟨qz_aload_n C (show decode c_X9_findLead 26 = .ok (.aload_n 0, 1) by decide +kernel) rfl,
  List.forall_mem_cons.mpr ⟨qz_gf (k := 0) C (show decode c_X9_findLead 27 = .ok (.getfield 26, 3) by decide +kernel) vcX9 wiX9 (by decide) cw_295,
  List.forall_mem_cons.mpr ⟨qz_iload C (show decode c_X9_findLead 30 = .ok (.iload 6, 2) by decide +kernel),
  List.forall_mem_cons.mpr ⟨qz_iload_n C (show decode c_X9_findLead 32 = .ok (.iload_n 3, 1) by decide +kernel) rfl,
  List.forall_mem_cons.mpr ⟨qz_vI C (show decode c_X9_findLead 33 = .ok (.invokevirtual 58, 3) by decide +kernel) ct_X7_moved mv_X7_moved cw_794 vcX7 (show 2 < 3 by omega),
  List.forall_mem_cons.mpr ⟨qz_istore C (show decode c_X9_findLead 36 = .ok (.istore 7, 2) by decide +kernel),
  List.forall_mem_cons.mpr ⟨qz_aload_n C (show decode c_X9_findLead 38 = .ok (.aload_n 2, 1) by decide +kernel) rfl,
  List.forall_mem_cons.mpr ⟨qz_iload C (show decode c_X9_findLead 39 = .ok (.iload 5, 2) by decide +kernel),
  List.forall_mem_cons.mpr ⟨qz_aload_n C (show decode c_X9_findLead 41 = .ok (.aload_n 1, 1) by decide +kernel) rfl,
  List.forall_mem_cons.mpr ⟨qz_aload_n C (show decode c_X9_findLead 42 = .ok (.aload_n 0, 1) by decide +kernel) rfl,
  List.forall_mem_cons.mpr ⟨qz_gf (k := 0) C (show decode c_X9_findLead 43 = .ok (.getfield 26, 3) by decide +kernel) vcX9 wiX9 (by decide) cw_295,
  List.forall_mem_cons.mpr ⟨qz_iload C (show decode c_X9_findLead 46 = .ok (.iload 6, 2) by decide +kernel),
  List.forall_mem_cons.mpr ⟨qz_iload C (show decode c_X9_findLead 48 = .ok (.iload 4, 2) by decide +kernel),
  List.forall_mem_cons.mpr ⟨qz_vI C (show decode c_X9_findLead 50 = .ok (.invokevirtual 58, 3) by decide +kernel) ct_X7_moved mv_X7_moved cw_794 vcX7 (show 2 < 3 by omega),
  List.forall_mem_cons.mpr ⟨qz_vI C (show decode c_X9_findLead 53 = .ok (.invokevirtual 81, 3) by decide +kernel) ct_X5_blocksOf mv_X5_blocksOf cw_795 vcX5 (show 2 < 3 by omega),
  List.forall_mem_cons.mpr ⟨qz_istore C (show decode c_X9_findLead 56 = .ok (.istore 8, 2) by decide +kernel),
  List.forall_mem_cons.mpr ⟨qz_iconst C (show decode c_X9_findLead 58 = .ok (.iconst 0, 1) by decide +kernel) (by decide +kernel),
  List.forall_mem_cons.mpr ⟨qz_istore C (show decode c_X9_findLead 59 = .ok (.istore 9, 2) by decide +kernel),
  List.forall_mem_cons.mpr ⟨qz_iload C (show decode c_X9_findLead 61 = .ok (.iload 9, 2) by decide +kernel),
  List.forall_mem_cons.mpr ⟨qz_bipush C (show decode c_X9_findLead 63 = .ok (.bipush 10, 2) by decide +kernel) (by decide +kernel),
  List.forall_mem_cons.mpr ⟨qz_icge C (show decode c_X9_findLead 65 = .ok (.if_icmp .ge 44, 3) by decide +kernel) (by decide),
  List.forall_mem_cons.mpr ⟨qz_iload C (show decode c_X9_findLead 68 = .ok (.iload 7, 2) by decide +kernel),
  List.forall_mem_cons.mpr ⟨qz_iload C (show decode c_X9_findLead 70 = .ok (.iload 9, 2) by decide +kernel),
  (fun q h => by cases h)⟩⟩⟩⟩⟩⟩⟩⟩⟩⟩⟩⟩⟩⟩⟩⟩⟩⟩⟩⟩⟩⟩⟩⟩⟩⟩⟩⟩⟩⟩⟩⟩⟩⟩⟩⟩⟩⟩⟩⟩
set_option maxRecDepth 20000 in
theorem sd_X9_findLead_1 {G : pj_E} {A : Nat → Prop} {P : pj_P} {S : pj_U} {Z : pj_Z} (C : pj_C (G, A, (c_X9_findLead, y_X9_findLead.cls, 10, (some .int), 3), P, S, Z)) : ∀ q ∈ tb_X9_findLead_1, pj_S (G, A, (c_X9_findLead, y_X9_findLead.cls, 10, (some .int), 3), P, S, Z) pj_eI q.1 q.2 :=
  List.forall_mem_cons.mpr ⟨qz_ishr C (show decode c_X9_findLead 72 = .ok (.ishr, 1) by decide +kernel),
  List.forall_mem_cons.mpr ⟨qz_iconst C (show decode c_X9_findLead 73 = .ok (.iconst 1, 1) by decide +kernel) (by decide +kernel),
  List.forall_mem_cons.mpr ⟨qz_iand C (show decode c_X9_findLead 74 = .ok (.iand, 1) by decide +kernel),
  List.forall_mem_cons.mpr ⟨qz_ifeq C (show decode c_X9_findLead 75 = .ok (.ifCond .eq 28, 3) by decide +kernel) (by decide),
  List.forall_mem_cons.mpr ⟨qz_iload C (show decode c_X9_findLead 78 = .ok (.iload 8, 2) by decide +kernel),
  List.forall_mem_cons.mpr ⟨qz_aload_n C (show decode c_X9_findLead 80 = .ok (.aload_n 2, 1) by decide +kernel) rfl,
  List.forall_mem_cons.mpr ⟨qz_iload C (show decode c_X9_findLead 81 = .ok (.iload 5, 2) by decide +kernel),
  List.forall_mem_cons.mpr ⟨qz_iload C (show decode c_X9_findLead 83 = .ok (.iload 9, 2) by decide +kernel),
  List.forall_mem_cons.mpr ⟨qz_vI C (show decode c_X9_findLead 85 = .ok (.invokevirtual 84, 3) by decide +kernel) ct_X5_blockBehind mv_X5_blockBehind cw_796 vcX5 (show 1 < 3 by omega),
  List.forall_mem_cons.mpr ⟨qz_ishr C (show decode c_X9_findLead 88 = .ok (.ishr, 1) by decide +kernel),
  List.forall_mem_cons.mpr ⟨qz_iconst C (show decode c_X9_findLead 89 = .ok (.iconst 1, 1) by decide +kernel) (by decide +kernel),
  List.forall_mem_cons.mpr ⟨qz_iand C (show decode c_X9_findLead 90 = .ok (.iand, 1) by decide +kernel),
  List.forall_mem_cons.mpr ⟨qz_ifne C (show decode c_X9_findLead 91 = .ok (.ifCond .ne 12, 3) by decide +kernel) (by decide),
  List.forall_mem_cons.mpr ⟨qz_iload C (show decode c_X9_findLead 94 = .ok (.iload 6, 2) by decide +kernel),
  List.forall_mem_cons.mpr ⟨qz_bipush C (show decode c_X9_findLead 96 = .ok (.bipush 10, 2) by decide +kernel) (by decide +kernel),
  List.forall_mem_cons.mpr ⟨qz_imul C (show decode c_X9_findLead 98 = .ok (.imul, 1) by decide +kernel),
  List.forall_mem_cons.mpr ⟨qz_iload C (show decode c_X9_findLead 99 = .ok (.iload 9, 2) by decide +kernel),
  List.forall_mem_cons.mpr ⟨qz_iadd C (show decode c_X9_findLead 101 = .ok (.iadd, 1) by decide +kernel),
  List.forall_mem_cons.mpr ⟨qz_iret C (show decode c_X9_findLead 102 = .ok (.ireturn, 1) by decide +kernel) rfl,
  List.forall_mem_cons.mpr ⟨qz_iinc C (show decode c_X9_findLead 103 = .ok (.iinc 9 1, 3) by decide +kernel) (by decide +kernel),
  List.forall_mem_cons.mpr ⟨qz_goto C (show decode c_X9_findLead 106 = .ok (.goto (-45), 3) by decide +kernel) (by decide),
  List.forall_mem_cons.mpr ⟨qz_iinc C (show decode c_X9_findLead 109 = .ok (.iinc 6 1, 3) by decide +kernel) (by decide +kernel),
  List.forall_mem_cons.mpr ⟨qz_goto C (show decode c_X9_findLead 112 = .ok (.goto (-93), 3) by decide +kernel) (by decide),
  List.forall_mem_cons.mpr ⟨qz_iconst C (show decode c_X9_findLead 115 = .ok (.iconst (-1), 1) by decide +kernel) (by decide +kernel),
  List.forall_mem_cons.mpr ⟨qz_iret C (show decode c_X9_findLead 116 = .ok (.ireturn, 1) by decide +kernel) rfl,
  (fun q h => by cases h)⟩⟩⟩⟩⟩⟩⟩⟩⟩⟩⟩⟩⟩⟩⟩⟩⟩⟩⟩⟩⟩⟩⟩⟩⟩
theorem sd_X9_findLead {G : pj_E} {A : Nat → Prop} {P : pj_P} {S : pj_U} {Z : pj_Z} (C : pj_C (G, A, (c_X9_findLead, y_X9_findLead.cls, 10, (some .int), 3), P, S, Z)) : ∀ q ∈ tb_X9_findLead, pj_S (G, A, (c_X9_findLead, y_X9_findLead.cls, 10, (some .int), 3), P, S, Z) pj_eI q.1 q.2 := List.forall_mem_append.mpr ⟨sd_X9_findLead_0 C, sd_X9_findLead_1 C⟩
noncomputable def C_X9_findLead_94 (f : Int32 → Int32 → pj_M → Option (Int32 × pj_M)) : pj_N (Int32 × pj_M) := fun L st m => match L, st with
  | [_, _, _, _, _, _, some (.inl x6), _, _, some (.inl x9)], [] => f x6 x9 m
  | _, _ => none
noncomputable def C_X9_findLead_61 (f : Nat → Nat → Nat → Int32 → Int32 → Int32 → Int32 → Int32 → Int32 → Int32 → pj_M → Option (Int32 × pj_M)) : pj_N (Int32 × pj_M) := fun L st m => match L, st with
  | [some (.inr (.inr (t0, w0, a0))), some (.inr (.inr (t1, w1, a1))), some (.inr (.inr (t2, w2, a2))), some (.inl x3), some (.inl x4), some (.inl x5), some (.inl x6), some (.inl x7), some (.inl x8), some (.inl x9)], [] => (match Nat.beq t0 0 && (Nat.beq w0 9 && (Nat.beq t1 0 && (Nat.beq w1 7 && (Nat.beq t2 0 && (Nat.beq w2 5))))) with
    | true => f a0 a1 a2 x3 x4 x5 x6 x7 x8 x9 m
    | false => none)
  | _, _ => none
noncomputable def C_X9_findLead_19 (f : Nat → Nat → Nat → Int32 → Int32 → Int32 → Int32 → pj_M → Option (Int32 × pj_M)) : pj_N (Int32 × pj_M) := fun L st m => match L, st with
  | [some (.inr (.inr (t0, w0, a0))), some (.inr (.inr (t1, w1, a1))), some (.inr (.inr (t2, w2, a2))), some (.inl x3), some (.inl x4), some (.inl x5), some (.inl x6), _, _, _], [] => (match Nat.beq t0 0 && (Nat.beq w0 9 && (Nat.beq t1 0 && (Nat.beq w1 7 && (Nat.beq t2 0 && (Nat.beq w2 5))))) with
    | true => f a0 a1 a2 x3 x4 x5 x6 m
    | false => none)
  | _, _ => none
set_option maxRecDepth 20000 in
theorem eq_X9_findLead_94 (x6 : Int32) (x9 : Int32) (d0 d1 d2 d3 d4 d5 d7 d8 : Option pj_V) (m : pj_M) : pj_run tb_X9_findLead [] 67 94 [d0, d1, d2, d3, d4, d5, some (.inl x6), d7, d8, some (.inl x9)] [] m = J_X9_findLead_94 x6 x9 m := by rfl
theorem sg_X9_findLead_94 {G : pj_E} {A : Nat → Prop} {P : pj_P} {S : pj_U} {Z : pj_Z} (C : pj_C (G, A, (c_X9_findLead, y_X9_findLead.cls, 10, (some .int), 3), P, S, Z)) : pj_G (G, A, (c_X9_findLead, y_X9_findLead.cls, 10, (some .int), 3), P, S, Z) pj_eI 94 (C_X9_findLead_94 (J_X9_findLead_94)) := by
  intro L st m r h hR
  unfold C_X9_findLead_94 at h
  split at h
  · exact pj_run_ok (sd_X9_findLead C) (fun q h => by cases h) 67 94 _ _ _ _ ((eq_X9_findLead_94 _ _ _ _ _ _ _ _ _ _ _).trans h) hR
  · cases h
set_option maxRecDepth 20000 in
theorem eq_X9_findLead_61 (k19 : Nat → Nat → Nat → Int32 → Int32 → Int32 → Int32 → pj_M → Option (Int32 × pj_M)) (n1 : Nat) (a0 : Nat) (a1 : Nat) (a2 : Nat) (x3 : Int32) (x4 : Int32) (x5 : Int32) (x6 : Int32) (x7 : Int32) (x8 : Int32) (x9 : Int32) (m : pj_M) : pj_run tb_X9_findLead [(19, C_X9_findLead_19 k19), (61, C_X9_findLead_61 (H_X9_findLead_61 k19 n1)), (94, C_X9_findLead_94 (J_X9_findLead_94 ))] 67 61 [some (.inr (.inr (0, 9, a0))), some (.inr (.inr (0, 7, a1))), some (.inr (.inr (0, 5, a2))), some (.inl x3), some (.inl x4), some (.inl x5), some (.inl x6), some (.inl x7), some (.inl x8), some (.inl x9)] [] m = H_X9_findLead_61 k19 (n1 + 1) a0 a1 a2 x3 x4 x5 x6 x7 x8 x9 m := by rfl
theorem sg_X9_findLead_61 {G : pj_E} {A : Nat → Prop} {P : pj_P} {S : pj_U} {Z : pj_Z} (C : pj_C (G, A, (c_X9_findLead, y_X9_findLead.cls, 10, (some .int), 3), P, S, Z)) {k19 : Nat → Nat → Nat → Int32 → Int32 → Int32 → Int32 → pj_M → Option (Int32 × pj_M)} (hk19 : pj_G (G, A, (c_X9_findLead, y_X9_findLead.cls, 10, (some .int), 3), P, S, Z) pj_eI 19 (C_X9_findLead_19 k19)) : ∀ n1, pj_G (G, A, (c_X9_findLead, y_X9_findLead.cls, 10, (some .int), 3), P, S, Z) pj_eI 61 (C_X9_findLead_61 (H_X9_findLead_61 k19 n1)) := by
  intro n1
  induction n1 with
  | zero =>
    intro L st m r h hR
    unfold C_X9_findLead_61 at h
    split at h
    · split at h
      · cases h
      · cases h
    · cases h
  | succ n1 ih1 =>
    intro L st m r h hR
    unfold C_X9_findLead_61 at h
    split at h
    · split at h
      · rename_i hbq
        simp only [Bool.and_eq_true, Nat.beq_eq] at hbq
        obtain ⟨rfl, rfl, rfl, rfl, rfl, rfl⟩ := hbq
        exact pj_run_ok (sd_X9_findLead C) (List.forall_mem_cons.mpr ⟨hk19, List.forall_mem_cons.mpr ⟨ih1, List.forall_mem_cons.mpr ⟨sg_X9_findLead_94 C , fun q h => by cases h⟩⟩⟩) 67 61 _ _ _ _ ((eq_X9_findLead_61 _ _ _ _ _ _ _ _ _ _ _ _ _).trans h) hR
      · cases h
    · cases h
set_option maxRecDepth 20000 in
theorem eq_X9_findLead_19 (n1 : Nat) (a0 : Nat) (a1 : Nat) (a2 : Nat) (x3 : Int32) (x4 : Int32) (x5 : Int32) (x6 : Int32) (d7 d8 d9 : Option pj_V) (m : pj_M) : pj_run tb_X9_findLead [(61, C_X9_findLead_61 (H_X9_findLead_61 (H_X9_findLead_19 n1) pj_z))] 67 19 [some (.inr (.inr (0, 9, a0))), some (.inr (.inr (0, 7, a1))), some (.inr (.inr (0, 5, a2))), some (.inl x3), some (.inl x4), some (.inl x5), some (.inl x6), d7, d8, d9] [] m = H_X9_findLead_19 (n1 + 1) a0 a1 a2 x3 x4 x5 x6 m := by rfl
theorem sg_X9_findLead_19 {G : pj_E} {A : Nat → Prop} {P : pj_P} {S : pj_U} {Z : pj_Z} (C : pj_C (G, A, (c_X9_findLead, y_X9_findLead.cls, 10, (some .int), 3), P, S, Z)) : ∀ n1, pj_G (G, A, (c_X9_findLead, y_X9_findLead.cls, 10, (some .int), 3), P, S, Z) pj_eI 19 (C_X9_findLead_19 (H_X9_findLead_19 n1)) := by
  intro n1
  induction n1 with
  | zero =>
    intro L st m r h hR
    unfold C_X9_findLead_19 at h
    split at h
    · split at h
      · cases h
      · cases h
    · cases h
  | succ n1 ih1 =>
    intro L st m r h hR
    unfold C_X9_findLead_19 at h
    split at h
    · split at h
      · rename_i hbq
        simp only [Bool.and_eq_true, Nat.beq_eq] at hbq
        obtain ⟨rfl, rfl, rfl, rfl, rfl, rfl⟩ := hbq
        exact pj_run_ok (sd_X9_findLead C) (List.forall_mem_cons.mpr ⟨sg_X9_findLead_61 C ih1 pj_z, fun q h => by cases h⟩) 67 19 _ _ _ _ ((eq_X9_findLead_19 _ _ _ _ _ _ _ _ _ _ _ _).trans h) hR
      · cases h
    · cases h
set_option maxRecDepth 20000 in
theorem eq_X9_findLead (a0 : Nat) (a1 : Nat) (a2 : Nat) (x3 : Int32) (x4 : Int32) (m : pj_M) : pj_run tb_X9_findLead [(19, C_X9_findLead_19 (H_X9_findLead_19  pj_z))] 67 0 [some (.inr (.inr (0, 9, a0))), some (.inr (.inr (0, 7, a1))), some (.inr (.inr (0, 5, a2))), some (.inl x3), some (.inl x4), none, none, none, none, none] [] m = F_X9_findLead a0 a1 a2 x3 x4 m := by rfl
theorem ct_X9_findLead : pj_Ct pj_eI y_X9_findLead c_X9_findLead 10 (some .int) 3 W_X9_findLead := by
  refine pj_ct_of (by decide +kernel) ?_ ?_
  · intro as m r h
    unfold W_X9_findLead at h
    split at h
    · simp [pj_l0]
    · cases h
  · intro G A P S Z C as m r h hR
    unfold W_X9_findLead at h
    split at h
    · split at h
      · rename_i hbq
        simp only [Bool.and_eq_true, Nat.beq_eq] at hbq
        obtain ⟨rfl, rfl, rfl, rfl, rfl, rfl⟩ := hbq
        exact pj_run_ok (sd_X9_findLead C) (List.forall_mem_cons.mpr ⟨sg_X9_findLead_19 C  pj_z, fun q h => by cases h⟩) 67 0 _ _ _ _ ((eq_X9_findLead _ _ _ _ _ _).trans h) hR
      · cases h
    · cases h
/-! AlikeSteps$Teller.sizeOf(II)J -/
abbrev c_X9_sizeOf : ByteArray := prog_11_method_3_code
def y_X9_sizeOf : MethodName := ⟨RX9, "sizeOf", "(II)J"⟩
noncomputable def F_X9_sizeOf (a0 : Nat) (x1 : Int32) (x2 : Int32) (m : pj_M) : Option (Int64 × pj_M) := (if ((x1 * 10) + x2) < 0 ∨ 100 ≤ ((x1 * 10) + x2).toNatClampNeg then none else (some (m.2 (a0 + 3) ((x1 * 10) + x2).toNatClampNeg, m)))
noncomputable def W_X9_sizeOf : List pj_V → pj_M → Option (Int64 × pj_M) := fun as m => match as with
  | [.inr (.inr (t0, w0, a0)), .inl x1, .inl x2] => (match Nat.beq t0 0 && (Nat.beq w0 9) with
    | true => F_X9_sizeOf a0 x1 x2 m
    | false => none)
  | _ => none
noncomputable def tb_X9_sizeOf_0 : List (Nat × pj_T (Int64 × pj_M)) := [(0, qs_lda 0 1), (1, qs_gf 9 3 4), (4, qs_ldi 1 5), (5, qs_ci 10 7), (7, qs_b2 (fun x y => x * y) 8), (8, qs_ldi 2 9), (9, qs_b2 (fun x y => x + y) 10), (10, qs_lald 11), (11, qs_lret)]
noncomputable abbrev tb_X9_sizeOf : List (Nat × pj_T (Int64 × pj_M)) := tb_X9_sizeOf_0
theorem mv_X9_sizeOf : pj_mv y_X9_sizeOf c_X9_sizeOf 3 (some .long) 2 := ⟨⟨cw_810, cw_808, cw_809, cw_91⟩, by decide +kernel, by decide⟩
set_option maxRecDepth 20000 in
theorem sd_X9_sizeOf_0 {G : pj_E} {A : Nat → Prop} {P : pj_P} {S : pj_U} {Z : pj_Z} (C : pj_C (G, A, (c_X9_sizeOf, y_X9_sizeOf.cls, 3, (some .long), 1), P, S, Z)) : ∀ q ∈ tb_X9_sizeOf_0, pj_S (G, A, (c_X9_sizeOf, y_X9_sizeOf.cls, 3, (some .long), 1), P, S, Z) pj_eL q.1 q.2 :=
  List.forall_mem_cons.mpr ⟨qz_aload_n C (show decode c_X9_sizeOf 0 = .ok (.aload_n 0, 1) by decide +kernel) rfl,
  List.forall_mem_cons.mpr ⟨qz_gf (k := 3) C (show decode c_X9_sizeOf 1 = .ok (.getfield 18, 3) by decide +kernel) vcX9 wiX9 (by decide) cw_298,
  List.forall_mem_cons.mpr ⟨qz_iload_n C (show decode c_X9_sizeOf 4 = .ok (.iload_n 1, 1) by decide +kernel) rfl,
  List.forall_mem_cons.mpr ⟨qz_bipush C (show decode c_X9_sizeOf 5 = .ok (.bipush 10, 2) by decide +kernel) (by decide +kernel),
  List.forall_mem_cons.mpr ⟨qz_imul C (show decode c_X9_sizeOf 7 = .ok (.imul, 1) by decide +kernel),
  List.forall_mem_cons.mpr ⟨qz_iload_n C (show decode c_X9_sizeOf 8 = .ok (.iload_n 2, 1) by decide +kernel) rfl,
  List.forall_mem_cons.mpr ⟨qz_iadd C (show decode c_X9_sizeOf 9 = .ok (.iadd, 1) by decide +kernel),
  List.forall_mem_cons.mpr ⟨qz_lald C (show decode c_X9_sizeOf 10 = .ok (.laload, 1) by decide +kernel),
  List.forall_mem_cons.mpr ⟨qz_lret C (show decode c_X9_sizeOf 11 = .ok (.lreturn, 1) by decide +kernel) rfl,
  (fun q h => by cases h)⟩⟩⟩⟩⟩⟩⟩⟩⟩
theorem sd_X9_sizeOf {G : pj_E} {A : Nat → Prop} {P : pj_P} {S : pj_U} {Z : pj_Z} (C : pj_C (G, A, (c_X9_sizeOf, y_X9_sizeOf.cls, 3, (some .long), 1), P, S, Z)) : ∀ q ∈ tb_X9_sizeOf, pj_S (G, A, (c_X9_sizeOf, y_X9_sizeOf.cls, 3, (some .long), 1), P, S, Z) pj_eL q.1 q.2 := sd_X9_sizeOf_0 C
set_option maxRecDepth 20000 in
theorem eq_X9_sizeOf (a0 : Nat) (x1 : Int32) (x2 : Int32) (m : pj_M) : pj_run tb_X9_sizeOf [] 11 0 [some (.inr (.inr (0, 9, a0))), some (.inl x1), some (.inl x2)] [] m = F_X9_sizeOf a0 x1 x2 m := by rfl
theorem ct_X9_sizeOf : pj_Ct pj_eL y_X9_sizeOf c_X9_sizeOf 3 (some .long) 1 W_X9_sizeOf := by
  refine pj_ct_of (by decide +kernel) ?_ ?_
  · intro as m r h
    unfold W_X9_sizeOf at h
    split at h
    · simp [pj_l0]
    · cases h
  · intro G A P S Z C as m r h hR
    unfold W_X9_sizeOf at h
    split at h
    · split at h
      · rename_i hbq
        simp only [Bool.and_eq_true, Nat.beq_eq] at hbq
        obtain ⟨rfl, rfl⟩ := hbq
        exact pj_run_ok (sd_X9_sizeOf C) (fun q h => by cases h) 11 0 _ _ _ _ ((eq_X9_sizeOf _ _ _ _).trans h) hR
      · cases h
    · cases h
/-! AlikeSteps$Teller.sizeUpTo(III)J -/
abbrev c_X9_sizeUpTo : ByteArray := prog_11_method_8_code
def y_X9_sizeUpTo : MethodName := ⟨RX9, "sizeUpTo", "(III)J"⟩
noncomputable def H_X9_sizeUpTo_6 : Nat → Nat → Int32 → Int32 → Int32 → Int64 → Int32 → pj_M → Option (Int64 × pj_M)
  | 0, _, _, _, _, _, _, _ => none
  | n1 + 1, a0, x1, x2, x3, l4, x6, m => (if x6 < x3 then (if ((x2 >>> (x6 &&& 31)) &&& 1) = 0 then (H_X9_sizeUpTo_6 n1 a0 x1 x2 x3 l4 (x6 + 1) m) else ((F_X9_sizeOf a0 x1 x6 m).bind fun q1 => (H_X9_sizeUpTo_6 n1 a0 x1 x2 x3 (l4 + q1.1) (x6 + 1) q1.2))) else (some (l4, m)))
noncomputable def F_X9_sizeUpTo (a0 : Nat) (x1 : Int32) (x2 : Int32) (x3 : Int32) (m : pj_M) : Option (Int64 × pj_M) := (H_X9_sizeUpTo_6 pj_z a0 x1 x2 x3 0 0 m)
noncomputable def W_X9_sizeUpTo : List pj_V → pj_M → Option (Int64 × pj_M) := fun as m => match as with
  | [.inr (.inr (t0, w0, a0)), .inl x1, .inl x2, .inl x3] => (match Nat.beq t0 0 && (Nat.beq w0 9) with
    | true => F_X9_sizeUpTo a0 x1 x2 x3 m
    | false => none)
  | _ => none
noncomputable def tb_X9_sizeUpTo_0 : List (Nat × pj_T (Int64 × pj_M)) := [(0, qs_cl 0 1), (1, qs_stl 4 3), (3, qs_ci 0 4), (4, qs_sti 6 6), (6, qs_ldi 6 8), (8, qs_ldi 3 9), (9, qs_icge 39 12), (12, qs_ldi 2 13), (13, qs_ldi 6 15), (15, qs_b2 (fun x y => x >>> (y &&& 31)) 16), (16, qs_ci 1 17), (17, qs_b2 (fun x y => x &&& y) 18), (18, qs_ifeq 33 21), (21, qs_ldl 4 23), (23, qs_lda 0 24), (24, qs_ldi 1 25), (25, qs_ldi 6 27), (27, qs_vL 9 3 W_X9_sizeOf 30), (30, qs_l2 (fun x y => x + y) 31), (31, qs_stl 4 33), (33, qs_inc 6 1 36), (36, qs_go 6), (39, qs_ldl 4 41), (41, qs_lret)]
noncomputable abbrev tb_X9_sizeUpTo : List (Nat × pj_T (Int64 × pj_M)) := tb_X9_sizeUpTo_0
theorem mv_X9_sizeUpTo : pj_mv y_X9_sizeUpTo c_X9_sizeUpTo 7 (some .long) 3 := ⟨⟨cw_814, cw_813, cw_22, cw_91⟩, by decide +kernel, by decide⟩
set_option maxRecDepth 20000 in
theorem sd_X9_sizeUpTo_0 {G : pj_E} {A : Nat → Prop} {P : pj_P} {S : pj_U} {Z : pj_Z} (C : pj_C (G, A, (c_X9_sizeUpTo, y_X9_sizeUpTo.cls, 7, (some .long), 2), P, S, Z)) : ∀ q ∈ tb_X9_sizeUpTo_0, pj_S (G, A, (c_X9_sizeUpTo, y_X9_sizeUpTo.cls, 7, (some .long), 2), P, S, Z) pj_eL q.1 q.2 :=
  List.forall_mem_cons.mpr ⟨qz_lconst C (show decode c_X9_sizeUpTo 0 = .ok (.lconst 0, 1) by decide +kernel) (by decide +kernel),
  List.forall_mem_cons.mpr ⟨qz_lstore C (show decode c_X9_sizeUpTo 1 = .ok (.lstore 4, 2) by decide +kernel),
  List.forall_mem_cons.mpr ⟨qz_iconst C (show decode c_X9_sizeUpTo 3 = .ok (.iconst 0, 1) by decide +kernel) (by decide +kernel),
  List.forall_mem_cons.mpr ⟨qz_istore C (show decode c_X9_sizeUpTo 4 = .ok (.istore 6, 2) by decide +kernel),
  List.forall_mem_cons.mpr ⟨qz_iload C (show decode c_X9_sizeUpTo 6 = .ok (.iload 6, 2) by decide +kernel),
  List.forall_mem_cons.mpr ⟨qz_iload_n C (show decode c_X9_sizeUpTo 8 = .ok (.iload_n 3, 1) by decide +kernel) rfl,
  List.forall_mem_cons.mpr ⟨qz_icge C (show decode c_X9_sizeUpTo 9 = .ok (.if_icmp .ge 30, 3) by decide +kernel) (by decide),
  List.forall_mem_cons.mpr ⟨qz_iload_n C (show decode c_X9_sizeUpTo 12 = .ok (.iload_n 2, 1) by decide +kernel) rfl,
  List.forall_mem_cons.mpr ⟨qz_iload C (show decode c_X9_sizeUpTo 13 = .ok (.iload 6, 2) by decide +kernel),
  List.forall_mem_cons.mpr ⟨qz_ishr C (show decode c_X9_sizeUpTo 15 = .ok (.ishr, 1) by decide +kernel),
  List.forall_mem_cons.mpr ⟨qz_iconst C (show decode c_X9_sizeUpTo 16 = .ok (.iconst 1, 1) by decide +kernel) (by decide +kernel),
  List.forall_mem_cons.mpr ⟨qz_iand C (show decode c_X9_sizeUpTo 17 = .ok (.iand, 1) by decide +kernel),
  List.forall_mem_cons.mpr ⟨qz_ifeq C (show decode c_X9_sizeUpTo 18 = .ok (.ifCond .eq 15, 3) by decide +kernel) (by decide),
  List.forall_mem_cons.mpr ⟨qz_lload C (show decode c_X9_sizeUpTo 21 = .ok (.lload 4, 2) by decide +kernel),
  List.forall_mem_cons.mpr ⟨qz_aload_n C (show decode c_X9_sizeUpTo 23 = .ok (.aload_n 0, 1) by decide +kernel) rfl,
  List.forall_mem_cons.mpr ⟨qz_iload_n C (show decode c_X9_sizeUpTo 24 = .ok (.iload_n 1, 1) by decide +kernel) rfl,
  List.forall_mem_cons.mpr ⟨qz_iload C (show decode c_X9_sizeUpTo 25 = .ok (.iload 6, 2) by decide +kernel),
  List.forall_mem_cons.mpr ⟨qz_vL C (show decode c_X9_sizeUpTo 27 = .ok (.invokevirtual 91, 3) by decide +kernel) ct_X9_sizeOf mv_X9_sizeOf cw_807 vcX9 (show 1 < 2 by omega),
  List.forall_mem_cons.mpr ⟨qz_ladd C (show decode c_X9_sizeUpTo 30 = .ok (.ladd, 1) by decide +kernel),
  List.forall_mem_cons.mpr ⟨qz_lstore C (show decode c_X9_sizeUpTo 31 = .ok (.lstore 4, 2) by decide +kernel),
  List.forall_mem_cons.mpr ⟨qz_iinc C (show decode c_X9_sizeUpTo 33 = .ok (.iinc 6 1, 3) by decide +kernel) (by decide +kernel),
  List.forall_mem_cons.mpr ⟨qz_goto C (show decode c_X9_sizeUpTo 36 = .ok (.goto (-30), 3) by decide +kernel) (by decide),
  List.forall_mem_cons.mpr ⟨qz_lload C (show decode c_X9_sizeUpTo 39 = .ok (.lload 4, 2) by decide +kernel),
  List.forall_mem_cons.mpr ⟨qz_lret C (show decode c_X9_sizeUpTo 41 = .ok (.lreturn, 1) by decide +kernel) rfl,
  (fun q h => by cases h)⟩⟩⟩⟩⟩⟩⟩⟩⟩⟩⟩⟩⟩⟩⟩⟩⟩⟩⟩⟩⟩⟩⟩⟩
theorem sd_X9_sizeUpTo {G : pj_E} {A : Nat → Prop} {P : pj_P} {S : pj_U} {Z : pj_Z} (C : pj_C (G, A, (c_X9_sizeUpTo, y_X9_sizeUpTo.cls, 7, (some .long), 2), P, S, Z)) : ∀ q ∈ tb_X9_sizeUpTo, pj_S (G, A, (c_X9_sizeUpTo, y_X9_sizeUpTo.cls, 7, (some .long), 2), P, S, Z) pj_eL q.1 q.2 := sd_X9_sizeUpTo_0 C
noncomputable def C_X9_sizeUpTo_6 (f : Nat → Int32 → Int32 → Int32 → Int64 → Int32 → pj_M → Option (Int64 × pj_M)) : pj_N (Int64 × pj_M) := fun L st m => match L, st with
  | [some (.inr (.inr (t0, w0, a0))), some (.inl x1), some (.inl x2), some (.inl x3), some (.inr (.inl l4)), _, some (.inl x6)], [] => (match Nat.beq t0 0 && (Nat.beq w0 9) with
    | true => f a0 x1 x2 x3 l4 x6 m
    | false => none)
  | _, _ => none
set_option maxRecDepth 20000 in
theorem eq_X9_sizeUpTo_6 (n1 : Nat) (a0 : Nat) (x1 : Int32) (x2 : Int32) (x3 : Int32) (l4 : Int64) (x6 : Int32) (d5 : Option pj_V) (m : pj_M) : pj_run tb_X9_sizeUpTo [(6, C_X9_sizeUpTo_6 (H_X9_sizeUpTo_6 n1))] 26 6 [some (.inr (.inr (0, 9, a0))), some (.inl x1), some (.inl x2), some (.inl x3), some (.inr (.inl l4)), d5, some (.inl x6)] [] m = H_X9_sizeUpTo_6 (n1 + 1) a0 x1 x2 x3 l4 x6 m := by rfl
theorem sg_X9_sizeUpTo_6 {G : pj_E} {A : Nat → Prop} {P : pj_P} {S : pj_U} {Z : pj_Z} (C : pj_C (G, A, (c_X9_sizeUpTo, y_X9_sizeUpTo.cls, 7, (some .long), 2), P, S, Z)) : ∀ n1, pj_G (G, A, (c_X9_sizeUpTo, y_X9_sizeUpTo.cls, 7, (some .long), 2), P, S, Z) pj_eL 6 (C_X9_sizeUpTo_6 (H_X9_sizeUpTo_6 n1)) := by
  intro n1
  induction n1 with
  | zero =>
    intro L st m r h hR
    unfold C_X9_sizeUpTo_6 at h
    split at h
    · split at h
      · cases h
      · cases h
    · cases h
  | succ n1 ih1 =>
    intro L st m r h hR
    unfold C_X9_sizeUpTo_6 at h
    split at h
    · split at h
      · rename_i hbq
        simp only [Bool.and_eq_true, Nat.beq_eq] at hbq
        obtain ⟨rfl, rfl⟩ := hbq
        exact pj_run_ok (sd_X9_sizeUpTo C) (List.forall_mem_cons.mpr ⟨ih1, fun q h => by cases h⟩) 26 6 _ _ _ _ ((eq_X9_sizeUpTo_6 _ _ _ _ _ _ _ _ _).trans h) hR
      · cases h
    · cases h
set_option maxRecDepth 20000 in
theorem eq_X9_sizeUpTo (a0 : Nat) (x1 : Int32) (x2 : Int32) (x3 : Int32) (m : pj_M) : pj_run tb_X9_sizeUpTo [(6, C_X9_sizeUpTo_6 (H_X9_sizeUpTo_6  pj_z))] 26 0 [some (.inr (.inr (0, 9, a0))), some (.inl x1), some (.inl x2), some (.inl x3), none, none, none] [] m = F_X9_sizeUpTo a0 x1 x2 x3 m := by rfl
theorem ct_X9_sizeUpTo : pj_Ct pj_eL y_X9_sizeUpTo c_X9_sizeUpTo 7 (some .long) 2 W_X9_sizeUpTo := by
  refine pj_ct_of (by decide +kernel) ?_ ?_
  · intro as m r h
    unfold W_X9_sizeUpTo at h
    split at h
    · simp [pj_l0]
    · cases h
  · intro G A P S Z C as m r h hR
    unfold W_X9_sizeUpTo at h
    split at h
    · split at h
      · rename_i hbq
        simp only [Bool.and_eq_true, Nat.beq_eq] at hbq
        obtain ⟨rfl, rfl⟩ := hbq
        exact pj_run_ok (sd_X9_sizeUpTo C) (List.forall_mem_cons.mpr ⟨sg_X9_sizeUpTo_6 C  pj_z, fun q h => by cases h⟩) 26 0 _ _ _ _ ((eq_X9_sizeUpTo _ _ _ _ _).trans h) hR
      · cases h
    · cases h
/-! AlikeSteps$Teller.weigh(LAlikeSteps$Steps;II)J -/
abbrev c_X9_weigh : ByteArray := prog_11_method_7_code
def y_X9_weigh : MethodName := ⟨RX9, "weigh", "(LAlikeSteps$Steps;II)J"⟩
noncomputable def F_X9_weigh (a0 : Nat) (a1 : Nat) (x2 : Int32) (x3 : Int32) (m : pj_M) : Option (Int64 × pj_M) := (if ((x2 * 10) + x3) < 0 ∨ 100 ≤ ((x2 * 10) + x3).toNatClampNeg then none else (if (m.1 (a0 + 2) ((x2 * 10) + x3).toNatClampNeg) = (-3) then (some (2, m)) else (if (m.1 (a0 + 2) ((x2 * 10) + x3).toNatClampNeg) = (-2) then (some (1, m)) else (if (m.1 (a0 + 2) ((x2 * 10) + x3).toNatClampNeg) = (-1) then ((F_X9_sizeOf a0 x3 x2 m).bind fun q1 => (some (1 + q1.1, q1.2))) else (if (10 : Int32) = 0 then none else ((F_X7_moved a1 (m.1 a0 0) ((m.1 (a0 + 2) ((x2 * 10) + x3).toNatClampNeg) / 10) x3 m).bind fun q2 => (if (10 : Int32) = 0 then none else ((F_X9_sizeUpTo a0 ((m.1 (a0 + 2) ((x2 * 10) + x3).toNatClampNeg) - (m.1 (a0 + 2) ((x2 * 10) + x3).toNatClampNeg) / 10 * 10) q2.1 10 q2.2).bind fun q3 => (some (2 + q3.1, q3.2))))))))))
noncomputable def W_X9_weigh : List pj_V → pj_M → Option (Int64 × pj_M) := fun as m => match as with
  | [.inr (.inr (t0, w0, a0)), .inr (.inr (t1, w1, a1)), .inl x2, .inl x3] => (match Nat.beq t0 0 && (Nat.beq w0 9 && (Nat.beq t1 0 && (Nat.beq w1 7))) with
    | true => F_X9_weigh a0 a1 x2 x3 m
    | false => none)
  | _ => none
noncomputable def tb_X9_weigh_0 : List (Nat × pj_T (Int64 × pj_M)) := [(0, qs_lda 0 1), (1, qs_gf 9 2 4), (4, qs_ldi 2 5), (5, qs_ci 10 7), (7, qs_b2 (fun x y => x * y) 8), (8, qs_ldi 3 9), (9, qs_b2 (fun x y => x + y) 10), (10, qs_iald 11), (11, qs_sti 4 13), (13, qs_ldi 4 15), (15, qs_sw [((-3), 42), ((-2), 40), ((-1), 46)] 55), (40, qs_cl 1 41), (41, qs_lret), (42, qs_cl 2 45), (45, qs_lret), (46, qs_cl 1 47), (47, qs_lda 0 48), (48, qs_ldi 3 49), (49, qs_ldi 2 50), (50, qs_vL 9 3 W_X9_sizeOf 53), (53, qs_l2 (fun x y => x + y) 54), (54, qs_lret), (55, qs_lda 1 56), (56, qs_lda 0 57), (57, qs_gf 9 0 60), (60, qs_ldi 4 62), (62, qs_ci 10 64), (64, qs_d2 (fun x y => x / y) 65), (65, qs_ldi 3 66), (66, qs_vI 7 4 W_X7_moved 69), (69, qs_sti 5 71), (71, qs_cl 2 74), (74, qs_lda 0 75), (75, qs_ldi 4 77), (77, qs_ci 10 79), (79, qs_d2 (fun x y => x - x / y * y) 80), (80, qs_ldi 5 82), (82, qs_ci 10 84), (84, qs_vL 9 4 W_X9_sizeUpTo 87), (87, qs_l2 (fun x y => x + y) 88)]
noncomputable def tb_X9_weigh_1 : List (Nat × pj_T (Int64 × pj_M)) := [(88, qs_lret)]
noncomputable def tb_X9_weigh : List (Nat × pj_T (Int64 × pj_M)) := tb_X9_weigh_0 ++ (tb_X9_weigh_1)
theorem mv_X9_weigh : pj_mv y_X9_weigh c_X9_weigh 6 (some .long) 3 := ⟨⟨cw_805, cw_804, cw_21, cw_91⟩, by decide +kernel, by decide⟩
set_option maxRecDepth 20000 in
theorem sd_X9_weigh_0 {G : pj_E} {A : Nat → Prop} {P : pj_P} {S : pj_U} {Z : pj_Z} (C : pj_C (G, A, (c_X9_weigh, y_X9_weigh.cls, 6, (some .long), 3), P, S, Z)) : ∀ q ∈ tb_X9_weigh_0, pj_S (G, A, (c_X9_weigh, y_X9_weigh.cls, 6, (some .long), 3), P, S, Z) pj_eL q.1 q.2 :=
  List.forall_mem_cons.mpr ⟨qz_aload_n C (show decode c_X9_weigh 0 = .ok (.aload_n 0, 1) by decide +kernel) rfl,
  List.forall_mem_cons.mpr ⟨qz_gf (k := 2) C (show decode c_X9_weigh 1 = .ok (.getfield 15, 3) by decide +kernel) vcX9 wiX9 (by decide) cw_297,
  List.forall_mem_cons.mpr ⟨qz_iload_n C (show decode c_X9_weigh 4 = .ok (.iload_n 2, 1) by decide +kernel) rfl,
  List.forall_mem_cons.mpr ⟨qz_bipush C (show decode c_X9_weigh 5 = .ok (.bipush 10, 2) by decide +kernel) (by decide +kernel),
  List.forall_mem_cons.mpr ⟨qz_imul C (show decode c_X9_weigh 7 = .ok (.imul, 1) by decide +kernel),
  List.forall_mem_cons.mpr ⟨qz_iload_n C (show decode c_X9_weigh 8 = .ok (.iload_n 3, 1) by decide +kernel) rfl,
  List.forall_mem_cons.mpr ⟨qz_iadd C (show decode c_X9_weigh 9 = .ok (.iadd, 1) by decide +kernel),
  List.forall_mem_cons.mpr ⟨qz_iald C (show decode c_X9_weigh 10 = .ok (.iaload, 1) by decide +kernel),
  List.forall_mem_cons.mpr ⟨qz_istore C (show decode c_X9_weigh 11 = .ok (.istore 4, 2) by decide +kernel),
  List.forall_mem_cons.mpr ⟨qz_iload C (show decode c_X9_weigh 13 = .ok (.iload 4, 2) by decide +kernel),
  List.forall_mem_cons.mpr ⟨qz_tsw C (show decode c_X9_weigh 15 = .ok (.tableswitch 40 (-3) (-1) #[27, 25, 31], 25) by decide +kernel) (by decide +kernel),
  List.forall_mem_cons.mpr ⟨qz_lconst C (show decode c_X9_weigh 40 = .ok (.lconst 1, 1) by decide +kernel) (by decide +kernel),
  List.forall_mem_cons.mpr ⟨qz_lret C (show decode c_X9_weigh 41 = .ok (.lreturn, 1) by decide +kernel) rfl,
  List.forall_mem_cons.mpr ⟨qz_ldc2 C (show decode c_X9_weigh 42 = .ok (.ldc2_w 64, 3) by decide +kernel) cw_806,
  List.forall_mem_cons.mpr ⟨qz_lret C (show decode c_X9_weigh 45 = .ok (.lreturn, 1) by decide +kernel) rfl,
  List.forall_mem_cons.mpr ⟨qz_lconst C (show decode c_X9_weigh 46 = .ok (.lconst 1, 1) by decide +kernel) (by decide +kernel),
  List.forall_mem_cons.mpr ⟨qz_aload_n C (show decode c_X9_weigh 47 = .ok (.aload_n 0, 1) by decide +kernel) rfl,
  List.forall_mem_cons.mpr ⟨qz_iload_n C (show decode c_X9_weigh 48 = .ok (.iload_n 3, 1) by decide +kernel) rfl,
  List.forall_mem_cons.mpr ⟨qz_iload_n C (show decode c_X9_weigh 49 = .ok (.iload_n 2, 1) by decide +kernel) rfl,
  List.forall_mem_cons.mpr ⟨qz_vL C (show decode c_X9_weigh 50 = .ok (.invokevirtual 91, 3) by decide +kernel) ct_X9_sizeOf mv_X9_sizeOf cw_807 vcX9 (show 1 < 3 by omega),
  List.forall_mem_cons.mpr ⟨qz_ladd C (show decode c_X9_weigh 53 = .ok (.ladd, 1) by decide +kernel),
  List.forall_mem_cons.mpr ⟨qz_lret C (show decode c_X9_weigh 54 = .ok (.lreturn, 1) by decide +kernel) rfl,
  List.forall_mem_cons.mpr ⟨qz_aload_n C (show decode c_X9_weigh 55 = .ok (.aload_n 1, 1) by decide +kernel) rfl,
  List.forall_mem_cons.mpr ⟨qz_aload_n C (show decode c_X9_weigh 56 = .ok (.aload_n 0, 1) by decide +kernel) rfl,
  List.forall_mem_cons.mpr ⟨qz_gf (k := 0) C (show decode c_X9_weigh 57 = .ok (.getfield 26, 3) by decide +kernel) vcX9 wiX9 (by decide) cw_295,
  List.forall_mem_cons.mpr ⟨qz_iload C (show decode c_X9_weigh 60 = .ok (.iload 4, 2) by decide +kernel),
  List.forall_mem_cons.mpr ⟨qz_bipush C (show decode c_X9_weigh 62 = .ok (.bipush 10, 2) by decide +kernel) (by decide +kernel),
  List.forall_mem_cons.mpr ⟨qz_idiv C (show decode c_X9_weigh 64 = .ok (.idiv, 1) by decide +kernel),
  List.forall_mem_cons.mpr ⟨qz_iload_n C (show decode c_X9_weigh 65 = .ok (.iload_n 3, 1) by decide +kernel) rfl,
  List.forall_mem_cons.mpr ⟨qz_vI C (show decode c_X9_weigh 66 = .ok (.invokevirtual 58, 3) by decide +kernel) ct_X7_moved mv_X7_moved cw_794 vcX7 (show 2 < 3 by omega),
  List.forall_mem_cons.mpr ⟨qz_istore C (show decode c_X9_weigh 69 = .ok (.istore 5, 2) by decide +kernel),
  List.forall_mem_cons.mpr ⟨qz_ldc2 C (show decode c_X9_weigh 71 = .ok (.ldc2_w 64, 3) by decide +kernel) cw_806,
  List.forall_mem_cons.mpr ⟨qz_aload_n C (show decode c_X9_weigh 74 = .ok (.aload_n 0, 1) by decide +kernel) rfl,
  List.forall_mem_cons.mpr ⟨qz_iload C (show decode c_X9_weigh 75 = .ok (.iload 4, 2) by decide +kernel),
  List.forall_mem_cons.mpr ⟨qz_bipush C (show decode c_X9_weigh 77 = .ok (.bipush 10, 2) by decide +kernel) (by decide +kernel),
  List.forall_mem_cons.mpr ⟨qz_irem C (show decode c_X9_weigh 79 = .ok (.irem, 1) by decide +kernel),
  List.forall_mem_cons.mpr ⟨qz_iload C (show decode c_X9_weigh 80 = .ok (.iload 5, 2) by decide +kernel),
  List.forall_mem_cons.mpr ⟨qz_bipush C (show decode c_X9_weigh 82 = .ok (.bipush 10, 2) by decide +kernel) (by decide +kernel),
  List.forall_mem_cons.mpr ⟨qz_vL C (show decode c_X9_weigh 84 = .ok (.invokevirtual 76, 3) by decide +kernel) ct_X9_sizeUpTo mv_X9_sizeUpTo cw_811 vcX9 (show 2 < 3 by omega),
  List.forall_mem_cons.mpr ⟨qz_ladd C (show decode c_X9_weigh 87 = .ok (.ladd, 1) by decide +kernel),
  (fun q h => by cases h)⟩⟩⟩⟩⟩⟩⟩⟩⟩⟩⟩⟩⟩⟩⟩⟩⟩⟩⟩⟩⟩⟩⟩⟩⟩⟩⟩⟩⟩⟩⟩⟩⟩⟩⟩⟩⟩⟩⟩⟩
set_option maxRecDepth 20000 in
theorem sd_X9_weigh_1 {G : pj_E} {A : Nat → Prop} {P : pj_P} {S : pj_U} {Z : pj_Z} (C : pj_C (G, A, (c_X9_weigh, y_X9_weigh.cls, 6, (some .long), 3), P, S, Z)) : ∀ q ∈ tb_X9_weigh_1, pj_S (G, A, (c_X9_weigh, y_X9_weigh.cls, 6, (some .long), 3), P, S, Z) pj_eL q.1 q.2 :=
  List.forall_mem_cons.mpr ⟨qz_lret C (show decode c_X9_weigh 88 = .ok (.lreturn, 1) by decide +kernel) rfl,
  (fun q h => by cases h)⟩
theorem sd_X9_weigh {G : pj_E} {A : Nat → Prop} {P : pj_P} {S : pj_U} {Z : pj_Z} (C : pj_C (G, A, (c_X9_weigh, y_X9_weigh.cls, 6, (some .long), 3), P, S, Z)) : ∀ q ∈ tb_X9_weigh, pj_S (G, A, (c_X9_weigh, y_X9_weigh.cls, 6, (some .long), 3), P, S, Z) pj_eL q.1 q.2 := List.forall_mem_append.mpr ⟨sd_X9_weigh_0 C, sd_X9_weigh_1 C⟩
set_option maxRecDepth 20000 in
theorem eq_X9_weigh (a0 : Nat) (a1 : Nat) (x2 : Int32) (x3 : Int32) (m : pj_M) : pj_run tb_X9_weigh [] 43 0 [some (.inr (.inr (0, 9, a0))), some (.inr (.inr (0, 7, a1))), some (.inl x2), some (.inl x3), none, none] [] m = F_X9_weigh a0 a1 x2 x3 m := by rfl
theorem ct_X9_weigh : pj_Ct pj_eL y_X9_weigh c_X9_weigh 6 (some .long) 3 W_X9_weigh := by
  refine pj_ct_of (by decide +kernel) ?_ ?_
  · intro as m r h
    unfold W_X9_weigh at h
    split at h
    · simp [pj_l0]
    · cases h
  · intro G A P S Z C as m r h hR
    unfold W_X9_weigh at h
    split at h
    · split at h
      · rename_i hbq
        simp only [Bool.and_eq_true, Nat.beq_eq] at hbq
        obtain ⟨rfl, rfl, rfl, rfl⟩ := hbq
        exact pj_run_ok (sd_X9_weigh C) (fun q h => by cases h) 43 0 _ _ _ _ ((eq_X9_weigh _ _ _ _ _).trans h) hR
      · cases h
    · cases h
/-! AlikeSteps$Teller.weighAll(ILAlikeSteps$Steps;IZ)V -/
abbrev c_X9_weighAll : ByteArray := prog_11_method_6_code
def y_X9_weighAll : MethodName := ⟨RX9, "weighAll", "(ILAlikeSteps$Steps;IZ)V"⟩
noncomputable def J_X9_weighAll_55 (k3 : Nat → Int32 → Nat → Int32 → Int32 → Int32 → pj_M → Option (pj_M)) (k12 : Nat → Int32 → Nat → Int32 → Int32 → Int32 → Int32 → pj_M → Option (pj_M)) (a0 : Nat) (x1 : Int32) (a2 : Nat) (x3 : Int32) (x4 : Int32) (x5 : Int32) (x6 : Int32) (x7 : Int32) (s0 : Int32) (m : pj_M) : Option (pj_M) := (if s0 = x4 then ((F_X9_weigh a0 a2 x5 x6 m).bind fun q1 => (if x7 < 0 ∨ 100 ≤ x7.toNatClampNeg then none else (k12 a0 x1 a2 x3 x4 x5 (x6 + 1) (pj_wl q1.2 (a0 + 3) x7.toNatClampNeg q1.1)))) else (k12 a0 x1 a2 x3 x4 x5 (x6 + 1) m))
noncomputable def H_X9_weighAll_12 (k3 : Nat → Int32 → Nat → Int32 → Int32 → Int32 → pj_M → Option (pj_M)) : Nat → Nat → Int32 → Nat → Int32 → Int32 → Int32 → Int32 → pj_M → Option (pj_M)
  | 0, _, _, _, _, _, _, _, _ => none
  | n1 + 1, a0, x1, a2, x3, x4, x5, x6, m => (if x6 < x1 then (if ((x5 * 10) + x6) < 0 ∨ 100 ≤ ((x5 * 10) + x6).toNatClampNeg then none else (if (m.1 (a0 + 1) ((x5 * 10) + x6).toNatClampNeg) = x3 then (if ((x5 * 10) + x6) < 0 ∨ 100 ≤ ((x5 * 10) + x6).toNatClampNeg then none else (if (m.1 (a0 + 2) ((x5 * 10) + x6).toNatClampNeg) = (-1) then (J_X9_weighAll_55 k3 (H_X9_weighAll_12 k3 n1) a0 x1 a2 x3 x4 x5 x6 ((x5 * 10) + x6) 1 m) else (J_X9_weighAll_55 k3 (H_X9_weighAll_12 k3 n1) a0 x1 a2 x3 x4 x5 x6 ((x5 * 10) + x6) 0 m))) else (H_X9_weighAll_12 k3 n1 a0 x1 a2 x3 x4 x5 (x6 + 1) m))) else (k3 a0 x1 a2 x3 x4 (x5 + 1) m))
noncomputable def H_X9_weighAll_3 : Nat → Nat → Int32 → Nat → Int32 → Int32 → Int32 → pj_M → Option (pj_M)
  | 0, _, _, _, _, _, _, _ => none
  | n1 + 1, a0, x1, a2, x3, x4, x5, m => (if x5 < x1 then (H_X9_weighAll_12 (H_X9_weighAll_3 n1) pj_z a0 x1 a2 x3 x4 x5 0 m) else (some m))
noncomputable def F_X9_weighAll (a0 : Nat) (x1 : Int32) (a2 : Nat) (x3 : Int32) (x4 : Int32) (m : pj_M) : Option (pj_M) := (H_X9_weighAll_3 pj_z a0 x1 a2 x3 x4 0 m)
noncomputable def W_X9_weighAll : List pj_V → pj_M → Option (pj_M) := fun as m => match as with
  | [.inr (.inr (t0, w0, a0)), .inl x1, .inr (.inr (t2, w2, a2)), .inl x3, .inl x4] => (match Nat.beq t0 0 && (Nat.beq w0 9 && (Nat.beq t2 0 && (Nat.beq w2 7))) with
    | true => F_X9_weighAll a0 x1 a2 x3 x4 m
    | false => none)
  | _ => none
noncomputable def tb_X9_weighAll_0 : List (Nat × pj_T (pj_M)) := [(0, qs_ci 0 1), (1, qs_sti 5 3), (3, qs_ldi 5 5), (5, qs_ldi 1 6), (6, qs_icge 88 9), (9, qs_ci 0 10), (10, qs_sti 6 12), (12, qs_ldi 6 14), (14, qs_ldi 1 15), (15, qs_icge 82 18), (18, qs_ldi 5 20), (20, qs_ci 10 22), (22, qs_b2 (fun x y => x * y) 23), (23, qs_ldi 6 25), (25, qs_b2 (fun x y => x + y) 26), (26, qs_sti 7 28), (28, qs_lda 0 29), (29, qs_gf 9 1 32), (32, qs_ldi 7 34), (34, qs_iald 35), (35, qs_ldi 3 36), (36, qs_icne 76 39), (39, qs_lda 0 40), (40, qs_gf 9 2 43), (43, qs_ldi 7 45), (45, qs_iald 46), (46, qs_ci (-1) 47), (47, qs_icne 54 50), (50, qs_ci 1 51), (51, qs_go 55), (54, qs_ci 0 55), (55, qs_ldi 4 57), (57, qs_icne 76 60), (60, qs_lda 0 61), (61, qs_gf 9 3 64), (64, qs_ldi 7 66), (66, qs_lda 0 67), (67, qs_lda 2 68), (68, qs_ldi 5 70), (70, qs_ldi 6 72)]
noncomputable def tb_X9_weighAll_1 : List (Nat × pj_T (pj_M)) := [(72, qs_vL 9 4 W_X9_weigh 75), (75, qs_last 76), (76, qs_inc 6 1 79), (79, qs_go 12), (82, qs_inc 5 1 85), (85, qs_go 3), (88, qs_vret)]
noncomputable def tb_X9_weighAll : List (Nat × pj_T (pj_M)) := tb_X9_weighAll_0 ++ (tb_X9_weighAll_1)
theorem mv_X9_weighAll : pj_mv y_X9_weighAll c_X9_weighAll 8 none 4 := ⟨⟨cw_801, cw_800, cw_20, cw_91⟩, by decide +kernel, by decide⟩
set_option maxRecDepth 20000 in
theorem sd_X9_weighAll_0 {G : pj_E} {A : Nat → Prop} {P : pj_P} {S : pj_U} {Z : pj_Z} (C : pj_C (G, A, (c_X9_weighAll, y_X9_weighAll.cls, 8, none, 4), P, S, Z)) : ∀ q ∈ tb_X9_weighAll_0, pj_S (G, A, (c_X9_weighAll, y_X9_weighAll.cls, 8, none, 4), P, S, Z) pj_eV q.1 q.2 :=
  List.forall_mem_cons.mpr ⟨qz_iconst C (show decode c_X9_weighAll 0 = .ok (.iconst 0, 1) by decide +kernel) (by decide +kernel),
  List.forall_mem_cons.mpr ⟨qz_istore C (show decode c_X9_weighAll 1 = .ok (.istore 5, 2) by decide +kernel),
  List.forall_mem_cons.mpr ⟨qz_iload C (show decode c_X9_weighAll 3 = .ok (.iload 5, 2) by decide +kernel),
  List.forall_mem_cons.mpr ⟨qz_iload_n C (show decode c_X9_weighAll 5 = .ok (.iload_n 1, 1) by decide +kernel) rfl,
  List.forall_mem_cons.mpr ⟨qz_icge C (show decode c_X9_weighAll 6 = .ok (.if_icmp .ge 82, 3) by decide +kernel) (by decide),
  List.forall_mem_cons.mpr ⟨qz_iconst C (show decode c_X9_weighAll 9 = .ok (.iconst 0, 1) by decide +kernel) (by decide +kernel),
  List.forall_mem_cons.mpr ⟨qz_istore C (show decode c_X9_weighAll 10 = .ok (.istore 6, 2) by decide +kernel),
  List.forall_mem_cons.mpr ⟨qz_iload C (show decode c_X9_weighAll 12 = .ok (.iload 6, 2) by decide +kernel),
  List.forall_mem_cons.mpr ⟨qz_iload_n C (show decode c_X9_weighAll 14 = .ok (.iload_n 1, 1) by decide +kernel) rfl,
  List.forall_mem_cons.mpr ⟨qz_icge C (show decode c_X9_weighAll 15 = .ok (.if_icmp .ge 67, 3) by decide +kernel) (by decide),
  List.forall_mem_cons.mpr ⟨qz_iload C (show decode c_X9_weighAll 18 = .ok (.iload 5, 2) by decide +kernel),
  List.forall_mem_cons.mpr ⟨qz_bipush C (show decode c_X9_weighAll 20 = .ok (.bipush 10, 2) by decide +kernel) (by decide +kernel),
  List.forall_mem_cons.mpr ⟨qz_imul C (show decode c_X9_weighAll 22 = .ok (.imul, 1) by decide +kernel),
  List.forall_mem_cons.mpr ⟨qz_iload C (show decode c_X9_weighAll 23 = .ok (.iload 6, 2) by decide +kernel),
  List.forall_mem_cons.mpr ⟨qz_iadd C (show decode c_X9_weighAll 25 = .ok (.iadd, 1) by decide +kernel),
  List.forall_mem_cons.mpr ⟨qz_istore C (show decode c_X9_weighAll 26 = .ok (.istore 7, 2) by decide +kernel),
  List.forall_mem_cons.mpr ⟨qz_aload_n C (show decode c_X9_weighAll 28 = .ok (.aload_n 0, 1) by decide +kernel) rfl,
  List.forall_mem_cons.mpr ⟨qz_gf (k := 1) C (show decode c_X9_weighAll 29 = .ok (.getfield 9, 3) by decide +kernel) vcX9 wiX9 (by decide) cw_296,
  List.forall_mem_cons.mpr ⟨qz_iload C (show decode c_X9_weighAll 32 = .ok (.iload 7, 2) by decide +kernel),
  List.forall_mem_cons.mpr ⟨qz_iald C (show decode c_X9_weighAll 34 = .ok (.iaload, 1) by decide +kernel),
  List.forall_mem_cons.mpr ⟨qz_iload_n C (show decode c_X9_weighAll 35 = .ok (.iload_n 3, 1) by decide +kernel) rfl,
  List.forall_mem_cons.mpr ⟨qz_icne C (show decode c_X9_weighAll 36 = .ok (.if_icmp .ne 40, 3) by decide +kernel) (by decide),
  List.forall_mem_cons.mpr ⟨qz_aload_n C (show decode c_X9_weighAll 39 = .ok (.aload_n 0, 1) by decide +kernel) rfl,
  List.forall_mem_cons.mpr ⟨qz_gf (k := 2) C (show decode c_X9_weighAll 40 = .ok (.getfield 15, 3) by decide +kernel) vcX9 wiX9 (by decide) cw_297,
  List.forall_mem_cons.mpr ⟨qz_iload C (show decode c_X9_weighAll 43 = .ok (.iload 7, 2) by decide +kernel),
  List.forall_mem_cons.mpr ⟨qz_iald C (show decode c_X9_weighAll 45 = .ok (.iaload, 1) by decide +kernel),
  List.forall_mem_cons.mpr ⟨qz_iconst C (show decode c_X9_weighAll 46 = .ok (.iconst (-1), 1) by decide +kernel) (by decide +kernel),
  List.forall_mem_cons.mpr ⟨qz_icne C (show decode c_X9_weighAll 47 = .ok (.if_icmp .ne 7, 3) by decide +kernel) (by decide),
  List.forall_mem_cons.mpr ⟨qz_iconst C (show decode c_X9_weighAll 50 = .ok (.iconst 1, 1) by decide +kernel) (by decide +kernel),
  List.forall_mem_cons.mpr ⟨qz_goto C (show decode c_X9_weighAll 51 = .ok (.goto 4, 3) by decide +kernel) (by decide),
  List.forall_mem_cons.mpr ⟨qz_iconst C (show decode c_X9_weighAll 54 = .ok (.iconst 0, 1) by decide +kernel) (by decide +kernel),
  List.forall_mem_cons.mpr ⟨qz_iload C (show decode c_X9_weighAll 55 = .ok (.iload 4, 2) by decide +kernel),
  List.forall_mem_cons.mpr ⟨qz_icne C (show decode c_X9_weighAll 57 = .ok (.if_icmp .ne 19, 3) by decide +kernel) (by decide),
  List.forall_mem_cons.mpr ⟨qz_aload_n C (show decode c_X9_weighAll 60 = .ok (.aload_n 0, 1) by decide +kernel) rfl,
  List.forall_mem_cons.mpr ⟨qz_gf (k := 3) C (show decode c_X9_weighAll 61 = .ok (.getfield 18, 3) by decide +kernel) vcX9 wiX9 (by decide) cw_298,
  List.forall_mem_cons.mpr ⟨qz_iload C (show decode c_X9_weighAll 64 = .ok (.iload 7, 2) by decide +kernel),
  List.forall_mem_cons.mpr ⟨qz_aload_n C (show decode c_X9_weighAll 66 = .ok (.aload_n 0, 1) by decide +kernel) rfl,
  List.forall_mem_cons.mpr ⟨qz_aload_n C (show decode c_X9_weighAll 67 = .ok (.aload_n 2, 1) by decide +kernel) rfl,
  List.forall_mem_cons.mpr ⟨qz_iload C (show decode c_X9_weighAll 68 = .ok (.iload 5, 2) by decide +kernel),
  List.forall_mem_cons.mpr ⟨qz_iload C (show decode c_X9_weighAll 70 = .ok (.iload 6, 2) by decide +kernel),
  (fun q h => by cases h)⟩⟩⟩⟩⟩⟩⟩⟩⟩⟩⟩⟩⟩⟩⟩⟩⟩⟩⟩⟩⟩⟩⟩⟩⟩⟩⟩⟩⟩⟩⟩⟩⟩⟩⟩⟩⟩⟩⟩⟩
set_option maxRecDepth 20000 in
theorem sd_X9_weighAll_1 {G : pj_E} {A : Nat → Prop} {P : pj_P} {S : pj_U} {Z : pj_Z} (C : pj_C (G, A, (c_X9_weighAll, y_X9_weighAll.cls, 8, none, 4), P, S, Z)) : ∀ q ∈ tb_X9_weighAll_1, pj_S (G, A, (c_X9_weighAll, y_X9_weighAll.cls, 8, none, 4), P, S, Z) pj_eV q.1 q.2 :=
  List.forall_mem_cons.mpr ⟨qz_vL C (show decode c_X9_weighAll 72 = .ok (.invokevirtual 87, 3) by decide +kernel) ct_X9_weigh mv_X9_weigh cw_802 vcX9 (show 3 < 4 by omega),
  List.forall_mem_cons.mpr ⟨qz_last C (show decode c_X9_weighAll 75 = .ok (.lastore, 1) by decide +kernel),
  List.forall_mem_cons.mpr ⟨qz_iinc C (show decode c_X9_weighAll 76 = .ok (.iinc 6 1, 3) by decide +kernel) (by decide +kernel),
  List.forall_mem_cons.mpr ⟨qz_goto C (show decode c_X9_weighAll 79 = .ok (.goto (-67), 3) by decide +kernel) (by decide),
  List.forall_mem_cons.mpr ⟨qz_iinc C (show decode c_X9_weighAll 82 = .ok (.iinc 5 1, 3) by decide +kernel) (by decide +kernel),
  List.forall_mem_cons.mpr ⟨qz_goto C (show decode c_X9_weighAll 85 = .ok (.goto (-82), 3) by decide +kernel) (by decide),
  List.forall_mem_cons.mpr ⟨qz_vret C (show decode c_X9_weighAll 88 = .ok (.return_, 1) by decide +kernel) rfl,
  (fun q h => by cases h)⟩⟩⟩⟩⟩⟩⟩
theorem sd_X9_weighAll {G : pj_E} {A : Nat → Prop} {P : pj_P} {S : pj_U} {Z : pj_Z} (C : pj_C (G, A, (c_X9_weighAll, y_X9_weighAll.cls, 8, none, 4), P, S, Z)) : ∀ q ∈ tb_X9_weighAll, pj_S (G, A, (c_X9_weighAll, y_X9_weighAll.cls, 8, none, 4), P, S, Z) pj_eV q.1 q.2 := List.forall_mem_append.mpr ⟨sd_X9_weighAll_0 C, sd_X9_weighAll_1 C⟩
noncomputable def C_X9_weighAll_55 (f : Nat → Int32 → Nat → Int32 → Int32 → Int32 → Int32 → Int32 → Int32 → pj_M → Option (pj_M)) : pj_N (pj_M) := fun L st m => match L, st with
  | [some (.inr (.inr (t0, w0, a0))), some (.inl x1), some (.inr (.inr (t2, w2, a2))), some (.inl x3), some (.inl x4), some (.inl x5), some (.inl x6), some (.inl x7)], [.inl s0] => (match Nat.beq t0 0 && (Nat.beq w0 9 && (Nat.beq t2 0 && (Nat.beq w2 7))) with
    | true => f a0 x1 a2 x3 x4 x5 x6 x7 s0 m
    | false => none)
  | _, _ => none
noncomputable def C_X9_weighAll_12 (f : Nat → Int32 → Nat → Int32 → Int32 → Int32 → Int32 → pj_M → Option (pj_M)) : pj_N (pj_M) := fun L st m => match L, st with
  | [some (.inr (.inr (t0, w0, a0))), some (.inl x1), some (.inr (.inr (t2, w2, a2))), some (.inl x3), some (.inl x4), some (.inl x5), some (.inl x6), _], [] => (match Nat.beq t0 0 && (Nat.beq w0 9 && (Nat.beq t2 0 && (Nat.beq w2 7))) with
    | true => f a0 x1 a2 x3 x4 x5 x6 m
    | false => none)
  | _, _ => none
noncomputable def C_X9_weighAll_3 (f : Nat → Int32 → Nat → Int32 → Int32 → Int32 → pj_M → Option (pj_M)) : pj_N (pj_M) := fun L st m => match L, st with
  | [some (.inr (.inr (t0, w0, a0))), some (.inl x1), some (.inr (.inr (t2, w2, a2))), some (.inl x3), some (.inl x4), some (.inl x5), _, _], [] => (match Nat.beq t0 0 && (Nat.beq w0 9 && (Nat.beq t2 0 && (Nat.beq w2 7))) with
    | true => f a0 x1 a2 x3 x4 x5 m
    | false => none)
  | _, _ => none
set_option maxRecDepth 20000 in
theorem eq_X9_weighAll_55 (k3 : Nat → Int32 → Nat → Int32 → Int32 → Int32 → pj_M → Option (pj_M)) (k12 : Nat → Int32 → Nat → Int32 → Int32 → Int32 → Int32 → pj_M → Option (pj_M)) (a0 : Nat) (x1 : Int32) (a2 : Nat) (x3 : Int32) (x4 : Int32) (x5 : Int32) (x6 : Int32) (x7 : Int32) (s0 : Int32) (m : pj_M) : pj_run tb_X9_weighAll [(12, C_X9_weighAll_12 k12)] 49 55 [some (.inr (.inr (0, 9, a0))), some (.inl x1), some (.inr (.inr (0, 7, a2))), some (.inl x3), some (.inl x4), some (.inl x5), some (.inl x6), some (.inl x7)] [.inl s0] m = J_X9_weighAll_55 k3 k12 a0 x1 a2 x3 x4 x5 x6 x7 s0 m := by rfl
theorem sg_X9_weighAll_55 {G : pj_E} {A : Nat → Prop} {P : pj_P} {S : pj_U} {Z : pj_Z} (C : pj_C (G, A, (c_X9_weighAll, y_X9_weighAll.cls, 8, none, 4), P, S, Z)) {k3 : Nat → Int32 → Nat → Int32 → Int32 → Int32 → pj_M → Option (pj_M)} (hk3 : pj_G (G, A, (c_X9_weighAll, y_X9_weighAll.cls, 8, none, 4), P, S, Z) pj_eV 3 (C_X9_weighAll_3 k3)) {k12 : Nat → Int32 → Nat → Int32 → Int32 → Int32 → Int32 → pj_M → Option (pj_M)} (hk12 : pj_G (G, A, (c_X9_weighAll, y_X9_weighAll.cls, 8, none, 4), P, S, Z) pj_eV 12 (C_X9_weighAll_12 k12)) : pj_G (G, A, (c_X9_weighAll, y_X9_weighAll.cls, 8, none, 4), P, S, Z) pj_eV 55 (C_X9_weighAll_55 (J_X9_weighAll_55 k3 k12)) := by
  intro L st m r h hR
  unfold C_X9_weighAll_55 at h
  split at h
  · split at h
    · rename_i hbq
      simp only [Bool.and_eq_true, Nat.beq_eq] at hbq
      obtain ⟨rfl, rfl, rfl, rfl⟩ := hbq
      exact pj_run_ok (sd_X9_weighAll C) (List.forall_mem_cons.mpr ⟨hk12, fun q h => by cases h⟩) 49 55 _ _ _ _ ((eq_X9_weighAll_55 _ _ _ _ _ _ _ _ _ _ _ _).trans h) hR
    · cases h
  · cases h
set_option maxRecDepth 20000 in
theorem eq_X9_weighAll_12 (k3 : Nat → Int32 → Nat → Int32 → Int32 → Int32 → pj_M → Option (pj_M)) (n1 : Nat) (a0 : Nat) (x1 : Int32) (a2 : Nat) (x3 : Int32) (x4 : Int32) (x5 : Int32) (x6 : Int32) (d7 : Option pj_V) (m : pj_M) : pj_run tb_X9_weighAll [(3, C_X9_weighAll_3 k3), (12, C_X9_weighAll_12 (H_X9_weighAll_12 k3 n1)), (55, C_X9_weighAll_55 (J_X9_weighAll_55 k3 (H_X9_weighAll_12 k3 n1)))] 49 12 [some (.inr (.inr (0, 9, a0))), some (.inl x1), some (.inr (.inr (0, 7, a2))), some (.inl x3), some (.inl x4), some (.inl x5), some (.inl x6), d7] [] m = H_X9_weighAll_12 k3 (n1 + 1) a0 x1 a2 x3 x4 x5 x6 m := by rfl
theorem sg_X9_weighAll_12 {G : pj_E} {A : Nat → Prop} {P : pj_P} {S : pj_U} {Z : pj_Z} (C : pj_C (G, A, (c_X9_weighAll, y_X9_weighAll.cls, 8, none, 4), P, S, Z)) {k3 : Nat → Int32 → Nat → Int32 → Int32 → Int32 → pj_M → Option (pj_M)} (hk3 : pj_G (G, A, (c_X9_weighAll, y_X9_weighAll.cls, 8, none, 4), P, S, Z) pj_eV 3 (C_X9_weighAll_3 k3)) : ∀ n1, pj_G (G, A, (c_X9_weighAll, y_X9_weighAll.cls, 8, none, 4), P, S, Z) pj_eV 12 (C_X9_weighAll_12 (H_X9_weighAll_12 k3 n1)) := by
  intro n1
  induction n1 with
  | zero =>
    intro L st m r h hR
    unfold C_X9_weighAll_12 at h
    split at h
    · split at h
      · cases h
      · cases h
    · cases h
  | succ n1 ih1 =>
    intro L st m r h hR
    unfold C_X9_weighAll_12 at h
    split at h
    · split at h
      · rename_i hbq
        simp only [Bool.and_eq_true, Nat.beq_eq] at hbq
        obtain ⟨rfl, rfl, rfl, rfl⟩ := hbq
        exact pj_run_ok (sd_X9_weighAll C) (List.forall_mem_cons.mpr ⟨hk3, List.forall_mem_cons.mpr ⟨ih1, List.forall_mem_cons.mpr ⟨sg_X9_weighAll_55 C hk3 ih1, fun q h => by cases h⟩⟩⟩) 49 12 _ _ _ _ ((eq_X9_weighAll_12 _ _ _ _ _ _ _ _ _ _ _).trans h) hR
      · cases h
    · cases h
set_option maxRecDepth 20000 in
theorem eq_X9_weighAll_3 (n1 : Nat) (a0 : Nat) (x1 : Int32) (a2 : Nat) (x3 : Int32) (x4 : Int32) (x5 : Int32) (d6 d7 : Option pj_V) (m : pj_M) : pj_run tb_X9_weighAll [(12, C_X9_weighAll_12 (H_X9_weighAll_12 (H_X9_weighAll_3 n1) pj_z))] 49 3 [some (.inr (.inr (0, 9, a0))), some (.inl x1), some (.inr (.inr (0, 7, a2))), some (.inl x3), some (.inl x4), some (.inl x5), d6, d7] [] m = H_X9_weighAll_3 (n1 + 1) a0 x1 a2 x3 x4 x5 m := by rfl
theorem sg_X9_weighAll_3 {G : pj_E} {A : Nat → Prop} {P : pj_P} {S : pj_U} {Z : pj_Z} (C : pj_C (G, A, (c_X9_weighAll, y_X9_weighAll.cls, 8, none, 4), P, S, Z)) : ∀ n1, pj_G (G, A, (c_X9_weighAll, y_X9_weighAll.cls, 8, none, 4), P, S, Z) pj_eV 3 (C_X9_weighAll_3 (H_X9_weighAll_3 n1)) := by
  intro n1
  induction n1 with
  | zero =>
    intro L st m r h hR
    unfold C_X9_weighAll_3 at h
    split at h
    · split at h
      · cases h
      · cases h
    · cases h
  | succ n1 ih1 =>
    intro L st m r h hR
    unfold C_X9_weighAll_3 at h
    split at h
    · split at h
      · rename_i hbq
        simp only [Bool.and_eq_true, Nat.beq_eq] at hbq
        obtain ⟨rfl, rfl, rfl, rfl⟩ := hbq
        exact pj_run_ok (sd_X9_weighAll C) (List.forall_mem_cons.mpr ⟨sg_X9_weighAll_12 C ih1 pj_z, fun q h => by cases h⟩) 49 3 _ _ _ _ ((eq_X9_weighAll_3 _ _ _ _ _ _ _ _ _ _).trans h) hR
      · cases h
    · cases h
set_option maxRecDepth 20000 in
theorem eq_X9_weighAll (a0 : Nat) (x1 : Int32) (a2 : Nat) (x3 : Int32) (x4 : Int32) (m : pj_M) : pj_run tb_X9_weighAll [(3, C_X9_weighAll_3 (H_X9_weighAll_3  pj_z))] 49 0 [some (.inr (.inr (0, 9, a0))), some (.inl x1), some (.inr (.inr (0, 7, a2))), some (.inl x3), some (.inl x4), none, none, none] [] m = F_X9_weighAll a0 x1 a2 x3 x4 m := by rfl
theorem ct_X9_weighAll : pj_Ct pj_eV y_X9_weighAll c_X9_weighAll 8 none 4 W_X9_weighAll := by
  refine pj_ct_of (by decide +kernel) ?_ ?_
  · intro as m r h
    unfold W_X9_weighAll at h
    split at h
    · simp [pj_l0]
    · cases h
  · intro G A P S Z C as m r h hR
    unfold W_X9_weighAll at h
    split at h
    · split at h
      · rename_i hbq
        simp only [Bool.and_eq_true, Nat.beq_eq] at hbq
        obtain ⟨rfl, rfl, rfl, rfl⟩ := hbq
        exact pj_run_ok (sd_X9_weighAll C) (List.forall_mem_cons.mpr ⟨sg_X9_weighAll_3 C  pj_z, fun q h => by cases h⟩) 49 0 _ _ _ _ ((eq_X9_weighAll _ _ _ _ _ _).trans h) hR
      · cases h
    · cases h
/-! AlikeSteps$Teller.follow(LAlikeSteps$Net;LAlikeSteps$Steps;LAlikeSteps$Parting;)V -/
abbrev c_X9_follow : ByteArray := prog_11_method_2_code
def y_X9_follow : MethodName := ⟨RX9, "follow", "(LAlikeSteps$Net;LAlikeSteps$Steps;LAlikeSteps$Parting;)V"⟩
noncomputable def H_X9_follow_146 : Nat → Nat → Nat → Nat → Nat → Int32 → pj_M → Option (pj_M)
  | 0, _, _, _, _, _, _ => none
  | n1 + 1, a0, a1, a2, a3, x4, m => ((F_X5_rounds a3 m).bind fun q1 => (if q1.1 < x4 then (some q1.2) else ((F_X4_states a1 q1.2).bind fun q2 => ((F_X9_weighAll a0 q2.1 a2 x4 0 q2.2).bind fun q3 => ((F_X4_states a1 q3).bind fun q4 => ((F_X9_weighAll a0 q4.1 a2 x4 1 q4.2).bind fun q5 => (H_X9_follow_146 n1 a0 a1 a2 a3 (x4 + 1) q5)))))))
noncomputable def H_X9_follow_54 (k23 : Nat → Nat → Nat → Nat → Int32 → pj_M → Option (pj_M)) : Nat → Nat → Nat → Nat → Nat → Int32 → Int32 → Int32 → pj_M → Option (pj_M)
  | 0, _, _, _, _, _, _, _, _ => none
  | n1 + 1, a0, a1, a2, a3, x4, x5, x6, m => ((F_X4_states a1 m).bind fun q1 => (if x6 < q1.1 then ((F_X5_roundOf a3 x4 x6 q1.2).bind fun q2 => (if ((x4 * 10) + x6) < 0 ∨ 100 ≤ ((x4 * 10) + x6).toNatClampNeg then none else (if (0 : Int32) < q2.1 then ((F_X9_findLead a0 a2 a3 x4 x6 (pj_wr q2.2 (a0 + 1) ((x4 * 10) + x6).toNatClampNeg q2.1)).bind fun q3 => (if ((x4 * 10) + x6) < 0 ∨ 100 ≤ ((x4 * 10) + x6).toNatClampNeg then none else (H_X9_follow_54 k23 n1 a0 a1 a2 a3 x4 x5 (x6 + 1) (pj_wr q3.2 (a0 + 2) ((x4 * 10) + x6).toNatClampNeg q3.1)))) else (if x5 = 0 then (if ((x4 * 10) + x6) < 0 ∨ 100 ≤ ((x4 * 10) + x6).toNatClampNeg then none else (H_X9_follow_54 k23 n1 a0 a1 a2 a3 x4 x5 (x6 + 1) (pj_wr (pj_wr q2.2 (a0 + 1) ((x4 * 10) + x6).toNatClampNeg q2.1) (a0 + 2) ((x4 * 10) + x6).toNatClampNeg (-3)))) else (if ((x4 * 10) + x6) < 0 ∨ 100 ≤ ((x4 * 10) + x6).toNatClampNeg then none else (H_X9_follow_54 k23 n1 a0 a1 a2 a3 x4 x5 (x6 + 1) (pj_wr (pj_wr q2.2 (a0 + 1) ((x4 * 10) + x6).toNatClampNeg q2.1) (a0 + 2) ((x4 * 10) + x6).toNatClampNeg (-2)))))))) else (k23 a0 a1 a2 a3 (x4 + 1) q1.2)))
noncomputable def H_X9_follow_23 : Nat → Nat → Nat → Nat → Nat → Int32 → pj_M → Option (pj_M)
  | 0, _, _, _, _, _, _ => none
  | n1 + 1, a0, a1, a2, a3, x4, m => ((F_X4_states a1 m).bind fun q1 => (if x4 < q1.1 then ((F_X4_marked a1 q1.2).bind fun q2 => (if ((q2.1 >>> (x4 &&& 31)) &&& 1) = 0 then (H_X9_follow_54 (H_X9_follow_23 n1) pj_z a0 a1 a2 a3 x4 0 0 q2.2) else (H_X9_follow_54 (H_X9_follow_23 n1) pj_z a0 a1 a2 a3 x4 1 0 q2.2))) else (H_X9_follow_146 pj_z a0 a1 a2 a3 0 q1.2)))
noncomputable def F_X9_follow (a0 : Nat) (a1 : Nat) (a2 : Nat) (a3 : Nat) (m : pj_M) : Option (pj_M) := ((F_X4_version a1 m).bind fun q1 => (if (m.1 a0 4) = q1.1 then (some q1.2) else ((F_X4_version a1 q1.2).bind fun q2 => (H_X9_follow_23 pj_z a0 a1 a2 a3 0 (pj_wr q2.2 a0 4 q2.1)))))
noncomputable def W_X9_follow : List pj_V → pj_M → Option (pj_M) := fun as m => match as with
  | [.inr (.inr (t0, w0, a0)), .inr (.inr (t1, w1, a1)), .inr (.inr (t2, w2, a2)), .inr (.inr (t3, w3, a3))] => (match Nat.beq t0 0 && (Nat.beq w0 9 && (Nat.beq t1 0 && (Nat.beq w1 4 && (Nat.beq t2 0 && (Nat.beq w2 7 && (Nat.beq t3 0 && (Nat.beq w3 5))))))) with
    | true => F_X9_follow a0 a1 a2 a3 m
    | false => none)
  | _ => none
noncomputable def tb_X9_follow_0 : List (Nat × pj_T (pj_M)) := [(0, qs_lda 0 1), (1, qs_gf 9 4 4), (4, qs_lda 1 5), (5, qs_vI 4 1 W_X4_version 8), (8, qs_icne 12 11), (11, qs_vret), (12, qs_lda 0 13), (13, qs_lda 1 14), (14, qs_vI 4 1 W_X4_version 17), (17, qs_pf 9 4 20), (20, qs_ci 0 21), (21, qs_sti 4 23), (23, qs_ldi 4 25), (25, qs_lda 1 26), (26, qs_vI 4 1 W_X4_states 29), (29, qs_icge 143 32), (32, qs_lda 1 33), (33, qs_vI 4 1 W_X4_marked 36), (36, qs_ldi 4 38), (38, qs_b2 (fun x y => x >>> (y &&& 31)) 39), (39, qs_ci 1 40), (40, qs_b2 (fun x y => x &&& y) 41), (41, qs_ifeq 48 44), (44, qs_ci 1 45), (45, qs_go 49), (48, qs_ci 0 49), (49, qs_sti 5 51), (51, qs_ci 0 52), (52, qs_sti 6 54), (54, qs_ldi 6 56), (56, qs_lda 1 57), (57, qs_vI 4 1 W_X4_states 60), (60, qs_icge 137 63), (63, qs_lda 3 64), (64, qs_ldi 4 66), (66, qs_ldi 6 68), (68, qs_vI 5 3 W_X5_roundOf 71), (71, qs_sti 7 73), (73, qs_lda 0 74), (74, qs_gf 9 1 77)]
noncomputable def tb_X9_follow_1 : List (Nat × pj_T (pj_M)) := [(77, qs_ldi 4 79), (79, qs_ci 10 81), (81, qs_b2 (fun x y => x * y) 82), (82, qs_ldi 6 84), (84, qs_b2 (fun x y => x + y) 85), (85, qs_ldi 7 87), (87, qs_iast 88), (88, qs_lda 0 89), (89, qs_gf 9 2 92), (92, qs_ldi 4 94), (94, qs_ci 10 96), (96, qs_b2 (fun x y => x * y) 97), (97, qs_ldi 6 99), (99, qs_b2 (fun x y => x + y) 100), (100, qs_ldi 7 102), (102, qs_ifle 118 105), (105, qs_lda 0 106), (106, qs_lda 2 107), (107, qs_lda 3 108), (108, qs_ldi 4 110), (110, qs_ldi 6 112), (112, qs_vI 9 5 W_X9_findLead 115), (115, qs_go 130), (118, qs_ldi 5 120), (120, qs_ifeq 128 123), (123, qs_ci (-2) 125), (125, qs_go 130), (128, qs_ci (-3) 130), (130, qs_iast 131), (131, qs_inc 6 1 134), (134, qs_go 54), (137, qs_inc 4 1 140), (140, qs_go 23), (143, qs_ci 0 144), (144, qs_sti 4 146), (146, qs_ldi 4 148), (148, qs_lda 3 149), (149, qs_vI 5 1 W_X5_rounds 152), (152, qs_icgt 185 155), (155, qs_lda 0 156)]
noncomputable def tb_X9_follow_2 : List (Nat × pj_T (pj_M)) := [(156, qs_lda 1 157), (157, qs_vI 4 1 W_X4_states 160), (160, qs_lda 2 161), (161, qs_ldi 4 163), (163, qs_ci 0 164), (164, qs_vV 9 5 W_X9_weighAll 167), (167, qs_lda 0 168), (168, qs_lda 1 169), (169, qs_vI 4 1 W_X4_states 172), (172, qs_lda 2 173), (173, qs_ldi 4 175), (175, qs_ci 1 176), (176, qs_vV 9 5 W_X9_weighAll 179), (179, qs_inc 4 1 182), (182, qs_go 146), (185, qs_vret)]
noncomputable def tb_X9_follow : List (Nat × pj_T (pj_M)) := tb_X9_follow_0 ++ (tb_X9_follow_1 ++ (tb_X9_follow_2))
theorem mv_X9_follow : pj_mv y_X9_follow c_X9_follow 8 none 3 := ⟨⟨cw_785, cw_783, cw_784, cw_91⟩, by decide +kernel, by decide⟩
set_option maxRecDepth 20000 in
theorem sd_X9_follow_0 {G : pj_E} {A : Nat → Prop} {P : pj_P} {S : pj_U} {Z : pj_Z} (C : pj_C (G, A, (c_X9_follow, y_X9_follow.cls, 8, none, 5), P, S, Z)) : ∀ q ∈ tb_X9_follow_0, pj_S (G, A, (c_X9_follow, y_X9_follow.cls, 8, none, 5), P, S, Z) pj_eV q.1 q.2 :=
  List.forall_mem_cons.mpr ⟨qz_aload_n C (show decode c_X9_follow 0 = .ok (.aload_n 0, 1) by decide +kernel) rfl,
  List.forall_mem_cons.mpr ⟨qz_gf (k := 4) C (show decode c_X9_follow 1 = .ok (.getfield 22, 3) by decide +kernel) vcX9 wiX9 (by decide) cw_299,
  List.forall_mem_cons.mpr ⟨qz_aload_n C (show decode c_X9_follow 4 = .ok (.aload_n 1, 1) by decide +kernel) rfl,
  List.forall_mem_cons.mpr ⟨qz_vI C (show decode c_X9_follow 5 = .ok (.invokevirtual 29, 3) by decide +kernel) ct_X4_version mv_X4_version cw_786 vcX4 (show 1 < 5 by omega),
  List.forall_mem_cons.mpr ⟨qz_icne C (show decode c_X9_follow 8 = .ok (.if_icmp .ne 4, 3) by decide +kernel) (by decide),
  List.forall_mem_cons.mpr ⟨qz_vret C (show decode c_X9_follow 11 = .ok (.return_, 1) by decide +kernel) rfl,
  List.forall_mem_cons.mpr ⟨qz_aload_n C (show decode c_X9_follow 12 = .ok (.aload_n 0, 1) by decide +kernel) rfl,
  List.forall_mem_cons.mpr ⟨qz_aload_n C (show decode c_X9_follow 13 = .ok (.aload_n 1, 1) by decide +kernel) rfl,
  List.forall_mem_cons.mpr ⟨qz_vI C (show decode c_X9_follow 14 = .ok (.invokevirtual 29, 3) by decide +kernel) ct_X4_version mv_X4_version cw_786 vcX4 (show 1 < 5 by omega),
  List.forall_mem_cons.mpr ⟨qz_pf (k := 4) C (show decode c_X9_follow 17 = .ok (.putfield 22, 3) by decide +kernel) vcX9 wiX9 tyX9_ok nmX9 (by decide) cw_299 rfl rfl,
  List.forall_mem_cons.mpr ⟨qz_iconst C (show decode c_X9_follow 20 = .ok (.iconst 0, 1) by decide +kernel) (by decide +kernel),
  List.forall_mem_cons.mpr ⟨qz_istore C (show decode c_X9_follow 21 = .ok (.istore 4, 2) by decide +kernel),
  List.forall_mem_cons.mpr ⟨qz_iload C (show decode c_X9_follow 23 = .ok (.iload 4, 2) by decide +kernel),
  List.forall_mem_cons.mpr ⟨qz_aload_n C (show decode c_X9_follow 25 = .ok (.aload_n 1, 1) by decide +kernel) rfl,
  List.forall_mem_cons.mpr ⟨qz_vI C (show decode c_X9_follow 26 = .ok (.invokevirtual 35, 3) by decide +kernel) ct_X4_states mv_X4_states cw_787 vcX4 (show 1 < 5 by omega),
  List.forall_mem_cons.mpr ⟨qz_icge C (show decode c_X9_follow 29 = .ok (.if_icmp .ge 114, 3) by decide +kernel) (by decide),
  List.forall_mem_cons.mpr ⟨qz_aload_n C (show decode c_X9_follow 32 = .ok (.aload_n 1, 1) by decide +kernel) rfl,
  List.forall_mem_cons.mpr ⟨qz_vI C (show decode c_X9_follow 33 = .ok (.invokevirtual 38, 3) by decide +kernel) ct_X4_marked mv_X4_marked cw_788 vcX4 (show 1 < 5 by omega),
  List.forall_mem_cons.mpr ⟨qz_iload C (show decode c_X9_follow 36 = .ok (.iload 4, 2) by decide +kernel),
  List.forall_mem_cons.mpr ⟨qz_ishr C (show decode c_X9_follow 38 = .ok (.ishr, 1) by decide +kernel),
  List.forall_mem_cons.mpr ⟨qz_iconst C (show decode c_X9_follow 39 = .ok (.iconst 1, 1) by decide +kernel) (by decide +kernel),
  List.forall_mem_cons.mpr ⟨qz_iand C (show decode c_X9_follow 40 = .ok (.iand, 1) by decide +kernel),
  List.forall_mem_cons.mpr ⟨qz_ifeq C (show decode c_X9_follow 41 = .ok (.ifCond .eq 7, 3) by decide +kernel) (by decide),
  List.forall_mem_cons.mpr ⟨qz_iconst C (show decode c_X9_follow 44 = .ok (.iconst 1, 1) by decide +kernel) (by decide +kernel),
  List.forall_mem_cons.mpr ⟨qz_goto C (show decode c_X9_follow 45 = .ok (.goto 4, 3) by decide +kernel) (by decide),
  List.forall_mem_cons.mpr ⟨qz_iconst C (show decode c_X9_follow 48 = .ok (.iconst 0, 1) by decide +kernel) (by decide +kernel),
  List.forall_mem_cons.mpr ⟨qz_istore C (show decode c_X9_follow 49 = .ok (.istore 5, 2) by decide +kernel),
  List.forall_mem_cons.mpr ⟨qz_iconst C (show decode c_X9_follow 51 = .ok (.iconst 0, 1) by decide +kernel) (by decide +kernel),
  List.forall_mem_cons.mpr ⟨qz_istore C (show decode c_X9_follow 52 = .ok (.istore 6, 2) by decide +kernel),
  List.forall_mem_cons.mpr ⟨qz_iload C (show decode c_X9_follow 54 = .ok (.iload 6, 2) by decide +kernel),
  List.forall_mem_cons.mpr ⟨qz_aload_n C (show decode c_X9_follow 56 = .ok (.aload_n 1, 1) by decide +kernel) rfl,
  List.forall_mem_cons.mpr ⟨qz_vI C (show decode c_X9_follow 57 = .ok (.invokevirtual 35, 3) by decide +kernel) ct_X4_states mv_X4_states cw_787 vcX4 (show 1 < 5 by omega),
  List.forall_mem_cons.mpr ⟨qz_icge C (show decode c_X9_follow 60 = .ok (.if_icmp .ge 77, 3) by decide +kernel) (by decide),
  List.forall_mem_cons.mpr ⟨qz_aload_n C (show decode c_X9_follow 63 = .ok (.aload_n 3, 1) by decide +kernel) rfl,
  List.forall_mem_cons.mpr ⟨qz_iload C (show decode c_X9_follow 64 = .ok (.iload 4, 2) by decide +kernel),
  List.forall_mem_cons.mpr ⟨qz_iload C (show decode c_X9_follow 66 = .ok (.iload 6, 2) by decide +kernel),
  List.forall_mem_cons.mpr ⟨qz_vI C (show decode c_X9_follow 68 = .ok (.invokevirtual 41, 3) by decide +kernel) ct_X5_roundOf mv_X5_roundOf cw_789 vcX5 (show 2 < 5 by omega),
  List.forall_mem_cons.mpr ⟨qz_istore C (show decode c_X9_follow 71 = .ok (.istore 7, 2) by decide +kernel),
  List.forall_mem_cons.mpr ⟨qz_aload_n C (show decode c_X9_follow 73 = .ok (.aload_n 0, 1) by decide +kernel) rfl,
  List.forall_mem_cons.mpr ⟨qz_gf (k := 1) C (show decode c_X9_follow 74 = .ok (.getfield 9, 3) by decide +kernel) vcX9 wiX9 (by decide) cw_296,
  (fun q h => by cases h)⟩⟩⟩⟩⟩⟩⟩⟩⟩⟩⟩⟩⟩⟩⟩⟩⟩⟩⟩⟩⟩⟩⟩⟩⟩⟩⟩⟩⟩⟩⟩⟩⟩⟩⟩⟩⟩⟩⟩⟩
set_option maxRecDepth 20000 in
theorem sd_X9_follow_1 {G : pj_E} {A : Nat → Prop} {P : pj_P} {S : pj_U} {Z : pj_Z} (C : pj_C (G, A, (c_X9_follow, y_X9_follow.cls, 8, none, 5), P, S, Z)) : ∀ q ∈ tb_X9_follow_1, pj_S (G, A, (c_X9_follow, y_X9_follow.cls, 8, none, 5), P, S, Z) pj_eV q.1 q.2 :=
  List.forall_mem_cons.mpr ⟨qz_iload C (show decode c_X9_follow 77 = .ok (.iload 4, 2) by decide +kernel),
  List.forall_mem_cons.mpr ⟨qz_bipush C (show decode c_X9_follow 79 = .ok (.bipush 10, 2) by decide +kernel) (by decide +kernel),
  List.forall_mem_cons.mpr ⟨qz_imul C (show decode c_X9_follow 81 = .ok (.imul, 1) by decide +kernel),
  List.forall_mem_cons.mpr ⟨qz_iload C (show decode c_X9_follow 82 = .ok (.iload 6, 2) by decide +kernel),
  List.forall_mem_cons.mpr ⟨qz_iadd C (show decode c_X9_follow 84 = .ok (.iadd, 1) by decide +kernel),
  List.forall_mem_cons.mpr ⟨qz_iload C (show decode c_X9_follow 85 = .ok (.iload 7, 2) by decide +kernel),
  List.forall_mem_cons.mpr ⟨qz_iast C (show decode c_X9_follow 87 = .ok (.iastore, 1) by decide +kernel),
  List.forall_mem_cons.mpr ⟨qz_aload_n C (show decode c_X9_follow 88 = .ok (.aload_n 0, 1) by decide +kernel) rfl,
  List.forall_mem_cons.mpr ⟨qz_gf (k := 2) C (show decode c_X9_follow 89 = .ok (.getfield 15, 3) by decide +kernel) vcX9 wiX9 (by decide) cw_297,
  List.forall_mem_cons.mpr ⟨qz_iload C (show decode c_X9_follow 92 = .ok (.iload 4, 2) by decide +kernel),
  List.forall_mem_cons.mpr ⟨qz_bipush C (show decode c_X9_follow 94 = .ok (.bipush 10, 2) by decide +kernel) (by decide +kernel),
  List.forall_mem_cons.mpr ⟨qz_imul C (show decode c_X9_follow 96 = .ok (.imul, 1) by decide +kernel),
  List.forall_mem_cons.mpr ⟨qz_iload C (show decode c_X9_follow 97 = .ok (.iload 6, 2) by decide +kernel),
  List.forall_mem_cons.mpr ⟨qz_iadd C (show decode c_X9_follow 99 = .ok (.iadd, 1) by decide +kernel),
  List.forall_mem_cons.mpr ⟨qz_iload C (show decode c_X9_follow 100 = .ok (.iload 7, 2) by decide +kernel),
  List.forall_mem_cons.mpr ⟨qz_ifle C (show decode c_X9_follow 102 = .ok (.ifCond .le 16, 3) by decide +kernel) (by decide),
  List.forall_mem_cons.mpr ⟨qz_aload_n C (show decode c_X9_follow 105 = .ok (.aload_n 0, 1) by decide +kernel) rfl,
  List.forall_mem_cons.mpr ⟨qz_aload_n C (show decode c_X9_follow 106 = .ok (.aload_n 2, 1) by decide +kernel) rfl,
  List.forall_mem_cons.mpr ⟨qz_aload_n C (show decode c_X9_follow 107 = .ok (.aload_n 3, 1) by decide +kernel) rfl,
  List.forall_mem_cons.mpr ⟨qz_iload C (show decode c_X9_follow 108 = .ok (.iload 4, 2) by decide +kernel),
  List.forall_mem_cons.mpr ⟨qz_iload C (show decode c_X9_follow 110 = .ok (.iload 6, 2) by decide +kernel),
  List.forall_mem_cons.mpr ⟨qz_vI C (show decode c_X9_follow 112 = .ok (.invokevirtual 47, 3) by decide +kernel) ct_X9_findLead mv_X9_findLead cw_790 vcX9 (show 3 < 5 by omega),
  List.forall_mem_cons.mpr ⟨qz_goto C (show decode c_X9_follow 115 = .ok (.goto 15, 3) by decide +kernel) (by decide),
  List.forall_mem_cons.mpr ⟨qz_iload C (show decode c_X9_follow 118 = .ok (.iload 5, 2) by decide +kernel),
  List.forall_mem_cons.mpr ⟨qz_ifeq C (show decode c_X9_follow 120 = .ok (.ifCond .eq 8, 3) by decide +kernel) (by decide),
  List.forall_mem_cons.mpr ⟨qz_bipush C (show decode c_X9_follow 123 = .ok (.bipush (-2), 2) by decide +kernel) (by decide +kernel),
  List.forall_mem_cons.mpr ⟨qz_goto C (show decode c_X9_follow 125 = .ok (.goto 5, 3) by decide +kernel) (by decide),
  List.forall_mem_cons.mpr ⟨qz_bipush C (show decode c_X9_follow 128 = .ok (.bipush (-3), 2) by decide +kernel) (by decide +kernel),
  List.forall_mem_cons.mpr ⟨qz_iast C (show decode c_X9_follow 130 = .ok (.iastore, 1) by decide +kernel),
  List.forall_mem_cons.mpr ⟨qz_iinc C (show decode c_X9_follow 131 = .ok (.iinc 6 1, 3) by decide +kernel) (by decide +kernel),
  List.forall_mem_cons.mpr ⟨qz_goto C (show decode c_X9_follow 134 = .ok (.goto (-80), 3) by decide +kernel) (by decide),
  List.forall_mem_cons.mpr ⟨qz_iinc C (show decode c_X9_follow 137 = .ok (.iinc 4 1, 3) by decide +kernel) (by decide +kernel),
  List.forall_mem_cons.mpr ⟨qz_goto C (show decode c_X9_follow 140 = .ok (.goto (-117), 3) by decide +kernel) (by decide),
  List.forall_mem_cons.mpr ⟨qz_iconst C (show decode c_X9_follow 143 = .ok (.iconst 0, 1) by decide +kernel) (by decide +kernel),
  List.forall_mem_cons.mpr ⟨qz_istore C (show decode c_X9_follow 144 = .ok (.istore 4, 2) by decide +kernel),
  List.forall_mem_cons.mpr ⟨qz_iload C (show decode c_X9_follow 146 = .ok (.iload 4, 2) by decide +kernel),
  List.forall_mem_cons.mpr ⟨qz_aload_n C (show decode c_X9_follow 148 = .ok (.aload_n 3, 1) by decide +kernel) rfl,
  List.forall_mem_cons.mpr ⟨qz_vI C (show decode c_X9_follow 149 = .ok (.invokevirtual 51, 3) by decide +kernel) ct_X5_rounds mv_X5_rounds cw_797 vcX5 (show 1 < 5 by omega),
  List.forall_mem_cons.mpr ⟨qz_icgt C (show decode c_X9_follow 152 = .ok (.if_icmp .gt 33, 3) by decide +kernel) (by decide),
  List.forall_mem_cons.mpr ⟨qz_aload_n C (show decode c_X9_follow 155 = .ok (.aload_n 0, 1) by decide +kernel) rfl,
  (fun q h => by cases h)⟩⟩⟩⟩⟩⟩⟩⟩⟩⟩⟩⟩⟩⟩⟩⟩⟩⟩⟩⟩⟩⟩⟩⟩⟩⟩⟩⟩⟩⟩⟩⟩⟩⟩⟩⟩⟩⟩⟩⟩
set_option maxRecDepth 20000 in
theorem sd_X9_follow_2 {G : pj_E} {A : Nat → Prop} {P : pj_P} {S : pj_U} {Z : pj_Z} (C : pj_C (G, A, (c_X9_follow, y_X9_follow.cls, 8, none, 5), P, S, Z)) : ∀ q ∈ tb_X9_follow_2, pj_S (G, A, (c_X9_follow, y_X9_follow.cls, 8, none, 5), P, S, Z) pj_eV q.1 q.2 :=
  List.forall_mem_cons.mpr ⟨qz_aload_n C (show decode c_X9_follow 156 = .ok (.aload_n 1, 1) by decide +kernel) rfl,
  List.forall_mem_cons.mpr ⟨qz_vI C (show decode c_X9_follow 157 = .ok (.invokevirtual 35, 3) by decide +kernel) ct_X4_states mv_X4_states cw_787 vcX4 (show 1 < 5 by omega),
  List.forall_mem_cons.mpr ⟨qz_aload_n C (show decode c_X9_follow 160 = .ok (.aload_n 2, 1) by decide +kernel) rfl,
  List.forall_mem_cons.mpr ⟨qz_iload C (show decode c_X9_follow 161 = .ok (.iload 4, 2) by decide +kernel),
  List.forall_mem_cons.mpr ⟨qz_iconst C (show decode c_X9_follow 163 = .ok (.iconst 0, 1) by decide +kernel) (by decide +kernel),
  List.forall_mem_cons.mpr ⟨qz_vV C (show decode c_X9_follow 164 = .ok (.invokevirtual 54, 3) by decide +kernel) ct_X9_weighAll mv_X9_weighAll cw_798 vcX9 (show 4 < 5 by omega),
  List.forall_mem_cons.mpr ⟨qz_aload_n C (show decode c_X9_follow 167 = .ok (.aload_n 0, 1) by decide +kernel) rfl,
  List.forall_mem_cons.mpr ⟨qz_aload_n C (show decode c_X9_follow 168 = .ok (.aload_n 1, 1) by decide +kernel) rfl,
  List.forall_mem_cons.mpr ⟨qz_vI C (show decode c_X9_follow 169 = .ok (.invokevirtual 35, 3) by decide +kernel) ct_X4_states mv_X4_states cw_787 vcX4 (show 1 < 5 by omega),
  List.forall_mem_cons.mpr ⟨qz_aload_n C (show decode c_X9_follow 172 = .ok (.aload_n 2, 1) by decide +kernel) rfl,
  List.forall_mem_cons.mpr ⟨qz_iload C (show decode c_X9_follow 173 = .ok (.iload 4, 2) by decide +kernel),
  List.forall_mem_cons.mpr ⟨qz_iconst C (show decode c_X9_follow 175 = .ok (.iconst 1, 1) by decide +kernel) (by decide +kernel),
  List.forall_mem_cons.mpr ⟨qz_vV C (show decode c_X9_follow 176 = .ok (.invokevirtual 54, 3) by decide +kernel) ct_X9_weighAll mv_X9_weighAll cw_798 vcX9 (show 4 < 5 by omega),
  List.forall_mem_cons.mpr ⟨qz_iinc C (show decode c_X9_follow 179 = .ok (.iinc 4 1, 3) by decide +kernel) (by decide +kernel),
  List.forall_mem_cons.mpr ⟨qz_goto C (show decode c_X9_follow 182 = .ok (.goto (-36), 3) by decide +kernel) (by decide),
  List.forall_mem_cons.mpr ⟨qz_vret C (show decode c_X9_follow 185 = .ok (.return_, 1) by decide +kernel) rfl,
  (fun q h => by cases h)⟩⟩⟩⟩⟩⟩⟩⟩⟩⟩⟩⟩⟩⟩⟩⟩
theorem sd_X9_follow {G : pj_E} {A : Nat → Prop} {P : pj_P} {S : pj_U} {Z : pj_Z} (C : pj_C (G, A, (c_X9_follow, y_X9_follow.cls, 8, none, 5), P, S, Z)) : ∀ q ∈ tb_X9_follow, pj_S (G, A, (c_X9_follow, y_X9_follow.cls, 8, none, 5), P, S, Z) pj_eV q.1 q.2 := List.forall_mem_append.mpr ⟨sd_X9_follow_0 C, List.forall_mem_append.mpr ⟨sd_X9_follow_1 C, sd_X9_follow_2 C⟩⟩
noncomputable def C_X9_follow_146 (f : Nat → Nat → Nat → Nat → Int32 → pj_M → Option (pj_M)) : pj_N (pj_M) := fun L st m => match L, st with
  | [some (.inr (.inr (t0, w0, a0))), some (.inr (.inr (t1, w1, a1))), some (.inr (.inr (t2, w2, a2))), some (.inr (.inr (t3, w3, a3))), some (.inl x4), _, _, _], [] => (match Nat.beq t0 0 && (Nat.beq w0 9 && (Nat.beq t1 0 && (Nat.beq w1 4 && (Nat.beq t2 0 && (Nat.beq w2 7 && (Nat.beq t3 0 && (Nat.beq w3 5))))))) with
    | true => f a0 a1 a2 a3 x4 m
    | false => none)
  | _, _ => none
noncomputable def C_X9_follow_54 (f : Nat → Nat → Nat → Nat → Int32 → Int32 → Int32 → pj_M → Option (pj_M)) : pj_N (pj_M) := fun L st m => match L, st with
  | [some (.inr (.inr (t0, w0, a0))), some (.inr (.inr (t1, w1, a1))), some (.inr (.inr (t2, w2, a2))), some (.inr (.inr (t3, w3, a3))), some (.inl x4), some (.inl x5), some (.inl x6), _], [] => (match Nat.beq t0 0 && (Nat.beq w0 9 && (Nat.beq t1 0 && (Nat.beq w1 4 && (Nat.beq t2 0 && (Nat.beq w2 7 && (Nat.beq t3 0 && (Nat.beq w3 5))))))) with
    | true => f a0 a1 a2 a3 x4 x5 x6 m
    | false => none)
  | _, _ => none
noncomputable def C_X9_follow_23 (f : Nat → Nat → Nat → Nat → Int32 → pj_M → Option (pj_M)) : pj_N (pj_M) := fun L st m => match L, st with
  | [some (.inr (.inr (t0, w0, a0))), some (.inr (.inr (t1, w1, a1))), some (.inr (.inr (t2, w2, a2))), some (.inr (.inr (t3, w3, a3))), some (.inl x4), _, _, _], [] => (match Nat.beq t0 0 && (Nat.beq w0 9 && (Nat.beq t1 0 && (Nat.beq w1 4 && (Nat.beq t2 0 && (Nat.beq w2 7 && (Nat.beq t3 0 && (Nat.beq w3 5))))))) with
    | true => f a0 a1 a2 a3 x4 m
    | false => none)
  | _, _ => none
set_option maxRecDepth 20000 in
theorem eq_X9_follow_146 (n1 : Nat) (a0 : Nat) (a1 : Nat) (a2 : Nat) (a3 : Nat) (x4 : Int32) (d5 d6 d7 : Option pj_V) (m : pj_M) : pj_run tb_X9_follow [(146, C_X9_follow_146 (H_X9_follow_146 n1))] 98 146 [some (.inr (.inr (0, 9, a0))), some (.inr (.inr (0, 4, a1))), some (.inr (.inr (0, 7, a2))), some (.inr (.inr (0, 5, a3))), some (.inl x4), d5, d6, d7] [] m = H_X9_follow_146 (n1 + 1) a0 a1 a2 a3 x4 m := by rfl
theorem sg_X9_follow_146 {G : pj_E} {A : Nat → Prop} {P : pj_P} {S : pj_U} {Z : pj_Z} (C : pj_C (G, A, (c_X9_follow, y_X9_follow.cls, 8, none, 5), P, S, Z)) : ∀ n1, pj_G (G, A, (c_X9_follow, y_X9_follow.cls, 8, none, 5), P, S, Z) pj_eV 146 (C_X9_follow_146 (H_X9_follow_146 n1)) := by
  intro n1
  induction n1 with
  | zero =>
    intro L st m r h hR
    unfold C_X9_follow_146 at h
    split at h
    · split at h
      · cases h
      · cases h
    · cases h
  | succ n1 ih1 =>
    intro L st m r h hR
    unfold C_X9_follow_146 at h
    split at h
    · split at h
      · rename_i hbq
        simp only [Bool.and_eq_true, Nat.beq_eq] at hbq
        obtain ⟨rfl, rfl, rfl, rfl, rfl, rfl, rfl, rfl⟩ := hbq
        exact pj_run_ok (sd_X9_follow C) (List.forall_mem_cons.mpr ⟨ih1, fun q h => by cases h⟩) 98 146 _ _ _ _ ((eq_X9_follow_146 _ _ _ _ _ _ _ _ _ _).trans h) hR
      · cases h
    · cases h
set_option maxRecDepth 20000 in
theorem eq_X9_follow_54 (k23 : Nat → Nat → Nat → Nat → Int32 → pj_M → Option (pj_M)) (n1 : Nat) (a0 : Nat) (a1 : Nat) (a2 : Nat) (a3 : Nat) (x4 : Int32) (x5 : Int32) (x6 : Int32) (d7 : Option pj_V) (m : pj_M) : pj_run tb_X9_follow [(23, C_X9_follow_23 k23), (54, C_X9_follow_54 (H_X9_follow_54 k23 n1))] 98 54 [some (.inr (.inr (0, 9, a0))), some (.inr (.inr (0, 4, a1))), some (.inr (.inr (0, 7, a2))), some (.inr (.inr (0, 5, a3))), some (.inl x4), some (.inl x5), some (.inl x6), d7] [] m = H_X9_follow_54 k23 (n1 + 1) a0 a1 a2 a3 x4 x5 x6 m := by rfl
theorem sg_X9_follow_54 {G : pj_E} {A : Nat → Prop} {P : pj_P} {S : pj_U} {Z : pj_Z} (C : pj_C (G, A, (c_X9_follow, y_X9_follow.cls, 8, none, 5), P, S, Z)) {k23 : Nat → Nat → Nat → Nat → Int32 → pj_M → Option (pj_M)} (hk23 : pj_G (G, A, (c_X9_follow, y_X9_follow.cls, 8, none, 5), P, S, Z) pj_eV 23 (C_X9_follow_23 k23)) : ∀ n1, pj_G (G, A, (c_X9_follow, y_X9_follow.cls, 8, none, 5), P, S, Z) pj_eV 54 (C_X9_follow_54 (H_X9_follow_54 k23 n1)) := by
  intro n1
  induction n1 with
  | zero =>
    intro L st m r h hR
    unfold C_X9_follow_54 at h
    split at h
    · split at h
      · cases h
      · cases h
    · cases h
  | succ n1 ih1 =>
    intro L st m r h hR
    unfold C_X9_follow_54 at h
    split at h
    · split at h
      · rename_i hbq
        simp only [Bool.and_eq_true, Nat.beq_eq] at hbq
        obtain ⟨rfl, rfl, rfl, rfl, rfl, rfl, rfl, rfl⟩ := hbq
        exact pj_run_ok (sd_X9_follow C) (List.forall_mem_cons.mpr ⟨hk23, List.forall_mem_cons.mpr ⟨ih1, fun q h => by cases h⟩⟩) 98 54 _ _ _ _ ((eq_X9_follow_54 _ _ _ _ _ _ _ _ _ _ _).trans h) hR
      · cases h
    · cases h
set_option maxRecDepth 20000 in
theorem eq_X9_follow_23 (n1 : Nat) (a0 : Nat) (a1 : Nat) (a2 : Nat) (a3 : Nat) (x4 : Int32) (d5 d6 d7 : Option pj_V) (m : pj_M) : pj_run tb_X9_follow [(54, C_X9_follow_54 (H_X9_follow_54 (H_X9_follow_23 n1) pj_z)), (146, C_X9_follow_146 (H_X9_follow_146  pj_z))] 98 23 [some (.inr (.inr (0, 9, a0))), some (.inr (.inr (0, 4, a1))), some (.inr (.inr (0, 7, a2))), some (.inr (.inr (0, 5, a3))), some (.inl x4), d5, d6, d7] [] m = H_X9_follow_23 (n1 + 1) a0 a1 a2 a3 x4 m := by rfl
theorem sg_X9_follow_23 {G : pj_E} {A : Nat → Prop} {P : pj_P} {S : pj_U} {Z : pj_Z} (C : pj_C (G, A, (c_X9_follow, y_X9_follow.cls, 8, none, 5), P, S, Z)) : ∀ n1, pj_G (G, A, (c_X9_follow, y_X9_follow.cls, 8, none, 5), P, S, Z) pj_eV 23 (C_X9_follow_23 (H_X9_follow_23 n1)) := by
  intro n1
  induction n1 with
  | zero =>
    intro L st m r h hR
    unfold C_X9_follow_23 at h
    split at h
    · split at h
      · cases h
      · cases h
    · cases h
  | succ n1 ih1 =>
    intro L st m r h hR
    unfold C_X9_follow_23 at h
    split at h
    · split at h
      · rename_i hbq
        simp only [Bool.and_eq_true, Nat.beq_eq] at hbq
        obtain ⟨rfl, rfl, rfl, rfl, rfl, rfl, rfl, rfl⟩ := hbq
        exact pj_run_ok (sd_X9_follow C) (List.forall_mem_cons.mpr ⟨sg_X9_follow_54 C ih1 pj_z, List.forall_mem_cons.mpr ⟨sg_X9_follow_146 C  pj_z, fun q h => by cases h⟩⟩) 98 23 _ _ _ _ ((eq_X9_follow_23 _ _ _ _ _ _ _ _ _ _).trans h) hR
      · cases h
    · cases h
set_option maxRecDepth 20000 in
theorem eq_X9_follow (a0 : Nat) (a1 : Nat) (a2 : Nat) (a3 : Nat) (m : pj_M) : pj_run tb_X9_follow [(23, C_X9_follow_23 (H_X9_follow_23  pj_z))] 98 0 [some (.inr (.inr (0, 9, a0))), some (.inr (.inr (0, 4, a1))), some (.inr (.inr (0, 7, a2))), some (.inr (.inr (0, 5, a3))), none, none, none, none] [] m = F_X9_follow a0 a1 a2 a3 m := by rfl
theorem ct_X9_follow : pj_Ct pj_eV y_X9_follow c_X9_follow 8 none 5 W_X9_follow := by
  refine pj_ct_of (by decide +kernel) ?_ ?_
  · intro as m r h
    unfold W_X9_follow at h
    split at h
    · simp [pj_l0]
    · cases h
  · intro G A P S Z C as m r h hR
    unfold W_X9_follow at h
    split at h
    · split at h
      · rename_i hbq
        simp only [Bool.and_eq_true, Nat.beq_eq] at hbq
        obtain ⟨rfl, rfl, rfl, rfl, rfl, rfl, rfl, rfl⟩ := hbq
        exact pj_run_ok (sd_X9_follow C) (List.forall_mem_cons.mpr ⟨sg_X9_follow_23 C  pj_z, fun q h => by cases h⟩) 98 0 _ _ _ _ ((eq_X9_follow _ _ _ _ _).trans h) hR
      · cases h
    · cases h
/-! AlikeSteps$Teller.memberAt(IIJ)I -/
abbrev c_X9_memberAt : ByteArray := prog_11_method_9_code
def y_X9_memberAt : MethodName := ⟨RX9, "memberAt", "(IIJ)I"⟩
noncomputable def H_X9_memberAt_6 : Nat → Nat → Int32 → Int32 → Int64 → Int32 → Int32 → pj_M → Option (Int32 × pj_M)
  | 0, _, _, _, _, _, _, _ => none
  | n1 + 1, a0, x1, x2, l3, x5, x6, m => (if x6 < 10 then (if ((x2 >>> (x6 &&& 31)) &&& 1) = 0 then (H_X9_memberAt_6 n1 a0 x1 x2 l3 x5 (x6 + 1) m) else ((F_X9_sizeUpTo a0 x1 x2 x6 m).bind fun q1 => (if (0 : Int32) < (lg_cmp q1.1 l3) then (H_X9_memberAt_6 n1 a0 x1 x2 l3 x5 (x6 + 1) q1.2) else (H_X9_memberAt_6 n1 a0 x1 x2 l3 x6 (x6 + 1) q1.2)))) else (some (x5, m)))
noncomputable def F_X9_memberAt (a0 : Nat) (x1 : Int32) (x2 : Int32) (l3 : Int64) (m : pj_M) : Option (Int32 × pj_M) := (H_X9_memberAt_6 pj_z a0 x1 x2 l3 0 0 m)
noncomputable def W_X9_memberAt : List pj_V → pj_M → Option (Int32 × pj_M) := fun as m => match as with
  | [.inr (.inr (t0, w0, a0)), .inl x1, .inl x2, .inr (.inl l3)] => (match Nat.beq t0 0 && (Nat.beq w0 9) with
    | true => F_X9_memberAt a0 x1 x2 l3 m
    | false => none)
  | _ => none
noncomputable def tb_X9_memberAt_0 : List (Nat × pj_T (Int32 × pj_M)) := [(0, qs_ci 0 1), (1, qs_sti 5 3), (3, qs_ci 0 4), (4, qs_sti 6 6), (6, qs_ldi 6 8), (8, qs_ci 10 10), (10, qs_icge 45 13), (13, qs_ldi 2 14), (14, qs_ldi 6 16), (16, qs_b2 (fun x y => x >>> (y &&& 31)) 17), (17, qs_ci 1 18), (18, qs_b2 (fun x y => x &&& y) 19), (19, qs_ifeq 39 22), (22, qs_lda 0 23), (23, qs_ldi 1 24), (24, qs_ldi 2 25), (25, qs_ldi 6 27), (27, qs_vL 9 4 W_X9_sizeUpTo 30), (30, qs_ldl 3 31), (31, qs_lcmp 32), (32, qs_ifgt 39 35), (35, qs_ldi 6 37), (37, qs_sti 5 39), (39, qs_inc 6 1 42), (42, qs_go 6), (45, qs_ldi 5 47), (47, qs_iret)]
noncomputable abbrev tb_X9_memberAt : List (Nat × pj_T (Int32 × pj_M)) := tb_X9_memberAt_0
theorem mv_X9_memberAt : pj_mv y_X9_memberAt c_X9_memberAt 7 (some .int) 3 := ⟨⟨cw_833, cw_832, cw_23, cw_91⟩, by decide +kernel, by decide⟩
set_option maxRecDepth 20000 in
theorem sd_X9_memberAt_0 {G : pj_E} {A : Nat → Prop} {P : pj_P} {S : pj_U} {Z : pj_Z} (C : pj_C (G, A, (c_X9_memberAt, y_X9_memberAt.cls, 7, (some .int), 3), P, S, Z)) : ∀ q ∈ tb_X9_memberAt_0, pj_S (G, A, (c_X9_memberAt, y_X9_memberAt.cls, 7, (some .int), 3), P, S, Z) pj_eI q.1 q.2 :=
  List.forall_mem_cons.mpr ⟨qz_iconst C (show decode c_X9_memberAt 0 = .ok (.iconst 0, 1) by decide +kernel) (by decide +kernel),
  List.forall_mem_cons.mpr ⟨qz_istore C (show decode c_X9_memberAt 1 = .ok (.istore 5, 2) by decide +kernel),
  List.forall_mem_cons.mpr ⟨qz_iconst C (show decode c_X9_memberAt 3 = .ok (.iconst 0, 1) by decide +kernel) (by decide +kernel),
  List.forall_mem_cons.mpr ⟨qz_istore C (show decode c_X9_memberAt 4 = .ok (.istore 6, 2) by decide +kernel),
  List.forall_mem_cons.mpr ⟨qz_iload C (show decode c_X9_memberAt 6 = .ok (.iload 6, 2) by decide +kernel),
  List.forall_mem_cons.mpr ⟨qz_bipush C (show decode c_X9_memberAt 8 = .ok (.bipush 10, 2) by decide +kernel) (by decide +kernel),
  List.forall_mem_cons.mpr ⟨qz_icge C (show decode c_X9_memberAt 10 = .ok (.if_icmp .ge 35, 3) by decide +kernel) (by decide),
  List.forall_mem_cons.mpr ⟨qz_iload_n C (show decode c_X9_memberAt 13 = .ok (.iload_n 2, 1) by decide +kernel) rfl,
  List.forall_mem_cons.mpr ⟨qz_iload C (show decode c_X9_memberAt 14 = .ok (.iload 6, 2) by decide +kernel),
  List.forall_mem_cons.mpr ⟨qz_ishr C (show decode c_X9_memberAt 16 = .ok (.ishr, 1) by decide +kernel),
  List.forall_mem_cons.mpr ⟨qz_iconst C (show decode c_X9_memberAt 17 = .ok (.iconst 1, 1) by decide +kernel) (by decide +kernel),
  List.forall_mem_cons.mpr ⟨qz_iand C (show decode c_X9_memberAt 18 = .ok (.iand, 1) by decide +kernel),
  List.forall_mem_cons.mpr ⟨qz_ifeq C (show decode c_X9_memberAt 19 = .ok (.ifCond .eq 20, 3) by decide +kernel) (by decide),
  List.forall_mem_cons.mpr ⟨qz_aload_n C (show decode c_X9_memberAt 22 = .ok (.aload_n 0, 1) by decide +kernel) rfl,
  List.forall_mem_cons.mpr ⟨qz_iload_n C (show decode c_X9_memberAt 23 = .ok (.iload_n 1, 1) by decide +kernel) rfl,
  List.forall_mem_cons.mpr ⟨qz_iload_n C (show decode c_X9_memberAt 24 = .ok (.iload_n 2, 1) by decide +kernel) rfl,
  List.forall_mem_cons.mpr ⟨qz_iload C (show decode c_X9_memberAt 25 = .ok (.iload 6, 2) by decide +kernel),
  List.forall_mem_cons.mpr ⟨qz_vL C (show decode c_X9_memberAt 27 = .ok (.invokevirtual 76, 3) by decide +kernel) ct_X9_sizeUpTo mv_X9_sizeUpTo cw_811 vcX9 (show 2 < 3 by omega),
  List.forall_mem_cons.mpr ⟨qz_lload_n C (show decode c_X9_memberAt 30 = .ok (.lload_n 3, 1) by decide +kernel) rfl,
  List.forall_mem_cons.mpr ⟨qz_lcmp C (show decode c_X9_memberAt 31 = .ok (.lcmp, 1) by decide +kernel),
  List.forall_mem_cons.mpr ⟨qz_ifgt C (show decode c_X9_memberAt 32 = .ok (.ifCond .gt 7, 3) by decide +kernel) (by decide),
  List.forall_mem_cons.mpr ⟨qz_iload C (show decode c_X9_memberAt 35 = .ok (.iload 6, 2) by decide +kernel),
  List.forall_mem_cons.mpr ⟨qz_istore C (show decode c_X9_memberAt 37 = .ok (.istore 5, 2) by decide +kernel),
  List.forall_mem_cons.mpr ⟨qz_iinc C (show decode c_X9_memberAt 39 = .ok (.iinc 6 1, 3) by decide +kernel) (by decide +kernel),
  List.forall_mem_cons.mpr ⟨qz_goto C (show decode c_X9_memberAt 42 = .ok (.goto (-36), 3) by decide +kernel) (by decide),
  List.forall_mem_cons.mpr ⟨qz_iload C (show decode c_X9_memberAt 45 = .ok (.iload 5, 2) by decide +kernel),
  List.forall_mem_cons.mpr ⟨qz_iret C (show decode c_X9_memberAt 47 = .ok (.ireturn, 1) by decide +kernel) rfl,
  (fun q h => by cases h)⟩⟩⟩⟩⟩⟩⟩⟩⟩⟩⟩⟩⟩⟩⟩⟩⟩⟩⟩⟩⟩⟩⟩⟩⟩⟩⟩
theorem sd_X9_memberAt {G : pj_E} {A : Nat → Prop} {P : pj_P} {S : pj_U} {Z : pj_Z} (C : pj_C (G, A, (c_X9_memberAt, y_X9_memberAt.cls, 7, (some .int), 3), P, S, Z)) : ∀ q ∈ tb_X9_memberAt, pj_S (G, A, (c_X9_memberAt, y_X9_memberAt.cls, 7, (some .int), 3), P, S, Z) pj_eI q.1 q.2 := sd_X9_memberAt_0 C
noncomputable def C_X9_memberAt_6 (f : Nat → Int32 → Int32 → Int64 → Int32 → Int32 → pj_M → Option (Int32 × pj_M)) : pj_N (Int32 × pj_M) := fun L st m => match L, st with
  | [some (.inr (.inr (t0, w0, a0))), some (.inl x1), some (.inl x2), some (.inr (.inl l3)), _, some (.inl x5), some (.inl x6)], [] => (match Nat.beq t0 0 && (Nat.beq w0 9) with
    | true => f a0 x1 x2 l3 x5 x6 m
    | false => none)
  | _, _ => none
set_option maxRecDepth 20000 in
theorem eq_X9_memberAt_6 (n1 : Nat) (a0 : Nat) (x1 : Int32) (x2 : Int32) (l3 : Int64) (x5 : Int32) (x6 : Int32) (d4 : Option pj_V) (m : pj_M) : pj_run tb_X9_memberAt [(6, C_X9_memberAt_6 (H_X9_memberAt_6 n1))] 29 6 [some (.inr (.inr (0, 9, a0))), some (.inl x1), some (.inl x2), some (.inr (.inl l3)), d4, some (.inl x5), some (.inl x6)] [] m = H_X9_memberAt_6 (n1 + 1) a0 x1 x2 l3 x5 x6 m := by rfl
theorem sg_X9_memberAt_6 {G : pj_E} {A : Nat → Prop} {P : pj_P} {S : pj_U} {Z : pj_Z} (C : pj_C (G, A, (c_X9_memberAt, y_X9_memberAt.cls, 7, (some .int), 3), P, S, Z)) : ∀ n1, pj_G (G, A, (c_X9_memberAt, y_X9_memberAt.cls, 7, (some .int), 3), P, S, Z) pj_eI 6 (C_X9_memberAt_6 (H_X9_memberAt_6 n1)) := by
  intro n1
  induction n1 with
  | zero =>
    intro L st m r h hR
    unfold C_X9_memberAt_6 at h
    split at h
    · split at h
      · cases h
      · cases h
    · cases h
  | succ n1 ih1 =>
    intro L st m r h hR
    unfold C_X9_memberAt_6 at h
    split at h
    · split at h
      · rename_i hbq
        simp only [Bool.and_eq_true, Nat.beq_eq] at hbq
        obtain ⟨rfl, rfl⟩ := hbq
        exact pj_run_ok (sd_X9_memberAt C) (List.forall_mem_cons.mpr ⟨ih1, fun q h => by cases h⟩) 29 6 _ _ _ _ ((eq_X9_memberAt_6 _ _ _ _ _ _ _ _ _).trans h) hR
      · cases h
    · cases h
set_option maxRecDepth 20000 in
theorem eq_X9_memberAt (a0 : Nat) (x1 : Int32) (x2 : Int32) (l3 : Int64) (m : pj_M) : pj_run tb_X9_memberAt [(6, C_X9_memberAt_6 (H_X9_memberAt_6  pj_z))] 29 0 [some (.inr (.inr (0, 9, a0))), some (.inl x1), some (.inl x2), some (.inr (.inl l3)), none, none, none] [] m = F_X9_memberAt a0 x1 x2 l3 m := by rfl
theorem ct_X9_memberAt : pj_Ct pj_eI y_X9_memberAt c_X9_memberAt 7 (some .int) 3 W_X9_memberAt := by
  refine pj_ct_of (by decide +kernel) ?_ ?_
  · intro as m r h
    unfold W_X9_memberAt at h
    split at h
    · simp [pj_l0]
    · cases h
  · intro G A P S Z C as m r h hR
    unfold W_X9_memberAt at h
    split at h
    · split at h
      · rename_i hbq
        simp only [Bool.and_eq_true, Nat.beq_eq] at hbq
        obtain ⟨rfl, rfl⟩ := hbq
        exact pj_run_ok (sd_X9_memberAt C) (List.forall_mem_cons.mpr ⟨sg_X9_memberAt_6 C  pj_z, fun q h => by cases h⟩) 29 0 _ _ _ _ ((eq_X9_memberAt _ _ _ _ _).trans h) hR
      · cases h
    · cases h
/-! AlikeSteps$Teller.codeAt(LAlikeSteps$Steps;III)I -/
abbrev c_X9_codeAt : ByteArray := prog_11_method_4_code
def y_X9_codeAt : MethodName := ⟨RX9, "codeAt", "(LAlikeSteps$Steps;III)I"⟩
noncomputable def J_X9_codeAt_135 (l7 : Int64) (x11 : Int32) (x12 : Int32) (m : pj_M) : Option (Int32 × pj_M) := (if (lg_cmp l7 0) = 0 then (some (x11, m)) else ((F_J6_bitCount_0f7a4 x12 m).bind fun q1 => (some (10 + q1.1, q1.2))))
noncomputable def J_X9_codeAt_53 (l7 : Int64) (m : pj_M) : Option (Int32 × pj_M) := (if (lg_cmp l7 0) = 0 then (some (20, m)) else (some (30, m)))
noncomputable def H_X9_codeAt_14 : Nat → Nat → Nat → Int32 → Int32 → Int64 → Int32 → pj_M → Option (Int32 × pj_M)
  | 0, _, _, _, _, _, _, _ => none
  | n1 + 1, a0, a1, x5, x6, l7, x9, m => (if (20 : Int32) < x9 then (some ((-1000000), m)) else (if ((x5 * 10) + x6) < 0 ∨ 100 ≤ ((x5 * 10) + x6).toNatClampNeg then none else (if (m.1 (a0 + 2) ((x5 * 10) + x6).toNatClampNeg) = (-2) then (some (30, m)) else (if (m.1 (a0 + 2) ((x5 * 10) + x6).toNatClampNeg) = (-3) then (J_X9_codeAt_53 l7 m) else (if (m.1 (a0 + 2) ((x5 * 10) + x6).toNatClampNeg) = (-1) then (if (lg_cmp l7 0) = 0 then (some (20, m)) else (H_X9_codeAt_14 n1 a0 a1 x6 x5 (l7 - 1) (x9 + 1) m)) else (if (10 : Int32) = 0 then none else ((F_X7_moved a1 (m.1 a0 0) ((m.1 (a0 + 2) ((x5 * 10) + x6).toNatClampNeg) / 10) x6 m).bind fun q1 => (if (lg_cmp l7 2) < 0 then (J_X9_codeAt_135 l7 ((m.1 (a0 + 2) ((x5 * 10) + x6).toNatClampNeg) / 10) q1.1 q1.2) else (if (10 : Int32) = 0 then none else ((F_X9_memberAt a0 ((m.1 (a0 + 2) ((x5 * 10) + x6).toNatClampNeg) - (m.1 (a0 + 2) ((x5 * 10) + x6).toNatClampNeg) / 10 * 10) q1.1 (l7 - 2) q1.2).bind fun q2 => ((F_X9_sizeUpTo a0 ((m.1 (a0 + 2) ((x5 * 10) + x6).toNatClampNeg) - (m.1 (a0 + 2) ((x5 * 10) + x6).toNatClampNeg) / 10 * 10) q1.1 q2.1 q2.2).bind fun q3 => (H_X9_codeAt_14 n1 a0 a1 ((m.1 (a0 + 2) ((x5 * 10) + x6).toNatClampNeg) - (m.1 (a0 + 2) ((x5 * 10) + x6).toNatClampNeg) / 10 * 10) q2.1 ((l7 - 2) - q3.1) (x9 + 1) q3.2))))))))))))
noncomputable def F_X9_codeAt (a0 : Nat) (a1 : Nat) (x2 : Int32) (x3 : Int32) (x4 : Int32) (m : pj_M) : Option (Int32 × pj_M) := (H_X9_codeAt_14 pj_z a0 a1 x2 x3 x4.toInt64 0 m)
noncomputable def W_X9_codeAt : List pj_V → pj_M → Option (Int32 × pj_M) := fun as m => match as with
  | [.inr (.inr (t0, w0, a0)), .inr (.inr (t1, w1, a1)), .inl x2, .inl x3, .inl x4] => (match Nat.beq t0 0 && (Nat.beq w0 9 && (Nat.beq t1 0 && (Nat.beq w1 7))) with
    | true => F_X9_codeAt a0 a1 x2 x3 x4 m
    | false => none)
  | _ => none
noncomputable def tb_X9_codeAt_0 : List (Nat × pj_T (Int32 × pj_M)) := [(0, qs_ldi 2 1), (1, qs_sti 5 3), (3, qs_ldi 3 4), (4, qs_sti 6 6), (6, qs_ldi 4 8), (8, qs_i2l 9), (9, qs_stl 7 11), (11, qs_ci 0 12), (12, qs_sti 9 14), (14, qs_ldi 9 16), (16, qs_ci 20 18), (18, qs_icgt 204 21), (21, qs_lda 0 22), (22, qs_gf 9 2 25), (25, qs_ldi 5 27), (27, qs_ci 10 29), (29, qs_b2 (fun x y => x * y) 30), (30, qs_ldi 6 32), (32, qs_b2 (fun x y => x + y) 33), (33, qs_iald 34), (34, qs_sti 10 36), (36, qs_ldi 10 38), (38, qs_ci (-2) 40), (40, qs_icne 46 43), (43, qs_ci 30 45), (45, qs_iret), (46, qs_ldi 10 48), (48, qs_ci (-3) 50), (50, qs_icne 68 53), (53, qs_ldl 7 55), (55, qs_cl 0 56), (56, qs_lcmp 57), (57, qs_ifne 65 60), (60, qs_ci 20 62), (62, qs_go 67), (65, qs_ci 30 67), (67, qs_iret), (68, qs_ldi 10 70), (70, qs_ci (-1) 71), (71, qs_icne 105 74)]
noncomputable def tb_X9_codeAt_1 : List (Nat × pj_T (Int32 × pj_M)) := [(74, qs_ldl 7 76), (76, qs_cl 0 77), (77, qs_lcmp 78), (78, qs_ifne 84 81), (81, qs_ci 20 83), (83, qs_iret), (84, qs_ldl 7 86), (86, qs_cl 1 87), (87, qs_l2 (fun x y => x - y) 88), (88, qs_stl 7 90), (90, qs_ldi 5 92), (92, qs_sti 11 94), (94, qs_ldi 6 96), (96, qs_sti 5 98), (98, qs_ldi 11 100), (100, qs_sti 6 102), (102, qs_go 198), (105, qs_ldi 10 107), (107, qs_ci 10 109), (109, qs_d2 (fun x y => x / y) 110), (110, qs_sti 11 112), (112, qs_lda 1 113), (113, qs_lda 0 114), (114, qs_gf 9 0 117), (117, qs_ldi 11 119), (119, qs_ldi 6 121), (121, qs_vI 7 4 W_X7_moved 124), (124, qs_sti 12 126), (126, qs_ldl 7 128), (128, qs_cl 2 131), (131, qs_lcmp 132), (132, qs_ifge 156 135), (135, qs_ldl 7 137), (137, qs_cl 0 138), (138, qs_lcmp 139), (139, qs_ifne 147 142), (142, qs_ldi 11 144), (144, qs_go 155), (147, qs_ci 10 149), (149, qs_ldi 12 151)]
noncomputable def tb_X9_codeAt_2 : List (Nat × pj_T (Int32 × pj_M)) := [(151, qs_sI 1 W_J6_bitCount_0f7a4 154), (154, qs_b2 (fun x y => x + y) 155), (155, qs_iret), (156, qs_ldl 7 158), (158, qs_cl 2 161), (161, qs_l2 (fun x y => x - y) 162), (162, qs_stl 7 164), (164, qs_ldi 10 166), (166, qs_ci 10 168), (168, qs_d2 (fun x y => x - x / y * y) 169), (169, qs_sti 5 171), (171, qs_lda 0 172), (172, qs_ldi 5 174), (174, qs_ldi 12 176), (176, qs_ldl 7 178), (178, qs_vI 9 4 W_X9_memberAt 181), (181, qs_sti 6 183), (183, qs_ldl 7 185), (185, qs_lda 0 186), (186, qs_ldi 5 188), (188, qs_ldi 12 190), (190, qs_ldi 6 192), (192, qs_vL 9 4 W_X9_sizeUpTo 195), (195, qs_l2 (fun x y => x - y) 196), (196, qs_stl 7 198), (198, qs_inc 9 1 201), (201, qs_go 14), (204, qs_ci (-1000000) 206), (206, qs_iret)]
noncomputable def tb_X9_codeAt : List (Nat × pj_T (Int32 × pj_M)) := tb_X9_codeAt_0 ++ (tb_X9_codeAt_1 ++ (tb_X9_codeAt_2))
theorem mv_X9_codeAt : pj_mv y_X9_codeAt c_X9_codeAt 13 (some .int) 4 := ⟨⟨cw_823, cw_821, cw_822, cw_91⟩, by decide +kernel, by decide⟩
set_option maxRecDepth 20000 in
theorem sd_X9_codeAt_0 {G : pj_E} {A : Nat → Prop} {P : pj_P} {S : pj_U} {Z : pj_Z} (C : pj_C (G, A, (c_X9_codeAt, y_X9_codeAt.cls, 13, (some .int), 4), P, S, Z)) : ∀ q ∈ tb_X9_codeAt_0, pj_S (G, A, (c_X9_codeAt, y_X9_codeAt.cls, 13, (some .int), 4), P, S, Z) pj_eI q.1 q.2 :=
  List.forall_mem_cons.mpr ⟨qz_iload_n C (show decode c_X9_codeAt 0 = .ok (.iload_n 2, 1) by decide +kernel) rfl,
  List.forall_mem_cons.mpr ⟨qz_istore C (show decode c_X9_codeAt 1 = .ok (.istore 5, 2) by decide +kernel),
  List.forall_mem_cons.mpr ⟨qz_iload_n C (show decode c_X9_codeAt 3 = .ok (.iload_n 3, 1) by decide +kernel) rfl,
  List.forall_mem_cons.mpr ⟨qz_istore C (show decode c_X9_codeAt 4 = .ok (.istore 6, 2) by decide +kernel),
  List.forall_mem_cons.mpr ⟨qz_iload C (show decode c_X9_codeAt 6 = .ok (.iload 4, 2) by decide +kernel),
  List.forall_mem_cons.mpr ⟨qz_i2l C (show decode c_X9_codeAt 8 = .ok (.i2l, 1) by decide +kernel),
  List.forall_mem_cons.mpr ⟨qz_lstore C (show decode c_X9_codeAt 9 = .ok (.lstore 7, 2) by decide +kernel),
  List.forall_mem_cons.mpr ⟨qz_iconst C (show decode c_X9_codeAt 11 = .ok (.iconst 0, 1) by decide +kernel) (by decide +kernel),
  List.forall_mem_cons.mpr ⟨qz_istore C (show decode c_X9_codeAt 12 = .ok (.istore 9, 2) by decide +kernel),
  List.forall_mem_cons.mpr ⟨qz_iload C (show decode c_X9_codeAt 14 = .ok (.iload 9, 2) by decide +kernel),
  List.forall_mem_cons.mpr ⟨qz_bipush C (show decode c_X9_codeAt 16 = .ok (.bipush 20, 2) by decide +kernel) (by decide +kernel),
  List.forall_mem_cons.mpr ⟨qz_icgt C (show decode c_X9_codeAt 18 = .ok (.if_icmp .gt 186, 3) by decide +kernel) (by decide),
  List.forall_mem_cons.mpr ⟨qz_aload_n C (show decode c_X9_codeAt 21 = .ok (.aload_n 0, 1) by decide +kernel) rfl,
  List.forall_mem_cons.mpr ⟨qz_gf (k := 2) C (show decode c_X9_codeAt 22 = .ok (.getfield 15, 3) by decide +kernel) vcX9 wiX9 (by decide) cw_297,
  List.forall_mem_cons.mpr ⟨qz_iload C (show decode c_X9_codeAt 25 = .ok (.iload 5, 2) by decide +kernel),
  List.forall_mem_cons.mpr ⟨qz_bipush C (show decode c_X9_codeAt 27 = .ok (.bipush 10, 2) by decide +kernel) (by decide +kernel),
  List.forall_mem_cons.mpr ⟨qz_imul C (show decode c_X9_codeAt 29 = .ok (.imul, 1) by decide +kernel),
  List.forall_mem_cons.mpr ⟨qz_iload C (show decode c_X9_codeAt 30 = .ok (.iload 6, 2) by decide +kernel),
  List.forall_mem_cons.mpr ⟨qz_iadd C (show decode c_X9_codeAt 32 = .ok (.iadd, 1) by decide +kernel),
  List.forall_mem_cons.mpr ⟨qz_iald C (show decode c_X9_codeAt 33 = .ok (.iaload, 1) by decide +kernel),
  List.forall_mem_cons.mpr ⟨qz_istore C (show decode c_X9_codeAt 34 = .ok (.istore 10, 2) by decide +kernel),
  List.forall_mem_cons.mpr ⟨qz_iload C (show decode c_X9_codeAt 36 = .ok (.iload 10, 2) by decide +kernel),
  List.forall_mem_cons.mpr ⟨qz_bipush C (show decode c_X9_codeAt 38 = .ok (.bipush (-2), 2) by decide +kernel) (by decide +kernel),
  List.forall_mem_cons.mpr ⟨qz_icne C (show decode c_X9_codeAt 40 = .ok (.if_icmp .ne 6, 3) by decide +kernel) (by decide),
  List.forall_mem_cons.mpr ⟨qz_bipush C (show decode c_X9_codeAt 43 = .ok (.bipush 30, 2) by decide +kernel) (by decide +kernel),
  List.forall_mem_cons.mpr ⟨qz_iret C (show decode c_X9_codeAt 45 = .ok (.ireturn, 1) by decide +kernel) rfl,
  List.forall_mem_cons.mpr ⟨qz_iload C (show decode c_X9_codeAt 46 = .ok (.iload 10, 2) by decide +kernel),
  List.forall_mem_cons.mpr ⟨qz_bipush C (show decode c_X9_codeAt 48 = .ok (.bipush (-3), 2) by decide +kernel) (by decide +kernel),
  List.forall_mem_cons.mpr ⟨qz_icne C (show decode c_X9_codeAt 50 = .ok (.if_icmp .ne 18, 3) by decide +kernel) (by decide),
  List.forall_mem_cons.mpr ⟨qz_lload C (show decode c_X9_codeAt 53 = .ok (.lload 7, 2) by decide +kernel),
  List.forall_mem_cons.mpr ⟨qz_lconst C (show decode c_X9_codeAt 55 = .ok (.lconst 0, 1) by decide +kernel) (by decide +kernel),
  List.forall_mem_cons.mpr ⟨qz_lcmp C (show decode c_X9_codeAt 56 = .ok (.lcmp, 1) by decide +kernel),
  List.forall_mem_cons.mpr ⟨qz_ifne C (show decode c_X9_codeAt 57 = .ok (.ifCond .ne 8, 3) by decide +kernel) (by decide),
  List.forall_mem_cons.mpr ⟨qz_bipush C (show decode c_X9_codeAt 60 = .ok (.bipush 20, 2) by decide +kernel) (by decide +kernel),
  List.forall_mem_cons.mpr ⟨qz_goto C (show decode c_X9_codeAt 62 = .ok (.goto 5, 3) by decide +kernel) (by decide),
  List.forall_mem_cons.mpr ⟨qz_bipush C (show decode c_X9_codeAt 65 = .ok (.bipush 30, 2) by decide +kernel) (by decide +kernel),
  List.forall_mem_cons.mpr ⟨qz_iret C (show decode c_X9_codeAt 67 = .ok (.ireturn, 1) by decide +kernel) rfl,
  List.forall_mem_cons.mpr ⟨qz_iload C (show decode c_X9_codeAt 68 = .ok (.iload 10, 2) by decide +kernel),
  List.forall_mem_cons.mpr ⟨qz_iconst C (show decode c_X9_codeAt 70 = .ok (.iconst (-1), 1) by decide +kernel) (by decide +kernel),
  List.forall_mem_cons.mpr ⟨qz_icne C (show decode c_X9_codeAt 71 = .ok (.if_icmp .ne 34, 3) by decide +kernel) (by decide),
  (fun q h => by cases h)⟩⟩⟩⟩⟩⟩⟩⟩⟩⟩⟩⟩⟩⟩⟩⟩⟩⟩⟩⟩⟩⟩⟩⟩⟩⟩⟩⟩⟩⟩⟩⟩⟩⟩⟩⟩⟩⟩⟩⟩
set_option maxRecDepth 20000 in
theorem sd_X9_codeAt_1 {G : pj_E} {A : Nat → Prop} {P : pj_P} {S : pj_U} {Z : pj_Z} (C : pj_C (G, A, (c_X9_codeAt, y_X9_codeAt.cls, 13, (some .int), 4), P, S, Z)) : ∀ q ∈ tb_X9_codeAt_1, pj_S (G, A, (c_X9_codeAt, y_X9_codeAt.cls, 13, (some .int), 4), P, S, Z) pj_eI q.1 q.2 :=
  List.forall_mem_cons.mpr ⟨qz_lload C (show decode c_X9_codeAt 74 = .ok (.lload 7, 2) by decide +kernel),
  List.forall_mem_cons.mpr ⟨qz_lconst C (show decode c_X9_codeAt 76 = .ok (.lconst 0, 1) by decide +kernel) (by decide +kernel),
  List.forall_mem_cons.mpr ⟨qz_lcmp C (show decode c_X9_codeAt 77 = .ok (.lcmp, 1) by decide +kernel),
  List.forall_mem_cons.mpr ⟨qz_ifne C (show decode c_X9_codeAt 78 = .ok (.ifCond .ne 6, 3) by decide +kernel) (by decide),
  List.forall_mem_cons.mpr ⟨qz_bipush C (show decode c_X9_codeAt 81 = .ok (.bipush 20, 2) by decide +kernel) (by decide +kernel),
  List.forall_mem_cons.mpr ⟨qz_iret C (show decode c_X9_codeAt 83 = .ok (.ireturn, 1) by decide +kernel) rfl,
  List.forall_mem_cons.mpr ⟨qz_lload C (show decode c_X9_codeAt 84 = .ok (.lload 7, 2) by decide +kernel),
  List.forall_mem_cons.mpr ⟨qz_lconst C (show decode c_X9_codeAt 86 = .ok (.lconst 1, 1) by decide +kernel) (by decide +kernel),
  List.forall_mem_cons.mpr ⟨qz_lsub C (show decode c_X9_codeAt 87 = .ok (.lsub, 1) by decide +kernel),
  List.forall_mem_cons.mpr ⟨qz_lstore C (show decode c_X9_codeAt 88 = .ok (.lstore 7, 2) by decide +kernel),
  List.forall_mem_cons.mpr ⟨qz_iload C (show decode c_X9_codeAt 90 = .ok (.iload 5, 2) by decide +kernel),
  List.forall_mem_cons.mpr ⟨qz_istore C (show decode c_X9_codeAt 92 = .ok (.istore 11, 2) by decide +kernel),
  List.forall_mem_cons.mpr ⟨qz_iload C (show decode c_X9_codeAt 94 = .ok (.iload 6, 2) by decide +kernel),
  List.forall_mem_cons.mpr ⟨qz_istore C (show decode c_X9_codeAt 96 = .ok (.istore 5, 2) by decide +kernel),
  List.forall_mem_cons.mpr ⟨qz_iload C (show decode c_X9_codeAt 98 = .ok (.iload 11, 2) by decide +kernel),
  List.forall_mem_cons.mpr ⟨qz_istore C (show decode c_X9_codeAt 100 = .ok (.istore 6, 2) by decide +kernel),
  List.forall_mem_cons.mpr ⟨qz_goto C (show decode c_X9_codeAt 102 = .ok (.goto 96, 3) by decide +kernel) (by decide),
  List.forall_mem_cons.mpr ⟨qz_iload C (show decode c_X9_codeAt 105 = .ok (.iload 10, 2) by decide +kernel),
  List.forall_mem_cons.mpr ⟨qz_bipush C (show decode c_X9_codeAt 107 = .ok (.bipush 10, 2) by decide +kernel) (by decide +kernel),
  List.forall_mem_cons.mpr ⟨qz_idiv C (show decode c_X9_codeAt 109 = .ok (.idiv, 1) by decide +kernel),
  List.forall_mem_cons.mpr ⟨qz_istore C (show decode c_X9_codeAt 110 = .ok (.istore 11, 2) by decide +kernel),
  List.forall_mem_cons.mpr ⟨qz_aload_n C (show decode c_X9_codeAt 112 = .ok (.aload_n 1, 1) by decide +kernel) rfl,
  List.forall_mem_cons.mpr ⟨qz_aload_n C (show decode c_X9_codeAt 113 = .ok (.aload_n 0, 1) by decide +kernel) rfl,
  List.forall_mem_cons.mpr ⟨qz_gf (k := 0) C (show decode c_X9_codeAt 114 = .ok (.getfield 26, 3) by decide +kernel) vcX9 wiX9 (by decide) cw_295,
  List.forall_mem_cons.mpr ⟨qz_iload C (show decode c_X9_codeAt 117 = .ok (.iload 11, 2) by decide +kernel),
  List.forall_mem_cons.mpr ⟨qz_iload C (show decode c_X9_codeAt 119 = .ok (.iload 6, 2) by decide +kernel),
  List.forall_mem_cons.mpr ⟨qz_vI C (show decode c_X9_codeAt 121 = .ok (.invokevirtual 58, 3) by decide +kernel) ct_X7_moved mv_X7_moved cw_794 vcX7 (show 2 < 4 by omega),
  List.forall_mem_cons.mpr ⟨qz_istore C (show decode c_X9_codeAt 124 = .ok (.istore 12, 2) by decide +kernel),
  List.forall_mem_cons.mpr ⟨qz_lload C (show decode c_X9_codeAt 126 = .ok (.lload 7, 2) by decide +kernel),
  List.forall_mem_cons.mpr ⟨qz_ldc2 C (show decode c_X9_codeAt 128 = .ok (.ldc2_w 64, 3) by decide +kernel) cw_806,
  List.forall_mem_cons.mpr ⟨qz_lcmp C (show decode c_X9_codeAt 131 = .ok (.lcmp, 1) by decide +kernel),
  List.forall_mem_cons.mpr ⟨qz_ifge C (show decode c_X9_codeAt 132 = .ok (.ifCond .ge 24, 3) by decide +kernel) (by decide),
  List.forall_mem_cons.mpr ⟨qz_lload C (show decode c_X9_codeAt 135 = .ok (.lload 7, 2) by decide +kernel),
  List.forall_mem_cons.mpr ⟨qz_lconst C (show decode c_X9_codeAt 137 = .ok (.lconst 0, 1) by decide +kernel) (by decide +kernel),
  List.forall_mem_cons.mpr ⟨qz_lcmp C (show decode c_X9_codeAt 138 = .ok (.lcmp, 1) by decide +kernel),
  List.forall_mem_cons.mpr ⟨qz_ifne C (show decode c_X9_codeAt 139 = .ok (.ifCond .ne 8, 3) by decide +kernel) (by decide),
  List.forall_mem_cons.mpr ⟨qz_iload C (show decode c_X9_codeAt 142 = .ok (.iload 11, 2) by decide +kernel),
  List.forall_mem_cons.mpr ⟨qz_goto C (show decode c_X9_codeAt 144 = .ok (.goto 11, 3) by decide +kernel) (by decide),
  List.forall_mem_cons.mpr ⟨qz_bipush C (show decode c_X9_codeAt 147 = .ok (.bipush 10, 2) by decide +kernel) (by decide +kernel),
  List.forall_mem_cons.mpr ⟨qz_iload C (show decode c_X9_codeAt 149 = .ok (.iload 12, 2) by decide +kernel),
  (fun q h => by cases h)⟩⟩⟩⟩⟩⟩⟩⟩⟩⟩⟩⟩⟩⟩⟩⟩⟩⟩⟩⟩⟩⟩⟩⟩⟩⟩⟩⟩⟩⟩⟩⟩⟩⟩⟩⟩⟩⟩⟩⟩
set_option maxRecDepth 20000 in
theorem sd_X9_codeAt_2 {G : pj_E} {A : Nat → Prop} {P : pj_P} {S : pj_U} {Z : pj_Z} (C : pj_C (G, A, (c_X9_codeAt, y_X9_codeAt.cls, 13, (some .int), 4), P, S, Z)) : ∀ q ∈ tb_X9_codeAt_2, pj_S (G, A, (c_X9_codeAt, y_X9_codeAt.cls, 13, (some .int), 4), P, S, Z) pj_eI q.1 q.2 :=
  List.forall_mem_cons.mpr ⟨qz_sI C (show decode c_X9_codeAt 151 = .ok (.invokestatic 66, 3) by decide +kernel) ct_J6_bitCount_0f7a4 mv_J6_bitCount_0f7a4 (Or.inl cw_824) (show 1 < 4 by omega),
  List.forall_mem_cons.mpr ⟨qz_iadd C (show decode c_X9_codeAt 154 = .ok (.iadd, 1) by decide +kernel),
  List.forall_mem_cons.mpr ⟨qz_iret C (show decode c_X9_codeAt 155 = .ok (.ireturn, 1) by decide +kernel) rfl,
  List.forall_mem_cons.mpr ⟨qz_lload C (show decode c_X9_codeAt 156 = .ok (.lload 7, 2) by decide +kernel),
  List.forall_mem_cons.mpr ⟨qz_ldc2 C (show decode c_X9_codeAt 158 = .ok (.ldc2_w 64, 3) by decide +kernel) cw_806,
  List.forall_mem_cons.mpr ⟨qz_lsub C (show decode c_X9_codeAt 161 = .ok (.lsub, 1) by decide +kernel),
  List.forall_mem_cons.mpr ⟨qz_lstore C (show decode c_X9_codeAt 162 = .ok (.lstore 7, 2) by decide +kernel),
  List.forall_mem_cons.mpr ⟨qz_iload C (show decode c_X9_codeAt 164 = .ok (.iload 10, 2) by decide +kernel),
  List.forall_mem_cons.mpr ⟨qz_bipush C (show decode c_X9_codeAt 166 = .ok (.bipush 10, 2) by decide +kernel) (by decide +kernel),
  List.forall_mem_cons.mpr ⟨qz_irem C (show decode c_X9_codeAt 168 = .ok (.irem, 1) by decide +kernel),
  List.forall_mem_cons.mpr ⟨qz_istore C (show decode c_X9_codeAt 169 = .ok (.istore 5, 2) by decide +kernel),
  List.forall_mem_cons.mpr ⟨qz_aload_n C (show decode c_X9_codeAt 171 = .ok (.aload_n 0, 1) by decide +kernel) rfl,
  List.forall_mem_cons.mpr ⟨qz_iload C (show decode c_X9_codeAt 172 = .ok (.iload 5, 2) by decide +kernel),
  List.forall_mem_cons.mpr ⟨qz_iload C (show decode c_X9_codeAt 174 = .ok (.iload 12, 2) by decide +kernel),
  List.forall_mem_cons.mpr ⟨qz_lload C (show decode c_X9_codeAt 176 = .ok (.lload 7, 2) by decide +kernel),
  List.forall_mem_cons.mpr ⟨qz_vI C (show decode c_X9_codeAt 178 = .ok (.invokevirtual 72, 3) by decide +kernel) ct_X9_memberAt mv_X9_memberAt cw_830 vcX9 (show 3 < 4 by omega),
  List.forall_mem_cons.mpr ⟨qz_istore C (show decode c_X9_codeAt 181 = .ok (.istore 6, 2) by decide +kernel),
  List.forall_mem_cons.mpr ⟨qz_lload C (show decode c_X9_codeAt 183 = .ok (.lload 7, 2) by decide +kernel),
  List.forall_mem_cons.mpr ⟨qz_aload_n C (show decode c_X9_codeAt 185 = .ok (.aload_n 0, 1) by decide +kernel) rfl,
  List.forall_mem_cons.mpr ⟨qz_iload C (show decode c_X9_codeAt 186 = .ok (.iload 5, 2) by decide +kernel),
  List.forall_mem_cons.mpr ⟨qz_iload C (show decode c_X9_codeAt 188 = .ok (.iload 12, 2) by decide +kernel),
  List.forall_mem_cons.mpr ⟨qz_iload C (show decode c_X9_codeAt 190 = .ok (.iload 6, 2) by decide +kernel),
  List.forall_mem_cons.mpr ⟨qz_vL C (show decode c_X9_codeAt 192 = .ok (.invokevirtual 76, 3) by decide +kernel) ct_X9_sizeUpTo mv_X9_sizeUpTo cw_811 vcX9 (show 2 < 4 by omega),
  List.forall_mem_cons.mpr ⟨qz_lsub C (show decode c_X9_codeAt 195 = .ok (.lsub, 1) by decide +kernel),
  List.forall_mem_cons.mpr ⟨qz_lstore C (show decode c_X9_codeAt 196 = .ok (.lstore 7, 2) by decide +kernel),
  List.forall_mem_cons.mpr ⟨qz_iinc C (show decode c_X9_codeAt 198 = .ok (.iinc 9 1, 3) by decide +kernel) (by decide +kernel),
  List.forall_mem_cons.mpr ⟨qz_goto C (show decode c_X9_codeAt 201 = .ok (.goto (-187), 3) by decide +kernel) (by decide),
  List.forall_mem_cons.mpr ⟨qz_ldc C (show decode c_X9_codeAt 204 = .ok (.ldc 80, 2) by decide +kernel) cw_834,
  List.forall_mem_cons.mpr ⟨qz_iret C (show decode c_X9_codeAt 206 = .ok (.ireturn, 1) by decide +kernel) rfl,
  (fun q h => by cases h)⟩⟩⟩⟩⟩⟩⟩⟩⟩⟩⟩⟩⟩⟩⟩⟩⟩⟩⟩⟩⟩⟩⟩⟩⟩⟩⟩⟩⟩
theorem sd_X9_codeAt {G : pj_E} {A : Nat → Prop} {P : pj_P} {S : pj_U} {Z : pj_Z} (C : pj_C (G, A, (c_X9_codeAt, y_X9_codeAt.cls, 13, (some .int), 4), P, S, Z)) : ∀ q ∈ tb_X9_codeAt, pj_S (G, A, (c_X9_codeAt, y_X9_codeAt.cls, 13, (some .int), 4), P, S, Z) pj_eI q.1 q.2 := List.forall_mem_append.mpr ⟨sd_X9_codeAt_0 C, List.forall_mem_append.mpr ⟨sd_X9_codeAt_1 C, sd_X9_codeAt_2 C⟩⟩
noncomputable def C_X9_codeAt_135 (f : Int64 → Int32 → Int32 → pj_M → Option (Int32 × pj_M)) : pj_N (Int32 × pj_M) := fun L st m => match L, st with
  | [_, _, _, _, _, _, _, some (.inr (.inl l7)), _, _, _, some (.inl x11), some (.inl x12)], [] => f l7 x11 x12 m
  | _, _ => none
noncomputable def C_X9_codeAt_53 (f : Int64 → pj_M → Option (Int32 × pj_M)) : pj_N (Int32 × pj_M) := fun L st m => match L, st with
  | [_, _, _, _, _, _, _, some (.inr (.inl l7)), _, _, _, _, _], [] => f l7 m
  | _, _ => none
noncomputable def C_X9_codeAt_14 (f : Nat → Nat → Int32 → Int32 → Int64 → Int32 → pj_M → Option (Int32 × pj_M)) : pj_N (Int32 × pj_M) := fun L st m => match L, st with
  | [some (.inr (.inr (t0, w0, a0))), some (.inr (.inr (t1, w1, a1))), _, _, _, some (.inl x5), some (.inl x6), some (.inr (.inl l7)), _, some (.inl x9), _, _, _], [] => (match Nat.beq t0 0 && (Nat.beq w0 9 && (Nat.beq t1 0 && (Nat.beq w1 7))) with
    | true => f a0 a1 x5 x6 l7 x9 m
    | false => none)
  | _, _ => none
set_option maxRecDepth 20000 in
theorem eq_X9_codeAt_135 (l7 : Int64) (x11 : Int32) (x12 : Int32) (d0 d1 d2 d3 d4 d5 d6 d8 d9 d10 : Option pj_V) (m : pj_M) : pj_run tb_X9_codeAt [] 111 135 [d0, d1, d2, d3, d4, d5, d6, some (.inr (.inl l7)), d8, d9, d10, some (.inl x11), some (.inl x12)] [] m = J_X9_codeAt_135 l7 x11 x12 m := by rfl
theorem sg_X9_codeAt_135 {G : pj_E} {A : Nat → Prop} {P : pj_P} {S : pj_U} {Z : pj_Z} (C : pj_C (G, A, (c_X9_codeAt, y_X9_codeAt.cls, 13, (some .int), 4), P, S, Z)) : pj_G (G, A, (c_X9_codeAt, y_X9_codeAt.cls, 13, (some .int), 4), P, S, Z) pj_eI 135 (C_X9_codeAt_135 (J_X9_codeAt_135)) := by
  intro L st m r h hR
  unfold C_X9_codeAt_135 at h
  split at h
  · exact pj_run_ok (sd_X9_codeAt C) (fun q h => by cases h) 111 135 _ _ _ _ ((eq_X9_codeAt_135 _ _ _ _ _ _ _ _ _ _ _ _ _ _).trans h) hR
  · cases h
set_option maxRecDepth 20000 in
theorem eq_X9_codeAt_53 (l7 : Int64) (d0 d1 d2 d3 d4 d5 d6 d8 d9 d10 d11 d12 : Option pj_V) (m : pj_M) : pj_run tb_X9_codeAt [] 111 53 [d0, d1, d2, d3, d4, d5, d6, some (.inr (.inl l7)), d8, d9, d10, d11, d12] [] m = J_X9_codeAt_53 l7 m := by rfl
theorem sg_X9_codeAt_53 {G : pj_E} {A : Nat → Prop} {P : pj_P} {S : pj_U} {Z : pj_Z} (C : pj_C (G, A, (c_X9_codeAt, y_X9_codeAt.cls, 13, (some .int), 4), P, S, Z)) : pj_G (G, A, (c_X9_codeAt, y_X9_codeAt.cls, 13, (some .int), 4), P, S, Z) pj_eI 53 (C_X9_codeAt_53 (J_X9_codeAt_53)) := by
  intro L st m r h hR
  unfold C_X9_codeAt_53 at h
  split at h
  · exact pj_run_ok (sd_X9_codeAt C) (fun q h => by cases h) 111 53 _ _ _ _ ((eq_X9_codeAt_53 _ _ _ _ _ _ _ _ _ _ _ _ _ _).trans h) hR
  · cases h
set_option maxRecDepth 20000 in
theorem eq_X9_codeAt_14 (n1 : Nat) (a0 : Nat) (a1 : Nat) (x5 : Int32) (x6 : Int32) (l7 : Int64) (x9 : Int32) (d2 d3 d4 d8 d10 d11 d12 : Option pj_V) (m : pj_M) : pj_run tb_X9_codeAt [(14, C_X9_codeAt_14 (H_X9_codeAt_14 n1)), (53, C_X9_codeAt_53 (J_X9_codeAt_53 )), (135, C_X9_codeAt_135 (J_X9_codeAt_135 ))] 111 14 [some (.inr (.inr (0, 9, a0))), some (.inr (.inr (0, 7, a1))), d2, d3, d4, some (.inl x5), some (.inl x6), some (.inr (.inl l7)), d8, some (.inl x9), d10, d11, d12] [] m = H_X9_codeAt_14 (n1 + 1) a0 a1 x5 x6 l7 x9 m := by rfl
theorem sg_X9_codeAt_14 {G : pj_E} {A : Nat → Prop} {P : pj_P} {S : pj_U} {Z : pj_Z} (C : pj_C (G, A, (c_X9_codeAt, y_X9_codeAt.cls, 13, (some .int), 4), P, S, Z)) : ∀ n1, pj_G (G, A, (c_X9_codeAt, y_X9_codeAt.cls, 13, (some .int), 4), P, S, Z) pj_eI 14 (C_X9_codeAt_14 (H_X9_codeAt_14 n1)) := by
  intro n1
  induction n1 with
  | zero =>
    intro L st m r h hR
    unfold C_X9_codeAt_14 at h
    split at h
    · split at h
      · cases h
      · cases h
    · cases h
  | succ n1 ih1 =>
    intro L st m r h hR
    unfold C_X9_codeAt_14 at h
    split at h
    · split at h
      · rename_i hbq
        simp only [Bool.and_eq_true, Nat.beq_eq] at hbq
        obtain ⟨rfl, rfl, rfl, rfl⟩ := hbq
        exact pj_run_ok (sd_X9_codeAt C) (List.forall_mem_cons.mpr ⟨ih1, List.forall_mem_cons.mpr ⟨sg_X9_codeAt_53 C , List.forall_mem_cons.mpr ⟨sg_X9_codeAt_135 C , fun q h => by cases h⟩⟩⟩) 111 14 _ _ _ _ ((eq_X9_codeAt_14 _ _ _ _ _ _ _ _ _ _ _ _ _ _ _).trans h) hR
      · cases h
    · cases h
set_option maxRecDepth 20000 in
theorem eq_X9_codeAt (a0 : Nat) (a1 : Nat) (x2 : Int32) (x3 : Int32) (x4 : Int32) (m : pj_M) : pj_run tb_X9_codeAt [(14, C_X9_codeAt_14 (H_X9_codeAt_14  pj_z))] 111 0 [some (.inr (.inr (0, 9, a0))), some (.inr (.inr (0, 7, a1))), some (.inl x2), some (.inl x3), some (.inl x4), none, none, none, none, none, none, none, none] [] m = F_X9_codeAt a0 a1 x2 x3 x4 m := by rfl
theorem ct_X9_codeAt : pj_Ct pj_eI y_X9_codeAt c_X9_codeAt 13 (some .int) 4 W_X9_codeAt := by
  refine pj_ct_of (by decide +kernel) ?_ ?_
  · intro as m r h
    unfold W_X9_codeAt at h
    split at h
    · simp [pj_l0]
    · cases h
  · intro G A P S Z C as m r h hR
    unfold W_X9_codeAt at h
    split at h
    · split at h
      · rename_i hbq
        simp only [Bool.and_eq_true, Nat.beq_eq] at hbq
        obtain ⟨rfl, rfl, rfl, rfl⟩ := hbq
        exact pj_run_ok (sd_X9_codeAt C) (List.forall_mem_cons.mpr ⟨sg_X9_codeAt_14 C  pj_z, fun q h => by cases h⟩) 111 0 _ _ _ _ ((eq_X9_codeAt _ _ _ _ _ _).trans h) hR
      · cases h
    · cases h
