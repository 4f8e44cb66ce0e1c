/-! AlikeStepsModel.in(III)Z -/
abbrev c_X11_in : ByteArray := prog_13_method_3_code
def y_X11_in : MethodName := ⟨RX11, "in", "(III)Z"⟩
noncomputable def F_X11_in (x0 : Int32) (x1 : Int32) (x2 : Int32) (m : pj_M) : Option (Int32 × pj_M) := (if x0 < x1 then (some (0, m)) else (if x2 < x0 then (some (0, m)) else (some (1, m))))
noncomputable def W_X11_in : List pj_V → pj_M → Option (Int32 × pj_M) := fun as m => match as with
  | [.inl x0, .inl x1, .inl x2] => F_X11_in x0 x1 x2 m
  | _ => none
noncomputable def tb_X11_in_0 : List (Nat × pj_T (Int32 × pj_M)) := [(0, qs_ldi 0 1), (1, qs_ldi 1 2), (2, qs_iclt 14 5), (5, qs_ldi 0 6), (6, qs_ldi 2 7), (7, qs_icgt 14 10), (10, qs_ci 1 11), (11, qs_go 15), (14, qs_ci 0 15), (15, qs_zret)]
noncomputable abbrev tb_X11_in : List (Nat × pj_T (Int32 × pj_M)) := tb_X11_in_0
theorem mv_X11_in : pj_ms y_X11_in c_X11_in 3 (some .boolean) 3 := ⟨⟨cw_1128, cw_1127, cw_92⟩, by decide +kernel, by decide⟩
set_option maxRecDepth 20000 in
theorem sd_X11_in_0 {G : pj_E} {A : Nat → Prop} {P : pj_P} {S : pj_U} {Z : pj_Z} (C : pj_C (G, A, (c_X11_in, y_X11_in.cls, 3, (some .boolean), 1), P, S, Z)) : ∀ q ∈ tb_X11_in_0, pj_S (G, A, (c_X11_in, y_X11_in.cls, 3, (some .boolean), 1), P, S, Z) pj_eI q.1 q.2 :=
  List.forall_mem_cons.mpr ⟨qz_iload_n C (show decode c_X11_in 0 = .ok (.iload_n 0, 1) by decide +kernel) rfl,
  List.forall_mem_cons.mpr ⟨qz_iload_n C (show decode c_X11_in 1 = .ok (.iload_n 1, 1) by decide +kernel) rfl,
  List.forall_mem_cons.mpr ⟨qz_iclt C (show decode c_X11_in 2 = .ok (.if_icmp .lt 12, 3) by decide +kernel) (by decide),
  List.forall_mem_cons.mpr ⟨qz_iload_n C (show decode c_X11_in 5 = .ok (.iload_n 0, 1) by decide +kernel) rfl,
  List.forall_mem_cons.mpr ⟨qz_iload_n C (show decode c_X11_in 6 = .ok (.iload_n 2, 1) by decide +kernel) rfl,
  List.forall_mem_cons.mpr ⟨qz_icgt C (show decode c_X11_in 7 = .ok (.if_icmp .gt 7, 3) by decide +kernel) (by decide),
  List.forall_mem_cons.mpr ⟨qz_iconst C (show decode c_X11_in 10 = .ok (.iconst 1, 1) by decide +kernel) (by decide +kernel),
  List.forall_mem_cons.mpr ⟨qz_goto C (show decode c_X11_in 11 = .ok (.goto 4, 3) by decide +kernel) (by decide),
  List.forall_mem_cons.mpr ⟨qz_iconst C (show decode c_X11_in 14 = .ok (.iconst 0, 1) by decide +kernel) (by decide +kernel),
  List.forall_mem_cons.mpr ⟨qz_zret C (show decode c_X11_in 15 = .ok (.ireturn, 1) by decide +kernel) rfl,
  (fun q h => by cases h)⟩⟩⟩⟩⟩⟩⟩⟩⟩⟩
theorem sd_X11_in {G : pj_E} {A : Nat → Prop} {P : pj_P} {S : pj_U} {Z : pj_Z} (C : pj_C (G, A, (c_X11_in, y_X11_in.cls, 3, (some .boolean), 1), P, S, Z)) : ∀ q ∈ tb_X11_in, pj_S (G, A, (c_X11_in, y_X11_in.cls, 3, (some .boolean), 1), P, S, Z) pj_eI q.1 q.2 := sd_X11_in_0 C
set_option maxRecDepth 20000 in
theorem eq_X11_in (x0 : Int32) (x1 : Int32) (x2 : Int32) (m : pj_M) : pj_run tb_X11_in [] 12 0 [some (.inl x0), some (.inl x1), some (.inl x2)] [] m = F_X11_in x0 x1 x2 m := by rfl
theorem ct_X11_in : pj_Ct pj_eI y_X11_in c_X11_in 3 (some .boolean) 1 W_X11_in := by
  refine pj_ct_of (by decide +kernel) ?_ ?_
  · intro as m r h
    unfold W_X11_in at h
    split at h
    · simp [pj_l0]
    · cases h
  · intro G A P S Z C as m r h hR
    unfold W_X11_in at h
    split at h
    · exact pj_run_ok (sd_X11_in C) (fun q h => by cases h) 12 0 _ _ _ _ ((eq_X11_in _ _ _ _).trans h) hR
    · cases h
/-! AlikeStepsModel.has(II)Z -/
abbrev c_X11_has : ByteArray := prog_13_method_4_code
def y_X11_has : MethodName := ⟨RX11, "has", "(II)Z"⟩
noncomputable def F_X11_has (x0 : Int32) (x1 : Int32) (m : pj_M) : Option (Int32 × pj_M) := (if ((x0 >>> (x1 &&& 31)) &&& 1) = 1 then (some (1, m)) else (some (0, m)))
noncomputable def W_X11_has : List pj_V → pj_M → Option (Int32 × pj_M) := fun as m => match as with
  | [.inl x0, .inl x1] => F_X11_has x0 x1 m
  | _ => none
noncomputable def tb_X11_has_0 : List (Nat × pj_T (Int32 × pj_M)) := [(0, qs_ldi 0 1), (1, qs_ldi 1 2), (2, qs_b2 (fun x y => x >>> (y &&& 31)) 3), (3, qs_ci 1 4), (4, qs_b2 (fun x y => x &&& y) 5), (5, qs_ci 1 6), (6, qs_icne 13 9), (9, qs_ci 1 10), (10, qs_go 14), (13, qs_ci 0 14), (14, qs_zret)]
noncomputable abbrev tb_X11_has : List (Nat × pj_T (Int32 × pj_M)) := tb_X11_has_0
theorem mv_X11_has : pj_ms y_X11_has c_X11_has 2 (some .boolean) 2 := ⟨⟨cw_1283, cw_1282, cw_92⟩, by decide +kernel, by decide⟩
set_option maxRecDepth 20000 in
theorem sd_X11_has_0 {G : pj_E} {A : Nat → Prop} {P : pj_P} {S : pj_U} {Z : pj_Z} (C : pj_C (G, A, (c_X11_has, y_X11_has.cls, 2, (some .boolean), 1), P, S, Z)) : ∀ q ∈ tb_X11_has_0, pj_S (G, A, (c_X11_has, y_X11_has.cls, 2, (some .boolean), 1), P, S, Z) pj_eI q.1 q.2 :=
  List.forall_mem_cons.mpr ⟨qz_iload_n C (show decode c_X11_has 0 = .ok (.iload_n 0, 1) by decide +kernel) rfl,
  List.forall_mem_cons.mpr ⟨qz_iload_n C (show decode c_X11_has 1 = .ok (.iload_n 1, 1) by decide +kernel) rfl,
  List.forall_mem_cons.mpr ⟨qz_ishr C (show decode c_X11_has 2 = .ok (.ishr, 1) by decide +kernel),
  List.forall_mem_cons.mpr ⟨qz_iconst C (show decode c_X11_has 3 = .ok (.iconst 1, 1) by decide +kernel) (by decide +kernel),
  List.forall_mem_cons.mpr ⟨qz_iand C (show decode c_X11_has 4 = .ok (.iand, 1) by decide +kernel),
  List.forall_mem_cons.mpr ⟨qz_iconst C (show decode c_X11_has 5 = .ok (.iconst 1, 1) by decide +kernel) (by decide +kernel),
  List.forall_mem_cons.mpr ⟨qz_icne C (show decode c_X11_has 6 = .ok (.if_icmp .ne 7, 3) by decide +kernel) (by decide),
  List.forall_mem_cons.mpr ⟨qz_iconst C (show decode c_X11_has 9 = .ok (.iconst 1, 1) by decide +kernel) (by decide +kernel),
  List.forall_mem_cons.mpr ⟨qz_goto C (show decode c_X11_has 10 = .ok (.goto 4, 3) by decide +kernel) (by decide),
  List.forall_mem_cons.mpr ⟨qz_iconst C (show decode c_X11_has 13 = .ok (.iconst 0, 1) by decide +kernel) (by decide +kernel),
  List.forall_mem_cons.mpr ⟨qz_zret C (show decode c_X11_has 14 = .ok (.ireturn, 1) by decide +kernel) rfl,
  (fun q h => by cases h)⟩⟩⟩⟩⟩⟩⟩⟩⟩⟩⟩
theorem sd_X11_has {G : pj_E} {A : Nat → Prop} {P : pj_P} {S : pj_U} {Z : pj_Z} (C : pj_C (G, A, (c_X11_has, y_X11_has.cls, 2, (some .boolean), 1), P, S, Z)) : ∀ q ∈ tb_X11_has, pj_S (G, A, (c_X11_has, y_X11_has.cls, 2, (some .boolean), 1), P, S, Z) pj_eI q.1 q.2 := sd_X11_has_0 C
set_option maxRecDepth 20000 in
theorem eq_X11_has (x0 : Int32) (x1 : Int32) (m : pj_M) : pj_run tb_X11_has [] 13 0 [some (.inl x0), some (.inl x1)] [] m = F_X11_has x0 x1 m := by rfl
theorem ct_X11_has : pj_Ct pj_eI y_X11_has c_X11_has 2 (some .boolean) 1 W_X11_has := by
  refine pj_ct_of (by decide +kernel) ?_ ?_
  · intro as m r h
    unfold W_X11_has at h
    split at h
    · simp [pj_l0]
    · cases h
  · intro G A P S Z C as m r h hR
    unfold W_X11_has at h
    split at h
    · exact pj_run_ok (sd_X11_has C) (fun q h => by cases h) 13 0 _ _ _ _ ((eq_X11_has _ _ _).trans h) hR
    · cases h
/-! AlikeStepsModel.sizeOf(I)I -/
abbrev c_X11_sizeOf : ByteArray := prog_13_method_5_code
def y_X11_sizeOf : MethodName := ⟨RX11, "sizeOf", "(I)I"⟩
noncomputable def H_X11_sizeOf_4 : Nat → Int32 → Int32 → Int32 → pj_M → Option (Int32 × pj_M)
  | 0, _, _, _, _ => none
  | n1 + 1, x0, x1, x2, m => (if x2 < 10 then (H_X11_sizeOf_4 n1 x0 (x1 + ((x0 >>> (x2 &&& 31)) &&& 1)) (x2 + 1) m) else (some (x1, m)))
noncomputable def F_X11_sizeOf (x0 : Int32) (m : pj_M) : Option (Int32 × pj_M) := (H_X11_sizeOf_4 pj_z x0 0 0 m)
noncomputable def W_X11_sizeOf : List pj_V → pj_M → Option (Int32 × pj_M) := fun as m => match as with
  | [.inl x0] => F_X11_sizeOf x0 m
  | _ => none
noncomputable def tb_X11_sizeOf_0 : List (Nat × pj_T (Int32 × pj_M)) := [(0, qs_ci 0 1), (1, qs_sti 1 2), (2, qs_ci 0 3), (3, qs_sti 2 4), (4, qs_ldi 2 5), (5, qs_ci 10 7), (7, qs_icge 24 10), (10, qs_ldi 1 11), (11, qs_ldi 0 12), (12, qs_ldi 2 13), (13, qs_b2 (fun x y => x >>> (y &&& 31)) 14), (14, qs_ci 1 15), (15, qs_b2 (fun x y => x &&& y) 16), (16, qs_b2 (fun x y => x + y) 17), (17, qs_sti 1 18), (18, qs_inc 2 1 21), (21, qs_go 4), (24, qs_ldi 1 25), (25, qs_iret)]
noncomputable abbrev tb_X11_sizeOf : List (Nat × pj_T (Int32 × pj_M)) := tb_X11_sizeOf_0
theorem mv_X11_sizeOf : pj_ms y_X11_sizeOf c_X11_sizeOf 3 (some .int) 1 := ⟨⟨cw_1380, cw_1379, cw_92⟩, by decide +kernel, by decide⟩
set_option maxRecDepth 20000 in
theorem sd_X11_sizeOf_0 {G : pj_E} {A : Nat → Prop} {P : pj_P} {S : pj_U} {Z : pj_Z} (C : pj_C (G, A, (c_X11_sizeOf, y_X11_sizeOf.cls, 3, (some .int), 1), P, S, Z)) : ∀ q ∈ tb_X11_sizeOf_0, pj_S (G, A, (c_X11_sizeOf, y_X11_sizeOf.cls, 3, (some .int), 1), P, S, Z) pj_eI q.1 q.2 :=
  List.forall_mem_cons.mpr ⟨qz_iconst C (show decode c_X11_sizeOf 0 = .ok (.iconst 0, 1) by decide +kernel) (by decide +kernel),
  List.forall_mem_cons.mpr ⟨qz_istore_n C (show decode c_X11_sizeOf 1 = .ok (.istore_n 1, 1) by decide +kernel) rfl,
  List.forall_mem_cons.mpr ⟨qz_iconst C (show decode c_X11_sizeOf 2 = .ok (.iconst 0, 1) by decide +kernel) (by decide +kernel),
  List.forall_mem_cons.mpr ⟨qz_istore_n C (show decode c_X11_sizeOf 3 = .ok (.istore_n 2, 1) by decide +kernel) rfl,
  List.forall_mem_cons.mpr ⟨qz_iload_n C (show decode c_X11_sizeOf 4 = .ok (.iload_n 2, 1) by decide +kernel) rfl,
  List.forall_mem_cons.mpr ⟨qz_bipush C (show decode c_X11_sizeOf 5 = .ok (.bipush 10, 2) by decide +kernel) (by decide +kernel),
  List.forall_mem_cons.mpr ⟨qz_icge C (show decode c_X11_sizeOf 7 = .ok (.if_icmp .ge 17, 3) by decide +kernel) (by decide),
  List.forall_mem_cons.mpr ⟨qz_iload_n C (show decode c_X11_sizeOf 10 = .ok (.iload_n 1, 1) by decide +kernel) rfl,
  List.forall_mem_cons.mpr ⟨qz_iload_n C (show decode c_X11_sizeOf 11 = .ok (.iload_n 0, 1) by decide +kernel) rfl,
  List.forall_mem_cons.mpr ⟨qz_iload_n C (show decode c_X11_sizeOf 12 = .ok (.iload_n 2, 1) by decide +kernel) rfl,
  List.forall_mem_cons.mpr ⟨qz_ishr C (show decode c_X11_sizeOf 13 = .ok (.ishr, 1) by decide +kernel),
  List.forall_mem_cons.mpr ⟨qz_iconst C (show decode c_X11_sizeOf 14 = .ok (.iconst 1, 1) by decide +kernel) (by decide +kernel),
  List.forall_mem_cons.mpr ⟨qz_iand C (show decode c_X11_sizeOf 15 = .ok (.iand, 1) by decide +kernel),
  List.forall_mem_cons.mpr ⟨qz_iadd C (show decode c_X11_sizeOf 16 = .ok (.iadd, 1) by decide +kernel),
  List.forall_mem_cons.mpr ⟨qz_istore_n C (show decode c_X11_sizeOf 17 = .ok (.istore_n 1, 1) by decide +kernel) rfl,
  List.forall_mem_cons.mpr ⟨qz_iinc C (show decode c_X11_sizeOf 18 = .ok (.iinc 2 1, 3) by decide +kernel) (by decide +kernel),
  List.forall_mem_cons.mpr ⟨qz_goto C (show decode c_X11_sizeOf 21 = .ok (.goto (-17), 3) by decide +kernel) (by decide),
  List.forall_mem_cons.mpr ⟨qz_iload_n C (show decode c_X11_sizeOf 24 = .ok (.iload_n 1, 1) by decide +kernel) rfl,
  List.forall_mem_cons.mpr ⟨qz_iret C (show decode c_X11_sizeOf 25 = .ok (.ireturn, 1) by decide +kernel) rfl,
  (fun q h => by cases h)⟩⟩⟩⟩⟩⟩⟩⟩⟩⟩⟩⟩⟩⟩⟩⟩⟩⟩⟩
theorem sd_X11_sizeOf {G : pj_E} {A : Nat → Prop} {P : pj_P} {S : pj_U} {Z : pj_Z} (C : pj_C (G, A, (c_X11_sizeOf, y_X11_sizeOf.cls, 3, (some .int), 1), P, S, Z)) : ∀ q ∈ tb_X11_sizeOf, pj_S (G, A, (c_X11_sizeOf, y_X11_sizeOf.cls, 3, (some .int), 1), P, S, Z) pj_eI q.1 q.2 := sd_X11_sizeOf_0 C
noncomputable def C_X11_sizeOf_4 (f : Int32 → Int32 → Int32 → pj_M → Option (Int32 × pj_M)) : pj_N (Int32 × pj_M) := fun L st m => match L, st with
  | [some (.inl x0), some (.inl x1), some (.inl x2)], [] => f x0 x1 x2 m
  | _, _ => none
set_option maxRecDepth 20000 in
theorem eq_X11_sizeOf_4 (n1 : Nat) (x0 : Int32) (x1 : Int32) (x2 : Int32) (m : pj_M) : pj_run tb_X11_sizeOf [(4, C_X11_sizeOf_4 (H_X11_sizeOf_4 n1))] 21 4 [some (.inl x0), some (.inl x1), some (.inl x2)] [] m = H_X11_sizeOf_4 (n1 + 1) x0 x1 x2 m := by rfl
theorem sg_X11_sizeOf_4 {G : pj_E} {A : Nat → Prop} {P : pj_P} {S : pj_U} {Z : pj_Z} (C : pj_C (G, A, (c_X11_sizeOf, y_X11_sizeOf.cls, 3, (some .int), 1), P, S, Z)) : ∀ n1, pj_G (G, A, (c_X11_sizeOf, y_X11_sizeOf.cls, 3, (some .int), 1), P, S, Z) pj_eI 4 (C_X11_sizeOf_4 (H_X11_sizeOf_4 n1)) := by
  intro n1
  induction n1 with
  | zero =>
    intro L st m r h hR
    unfold C_X11_sizeOf_4 at h
    split at h
    · cases h
    · cases h
  | succ n1 ih1 =>
    intro L st m r h hR
    unfold C_X11_sizeOf_4 at h
    split at h
    · exact pj_run_ok (sd_X11_sizeOf C) (List.forall_mem_cons.mpr ⟨ih1, fun q h => by cases h⟩) 21 4 _ _ _ _ ((eq_X11_sizeOf_4 _ _ _ _ _).trans h) hR
    · cases h
set_option maxRecDepth 20000 in
theorem eq_X11_sizeOf (x0 : Int32) (m : pj_M) : pj_run tb_X11_sizeOf [(4, C_X11_sizeOf_4 (H_X11_sizeOf_4  pj_z))] 21 0 [some (.inl x0), none, none] [] m = F_X11_sizeOf x0 m := by rfl
theorem ct_X11_sizeOf : pj_Ct pj_eI y_X11_sizeOf c_X11_sizeOf 3 (some .int) 1 W_X11_sizeOf := by
  refine pj_ct_of (by decide +kernel) ?_ ?_
  · intro as m r h
    unfold W_X11_sizeOf at h
    split at h
    · simp [pj_l0]
    · cases h
  · intro G A P S Z C as m r h hR
    unfold W_X11_sizeOf at h
    split at h
    · exact pj_run_ok (sd_X11_sizeOf C) (List.forall_mem_cons.mpr ⟨sg_X11_sizeOf_4 C  pj_z, fun q h => by cases h⟩) 21 0 _ _ _ _ ((eq_X11_sizeOf _ _).trans h) hR
    · cases h
/-! AlikeStepsModel.found(I)I -/
abbrev c_X11_found : ByteArray := prog_13_method_6_code
def y_X11_found : MethodName := ⟨RX11, "found", "(I)I"⟩
noncomputable def F_X11_found (x1 : Int32) (m : pj_M) : Option (Int32 × pj_M) := (some ((-1000010) - x1, (pj_wr m 72 4 x1)))
noncomputable def W_X11_found : List pj_V → pj_M → Option (Int32 × pj_M) := fun as m => match as with
  | [.inr (.inr (t0, w0, a0)), .inl x1] => (match Nat.beq t0 0 && (Nat.beq w0 11 && (Nat.beq a0 72)) with
    | true => F_X11_found x1 m
    | false => none)
  | _ => none
noncomputable def tb_X11_found_0 : List (Nat × pj_T (Int32 × pj_M)) := [(0, qs_lda 0 1), (1, qs_ldi 1 2), (2, qs_pf 11 4 5), (5, qs_ci (-1000010) 7), (7, qs_ldi 1 8), (8, qs_b2 (fun x y => x - y) 9), (9, qs_iret)]
noncomputable abbrev tb_X11_found : List (Nat × pj_T (Int32 × pj_M)) := tb_X11_found_0
theorem mv_X11_found : pj_mv y_X11_found c_X11_found 2 (some .int) 1 := ⟨⟨cw_1133, cw_1132, cw_32, cw_92⟩, by decide +kernel, by decide⟩
set_option maxRecDepth 20000 in
theorem sd_X11_found_0 {G : pj_E} {A : Nat → Prop} {P : pj_P} {S : pj_U} {Z : pj_Z} (C : pj_C (G, A, (c_X11_found, y_X11_found.cls, 2, (some .int), 1), P, S, Z)) : ∀ q ∈ tb_X11_found_0, pj_S (G, A, (c_X11_found, y_X11_found.cls, 2, (some .int), 1), P, S, Z) pj_eI q.1 q.2 :=
  List.forall_mem_cons.mpr ⟨qz_aload_n C (show decode c_X11_found 0 = .ok (.aload_n 0, 1) by decide +kernel) rfl,
  List.forall_mem_cons.mpr ⟨qz_iload_n C (show decode c_X11_found 1 = .ok (.iload_n 1, 1) by decide +kernel) rfl,
  List.forall_mem_cons.mpr ⟨qz_pf (k := 4) C (show decode c_X11_found 2 = .ok (.putfield 79, 3) by decide +kernel) vcX11 wiX11 tyX11_ok nmX11 (by decide) cw_1022 rfl rfl,
  List.forall_mem_cons.mpr ⟨qz_ldc C (show decode c_X11_found 5 = .ok (.ldc 83, 2) by decide +kernel) cw_1134,
  List.forall_mem_cons.mpr ⟨qz_iload_n C (show decode c_X11_found 7 = .ok (.iload_n 1, 1) by decide +kernel) rfl,
  List.forall_mem_cons.mpr ⟨qz_isub C (show decode c_X11_found 8 = .ok (.isub, 1) by decide +kernel),
  List.forall_mem_cons.mpr ⟨qz_iret C (show decode c_X11_found 9 = .ok (.ireturn, 1) by decide +kernel) rfl,
  (fun q h => by cases h)⟩⟩⟩⟩⟩⟩⟩
theorem sd_X11_found {G : pj_E} {A : Nat → Prop} {P : pj_P} {S : pj_U} {Z : pj_Z} (C : pj_C (G, A, (c_X11_found, y_X11_found.cls, 2, (some .int), 1), P, S, Z)) : ∀ q ∈ tb_X11_found, pj_S (G, A, (c_X11_found, y_X11_found.cls, 2, (some .int), 1), P, S, Z) pj_eI q.1 q.2 := sd_X11_found_0 C
set_option maxRecDepth 20000 in
theorem eq_X11_found (x1 : Int32) (m : pj_M) : pj_run tb_X11_found [] 9 0 [some (.inr (.inr (0, 11, 72))), some (.inl x1)] [] m = F_X11_found x1 m := by rfl
theorem ct_X11_found : pj_Ct pj_eI y_X11_found c_X11_found 2 (some .int) 1 W_X11_found := by
  refine pj_ct_of (by decide +kernel) ?_ ?_
  · intro as m r h
    unfold W_X11_found at h
    split at h
    · simp [pj_l0]
    · cases h
  · intro G A P S Z C as m r h hR
    unfold W_X11_found at h
    split at h
    · split at h
      · rename_i hbq
        simp only [Bool.and_eq_true, Nat.beq_eq] at hbq
        obtain ⟨rfl, rfl, rfl⟩ := hbq
        exact pj_run_ok (sd_X11_found C) (fun q h => by cases h) 9 0 _ _ _ _ ((eq_X11_found _ _).trans h) hR
      · cases h
    · cases h
/-! AlikeStepsModel.well(I)I -/
abbrev c_X11_well : ByteArray := prog_13_method_7_code
def y_X11_well : MethodName := ⟨RX11, "well", "(I)I"⟩
noncomputable def F_X11_well (x1 : Int32) (m : pj_M) : Option (Int32 × pj_M) := (some (x1, (pj_wr m 72 4 0)))
noncomputable def W_X11_well : List pj_V → pj_M → Option (Int32 × pj_M) := fun as m => match as with
  | [.inr (.inr (t0, w0, a0)), .inl x1] => (match Nat.beq t0 0 && (Nat.beq w0 11 && (Nat.beq a0 72)) with
    | true => F_X11_well x1 m
    | false => none)
  | _ => none
noncomputable def tb_X11_well_0 : List (Nat × pj_T (Int32 × pj_M)) := [(0, qs_lda 0 1), (1, qs_ci 0 2), (2, qs_pf 11 4 5), (5, qs_ldi 1 6), (6, qs_iret)]
noncomputable abbrev tb_X11_well : List (Nat × pj_T (Int32 × pj_M)) := tb_X11_well_0
theorem mv_X11_well : pj_mv y_X11_well c_X11_well 2 (some .int) 1 := ⟨⟨cw_1138, cw_1137, cw_33, cw_92⟩, by decide +kernel, by decide⟩
set_option maxRecDepth 20000 in
theorem sd_X11_well_0 {G : pj_E} {A : Nat → Prop} {P : pj_P} {S : pj_U} {Z : pj_Z} (C : pj_C (G, A, (c_X11_well, y_X11_well.cls, 2, (some .int), 1), P, S, Z)) : ∀ q ∈ tb_X11_well_0, pj_S (G, A, (c_X11_well, y_X11_well.cls, 2, (some .int), 1), P, S, Z) pj_eI q.1 q.2 :=
  List.forall_mem_cons.mpr ⟨qz_aload_n C (show decode c_X11_well 0 = .ok (.aload_n 0, 1) by decide +kernel) rfl,
  List.forall_mem_cons.mpr ⟨qz_iconst C (show decode c_X11_well 1 = .ok (.iconst 0, 1) by decide +kernel) (by decide +kernel),
  List.forall_mem_cons.mpr ⟨qz_pf (k := 4) C (show decode c_X11_well 2 = .ok (.putfield 79, 3) by decide +kernel) vcX11 wiX11 tyX11_ok nmX11 (by decide) cw_1022 rfl rfl,
  List.forall_mem_cons.mpr ⟨qz_iload_n C (show decode c_X11_well 5 = .ok (.iload_n 1, 1) by decide +kernel) rfl,
  List.forall_mem_cons.mpr ⟨qz_iret C (show decode c_X11_well 6 = .ok (.ireturn, 1) by decide +kernel) rfl,
  (fun q h => by cases h)⟩⟩⟩⟩⟩
theorem sd_X11_well {G : pj_E} {A : Nat → Prop} {P : pj_P} {S : pj_U} {Z : pj_Z} (C : pj_C (G, A, (c_X11_well, y_X11_well.cls, 2, (some .int), 1), P, S, Z)) : ∀ q ∈ tb_X11_well, pj_S (G, A, (c_X11_well, y_X11_well.cls, 2, (some .int), 1), P, S, Z) pj_eI q.1 q.2 := sd_X11_well_0 C
set_option maxRecDepth 20000 in
theorem eq_X11_well (x1 : Int32) (m : pj_M) : pj_run tb_X11_well [] 7 0 [some (.inr (.inr (0, 11, 72))), some (.inl x1)] [] m = F_X11_well x1 m := by rfl
theorem ct_X11_well : pj_Ct pj_eI y_X11_well c_X11_well 2 (some .int) 1 W_X11_well := by
  refine pj_ct_of (by decide +kernel) ?_ ?_
  · intro as m r h
    unfold W_X11_well at h
    split at h
    · simp [pj_l0]
    · cases h
  · intro G A P S Z C as m r h hR
    unfold W_X11_well at h
    split at h
    · split at h
      · rename_i hbq
        simp only [Bool.and_eq_true, Nat.beq_eq] at hbq
        obtain ⟨rfl, rfl, rfl⟩ := hbq
        exact pj_run_ok (sd_X11_well C) (fun q h => by cases h) 7 0 _ _ _ _ ((eq_X11_well _ _).trans h) hR
      · cases h
    · cases h
/-! AlikeStepsModel.copies([II[II)V -/
abbrev c_X11_copies : ByteArray := prog_13_method_8_code
def y_X11_copies : MethodName := ⟨RX11, "copies", "([II[II)V"⟩
noncomputable def H_X11_copies_3 : Nat → Nat → Nat → Int32 → Nat → Nat → Int32 → Int32 → pj_M → Option (pj_M)
  | 0, _, _, _, _, _, _, _, _ => none
  | n1 + 1, n0, a0, x1, n2, a2, x3, x4, m => (if x4 < 72 then (if (x1 + x4) < 0 ∨ n0 ≤ (x1 + x4).toNatClampNeg then none else (if (x3 + x4) < 0 ∨ n2 ≤ (x3 + x4).toNatClampNeg then none else (H_X11_copies_3 n1 n0 a0 x1 n2 a2 x3 (x4 + 1) (pj_wr m a2 (x3 + x4).toNatClampNeg (m.1 a0 (x1 + x4).toNatClampNeg))))) else (some m))
noncomputable def F_X11_copies (n0 : Nat) (a0 : Nat) (x1 : Int32) (n2 : Nat) (a2 : Nat) (x3 : Int32) (m : pj_M) : Option (pj_M) := (H_X11_copies_3 pj_z n0 a0 x1 n2 a2 x3 0 m)
noncomputable def W_X11_copies : List pj_V → pj_M → Option (pj_M) := fun as m => match as with
  | [.inr (.inr (t0, n0, a0)), .inl x1, .inr (.inr (t2, n2, a2)), .inl x3] => (match Nat.beq t0 1 && (Nat.beq t2 1) with
    | true => F_X11_copies n0 a0 x1 n2 a2 x3 m
    | false => none)
  | _ => none
noncomputable def tb_X11_copies_0 : List (Nat × pj_T (pj_M)) := [(0, qs_ci 0 1), (1, qs_sti 4 3), (3, qs_ldi 4 5), (5, qs_ci 72 7), (7, qs_icge 28 10), (10, qs_lda 2 11), (11, qs_ldi 3 12), (12, qs_ldi 4 14), (14, qs_b2 (fun x y => x + y) 15), (15, qs_lda 0 16), (16, qs_ldi 1 17), (17, qs_ldi 4 19), (19, qs_b2 (fun x y => x + y) 20), (20, qs_iald 21), (21, qs_iast 22), (22, qs_inc 4 1 25), (25, qs_go 3), (28, qs_vret)]
noncomputable abbrev tb_X11_copies : List (Nat × pj_T (pj_M)) := tb_X11_copies_0
theorem mv_X11_copies : pj_ms y_X11_copies c_X11_copies 5 none 4 := ⟨⟨cw_1212, cw_1211, cw_92⟩, by decide +kernel, by decide⟩
set_option maxRecDepth 20000 in
theorem sd_X11_copies_0 {G : pj_E} {A : Nat → Prop} {P : pj_P} {S : pj_U} {Z : pj_Z} (C : pj_C (G, A, (c_X11_copies, y_X11_copies.cls, 5, none, 1), P, S, Z)) : ∀ q ∈ tb_X11_copies_0, pj_S (G, A, (c_X11_copies, y_X11_copies.cls, 5, none, 1), P, S, Z) pj_eV q.1 q.2 :=
  List.forall_mem_cons.mpr ⟨qz_iconst C (show decode c_X11_copies 0 = .ok (.iconst 0, 1) by decide +kernel) (by decide +kernel),
  List.forall_mem_cons.mpr ⟨qz_istore C (show decode c_X11_copies 1 = .ok (.istore 4, 2) by decide +kernel),
  List.forall_mem_cons.mpr ⟨qz_iload C (show decode c_X11_copies 3 = .ok (.iload 4, 2) by decide +kernel),
  List.forall_mem_cons.mpr ⟨qz_bipush C (show decode c_X11_copies 5 = .ok (.bipush 72, 2) by decide +kernel) (by decide +kernel),
  List.forall_mem_cons.mpr ⟨qz_icge C (show decode c_X11_copies 7 = .ok (.if_icmp .ge 21, 3) by decide +kernel) (by decide),
  List.forall_mem_cons.mpr ⟨qz_aload_n C (show decode c_X11_copies 10 = .ok (.aload_n 2, 1) by decide +kernel) rfl,
  List.forall_mem_cons.mpr ⟨qz_iload_n C (show decode c_X11_copies 11 = .ok (.iload_n 3, 1) by decide +kernel) rfl,
  List.forall_mem_cons.mpr ⟨qz_iload C (show decode c_X11_copies 12 = .ok (.iload 4, 2) by decide +kernel),
  List.forall_mem_cons.mpr ⟨qz_iadd C (show decode c_X11_copies 14 = .ok (.iadd, 1) by decide +kernel),
  List.forall_mem_cons.mpr ⟨qz_aload_n C (show decode c_X11_copies 15 = .ok (.aload_n 0, 1) by decide +kernel) rfl,
  List.forall_mem_cons.mpr ⟨qz_iload_n C (show decode c_X11_copies 16 = .ok (.iload_n 1, 1) by decide +kernel) rfl,
  List.forall_mem_cons.mpr ⟨qz_iload C (show decode c_X11_copies 17 = .ok (.iload 4, 2) by decide +kernel),
  List.forall_mem_cons.mpr ⟨qz_iadd C (show decode c_X11_copies 19 = .ok (.iadd, 1) by decide +kernel),
  List.forall_mem_cons.mpr ⟨qz_iald C (show decode c_X11_copies 20 = .ok (.iaload, 1) by decide +kernel),
  List.forall_mem_cons.mpr ⟨qz_iast C (show decode c_X11_copies 21 = .ok (.iastore, 1) by decide +kernel),
  List.forall_mem_cons.mpr ⟨qz_iinc C (show decode c_X11_copies 22 = .ok (.iinc 4 1, 3) by decide +kernel) (by decide +kernel),
  List.forall_mem_cons.mpr ⟨qz_goto C (show decode c_X11_copies 25 = .ok (.goto (-22), 3) by decide +kernel) (by decide),
  List.forall_mem_cons.mpr ⟨qz_vret C (show decode c_X11_copies 28 = .ok (.return_, 1) by decide +kernel) rfl,
  (fun q h => by cases h)⟩⟩⟩⟩⟩⟩⟩⟩⟩⟩⟩⟩⟩⟩⟩⟩⟩⟩
theorem sd_X11_copies {G : pj_E} {A : Nat → Prop} {P : pj_P} {S : pj_U} {Z : pj_Z} (C : pj_C (G, A, (c_X11_copies, y_X11_copies.cls, 5, none, 1), P, S, Z)) : ∀ q ∈ tb_X11_copies, pj_S (G, A, (c_X11_copies, y_X11_copies.cls, 5, none, 1), P, S, Z) pj_eV q.1 q.2 := sd_X11_copies_0 C
noncomputable def C_X11_copies_3 (f : Nat → Nat → Int32 → Nat → Nat → Int32 → Int32 → pj_M → Option (pj_M)) : pj_N (pj_M) := fun L st m => match L, st with
  | [some (.inr (.inr (t0, n0, a0))), some (.inl x1), some (.inr (.inr (t2, n2, a2))), some (.inl x3), some (.inl x4)], [] => (match Nat.beq t0 1 && (Nat.beq t2 1) with
    | true => f n0 a0 x1 n2 a2 x3 x4 m
    | false => none)
  | _, _ => none
set_option maxRecDepth 20000 in
theorem eq_X11_copies_3 (n1 : Nat) (n0 : Nat) (a0 : Nat) (x1 : Int32) (n2 : Nat) (a2 : Nat) (x3 : Int32) (x4 : Int32) (m : pj_M) : pj_run tb_X11_copies [(3, C_X11_copies_3 (H_X11_copies_3 n1))] 20 3 [some (.inr (.inr (1, n0, a0))), some (.inl x1), some (.inr (.inr (1, n2, a2))), some (.inl x3), some (.inl x4)] [] m = H_X11_copies_3 (n1 + 1) n0 a0 x1 n2 a2 x3 x4 m := by rfl
theorem sg_X11_copies_3 {G : pj_E} {A : Nat → Prop} {P : pj_P} {S : pj_U} {Z : pj_Z} (C : pj_C (G, A, (c_X11_copies, y_X11_copies.cls, 5, none, 1), P, S, Z)) : ∀ n1, pj_G (G, A, (c_X11_copies, y_X11_copies.cls, 5, none, 1), P, S, Z) pj_eV 3 (C_X11_copies_3 (H_X11_copies_3 n1)) := by
  intro n1
  induction n1 with
  | zero =>
    intro L st m r h hR
    unfold C_X11_copies_3 at h
    split at h
    · split at h
      · cases h
      · cases h
    · cases h
  | succ n1 ih1 =>
    intro L st m r h hR
    unfold C_X11_copies_3 at h
    split at h
    · split at h
      · rename_i hbq
        simp only [Bool.and_eq_true, Nat.beq_eq] at hbq
        obtain ⟨rfl, rfl⟩ := hbq
        exact pj_run_ok (sd_X11_copies C) (List.forall_mem_cons.mpr ⟨ih1, fun q h => by cases h⟩) 20 3 _ _ _ _ ((eq_X11_copies_3 _ _ _ _ _ _ _ _ _).trans h) hR
      · cases h
    · cases h
set_option maxRecDepth 20000 in
theorem eq_X11_copies (n0 : Nat) (a0 : Nat) (x1 : Int32) (n2 : Nat) (a2 : Nat) (x3 : Int32) (m : pj_M) : pj_run tb_X11_copies [(3, C_X11_copies_3 (H_X11_copies_3  pj_z))] 20 0 [some (.inr (.inr (1, n0, a0))), some (.inl x1), some (.inr (.inr (1, n2, a2))), some (.inl x3), none] [] m = F_X11_copies n0 a0 x1 n2 a2 x3 m := by rfl
theorem ct_X11_copies : pj_Ct pj_eV y_X11_copies c_X11_copies 5 none 1 W_X11_copies := by
  refine pj_ct_of (by decide +kernel) ?_ ?_
  · intro as m r h
    unfold W_X11_copies at h
    split at h
    · simp [pj_l0]
    · cases h
  · intro G A P S Z C as m r h hR
    unfold W_X11_copies at h
    split at h
    · split at h
      · rename_i hbq
        simp only [Bool.and_eq_true, Nat.beq_eq] at hbq
        obtain ⟨rfl, rfl⟩ := hbq
        exact pj_run_ok (sd_X11_copies C) (List.forall_mem_cons.mpr ⟨sg_X11_copies_3 C  pj_z, fun q h => by cases h⟩) 20 0 _ _ _ _ ((eq_X11_copies _ _ _ _ _ _ _).trans h) hR
      · cases h
    · cases h
/-! AlikeStepsModel.isRow(I)Z -/
abbrev c_X11_isRow : ByteArray := prog_13_method_9_code
def y_X11_isRow : MethodName := ⟨RX11, "isRow", "(I)Z"⟩
noncomputable def F_X11_isRow (x0 : Int32) (m : pj_M) : Option (Int32 × pj_M) := ((F_X11_in x0 0 7 m).bind fun q1 => (if q1.1 = 0 then (some (0, q1.2)) else (if q1.1 = 1 then (some (1, q1.2)) else none)))
noncomputable def W_X11_isRow : List pj_V → pj_M → Option (Int32 × pj_M) := fun as m => match as with
  | [.inl x0] => F_X11_isRow x0 m
  | _ => none
noncomputable def tb_X11_isRow_0 : List (Nat × pj_T (Int32 × pj_M)) := [(0, qs_ldi 0 1), (1, qs_ci 0 2), (2, qs_ci 7 4), (4, qs_sI 3 W_X11_in 7), (7, qs_zret)]
noncomputable abbrev tb_X11_isRow : List (Nat × pj_T (Int32 × pj_M)) := tb_X11_isRow_0
theorem mv_X11_isRow : pj_ms y_X11_isRow c_X11_isRow 1 (some .boolean) 1 := ⟨⟨cw_1125, cw_1124, cw_92⟩, by decide +kernel, by decide⟩
set_option maxRecDepth 20000 in
theorem sd_X11_isRow_0 {G : pj_E} {A : Nat → Prop} {P : pj_P} {S : pj_U} {Z : pj_Z} (C : pj_C (G, A, (c_X11_isRow, y_X11_isRow.cls, 1, (some .boolean), 2), P, S, Z)) : ∀ q ∈ tb_X11_isRow_0, pj_S (G, A, (c_X11_isRow, y_X11_isRow.cls, 1, (some .boolean), 2), P, S, Z) pj_eI q.1 q.2 :=
  List.forall_mem_cons.mpr ⟨qz_iload_n C (show decode c_X11_isRow 0 = .ok (.iload_n 0, 1) by decide +kernel) rfl,
  List.forall_mem_cons.mpr ⟨qz_iconst C (show decode c_X11_isRow 1 = .ok (.iconst 0, 1) by decide +kernel) (by decide +kernel),
  List.forall_mem_cons.mpr ⟨qz_bipush C (show decode c_X11_isRow 2 = .ok (.bipush 7, 2) by decide +kernel) (by decide +kernel),
  List.forall_mem_cons.mpr ⟨qz_sI C (show decode c_X11_isRow 4 = .ok (.invokestatic 84, 3) by decide +kernel) ct_X11_in mv_X11_in (Or.inl cw_1126) (show 1 < 2 by omega),
  List.forall_mem_cons.mpr ⟨qz_zret C (show decode c_X11_isRow 7 = .ok (.ireturn, 1) by decide +kernel) rfl,
  (fun q h => by cases h)⟩⟩⟩⟩⟩
theorem sd_X11_isRow {G : pj_E} {A : Nat → Prop} {P : pj_P} {S : pj_U} {Z : pj_Z} (C : pj_C (G, A, (c_X11_isRow, y_X11_isRow.cls, 1, (some .boolean), 2), P, S, Z)) : ∀ q ∈ tb_X11_isRow, pj_S (G, A, (c_X11_isRow, y_X11_isRow.cls, 1, (some .boolean), 2), P, S, Z) pj_eI q.1 q.2 := sd_X11_isRow_0 C
set_option maxRecDepth 20000 in
theorem eq_X11_isRow (x0 : Int32) (m : pj_M) : pj_run tb_X11_isRow [] 7 0 [some (.inl x0)] [] m = F_X11_isRow x0 m := by rfl
theorem ct_X11_isRow : pj_Ct pj_eI y_X11_isRow c_X11_isRow 1 (some .boolean) 2 W_X11_isRow := by
  refine pj_ct_of (by decide +kernel) ?_ ?_
  · intro as m r h
    unfold W_X11_isRow at h
    split at h
    · simp [pj_l0]
    · cases h
  · intro G A P S Z C as m r h hR
    unfold W_X11_isRow at h
    split at h
    · exact pj_run_ok (sd_X11_isRow C) (fun q h => by cases h) 7 0 _ _ _ _ ((eq_X11_isRow _ _).trans h) hR
    · cases h
/-! AlikeStepsModel.isMissing(I)Z -/
abbrev c_X11_isMissing : ByteArray := prog_13_method_10_code
def y_X11_isMissing : MethodName := ⟨RX11, "isMissing", "(I)Z"⟩
noncomputable def F_X11_isMissing (x1 : Int32) (m : pj_M) : Option (Int32 × pj_M) := (if x1 < 0 ∨ 8 ≤ x1.toNatClampNeg then none else (if (m.1 73 x1.toNatClampNeg) = (-1000000) then (some (1, m)) else (some (0, m))))
noncomputable def W_X11_isMissing : List pj_V → pj_M → Option (Int32 × pj_M) := fun as m => match as with
  | [.inr (.inr (t0, w0, a0)), .inl x1] => (match Nat.beq t0 0 && (Nat.beq w0 11 && (Nat.beq a0 72)) with
    | true => F_X11_isMissing x1 m
    | false => none)
  | _ => none
noncomputable def tb_X11_isMissing_0 : List (Nat × pj_T (Int32 × pj_M)) := [(0, qs_lda 0 1), (1, qs_gf 11 0 4), (4, qs_ldi 1 5), (5, qs_iald 6), (6, qs_ci (-1000000) 8), (8, qs_icne 15 11), (11, qs_ci 1 12), (12, qs_go 16), (15, qs_ci 0 16), (16, qs_zret)]
noncomputable abbrev tb_X11_isMissing : List (Nat × pj_T (Int32 × pj_M)) := tb_X11_isMissing_0
theorem mv_X11_isMissing : pj_mv y_X11_isMissing c_X11_isMissing 2 (some .boolean) 1 := ⟨⟨cw_1146, cw_1145, cw_34, cw_92⟩, by decide +kernel, by decide⟩
set_option maxRecDepth 20000 in
theorem sd_X11_isMissing_0 {G : pj_E} {A : Nat → Prop} {P : pj_P} {S : pj_U} {Z : pj_Z} (C : pj_C (G, A, (c_X11_isMissing, y_X11_isMissing.cls, 2, (some .boolean), 1), P, S, Z)) : ∀ q ∈ tb_X11_isMissing_0, pj_S (G, A, (c_X11_isMissing, y_X11_isMissing.cls, 2, (some .boolean), 1), P, S, Z) pj_eI q.1 q.2 :=
  List.forall_mem_cons.mpr ⟨qz_aload_n C (show decode c_X11_isMissing 0 = .ok (.aload_n 0, 1) by decide +kernel) rfl,
  List.forall_mem_cons.mpr ⟨qz_gf (k := 0) C (show decode c_X11_isMissing 1 = .ok (.getfield 7, 3) by decide +kernel) vcX11 wiX11 (by decide) cw_1018,
  List.forall_mem_cons.mpr ⟨qz_iload_n C (show decode c_X11_isMissing 4 = .ok (.iload_n 1, 1) by decide +kernel) rfl,
  List.forall_mem_cons.mpr ⟨qz_iald C (show decode c_X11_isMissing 5 = .ok (.iaload, 1) by decide +kernel),
  List.forall_mem_cons.mpr ⟨qz_ldc C (show decode c_X11_isMissing 6 = .ok (.ldc 78, 2) by decide +kernel) cw_1017,
  List.forall_mem_cons.mpr ⟨qz_icne C (show decode c_X11_isMissing 8 = .ok (.if_icmp .ne 7, 3) by decide +kernel) (by decide),
  List.forall_mem_cons.mpr ⟨qz_iconst C (show decode c_X11_isMissing 11 = .ok (.iconst 1, 1) by decide +kernel) (by decide +kernel),
  List.forall_mem_cons.mpr ⟨qz_goto C (show decode c_X11_isMissing 12 = .ok (.goto 4, 3) by decide +kernel) (by decide),
  List.forall_mem_cons.mpr ⟨qz_iconst C (show decode c_X11_isMissing 15 = .ok (.iconst 0, 1) by decide +kernel) (by decide +kernel),
  List.forall_mem_cons.mpr ⟨qz_zret C (show decode c_X11_isMissing 16 = .ok (.ireturn, 1) by decide +kernel) rfl,
  (fun q h => by cases h)⟩⟩⟩⟩⟩⟩⟩⟩⟩⟩
theorem sd_X11_isMissing {G : pj_E} {A : Nat → Prop} {P : pj_P} {S : pj_U} {Z : pj_Z} (C : pj_C (G, A, (c_X11_isMissing, y_X11_isMissing.cls, 2, (some .boolean), 1), P, S, Z)) : ∀ q ∈ tb_X11_isMissing, pj_S (G, A, (c_X11_isMissing, y_X11_isMissing.cls, 2, (some .boolean), 1), P, S, Z) pj_eI q.1 q.2 := sd_X11_isMissing_0 C
set_option maxRecDepth 20000 in
theorem eq_X11_isMissing (x1 : Int32) (m : pj_M) : pj_run tb_X11_isMissing [] 12 0 [some (.inr (.inr (0, 11, 72))), some (.inl x1)] [] m = F_X11_isMissing x1 m := by rfl
theorem ct_X11_isMissing : pj_Ct pj_eI y_X11_isMissing c_X11_isMissing 2 (some .boolean) 1 W_X11_isMissing := by
  refine pj_ct_of (by decide +kernel) ?_ ?_
  · intro as m r h
    unfold W_X11_isMissing at h
    split at h
    · simp [pj_l0]
    · cases h
  · intro G A P S Z C as m r h hR
    unfold W_X11_isMissing at h
    split at h
    · split at h
      · rename_i hbq
        simp only [Bool.and_eq_true, Nat.beq_eq] at hbq
        obtain ⟨rfl, rfl, rfl⟩ := hbq
        exact pj_run_ok (sd_X11_isMissing C) (fun q h => by cases h) 12 0 _ _ _ _ ((eq_X11_isMissing _ _).trans h) hR
      · cases h
    · cases h
/-! AlikeStepsModel.lowest(II)I -/
abbrev c_X11_lowest : ByteArray := prog_13_method_11_code
def y_X11_lowest : MethodName := ⟨RX11, "lowest", "(II)I"⟩
noncomputable def F_X11_lowest (x0 : Int32) (x1 : Int32) (m : pj_M) : Option (Int32 × pj_M) := (if x0 = 0 then (some ((x1 <<< (24 &&& 31)) >>> (24 &&& 31), m)) else (if x0 = 1 then (some ((x1 <<< (16 &&& 31)) >>> (16 &&& 31), m)) else (some (x1, m))))
noncomputable def W_X11_lowest : List pj_V → pj_M → Option (Int32 × pj_M) := fun as m => match as with
  | [.inl x0, .inl x1] => F_X11_lowest x0 x1 m
  | _ => none
noncomputable def tb_X11_lowest_0 : List (Nat × pj_T (Int32 × pj_M)) := [(0, qs_ldi 0 1), (1, qs_ifne 14 4), (4, qs_ldi 1 5), (5, qs_ci 24 7), (7, qs_b2 (fun x y => x <<< (y &&& 31)) 8), (8, qs_ci 24 10), (10, qs_b2 (fun x y => x >>> (y &&& 31)) 11), (11, qs_go 30), (14, qs_ldi 0 15), (15, qs_ci 1 16), (16, qs_icne 29 19), (19, qs_ldi 1 20), (20, qs_ci 16 22), (22, qs_b2 (fun x y => x <<< (y &&& 31)) 23), (23, qs_ci 16 25), (25, qs_b2 (fun x y => x >>> (y &&& 31)) 26), (26, qs_go 30), (29, qs_ldi 1 30), (30, qs_iret)]
noncomputable abbrev tb_X11_lowest : List (Nat × pj_T (Int32 × pj_M)) := tb_X11_lowest_0
theorem mv_X11_lowest : pj_ms y_X11_lowest c_X11_lowest 2 (some .int) 2 := ⟨⟨cw_1149, cw_1148, cw_92⟩, by decide +kernel, by decide⟩
set_option maxRecDepth 20000 in
theorem sd_X11_lowest_0 {G : pj_E} {A : Nat → Prop} {P : pj_P} {S : pj_U} {Z : pj_Z} (C : pj_C (G, A, (c_X11_lowest, y_X11_lowest.cls, 2, (some .int), 1), P, S, Z)) : ∀ q ∈ tb_X11_lowest_0, pj_S (G, A, (c_X11_lowest, y_X11_lowest.cls, 2, (some .int), 1), P, S, Z) pj_eI q.1 q.2 :=
  List.forall_mem_cons.mpr ⟨qz_iload_n C (show decode c_X11_lowest 0 = .ok (.iload_n 0, 1) by decide +kernel) rfl,
  List.forall_mem_cons.mpr ⟨qz_ifne C (show decode c_X11_lowest 1 = .ok (.ifCond .ne 13, 3) by decide +kernel) (by decide),
  List.forall_mem_cons.mpr ⟨qz_iload_n C (show decode c_X11_lowest 4 = .ok (.iload_n 1, 1) by decide +kernel) rfl,
  List.forall_mem_cons.mpr ⟨qz_bipush C (show decode c_X11_lowest 5 = .ok (.bipush 24, 2) by decide +kernel) (by decide +kernel),
  List.forall_mem_cons.mpr ⟨qz_ishl C (show decode c_X11_lowest 7 = .ok (.ishl, 1) by decide +kernel),
  List.forall_mem_cons.mpr ⟨qz_bipush C (show decode c_X11_lowest 8 = .ok (.bipush 24, 2) by decide +kernel) (by decide +kernel),
  List.forall_mem_cons.mpr ⟨qz_ishr C (show decode c_X11_lowest 10 = .ok (.ishr, 1) by decide +kernel),
  List.forall_mem_cons.mpr ⟨qz_goto C (show decode c_X11_lowest 11 = .ok (.goto 19, 3) by decide +kernel) (by decide),
  List.forall_mem_cons.mpr ⟨qz_iload_n C (show decode c_X11_lowest 14 = .ok (.iload_n 0, 1) by decide +kernel) rfl,
  List.forall_mem_cons.mpr ⟨qz_iconst C (show decode c_X11_lowest 15 = .ok (.iconst 1, 1) by decide +kernel) (by decide +kernel),
  List.forall_mem_cons.mpr ⟨qz_icne C (show decode c_X11_lowest 16 = .ok (.if_icmp .ne 13, 3) by decide +kernel) (by decide),
  List.forall_mem_cons.mpr ⟨qz_iload_n C (show decode c_X11_lowest 19 = .ok (.iload_n 1, 1) by decide +kernel) rfl,
  List.forall_mem_cons.mpr ⟨qz_bipush C (show decode c_X11_lowest 20 = .ok (.bipush 16, 2) by decide +kernel) (by decide +kernel),
  List.forall_mem_cons.mpr ⟨qz_ishl C (show decode c_X11_lowest 22 = .ok (.ishl, 1) by decide +kernel),
  List.forall_mem_cons.mpr ⟨qz_bipush C (show decode c_X11_lowest 23 = .ok (.bipush 16, 2) by decide +kernel) (by decide +kernel),
  List.forall_mem_cons.mpr ⟨qz_ishr C (show decode c_X11_lowest 25 = .ok (.ishr, 1) by decide +kernel),
  List.forall_mem_cons.mpr ⟨qz_goto C (show decode c_X11_lowest 26 = .ok (.goto 4, 3) by decide +kernel) (by decide),
  List.forall_mem_cons.mpr ⟨qz_iload_n C (show decode c_X11_lowest 29 = .ok (.iload_n 1, 1) by decide +kernel) rfl,
  List.forall_mem_cons.mpr ⟨qz_iret C (show decode c_X11_lowest 30 = .ok (.ireturn, 1) by decide +kernel) rfl,
  (fun q h => by cases h)⟩⟩⟩⟩⟩⟩⟩⟩⟩⟩⟩⟩⟩⟩⟩⟩⟩⟩⟩
theorem sd_X11_lowest {G : pj_E} {A : Nat → Prop} {P : pj_P} {S : pj_U} {Z : pj_Z} (C : pj_C (G, A, (c_X11_lowest, y_X11_lowest.cls, 2, (some .int), 1), P, S, Z)) : ∀ q ∈ tb_X11_lowest, pj_S (G, A, (c_X11_lowest, y_X11_lowest.cls, 2, (some .int), 1), P, S, Z) pj_eI q.1 q.2 := sd_X11_lowest_0 C
set_option maxRecDepth 20000 in
theorem eq_X11_lowest (x0 : Int32) (x1 : Int32) (m : pj_M) : pj_run tb_X11_lowest [] 21 0 [some (.inl x0), some (.inl x1)] [] m = F_X11_lowest x0 x1 m := by rfl
theorem ct_X11_lowest : pj_Ct pj_eI y_X11_lowest c_X11_lowest 2 (some .int) 1 W_X11_lowest := by
  refine pj_ct_of (by decide +kernel) ?_ ?_
  · intro as m r h
    unfold W_X11_lowest at h
    split at h
    · simp [pj_l0]
    · cases h
  · intro G A P S Z C as m r h hR
    unfold W_X11_lowest at h
    split at h
    · exact pj_run_ok (sd_X11_lowest C) (fun q h => by cases h) 21 0 _ _ _ _ ((eq_X11_lowest _ _ _).trans h) hR
    · cases h
/-! AlikeStepsModel.row(III)I -/
abbrev c_X11_row : ByteArray := prog_13_method_12_code
def y_X11_row : MethodName := ⟨RX11, "row", "(III)I"⟩
noncomputable def H_X11_row_52 : Nat → Int32 → Int32 → Int32 → pj_M → Option (Int32 × pj_M)
  | 0, _, _, _, _ => none
  | n1 + 1, x1, x3, x4, m => (if x4 < 40 then (if ((40 * x1) + x4) < 0 ∨ 320 ≤ ((40 * x1) + x4).toNatClampNeg then none else (H_X11_row_52 n1 x1 x3 (x4 + 1) (pj_wr m 75 ((40 * x1) + x4).toNatClampNeg 0))) else ((F_X11_well x3 m).bind fun q1 => (some (q1.1, q1.2))))
noncomputable def F_X11_row (x1 : Int32) (x2 : Int32) (x3 : Int32) (m : pj_M) : Option (Int32 × pj_M) := ((F_X11_isRow x1 m).bind fun q1 => (if q1.1 = 0 then (some ((-1000001), q1.2)) else ((F_X11_in x2 0 2 q1.2).bind fun q2 => (if q2.1 = 0 then (some ((-1000001), q2.2)) else (if (40 : Int32) < x3 then (some ((-1000001), q2.2)) else (if x3 < 0 then ((F_X11_found 4 q2.2).bind fun q3 => (some (q3.1, q3.2))) else (if x1 < 0 ∨ 8 ≤ x1.toNatClampNeg then none else (if x1 < 0 ∨ 8 ≤ x1.toNatClampNeg then none else (H_X11_row_52 pj_z x1 x3 0 (pj_wr (pj_wr q2.2 73 x1.toNatClampNeg x2) 74 x1.toNatClampNeg x3))))))))))
noncomputable def W_X11_row : List pj_V → pj_M → Option (Int32 × pj_M) := fun as m => match as with
  | [.inr (.inr (t0, w0, a0)), .inl x1, .inl x2, .inl x3] => (match Nat.beq t0 0 && (Nat.beq w0 11 && (Nat.beq a0 72)) with
    | true => F_X11_row x1 x2 x3 m
    | false => none)
  | _ => none
noncomputable def tb_X11_row_0 : List (Nat × pj_T (Int32 × pj_M)) := [(0, qs_ldi 1 1), (1, qs_sI 1 W_X11_isRow 4), (4, qs_ifeq 22 7), (7, qs_ldi 2 8), (8, qs_ci 0 9), (9, qs_ci 2 10), (10, qs_sI 3 W_X11_in 13), (13, qs_ifeq 22 16), (16, qs_ldi 3 17), (17, qs_ci 40 19), (19, qs_icle 25 22), (22, qs_ci (-1000001) 24), (24, qs_iret), (25, qs_ldi 3 26), (26, qs_ifge 35 29), (29, qs_lda 0 30), (30, qs_ci 4 31), (31, qs_vI 11 2 W_X11_found 34), (34, qs_iret), (35, qs_lda 0 36), (36, qs_gf 11 0 39), (39, qs_ldi 1 40), (40, qs_ldi 2 41), (41, qs_iast 42), (42, qs_lda 0 43), (43, qs_gf 11 1 46), (46, qs_ldi 1 47), (47, qs_ldi 3 48), (48, qs_iast 49), (49, qs_ci 0 50), (50, qs_sti 4 52), (52, qs_ldi 4 54), (54, qs_ci 40 56), (56, qs_icge 78 59), (59, qs_lda 0 60), (60, qs_gf 11 2 63), (63, qs_ci 40 65), (65, qs_ldi 1 66), (66, qs_b2 (fun x y => x * y) 67), (67, qs_ldi 4 69)]
noncomputable def tb_X11_row_1 : List (Nat × pj_T (Int32 × pj_M)) := [(69, qs_b2 (fun x y => x + y) 70), (70, qs_ci 0 71), (71, qs_iast 72), (72, qs_inc 4 1 75), (75, qs_go 52), (78, qs_lda 0 79), (79, qs_ldi 3 80), (80, qs_vI 11 2 W_X11_well 83), (83, qs_iret)]
noncomputable def tb_X11_row : List (Nat × pj_T (Int32 × pj_M)) := tb_X11_row_0 ++ (tb_X11_row_1)
theorem mv_X11_row : pj_mv y_X11_row c_X11_row 5 (some .int) 3 := ⟨⟨cw_1122, cw_1120, cw_1121, cw_92⟩, by decide +kernel, by decide⟩
set_option maxRecDepth 20000 in
theorem sd_X11_row_0 {G : pj_E} {A : Nat → Prop} {P : pj_P} {S : pj_U} {Z : pj_Z} (C : pj_C (G, A, (c_X11_row, y_X11_row.cls, 5, (some .int), 3), P, S, Z)) : ∀ q ∈ tb_X11_row_0, pj_S (G, A, (c_X11_row, y_X11_row.cls, 5, (some .int), 3), P, S, Z) pj_eI q.1 q.2 :=
  List.forall_mem_cons.mpr ⟨qz_iload_n C (show decode c_X11_row 0 = .ok (.iload_n 1, 1) by decide +kernel) rfl,
  List.forall_mem_cons.mpr ⟨qz_sI C (show decode c_X11_row 1 = .ok (.invokestatic 88, 3) by decide +kernel) ct_X11_isRow mv_X11_isRow (Or.inl cw_1123) (show 2 < 3 by omega),
  List.forall_mem_cons.mpr ⟨qz_ifeq C (show decode c_X11_row 4 = .ok (.ifCond .eq 18, 3) by decide +kernel) (by decide),
  List.forall_mem_cons.mpr ⟨qz_iload_n C (show decode c_X11_row 7 = .ok (.iload_n 2, 1) by decide +kernel) rfl,
  List.forall_mem_cons.mpr ⟨qz_iconst C (show decode c_X11_row 8 = .ok (.iconst 0, 1) by decide +kernel) (by decide +kernel),
  List.forall_mem_cons.mpr ⟨qz_iconst C (show decode c_X11_row 9 = .ok (.iconst 2, 1) by decide +kernel) (by decide +kernel),
  List.forall_mem_cons.mpr ⟨qz_sI C (show decode c_X11_row 10 = .ok (.invokestatic 84, 3) by decide +kernel) ct_X11_in mv_X11_in (Or.inl cw_1126) (show 1 < 3 by omega),
  List.forall_mem_cons.mpr ⟨qz_ifeq C (show decode c_X11_row 13 = .ok (.ifCond .eq 9, 3) by decide +kernel) (by decide),
  List.forall_mem_cons.mpr ⟨qz_iload_n C (show decode c_X11_row 16 = .ok (.iload_n 3, 1) by decide +kernel) rfl,
  List.forall_mem_cons.mpr ⟨qz_bipush C (show decode c_X11_row 17 = .ok (.bipush 40, 2) by decide +kernel) (by decide +kernel),
  List.forall_mem_cons.mpr ⟨qz_icle C (show decode c_X11_row 19 = .ok (.if_icmp .le 6, 3) by decide +kernel) (by decide),
  List.forall_mem_cons.mpr ⟨qz_ldc C (show decode c_X11_row 22 = .ok (.ldc 92, 2) by decide +kernel) cw_1129,
  List.forall_mem_cons.mpr ⟨qz_iret C (show decode c_X11_row 24 = .ok (.ireturn, 1) by decide +kernel) rfl,
  List.forall_mem_cons.mpr ⟨qz_iload_n C (show decode c_X11_row 25 = .ok (.iload_n 3, 1) by decide +kernel) rfl,
  List.forall_mem_cons.mpr ⟨qz_ifge C (show decode c_X11_row 26 = .ok (.ifCond .ge 9, 3) by decide +kernel) (by decide),
  List.forall_mem_cons.mpr ⟨qz_aload_n C (show decode c_X11_row 29 = .ok (.aload_n 0, 1) by decide +kernel) rfl,
  List.forall_mem_cons.mpr ⟨qz_iconst C (show decode c_X11_row 30 = .ok (.iconst 4, 1) by decide +kernel) (by decide +kernel),
  List.forall_mem_cons.mpr ⟨qz_vI C (show decode c_X11_row 31 = .ok (.invokevirtual 93, 3) by decide +kernel) ct_X11_found mv_X11_found cw_1130 vcX11 (show 1 < 3 by omega),
  List.forall_mem_cons.mpr ⟨qz_iret C (show decode c_X11_row 34 = .ok (.ireturn, 1) by decide +kernel) rfl,
  List.forall_mem_cons.mpr ⟨qz_aload_n C (show decode c_X11_row 35 = .ok (.aload_n 0, 1) by decide +kernel) rfl,
  List.forall_mem_cons.mpr ⟨qz_gf (k := 0) C (show decode c_X11_row 36 = .ok (.getfield 7, 3) by decide +kernel) vcX11 wiX11 (by decide) cw_1018,
  List.forall_mem_cons.mpr ⟨qz_iload_n C (show decode c_X11_row 39 = .ok (.iload_n 1, 1) by decide +kernel) rfl,
  List.forall_mem_cons.mpr ⟨qz_iload_n C (show decode c_X11_row 40 = .ok (.iload_n 2, 1) by decide +kernel) rfl,
  List.forall_mem_cons.mpr ⟨qz_iast C (show decode c_X11_row 41 = .ok (.iastore, 1) by decide +kernel),
  List.forall_mem_cons.mpr ⟨qz_aload_n C (show decode c_X11_row 42 = .ok (.aload_n 0, 1) by decide +kernel) rfl,
  List.forall_mem_cons.mpr ⟨qz_gf (k := 1) C (show decode c_X11_row 43 = .ok (.getfield 13, 3) by decide +kernel) vcX11 wiX11 (by decide) cw_1019,
  List.forall_mem_cons.mpr ⟨qz_iload_n C (show decode c_X11_row 46 = .ok (.iload_n 1, 1) by decide +kernel) rfl,
  List.forall_mem_cons.mpr ⟨qz_iload_n C (show decode c_X11_row 47 = .ok (.iload_n 3, 1) by decide +kernel) rfl,
  List.forall_mem_cons.mpr ⟨qz_iast C (show decode c_X11_row 48 = .ok (.iastore, 1) by decide +kernel),
  List.forall_mem_cons.mpr ⟨qz_iconst C (show decode c_X11_row 49 = .ok (.iconst 0, 1) by decide +kernel) (by decide +kernel),
  List.forall_mem_cons.mpr ⟨qz_istore C (show decode c_X11_row 50 = .ok (.istore 4, 2) by decide +kernel),
  List.forall_mem_cons.mpr ⟨qz_iload C (show decode c_X11_row 52 = .ok (.iload 4, 2) by decide +kernel),
  List.forall_mem_cons.mpr ⟨qz_bipush C (show decode c_X11_row 54 = .ok (.bipush 40, 2) by decide +kernel) (by decide +kernel),
  List.forall_mem_cons.mpr ⟨qz_icge C (show decode c_X11_row 56 = .ok (.if_icmp .ge 22, 3) by decide +kernel) (by decide),
  List.forall_mem_cons.mpr ⟨qz_aload_n C (show decode c_X11_row 59 = .ok (.aload_n 0, 1) by decide +kernel) rfl,
  List.forall_mem_cons.mpr ⟨qz_gf (k := 2) C (show decode c_X11_row 60 = .ok (.getfield 16, 3) by decide +kernel) vcX11 wiX11 (by decide) cw_1020,
  List.forall_mem_cons.mpr ⟨qz_bipush C (show decode c_X11_row 63 = .ok (.bipush 40, 2) by decide +kernel) (by decide +kernel),
  List.forall_mem_cons.mpr ⟨qz_iload_n C (show decode c_X11_row 65 = .ok (.iload_n 1, 1) by decide +kernel) rfl,
  List.forall_mem_cons.mpr ⟨qz_imul C (show decode c_X11_row 66 = .ok (.imul, 1) by decide +kernel),
  List.forall_mem_cons.mpr ⟨qz_iload C (show decode c_X11_row 67 = .ok (.iload 4, 2) by decide +kernel),
  (fun q h => by cases h)⟩⟩⟩⟩⟩⟩⟩⟩⟩⟩⟩⟩⟩⟩⟩⟩⟩⟩⟩⟩⟩⟩⟩⟩⟩⟩⟩⟩⟩⟩⟩⟩⟩⟩⟩⟩⟩⟩⟩⟩
set_option maxRecDepth 20000 in
theorem sd_X11_row_1 {G : pj_E} {A : Nat → Prop} {P : pj_P} {S : pj_U} {Z : pj_Z} (C : pj_C (G, A, (c_X11_row, y_X11_row.cls, 5, (some .int), 3), P, S, Z)) : ∀ q ∈ tb_X11_row_1, pj_S (G, A, (c_X11_row, y_X11_row.cls, 5, (some .int), 3), P, S, Z) pj_eI q.1 q.2 :=
  List.forall_mem_cons.mpr ⟨qz_iadd C (show decode c_X11_row 69 = .ok (.iadd, 1) by decide +kernel),
  List.forall_mem_cons.mpr ⟨qz_iconst C (show decode c_X11_row 70 = .ok (.iconst 0, 1) by decide +kernel) (by decide +kernel),
  List.forall_mem_cons.mpr ⟨qz_iast C (show decode c_X11_row 71 = .ok (.iastore, 1) by decide +kernel),
  List.forall_mem_cons.mpr ⟨qz_iinc C (show decode c_X11_row 72 = .ok (.iinc 4 1, 3) by decide +kernel) (by decide +kernel),
  List.forall_mem_cons.mpr ⟨qz_goto C (show decode c_X11_row 75 = .ok (.goto (-23), 3) by decide +kernel) (by decide),
  List.forall_mem_cons.mpr ⟨qz_aload_n C (show decode c_X11_row 78 = .ok (.aload_n 0, 1) by decide +kernel) rfl,
  List.forall_mem_cons.mpr ⟨qz_iload_n C (show decode c_X11_row 79 = .ok (.iload_n 3, 1) by decide +kernel) rfl,
  List.forall_mem_cons.mpr ⟨qz_vI C (show decode c_X11_row 80 = .ok (.invokevirtual 97, 3) by decide +kernel) ct_X11_well mv_X11_well cw_1135 vcX11 (show 1 < 3 by omega),
  List.forall_mem_cons.mpr ⟨qz_iret C (show decode c_X11_row 83 = .ok (.ireturn, 1) by decide +kernel) rfl,
  (fun q h => by cases h)⟩⟩⟩⟩⟩⟩⟩⟩⟩
theorem sd_X11_row {G : pj_E} {A : Nat → Prop} {P : pj_P} {S : pj_U} {Z : pj_Z} (C : pj_C (G, A, (c_X11_row, y_X11_row.cls, 5, (some .int), 3), P, S, Z)) : ∀ q ∈ tb_X11_row, pj_S (G, A, (c_X11_row, y_X11_row.cls, 5, (some .int), 3), P, S, Z) pj_eI q.1 q.2 := List.forall_mem_append.mpr ⟨sd_X11_row_0 C, sd_X11_row_1 C⟩
noncomputable def C_X11_row_52 (f : Int32 → Int32 → Int32 → pj_M → Option (Int32 × pj_M)) : pj_N (Int32 × pj_M) := fun L st m => match L, st with
  | [some (.inr (.inr (t0, w0, a0))), some (.inl x1), _, some (.inl x3), some (.inl x4)], [] => (match Nat.beq t0 0 && (Nat.beq w0 11 && (Nat.beq a0 72)) with
    | true => f x1 x3 x4 m
    | false => none)
  | _, _ => none
set_option maxRecDepth 20000 in
theorem eq_X11_row_52 (n1 : Nat) (x1 : Int32) (x3 : Int32) (x4 : Int32) (d2 : Option pj_V) (m : pj_M) : pj_run tb_X11_row [(52, C_X11_row_52 (H_X11_row_52 n1))] 51 52 [some (.inr (.inr (0, 11, 72))), some (.inl x1), d2, some (.inl x3), some (.inl x4)] [] m = H_X11_row_52 (n1 + 1) x1 x3 x4 m := by rfl
theorem sg_X11_row_52 {G : pj_E} {A : Nat → Prop} {P : pj_P} {S : pj_U} {Z : pj_Z} (C : pj_C (G, A, (c_X11_row, y_X11_row.cls, 5, (some .int), 3), P, S, Z)) : ∀ n1, pj_G (G, A, (c_X11_row, y_X11_row.cls, 5, (some .int), 3), P, S, Z) pj_eI 52 (C_X11_row_52 (H_X11_row_52 n1)) := by
  intro n1
  induction n1 with
  | zero =>
    intro L st m r h hR
    unfold C_X11_row_52 at h
    split at h
    · split at h
      · cases h
      · cases h
    · cases h
  | succ n1 ih1 =>
    intro L st m r h hR
    unfold C_X11_row_52 at h
    split at h
    · split at h
      · rename_i hbq
        simp only [Bool.and_eq_true, Nat.beq_eq] at hbq
        obtain ⟨rfl, rfl, rfl⟩ := hbq
        exact pj_run_ok (sd_X11_row C) (List.forall_mem_cons.mpr ⟨ih1, fun q h => by cases h⟩) 51 52 _ _ _ _ ((eq_X11_row_52 _ _ _ _ _ _).trans h) hR
      · cases h
    · cases h
set_option maxRecDepth 20000 in
theorem eq_X11_row (x1 : Int32) (x2 : Int32) (x3 : Int32) (m : pj_M) : pj_run tb_X11_row [(52, C_X11_row_52 (H_X11_row_52  pj_z))] 51 0 [some (.inr (.inr (0, 11, 72))), some (.inl x1), some (.inl x2), some (.inl x3), none] [] m = F_X11_row x1 x2 x3 m := by rfl
theorem ct_X11_row : pj_Ct pj_eI y_X11_row c_X11_row 5 (some .int) 3 W_X11_row := by
  refine pj_ct_of (by decide +kernel) ?_ ?_
  · intro as m r h
    unfold W_X11_row at h
    split at h
    · simp [pj_l0]
    · cases h
  · intro G A P S Z C as m r h hR
    unfold W_X11_row at h
    split at h
    · split at h
      · rename_i hbq
        simp only [Bool.and_eq_true, Nat.beq_eq] at hbq
        obtain ⟨rfl, rfl, rfl⟩ := hbq
        exact pj_run_ok (sd_X11_row C) (List.forall_mem_cons.mpr ⟨sg_X11_row_52 C  pj_z, fun q h => by cases h⟩) 51 0 _ _ _ _ ((eq_X11_row _ _ _ _).trans h) hR
      · cases h
    · cases h
/-! AlikeStepsModel.set(III)I -/
abbrev c_X11_set : ByteArray := prog_13_method_13_code
def y_X11_set : MethodName := ⟨RX11, "set", "(III)I"⟩
noncomputable def F_X11_set (x1 : Int32) (x2 : Int32) (x3 : Int32) (m : pj_M) : Option (Int32 × pj_M) := ((F_X11_isRow x1 m).bind fun q1 => (if q1.1 = 0 then (some ((-1000001), q1.2)) else ((F_X11_isMissing x1 q1.2).bind fun q2 => (if q2.1 = 0 then (if x1 < 0 ∨ 8 ≤ x1.toNatClampNeg then none else ((F_X11_in x2 0 ((q2.2.1 74 x1.toNatClampNeg) - 1) q2.2).bind fun q3 => (if q3.1 = 0 then ((F_X11_found 2 q3.2).bind fun q6 => (some (q6.1, q6.2))) else (if x1 < 0 ∨ 8 ≤ x1.toNatClampNeg then none else ((F_X11_lowest (q3.2.1 73 x1.toNatClampNeg) x3 q3.2).bind fun q4 => (if ((40 * x1) + x2) < 0 ∨ 320 ≤ ((40 * x1) + x2).toNatClampNeg then none else (if ((40 * x1) + x2) < 0 ∨ 320 ≤ ((40 * x1) + x2).toNatClampNeg then none else ((F_X11_well ((pj_wr q4.2 75 ((40 * x1) + x2).toNatClampNeg q4.1).1 75 ((40 * x1) + x2).toNatClampNeg) (pj_wr q4.2 75 ((40 * x1) + x2).toNatClampNeg q4.1)).bind fun q5 => (some (q5.1, q5.2)))))))))) else ((F_X11_found 1 q2.2).bind fun q7 => (some (q7.1, q7.2)))))))
noncomputable def W_X11_set : List pj_V → pj_M → Option (Int32 × pj_M) := fun as m => match as with
  | [.inr (.inr (t0, w0, a0)), .inl x1, .inl x2, .inl x3] => (match Nat.beq t0 0 && (Nat.beq w0 11 && (Nat.beq a0 72)) with
    | true => F_X11_set x1 x2 x3 m
    | false => none)
  | _ => none
noncomputable def tb_X11_set_0 : List (Nat × pj_T (Int32 × pj_M)) := [(0, qs_ldi 1 1), (1, qs_sI 1 W_X11_isRow 4), (4, qs_ifne 10 7), (7, qs_ci (-1000001) 9), (9, qs_iret), (10, qs_lda 0 11), (11, qs_ldi 1 12), (12, qs_vI 11 2 W_X11_isMissing 15), (15, qs_ifeq 24 18), (18, qs_lda 0 19), (19, qs_ci 1 20), (20, qs_vI 11 2 W_X11_found 23), (23, qs_iret), (24, qs_ldi 2 25), (25, qs_ci 0 26), (26, qs_lda 0 27), (27, qs_gf 11 1 30), (30, qs_ldi 1 31), (31, qs_iald 32), (32, qs_ci 1 33), (33, qs_b2 (fun x y => x - y) 34), (34, qs_sI 3 W_X11_in 37), (37, qs_ifne 46 40), (40, qs_lda 0 41), (41, qs_ci 2 42), (42, qs_vI 11 2 W_X11_found 45), (45, qs_iret), (46, qs_lda 0 47), (47, qs_gf 11 2 50), (50, qs_ci 40 52), (52, qs_ldi 1 53), (53, qs_b2 (fun x y => x * y) 54), (54, qs_ldi 2 55), (55, qs_b2 (fun x y => x + y) 56), (56, qs_lda 0 57), (57, qs_gf 11 0 60), (60, qs_ldi 1 61), (61, qs_iald 62), (62, qs_ldi 3 63), (63, qs_sI 2 W_X11_lowest 66)]
noncomputable def tb_X11_set_1 : List (Nat × pj_T (Int32 × pj_M)) := [(66, qs_iast 67), (67, qs_lda 0 68), (68, qs_lda 0 69), (69, qs_gf 11 2 72), (72, qs_ci 40 74), (74, qs_ldi 1 75), (75, qs_b2 (fun x y => x * y) 76), (76, qs_ldi 2 77), (77, qs_b2 (fun x y => x + y) 78), (78, qs_iald 79), (79, qs_vI 11 2 W_X11_well 82), (82, qs_iret)]
noncomputable def tb_X11_set : List (Nat × pj_T (Int32 × pj_M)) := tb_X11_set_0 ++ (tb_X11_set_1)
theorem mv_X11_set : pj_mv y_X11_set c_X11_set 4 (some .int) 3 := ⟨⟨cw_1142, cw_1140, cw_1141, cw_92⟩, by decide +kernel, by decide⟩
set_option maxRecDepth 20000 in
theorem sd_X11_set_0 {G : pj_E} {A : Nat → Prop} {P : pj_P} {S : pj_U} {Z : pj_Z} (C : pj_C (G, A, (c_X11_set, y_X11_set.cls, 4, (some .int), 3), P, S, Z)) : ∀ q ∈ tb_X11_set_0, pj_S (G, A, (c_X11_set, y_X11_set.cls, 4, (some .int), 3), P, S, Z) pj_eI q.1 q.2 :=
  List.forall_mem_cons.mpr ⟨qz_iload_n C (show decode c_X11_set 0 = .ok (.iload_n 1, 1) by decide +kernel) rfl,
  List.forall_mem_cons.mpr ⟨qz_sI C (show decode c_X11_set 1 = .ok (.invokestatic 88, 3) by decide +kernel) ct_X11_isRow mv_X11_isRow (Or.inl cw_1123) (show 2 < 3 by omega),
  List.forall_mem_cons.mpr ⟨qz_ifne C (show decode c_X11_set 4 = .ok (.ifCond .ne 6, 3) by decide +kernel) (by decide),
  List.forall_mem_cons.mpr ⟨qz_ldc C (show decode c_X11_set 7 = .ok (.ldc 92, 2) by decide +kernel) cw_1129,
  List.forall_mem_cons.mpr ⟨qz_iret C (show decode c_X11_set 9 = .ok (.ireturn, 1) by decide +kernel) rfl,
  List.forall_mem_cons.mpr ⟨qz_aload_n C (show decode c_X11_set 10 = .ok (.aload_n 0, 1) by decide +kernel) rfl,
  List.forall_mem_cons.mpr ⟨qz_iload_n C (show decode c_X11_set 11 = .ok (.iload_n 1, 1) by decide +kernel) rfl,
  List.forall_mem_cons.mpr ⟨qz_vI C (show decode c_X11_set 12 = .ok (.invokevirtual 100, 3) by decide +kernel) ct_X11_isMissing mv_X11_isMissing cw_1143 vcX11 (show 1 < 3 by omega),
  List.forall_mem_cons.mpr ⟨qz_ifeq C (show decode c_X11_set 15 = .ok (.ifCond .eq 9, 3) by decide +kernel) (by decide),
  List.forall_mem_cons.mpr ⟨qz_aload_n C (show decode c_X11_set 18 = .ok (.aload_n 0, 1) by decide +kernel) rfl,
  List.forall_mem_cons.mpr ⟨qz_iconst C (show decode c_X11_set 19 = .ok (.iconst 1, 1) by decide +kernel) (by decide +kernel),
  List.forall_mem_cons.mpr ⟨qz_vI C (show decode c_X11_set 20 = .ok (.invokevirtual 93, 3) by decide +kernel) ct_X11_found mv_X11_found cw_1130 vcX11 (show 1 < 3 by omega),
  List.forall_mem_cons.mpr ⟨qz_iret C (show decode c_X11_set 23 = .ok (.ireturn, 1) by decide +kernel) rfl,
  List.forall_mem_cons.mpr ⟨qz_iload_n C (show decode c_X11_set 24 = .ok (.iload_n 2, 1) by decide +kernel) rfl,
  List.forall_mem_cons.mpr ⟨qz_iconst C (show decode c_X11_set 25 = .ok (.iconst 0, 1) by decide +kernel) (by decide +kernel),
  List.forall_mem_cons.mpr ⟨qz_aload_n C (show decode c_X11_set 26 = .ok (.aload_n 0, 1) by decide +kernel) rfl,
  List.forall_mem_cons.mpr ⟨qz_gf (k := 1) C (show decode c_X11_set 27 = .ok (.getfield 13, 3) by decide +kernel) vcX11 wiX11 (by decide) cw_1019,
  List.forall_mem_cons.mpr ⟨qz_iload_n C (show decode c_X11_set 30 = .ok (.iload_n 1, 1) by decide +kernel) rfl,
  List.forall_mem_cons.mpr ⟨qz_iald C (show decode c_X11_set 31 = .ok (.iaload, 1) by decide +kernel),
  List.forall_mem_cons.mpr ⟨qz_iconst C (show decode c_X11_set 32 = .ok (.iconst 1, 1) by decide +kernel) (by decide +kernel),
  List.forall_mem_cons.mpr ⟨qz_isub C (show decode c_X11_set 33 = .ok (.isub, 1) by decide +kernel),
  List.forall_mem_cons.mpr ⟨qz_sI C (show decode c_X11_set 34 = .ok (.invokestatic 84, 3) by decide +kernel) ct_X11_in mv_X11_in (Or.inl cw_1126) (show 1 < 3 by omega),
  List.forall_mem_cons.mpr ⟨qz_ifne C (show decode c_X11_set 37 = .ok (.ifCond .ne 9, 3) by decide +kernel) (by decide),
  List.forall_mem_cons.mpr ⟨qz_aload_n C (show decode c_X11_set 40 = .ok (.aload_n 0, 1) by decide +kernel) rfl,
  List.forall_mem_cons.mpr ⟨qz_iconst C (show decode c_X11_set 41 = .ok (.iconst 2, 1) by decide +kernel) (by decide +kernel),
  List.forall_mem_cons.mpr ⟨qz_vI C (show decode c_X11_set 42 = .ok (.invokevirtual 93, 3) by decide +kernel) ct_X11_found mv_X11_found cw_1130 vcX11 (show 1 < 3 by omega),
  List.forall_mem_cons.mpr ⟨qz_iret C (show decode c_X11_set 45 = .ok (.ireturn, 1) by decide +kernel) rfl,
  List.forall_mem_cons.mpr ⟨qz_aload_n C (show decode c_X11_set 46 = .ok (.aload_n 0, 1) by decide +kernel) rfl,
  List.forall_mem_cons.mpr ⟨qz_gf (k := 2) C (show decode c_X11_set 47 = .ok (.getfield 16, 3) by decide +kernel) vcX11 wiX11 (by decide) cw_1020,
  List.forall_mem_cons.mpr ⟨qz_bipush C (show decode c_X11_set 50 = .ok (.bipush 40, 2) by decide +kernel) (by decide +kernel),
  List.forall_mem_cons.mpr ⟨qz_iload_n C (show decode c_X11_set 52 = .ok (.iload_n 1, 1) by decide +kernel) rfl,
  List.forall_mem_cons.mpr ⟨qz_imul C (show decode c_X11_set 53 = .ok (.imul, 1) by decide +kernel),
  List.forall_mem_cons.mpr ⟨qz_iload_n C (show decode c_X11_set 54 = .ok (.iload_n 2, 1) by decide +kernel) rfl,
  List.forall_mem_cons.mpr ⟨qz_iadd C (show decode c_X11_set 55 = .ok (.iadd, 1) by decide +kernel),
  List.forall_mem_cons.mpr ⟨qz_aload_n C (show decode c_X11_set 56 = .ok (.aload_n 0, 1) by decide +kernel) rfl,
  List.forall_mem_cons.mpr ⟨qz_gf (k := 0) C (show decode c_X11_set 57 = .ok (.getfield 7, 3) by decide +kernel) vcX11 wiX11 (by decide) cw_1018,
  List.forall_mem_cons.mpr ⟨qz_iload_n C (show decode c_X11_set 60 = .ok (.iload_n 1, 1) by decide +kernel) rfl,
  List.forall_mem_cons.mpr ⟨qz_iald C (show decode c_X11_set 61 = .ok (.iaload, 1) by decide +kernel),
  List.forall_mem_cons.mpr ⟨qz_iload_n C (show decode c_X11_set 62 = .ok (.iload_n 3, 1) by decide +kernel) rfl,
  List.forall_mem_cons.mpr ⟨qz_sI C (show decode c_X11_set 63 = .ok (.invokestatic 103, 3) by decide +kernel) ct_X11_lowest mv_X11_lowest (Or.inl cw_1147) (show 1 < 3 by omega),
  (fun q h => by cases h)⟩⟩⟩⟩⟩⟩⟩⟩⟩⟩⟩⟩⟩⟩⟩⟩⟩⟩⟩⟩⟩⟩⟩⟩⟩⟩⟩⟩⟩⟩⟩⟩⟩⟩⟩⟩⟩⟩⟩⟩
set_option maxRecDepth 20000 in
theorem sd_X11_set_1 {G : pj_E} {A : Nat → Prop} {P : pj_P} {S : pj_U} {Z : pj_Z} (C : pj_C (G, A, (c_X11_set, y_X11_set.cls, 4, (some .int), 3), P, S, Z)) : ∀ q ∈ tb_X11_set_1, pj_S (G, A, (c_X11_set, y_X11_set.cls, 4, (some .int), 3), P, S, Z) pj_eI q.1 q.2 :=
  List.forall_mem_cons.mpr ⟨qz_iast C (show decode c_X11_set 66 = .ok (.iastore, 1) by decide +kernel),
  List.forall_mem_cons.mpr ⟨qz_aload_n C (show decode c_X11_set 67 = .ok (.aload_n 0, 1) by decide +kernel) rfl,
  List.forall_mem_cons.mpr ⟨qz_aload_n C (show decode c_X11_set 68 = .ok (.aload_n 0, 1) by decide +kernel) rfl,
  List.forall_mem_cons.mpr ⟨qz_gf (k := 2) C (show decode c_X11_set 69 = .ok (.getfield 16, 3) by decide +kernel) vcX11 wiX11 (by decide) cw_1020,
  List.forall_mem_cons.mpr ⟨qz_bipush C (show decode c_X11_set 72 = .ok (.bipush 40, 2) by decide +kernel) (by decide +kernel),
  List.forall_mem_cons.mpr ⟨qz_iload_n C (show decode c_X11_set 74 = .ok (.iload_n 1, 1) by decide +kernel) rfl,
  List.forall_mem_cons.mpr ⟨qz_imul C (show decode c_X11_set 75 = .ok (.imul, 1) by decide +kernel),
  List.forall_mem_cons.mpr ⟨qz_iload_n C (show decode c_X11_set 76 = .ok (.iload_n 2, 1) by decide +kernel) rfl,
  List.forall_mem_cons.mpr ⟨qz_iadd C (show decode c_X11_set 77 = .ok (.iadd, 1) by decide +kernel),
  List.forall_mem_cons.mpr ⟨qz_iald C (show decode c_X11_set 78 = .ok (.iaload, 1) by decide +kernel),
  List.forall_mem_cons.mpr ⟨qz_vI C (show decode c_X11_set 79 = .ok (.invokevirtual 97, 3) by decide +kernel) ct_X11_well mv_X11_well cw_1135 vcX11 (show 1 < 3 by omega),
  List.forall_mem_cons.mpr ⟨qz_iret C (show decode c_X11_set 82 = .ok (.ireturn, 1) by decide +kernel) rfl,
  (fun q h => by cases h)⟩⟩⟩⟩⟩⟩⟩⟩⟩⟩⟩⟩
theorem sd_X11_set {G : pj_E} {A : Nat → Prop} {P : pj_P} {S : pj_U} {Z : pj_Z} (C : pj_C (G, A, (c_X11_set, y_X11_set.cls, 4, (some .int), 3), P, S, Z)) : ∀ q ∈ tb_X11_set, pj_S (G, A, (c_X11_set, y_X11_set.cls, 4, (some .int), 3), P, S, Z) pj_eI q.1 q.2 := List.forall_mem_append.mpr ⟨sd_X11_set_0 C, sd_X11_set_1 C⟩
set_option maxRecDepth 20000 in
theorem eq_X11_set (x1 : Int32) (x2 : Int32) (x3 : Int32) (m : pj_M) : pj_run tb_X11_set [] 54 0 [some (.inr (.inr (0, 11, 72))), some (.inl x1), some (.inl x2), some (.inl x3)] [] m = F_X11_set x1 x2 x3 m := by rfl
theorem ct_X11_set : pj_Ct pj_eI y_X11_set c_X11_set 4 (some .int) 3 W_X11_set := by
  refine pj_ct_of (by decide +kernel) ?_ ?_
  · intro as m r h
    unfold W_X11_set at h
    split at h
    · simp [pj_l0]
    · cases h
  · intro G A P S Z C as m r h hR
    unfold W_X11_set at h
    split at h
    · split at h
      · rename_i hbq
        simp only [Bool.and_eq_true, Nat.beq_eq] at hbq
        obtain ⟨rfl, rfl, rfl⟩ := hbq
        exact pj_run_ok (sd_X11_set C) (fun q h => by cases h) 54 0 _ _ _ _ ((eq_X11_set _ _ _ _).trans h) hR
      · cases h
    · cases h
/-! AlikeStepsModel.isPart(III)Z -/
abbrev c_X11_isPart : ByteArray := prog_13_method_14_code
def y_X11_isPart : MethodName := ⟨RX11, "isPart", "(III)Z"⟩
noncomputable def F_X11_isPart (x1 : Int32) (x2 : Int32) (x3 : Int32) (m : pj_M) : Option (Int32 × pj_M) := (if x2 < 0 then (some (0, m)) else (if x3 < 0 then (some (0, m)) else (if x1 < 0 ∨ 8 ≤ x1.toNatClampNeg then none else (if (m.1 74 x1.toNatClampNeg) < x2 then (some (0, m)) else (if x1 < 0 ∨ 8 ≤ x1.toNatClampNeg then none else (if ((m.1 74 x1.toNatClampNeg) - x2) < x3 then (some (0, m)) else (some (1, m))))))))
noncomputable def W_X11_isPart : List pj_V → pj_M → Option (Int32 × pj_M) := fun as m => match as with
  | [.inr (.inr (t0, w0, a0)), .inl x1, .inl x2, .inl x3] => (match Nat.beq t0 0 && (Nat.beq w0 11 && (Nat.beq a0 72)) with
    | true => F_X11_isPart x1 x2 x3 m
    | false => none)
  | _ => none
noncomputable def tb_X11_isPart_0 : List (Nat × pj_T (Int32 × pj_M)) := [(0, qs_ldi 2 1), (1, qs_iflt 34 4), (4, qs_ldi 3 5), (5, qs_iflt 34 8), (8, qs_ldi 2 9), (9, qs_lda 0 10), (10, qs_gf 11 1 13), (13, qs_ldi 1 14), (14, qs_iald 15), (15, qs_icgt 34 18), (18, qs_ldi 3 19), (19, qs_lda 0 20), (20, qs_gf 11 1 23), (23, qs_ldi 1 24), (24, qs_iald 25), (25, qs_ldi 2 26), (26, qs_b2 (fun x y => x - y) 27), (27, qs_icgt 34 30), (30, qs_ci 1 31), (31, qs_go 35), (34, qs_ci 0 35), (35, qs_zret)]
noncomputable abbrev tb_X11_isPart : List (Nat × pj_T (Int32 × pj_M)) := tb_X11_isPart_0
theorem mv_X11_isPart : pj_mv y_X11_isPart c_X11_isPart 4 (some .boolean) 3 := ⟨⟨cw_1157, cw_1156, cw_35, cw_92⟩, by decide +kernel, by decide⟩
set_option maxRecDepth 20000 in
theorem sd_X11_isPart_0 {G : pj_E} {A : Nat → Prop} {P : pj_P} {S : pj_U} {Z : pj_Z} (C : pj_C (G, A, (c_X11_isPart, y_X11_isPart.cls, 4, (some .boolean), 1), P, S, Z)) : ∀ q ∈ tb_X11_isPart_0, pj_S (G, A, (c_X11_isPart, y_X11_isPart.cls, 4, (some .boolean), 1), P, S, Z) pj_eI q.1 q.2 :=
  List.forall_mem_cons.mpr ⟨qz_iload_n C (show decode c_X11_isPart 0 = .ok (.iload_n 2, 1) by decide +kernel) rfl,
  List.forall_mem_cons.mpr ⟨qz_iflt C (show decode c_X11_isPart 1 = .ok (.ifCond .lt 33, 3) by decide +kernel) (by decide),
  List.forall_mem_cons.mpr ⟨qz_iload_n C (show decode c_X11_isPart 4 = .ok (.iload_n 3, 1) by decide +kernel) rfl,
  List.forall_mem_cons.mpr ⟨qz_iflt C (show decode c_X11_isPart 5 = .ok (.ifCond .lt 29, 3) by decide +kernel) (by decide),
  List.forall_mem_cons.mpr ⟨qz_iload_n C (show decode c_X11_isPart 8 = .ok (.iload_n 2, 1) by decide +kernel) rfl,
  List.forall_mem_cons.mpr ⟨qz_aload_n C (show decode c_X11_isPart 9 = .ok (.aload_n 0, 1) by decide +kernel) rfl,
  List.forall_mem_cons.mpr ⟨qz_gf (k := 1) C (show decode c_X11_isPart 10 = .ok (.getfield 13, 3) by decide +kernel) vcX11 wiX11 (by decide) cw_1019,
  List.forall_mem_cons.mpr ⟨qz_iload_n C (show decode c_X11_isPart 13 = .ok (.iload_n 1, 1) by decide +kernel) rfl,
  List.forall_mem_cons.mpr ⟨qz_iald C (show decode c_X11_isPart 14 = .ok (.iaload, 1) by decide +kernel),
  List.forall_mem_cons.mpr ⟨qz_icgt C (show decode c_X11_isPart 15 = .ok (.if_icmp .gt 19, 3) by decide +kernel) (by decide),
  List.forall_mem_cons.mpr ⟨qz_iload_n C (show decode c_X11_isPart 18 = .ok (.iload_n 3, 1) by decide +kernel) rfl,
  List.forall_mem_cons.mpr ⟨qz_aload_n C (show decode c_X11_isPart 19 = .ok (.aload_n 0, 1) by decide +kernel) rfl,
  List.forall_mem_cons.mpr ⟨qz_gf (k := 1) C (show decode c_X11_isPart 20 = .ok (.getfield 13, 3) by decide +kernel) vcX11 wiX11 (by decide) cw_1019,
  List.forall_mem_cons.mpr ⟨qz_iload_n C (show decode c_X11_isPart 23 = .ok (.iload_n 1, 1) by decide +kernel) rfl,
  List.forall_mem_cons.mpr ⟨qz_iald C (show decode c_X11_isPart 24 = .ok (.iaload, 1) by decide +kernel),
  List.forall_mem_cons.mpr ⟨qz_iload_n C (show decode c_X11_isPart 25 = .ok (.iload_n 2, 1) by decide +kernel) rfl,
  List.forall_mem_cons.mpr ⟨qz_isub C (show decode c_X11_isPart 26 = .ok (.isub, 1) by decide +kernel),
  List.forall_mem_cons.mpr ⟨qz_icgt C (show decode c_X11_isPart 27 = .ok (.if_icmp .gt 7, 3) by decide +kernel) (by decide),
  List.forall_mem_cons.mpr ⟨qz_iconst C (show decode c_X11_isPart 30 = .ok (.iconst 1, 1) by decide +kernel) (by decide +kernel),
  List.forall_mem_cons.mpr ⟨qz_goto C (show decode c_X11_isPart 31 = .ok (.goto 4, 3) by decide +kernel) (by decide),
  List.forall_mem_cons.mpr ⟨qz_iconst C (show decode c_X11_isPart 34 = .ok (.iconst 0, 1) by decide +kernel) (by decide +kernel),
  List.forall_mem_cons.mpr ⟨qz_zret C (show decode c_X11_isPart 35 = .ok (.ireturn, 1) by decide +kernel) rfl,
  (fun q h => by cases h)⟩⟩⟩⟩⟩⟩⟩⟩⟩⟩⟩⟩⟩⟩⟩⟩⟩⟩⟩⟩⟩⟩
theorem sd_X11_isPart {G : pj_E} {A : Nat → Prop} {P : pj_P} {S : pj_U} {Z : pj_Z} (C : pj_C (G, A, (c_X11_isPart, y_X11_isPart.cls, 4, (some .boolean), 1), P, S, Z)) : ∀ q ∈ tb_X11_isPart, pj_S (G, A, (c_X11_isPart, y_X11_isPart.cls, 4, (some .boolean), 1), P, S, Z) pj_eI q.1 q.2 := sd_X11_isPart_0 C
set_option maxRecDepth 20000 in
theorem eq_X11_isPart (x1 : Int32) (x2 : Int32) (x3 : Int32) (m : pj_M) : pj_run tb_X11_isPart [] 24 0 [some (.inr (.inr (0, 11, 72))), some (.inl x1), some (.inl x2), some (.inl x3)] [] m = F_X11_isPart x1 x2 x3 m := by rfl
theorem ct_X11_isPart : pj_Ct pj_eI y_X11_isPart c_X11_isPart 4 (some .boolean) 1 W_X11_isPart := by
  refine pj_ct_of (by decide +kernel) ?_ ?_
  · intro as m r h
    unfold W_X11_isPart at h
    split at h
    · simp [pj_l0]
    · cases h
  · intro G A P S Z C as m r h hR
    unfold W_X11_isPart at h
    split at h
    · split at h
      · rename_i hbq
        simp only [Bool.and_eq_true, Nat.beq_eq] at hbq
        obtain ⟨rfl, rfl, rfl⟩ := hbq
        exact pj_run_ok (sd_X11_isPart C) (fun q h => by cases h) 24 0 _ _ _ _ ((eq_X11_isPart _ _ _ _).trans h) hR
      · cases h
    · cases h
/-! AlikeStepsModel.copy(IIIII)I -/
abbrev c_X11_copy : ByteArray := prog_13_method_15_code
def y_X11_copy : MethodName := ⟨RX11, "copy", "(IIIII)I"⟩
noncomputable def H_X11_copy_129 : Nat → Int32 → Int32 → Int32 → Int32 → pj_M → Option (Int32 × pj_M)
  | 0, _, _, _, _, _ => none
  | n1 + 1, x3, x4, x5, x6, m => (if x6 < x5 then (if x6 < 0 ∨ 40 ≤ x6.toNatClampNeg then none else (if (((40 * x3) + x4) + x6) < 0 ∨ 320 ≤ (((40 * x3) + x4) + x6).toNatClampNeg then none else (H_X11_copy_129 n1 x3 x4 x5 (x6 + 1) (pj_wr m 75 (((40 * x3) + x4) + x6).toNatClampNeg (m.1 76 x6.toNatClampNeg))))) else ((F_X11_well x5 m).bind fun q1 => (some (q1.1, q1.2))))
noncomputable def H_X11_copy_92 : Nat → Int32 → Int32 → Int32 → Int32 → Int32 → Int32 → pj_M → Option (Int32 × pj_M)
  | 0, _, _, _, _, _, _, _ => none
  | n1 + 1, x1, x2, x3, x4, x5, x6, m => (if x6 < x5 then (if (((40 * x1) + x2) + x6) < 0 ∨ 320 ≤ (((40 * x1) + x2) + x6).toNatClampNeg then none else (if x6 < 0 ∨ 40 ≤ x6.toNatClampNeg then none else (H_X11_copy_92 n1 x1 x2 x3 x4 x5 (x6 + 1) (pj_wr m 76 x6.toNatClampNeg (m.1 75 (((40 * x1) + x2) + x6).toNatClampNeg))))) else (H_X11_copy_129 pj_z x3 x4 x5 0 m))
noncomputable def F_X11_copy (x1 : Int32) (x2 : Int32) (x3 : Int32) (x4 : Int32) (x5 : Int32) (m : pj_M) : Option (Int32 × pj_M) := ((F_X11_isRow x1 m).bind fun q1 => (if q1.1 = 0 then (some ((-1000001), q1.2)) else ((F_X11_isRow x3 q1.2).bind fun q2 => (if q2.1 = 0 then (some ((-1000001), q2.2)) else ((F_X11_isMissing x1 q2.2).bind fun q3 => (if q3.1 = 0 then ((F_X11_isMissing x3 q3.2).bind fun q5 => (if q5.1 = 0 then (if x1 < 0 ∨ 8 ≤ x1.toNatClampNeg then none else (if x3 < 0 ∨ 8 ≤ x3.toNatClampNeg then none else (if (q5.2.1 73 x1.toNatClampNeg) = (q5.2.1 73 x3.toNatClampNeg) then ((F_X11_isPart x1 x2 x5 q5.2).bind fun q6 => (if q6.1 = 0 then ((F_X11_found 2 q6.2).bind fun q7 => (some (q7.1, q7.2))) else ((F_X11_isPart x3 x4 x5 q6.2).bind fun q8 => (if q8.1 = 0 then ((F_X11_found 2 q8.2).bind fun q9 => (some (q9.1, q9.2))) else (H_X11_copy_92 pj_z x1 x2 x3 x4 x5 0 q8.2))))) else ((F_X11_found 5 q5.2).bind fun q10 => (some (q10.1, q10.2)))))) else ((F_X11_found 1 q5.2).bind fun q11 => (some (q11.1, q11.2))))) else ((F_X11_found 1 q3.2).bind fun q4 => (some (q4.1, q4.2)))))))))
noncomputable def W_X11_copy : List pj_V → pj_M → Option (Int32 × pj_M) := fun as m => match as with
  | [.inr (.inr (t0, w0, a0)), .inl x1, .inl x2, .inl x3, .inl x4, .inl x5] => (match Nat.beq t0 0 && (Nat.beq w0 11 && (Nat.beq a0 72)) with
    | true => F_X11_copy x1 x2 x3 x4 x5 m
    | false => none)
  | _ => none
noncomputable def tb_X11_copy_0 : List (Nat × pj_T (Int32 × pj_M)) := [(0, qs_ldi 1 1), (1, qs_sI 1 W_X11_isRow 4), (4, qs_ifeq 14 7), (7, qs_ldi 3 8), (8, qs_sI 1 W_X11_isRow 11), (11, qs_ifne 17 14), (14, qs_ci (-1000001) 16), (16, qs_iret), (17, qs_lda 0 18), (18, qs_ldi 1 19), (19, qs_vI 11 2 W_X11_isMissing 22), (22, qs_ifne 33 25), (25, qs_lda 0 26), (26, qs_ldi 3 27), (27, qs_vI 11 2 W_X11_isMissing 30), (30, qs_ifeq 39 33), (33, qs_lda 0 34), (34, qs_ci 1 35), (35, qs_vI 11 2 W_X11_found 38), (38, qs_iret), (39, qs_lda 0 40), (40, qs_gf 11 0 43), (43, qs_ldi 1 44), (44, qs_iald 45), (45, qs_lda 0 46), (46, qs_gf 11 0 49), (49, qs_ldi 3 50), (50, qs_iald 51), (51, qs_iceq 60 54), (54, qs_lda 0 55), (55, qs_ci 5 56), (56, qs_vI 11 2 W_X11_found 59), (59, qs_iret), (60, qs_lda 0 61), (61, qs_ldi 1 62), (62, qs_ldi 2 63), (63, qs_ldi 5 65), (65, qs_vI 11 4 W_X11_isPart 68), (68, qs_ifeq 83 71), (71, qs_lda 0 72)]
noncomputable def tb_X11_copy_1 : List (Nat × pj_T (Int32 × pj_M)) := [(72, qs_ldi 3 73), (73, qs_ldi 4 75), (75, qs_ldi 5 77), (77, qs_vI 11 4 W_X11_isPart 80), (80, qs_ifne 89 83), (83, qs_lda 0 84), (84, qs_ci 2 85), (85, qs_vI 11 2 W_X11_found 88), (88, qs_iret), (89, qs_ci 0 90), (90, qs_sti 6 92), (92, qs_ldi 6 94), (94, qs_ldi 5 96), (96, qs_icge 126 99), (99, qs_lda 0 100), (100, qs_gf 11 3 103), (103, qs_ldi 6 105), (105, qs_lda 0 106), (106, qs_gf 11 2 109), (109, qs_ci 40 111), (111, qs_ldi 1 112), (112, qs_b2 (fun x y => x * y) 113), (113, qs_ldi 2 114), (114, qs_b2 (fun x y => x + y) 115), (115, qs_ldi 6 117), (117, qs_b2 (fun x y => x + y) 118), (118, qs_iald 119), (119, qs_iast 120), (120, qs_inc 6 1 123), (123, qs_go 92), (126, qs_ci 0 127), (127, qs_sti 6 129), (129, qs_ldi 6 131), (131, qs_ldi 5 133), (133, qs_icge 164 136), (136, qs_lda 0 137), (137, qs_gf 11 2 140), (140, qs_ci 40 142), (142, qs_ldi 3 143), (143, qs_b2 (fun x y => x * y) 144)]
noncomputable def tb_X11_copy_2 : List (Nat × pj_T (Int32 × pj_M)) := [(144, qs_ldi 4 146), (146, qs_b2 (fun x y => x + y) 147), (147, qs_ldi 6 149), (149, qs_b2 (fun x y => x + y) 150), (150, qs_lda 0 151), (151, qs_gf 11 3 154), (154, qs_ldi 6 156), (156, qs_iald 157), (157, qs_iast 158), (158, qs_inc 6 1 161), (161, qs_go 129), (164, qs_lda 0 165), (165, qs_ldi 5 167), (167, qs_vI 11 2 W_X11_well 170), (170, qs_iret)]
noncomputable def tb_X11_copy : List (Nat × pj_T (Int32 × pj_M)) := tb_X11_copy_0 ++ (tb_X11_copy_1 ++ (tb_X11_copy_2))
theorem mv_X11_copy : pj_mv y_X11_copy c_X11_copy 7 (some .int) 5 := ⟨⟨cw_1153, cw_1151, cw_1152, cw_92⟩, by decide +kernel, by decide⟩
set_option maxRecDepth 20000 in
theorem sd_X11_copy_0 {G : pj_E} {A : Nat → Prop} {P : pj_P} {S : pj_U} {Z : pj_Z} (C : pj_C (G, A, (c_X11_copy, y_X11_copy.cls, 7, (some .int), 3), P, S, Z)) : ∀ q ∈ tb_X11_copy_0, pj_S (G, A, (c_X11_copy, y_X11_copy.cls, 7, (some .int), 3), P, S, Z) pj_eI q.1 q.2 :=
  List.forall_mem_cons.mpr ⟨qz_iload_n C (show decode c_X11_copy 0 = .ok (.iload_n 1, 1) by decide +kernel) rfl,
  List.forall_mem_cons.mpr ⟨qz_sI C (show decode c_X11_copy 1 = .ok (.invokestatic 88, 3) by decide +kernel) ct_X11_isRow mv_X11_isRow (Or.inl cw_1123) (show 2 < 3 by omega),
  List.forall_mem_cons.mpr ⟨qz_ifeq C (show decode c_X11_copy 4 = .ok (.ifCond .eq 10, 3) by decide +kernel) (by decide),
  List.forall_mem_cons.mpr ⟨qz_iload_n C (show decode c_X11_copy 7 = .ok (.iload_n 3, 1) by decide +kernel) rfl,
  List.forall_mem_cons.mpr ⟨qz_sI C (show decode c_X11_copy 8 = .ok (.invokestatic 88, 3) by decide +kernel) ct_X11_isRow mv_X11_isRow (Or.inl cw_1123) (show 2 < 3 by omega),
  List.forall_mem_cons.mpr ⟨qz_ifne C (show decode c_X11_copy 11 = .ok (.ifCond .ne 6, 3) by decide +kernel) (by decide),
  List.forall_mem_cons.mpr ⟨qz_ldc C (show decode c_X11_copy 14 = .ok (.ldc 92, 2) by decide +kernel) cw_1129,
  List.forall_mem_cons.mpr ⟨qz_iret C (show decode c_X11_copy 16 = .ok (.ireturn, 1) by decide +kernel) rfl,
  List.forall_mem_cons.mpr ⟨qz_aload_n C (show decode c_X11_copy 17 = .ok (.aload_n 0, 1) by decide +kernel) rfl,
  List.forall_mem_cons.mpr ⟨qz_iload_n C (show decode c_X11_copy 18 = .ok (.iload_n 1, 1) by decide +kernel) rfl,
  List.forall_mem_cons.mpr ⟨qz_vI C (show decode c_X11_copy 19 = .ok (.invokevirtual 100, 3) by decide +kernel) ct_X11_isMissing mv_X11_isMissing cw_1143 vcX11 (show 1 < 3 by omega),
  List.forall_mem_cons.mpr ⟨qz_ifne C (show decode c_X11_copy 22 = .ok (.ifCond .ne 11, 3) by decide +kernel) (by decide),
  List.forall_mem_cons.mpr ⟨qz_aload_n C (show decode c_X11_copy 25 = .ok (.aload_n 0, 1) by decide +kernel) rfl,
  List.forall_mem_cons.mpr ⟨qz_iload_n C (show decode c_X11_copy 26 = .ok (.iload_n 3, 1) by decide +kernel) rfl,
  List.forall_mem_cons.mpr ⟨qz_vI C (show decode c_X11_copy 27 = .ok (.invokevirtual 100, 3) by decide +kernel) ct_X11_isMissing mv_X11_isMissing cw_1143 vcX11 (show 1 < 3 by omega),
  List.forall_mem_cons.mpr ⟨qz_ifeq C (show decode c_X11_copy 30 = .ok (.ifCond .eq 9, 3) by decide +kernel) (by decide),
  List.forall_mem_cons.mpr ⟨qz_aload_n C (show decode c_X11_copy 33 = .ok (.aload_n 0, 1) by decide +kernel) rfl,
  List.forall_mem_cons.mpr ⟨qz_iconst C (show decode c_X11_copy 34 = .ok (.iconst 1, 1) by decide +kernel) (by decide +kernel),
  List.forall_mem_cons.mpr ⟨qz_vI C (show decode c_X11_copy 35 = .ok (.invokevirtual 93, 3) by decide +kernel) ct_X11_found mv_X11_found cw_1130 vcX11 (show 1 < 3 by omega),
  List.forall_mem_cons.mpr ⟨qz_iret C (show decode c_X11_copy 38 = .ok (.ireturn, 1) by decide +kernel) rfl,
  List.forall_mem_cons.mpr ⟨qz_aload_n C (show decode c_X11_copy 39 = .ok (.aload_n 0, 1) by decide +kernel) rfl,
  List.forall_mem_cons.mpr ⟨qz_gf (k := 0) C (show decode c_X11_copy 40 = .ok (.getfield 7, 3) by decide +kernel) vcX11 wiX11 (by decide) cw_1018,
  List.forall_mem_cons.mpr ⟨qz_iload_n C (show decode c_X11_copy 43 = .ok (.iload_n 1, 1) by decide +kernel) rfl,
  List.forall_mem_cons.mpr ⟨qz_iald C (show decode c_X11_copy 44 = .ok (.iaload, 1) by decide +kernel),
  List.forall_mem_cons.mpr ⟨qz_aload_n C (show decode c_X11_copy 45 = .ok (.aload_n 0, 1) by decide +kernel) rfl,
  List.forall_mem_cons.mpr ⟨qz_gf (k := 0) C (show decode c_X11_copy 46 = .ok (.getfield 7, 3) by decide +kernel) vcX11 wiX11 (by decide) cw_1018,
  List.forall_mem_cons.mpr ⟨qz_iload_n C (show decode c_X11_copy 49 = .ok (.iload_n 3, 1) by decide +kernel) rfl,
  List.forall_mem_cons.mpr ⟨qz_iald C (show decode c_X11_copy 50 = .ok (.iaload, 1) by decide +kernel),
  List.forall_mem_cons.mpr ⟨qz_iceq C (show decode c_X11_copy 51 = .ok (.if_icmp .eq 9, 3) by decide +kernel) (by decide),
  List.forall_mem_cons.mpr ⟨qz_aload_n C (show decode c_X11_copy 54 = .ok (.aload_n 0, 1) by decide +kernel) rfl,
  List.forall_mem_cons.mpr ⟨qz_iconst C (show decode c_X11_copy 55 = .ok (.iconst 5, 1) by decide +kernel) (by decide +kernel),
  List.forall_mem_cons.mpr ⟨qz_vI C (show decode c_X11_copy 56 = .ok (.invokevirtual 93, 3) by decide +kernel) ct_X11_found mv_X11_found cw_1130 vcX11 (show 1 < 3 by omega),
  List.forall_mem_cons.mpr ⟨qz_iret C (show decode c_X11_copy 59 = .ok (.ireturn, 1) by decide +kernel) rfl,
  List.forall_mem_cons.mpr ⟨qz_aload_n C (show decode c_X11_copy 60 = .ok (.aload_n 0, 1) by decide +kernel) rfl,
  List.forall_mem_cons.mpr ⟨qz_iload_n C (show decode c_X11_copy 61 = .ok (.iload_n 1, 1) by decide +kernel) rfl,
  List.forall_mem_cons.mpr ⟨qz_iload_n C (show decode c_X11_copy 62 = .ok (.iload_n 2, 1) by decide +kernel) rfl,
  List.forall_mem_cons.mpr ⟨qz_iload C (show decode c_X11_copy 63 = .ok (.iload 5, 2) by decide +kernel),
  List.forall_mem_cons.mpr ⟨qz_vI C (show decode c_X11_copy 65 = .ok (.invokevirtual 107, 3) by decide +kernel) ct_X11_isPart mv_X11_isPart cw_1154 vcX11 (show 1 < 3 by omega),
  List.forall_mem_cons.mpr ⟨qz_ifeq C (show decode c_X11_copy 68 = .ok (.ifCond .eq 15, 3) by decide +kernel) (by decide),
  List.forall_mem_cons.mpr ⟨qz_aload_n C (show decode c_X11_copy 71 = .ok (.aload_n 0, 1) by decide +kernel) rfl,
  (fun q h => by cases h)⟩⟩⟩⟩⟩⟩⟩⟩⟩⟩⟩⟩⟩⟩⟩⟩⟩⟩⟩⟩⟩⟩⟩⟩⟩⟩⟩⟩⟩⟩⟩⟩⟩⟩⟩⟩⟩⟩⟩⟩
set_option maxRecDepth 20000 in
theorem sd_X11_copy_1 {G : pj_E} {A : Nat → Prop} {P : pj_P} {S : pj_U} {Z : pj_Z} (C : pj_C (G, A, (c_X11_copy, y_X11_copy.cls, 7, (some .int), 3), P, S, Z)) : ∀ q ∈ tb_X11_copy_1, pj_S (G, A, (c_X11_copy, y_X11_copy.cls, 7, (some .int), 3), P, S, Z) pj_eI q.1 q.2 :=
  List.forall_mem_cons.mpr ⟨qz_iload_n C (show decode c_X11_copy 72 = .ok (.iload_n 3, 1) by decide +kernel) rfl,
  List.forall_mem_cons.mpr ⟨qz_iload C (show decode c_X11_copy 73 = .ok (.iload 4, 2) by decide +kernel),
  List.forall_mem_cons.mpr ⟨qz_iload C (show decode c_X11_copy 75 = .ok (.iload 5, 2) by decide +kernel),
  List.forall_mem_cons.mpr ⟨qz_vI C (show decode c_X11_copy 77 = .ok (.invokevirtual 107, 3) by decide +kernel) ct_X11_isPart mv_X11_isPart cw_1154 vcX11 (show 1 < 3 by omega),
  List.forall_mem_cons.mpr ⟨qz_ifne C (show decode c_X11_copy 80 = .ok (.ifCond .ne 9, 3) by decide +kernel) (by decide),
  List.forall_mem_cons.mpr ⟨qz_aload_n C (show decode c_X11_copy 83 = .ok (.aload_n 0, 1) by decide +kernel) rfl,
  List.forall_mem_cons.mpr ⟨qz_iconst C (show decode c_X11_copy 84 = .ok (.iconst 2, 1) by decide +kernel) (by decide +kernel),
  List.forall_mem_cons.mpr ⟨qz_vI C (show decode c_X11_copy 85 = .ok (.invokevirtual 93, 3) by decide +kernel) ct_X11_found mv_X11_found cw_1130 vcX11 (show 1 < 3 by omega),
  List.forall_mem_cons.mpr ⟨qz_iret C (show decode c_X11_copy 88 = .ok (.ireturn, 1) by decide +kernel) rfl,
  List.forall_mem_cons.mpr ⟨qz_iconst C (show decode c_X11_copy 89 = .ok (.iconst 0, 1) by decide +kernel) (by decide +kernel),
  List.forall_mem_cons.mpr ⟨qz_istore C (show decode c_X11_copy 90 = .ok (.istore 6, 2) by decide +kernel),
  List.forall_mem_cons.mpr ⟨qz_iload C (show decode c_X11_copy 92 = .ok (.iload 6, 2) by decide +kernel),
  List.forall_mem_cons.mpr ⟨qz_iload C (show decode c_X11_copy 94 = .ok (.iload 5, 2) by decide +kernel),
  List.forall_mem_cons.mpr ⟨qz_icge C (show decode c_X11_copy 96 = .ok (.if_icmp .ge 30, 3) by decide +kernel) (by decide),
  List.forall_mem_cons.mpr ⟨qz_aload_n C (show decode c_X11_copy 99 = .ok (.aload_n 0, 1) by decide +kernel) rfl,
  List.forall_mem_cons.mpr ⟨qz_gf (k := 3) C (show decode c_X11_copy 100 = .ok (.getfield 19, 3) by decide +kernel) vcX11 wiX11 (by decide) cw_1021,
  List.forall_mem_cons.mpr ⟨qz_iload C (show decode c_X11_copy 103 = .ok (.iload 6, 2) by decide +kernel),
  List.forall_mem_cons.mpr ⟨qz_aload_n C (show decode c_X11_copy 105 = .ok (.aload_n 0, 1) by decide +kernel) rfl,
  List.forall_mem_cons.mpr ⟨qz_gf (k := 2) C (show decode c_X11_copy 106 = .ok (.getfield 16, 3) by decide +kernel) vcX11 wiX11 (by decide) cw_1020,
  List.forall_mem_cons.mpr ⟨qz_bipush C (show decode c_X11_copy 109 = .ok (.bipush 40, 2) by decide +kernel) (by decide +kernel),
  List.forall_mem_cons.mpr ⟨qz_iload_n C (show decode c_X11_copy 111 = .ok (.iload_n 1, 1) by decide +kernel) rfl,
  List.forall_mem_cons.mpr ⟨qz_imul C (show decode c_X11_copy 112 = .ok (.imul, 1) by decide +kernel),
  List.forall_mem_cons.mpr ⟨qz_iload_n C (show decode c_X11_copy 113 = .ok (.iload_n 2, 1) by decide +kernel) rfl,
  List.forall_mem_cons.mpr ⟨qz_iadd C (show decode c_X11_copy 114 = .ok (.iadd, 1) by decide +kernel),
  List.forall_mem_cons.mpr ⟨qz_iload C (show decode c_X11_copy 115 = .ok (.iload 6, 2) by decide +kernel),
  List.forall_mem_cons.mpr ⟨qz_iadd C (show decode c_X11_copy 117 = .ok (.iadd, 1) by decide +kernel),
  List.forall_mem_cons.mpr ⟨qz_iald C (show decode c_X11_copy 118 = .ok (.iaload, 1) by decide +kernel),
  List.forall_mem_cons.mpr ⟨qz_iast C (show decode c_X11_copy 119 = .ok (.iastore, 1) by decide +kernel),
  List.forall_mem_cons.mpr ⟨qz_iinc C (show decode c_X11_copy 120 = .ok (.iinc 6 1, 3) by decide +kernel) (by decide +kernel),
  List.forall_mem_cons.mpr ⟨qz_goto C (show decode c_X11_copy 123 = .ok (.goto (-31), 3) by decide +kernel) (by decide),
  List.forall_mem_cons.mpr ⟨qz_iconst C (show decode c_X11_copy 126 = .ok (.iconst 0, 1) by decide +kernel) (by decide +kernel),
  List.forall_mem_cons.mpr ⟨qz_istore C (show decode c_X11_copy 127 = .ok (.istore 6, 2) by decide +kernel),
  List.forall_mem_cons.mpr ⟨qz_iload C (show decode c_X11_copy 129 = .ok (.iload 6, 2) by decide +kernel),
  List.forall_mem_cons.mpr ⟨qz_iload C (show decode c_X11_copy 131 = .ok (.iload 5, 2) by decide +kernel),
  List.forall_mem_cons.mpr ⟨qz_icge C (show decode c_X11_copy 133 = .ok (.if_icmp .ge 31, 3) by decide +kernel) (by decide),
  List.forall_mem_cons.mpr ⟨qz_aload_n C (show decode c_X11_copy 136 = .ok (.aload_n 0, 1) by decide +kernel) rfl,
  List.forall_mem_cons.mpr ⟨qz_gf (k := 2) C (show decode c_X11_copy 137 = .ok (.getfield 16, 3) by decide +kernel) vcX11 wiX11 (by decide) cw_1020,
  List.forall_mem_cons.mpr ⟨qz_bipush C (show decode c_X11_copy 140 = .ok (.bipush 40, 2) by decide +kernel) (by decide +kernel),
  List.forall_mem_cons.mpr ⟨qz_iload_n C (show decode c_X11_copy 142 = .ok (.iload_n 3, 1) by decide +kernel) rfl,
  List.forall_mem_cons.mpr ⟨qz_imul C (show decode c_X11_copy 143 = .ok (.imul, 1) by decide +kernel),
  (fun q h => by cases h)⟩⟩⟩⟩⟩⟩⟩⟩⟩⟩⟩⟩⟩⟩⟩⟩⟩⟩⟩⟩⟩⟩⟩⟩⟩⟩⟩⟩⟩⟩⟩⟩⟩⟩⟩⟩⟩⟩⟩⟩
set_option maxRecDepth 20000 in
theorem sd_X11_copy_2 {G : pj_E} {A : Nat → Prop} {P : pj_P} {S : pj_U} {Z : pj_Z} (C : pj_C (G, A, (c_X11_copy, y_X11_copy.cls, 7, (some .int), 3), P, S, Z)) : ∀ q ∈ tb_X11_copy_2, pj_S (G, A, (c_X11_copy, y_X11_copy.cls, 7, (some .int), 3), P, S, Z) pj_eI q.1 q.2 :=
  List.forall_mem_cons.mpr ⟨qz_iload C (show decode c_X11_copy 144 = .ok (.iload 4, 2) by decide +kernel),
  List.forall_mem_cons.mpr ⟨qz_iadd C (show decode c_X11_copy 146 = .ok (.iadd, 1) by decide +kernel),
  List.forall_mem_cons.mpr ⟨qz_iload C (show decode c_X11_copy 147 = .ok (.iload 6, 2) by decide +kernel),
  List.forall_mem_cons.mpr ⟨qz_iadd C (show decode c_X11_copy 149 = .ok (.iadd, 1) by decide +kernel),
  List.forall_mem_cons.mpr ⟨qz_aload_n C (show decode c_X11_copy 150 = .ok (.aload_n 0, 1) by decide +kernel) rfl,
  List.forall_mem_cons.mpr ⟨qz_gf (k := 3) C (show decode c_X11_copy 151 = .ok (.getfield 19, 3) by decide +kernel) vcX11 wiX11 (by decide) cw_1021,
  List.forall_mem_cons.mpr ⟨qz_iload C (show decode c_X11_copy 154 = .ok (.iload 6, 2) by decide +kernel),
  List.forall_mem_cons.mpr ⟨qz_iald C (show decode c_X11_copy 156 = .ok (.iaload, 1) by decide +kernel),
  List.forall_mem_cons.mpr ⟨qz_iast C (show decode c_X11_copy 157 = .ok (.iastore, 1) by decide +kernel),
  List.forall_mem_cons.mpr ⟨qz_iinc C (show decode c_X11_copy 158 = .ok (.iinc 6 1, 3) by decide +kernel) (by decide +kernel),
  List.forall_mem_cons.mpr ⟨qz_goto C (show decode c_X11_copy 161 = .ok (.goto (-32), 3) by decide +kernel) (by decide),
  List.forall_mem_cons.mpr ⟨qz_aload_n C (show decode c_X11_copy 164 = .ok (.aload_n 0, 1) by decide +kernel) rfl,
  List.forall_mem_cons.mpr ⟨qz_iload C (show decode c_X11_copy 165 = .ok (.iload 5, 2) by decide +kernel),
  List.forall_mem_cons.mpr ⟨qz_vI C (show decode c_X11_copy 167 = .ok (.invokevirtual 97, 3) by decide +kernel) ct_X11_well mv_X11_well cw_1135 vcX11 (show 1 < 3 by omega),
  List.forall_mem_cons.mpr ⟨qz_iret C (show decode c_X11_copy 170 = .ok (.ireturn, 1) by decide +kernel) rfl,
  (fun q h => by cases h)⟩⟩⟩⟩⟩⟩⟩⟩⟩⟩⟩⟩⟩⟩⟩
theorem sd_X11_copy {G : pj_E} {A : Nat → Prop} {P : pj_P} {S : pj_U} {Z : pj_Z} (C : pj_C (G, A, (c_X11_copy, y_X11_copy.cls, 7, (some .int), 3), P, S, Z)) : ∀ q ∈ tb_X11_copy, pj_S (G, A, (c_X11_copy, y_X11_copy.cls, 7, (some .int), 3), P, S, Z) pj_eI q.1 q.2 := List.forall_mem_append.mpr ⟨sd_X11_copy_0 C, List.forall_mem_append.mpr ⟨sd_X11_copy_1 C, sd_X11_copy_2 C⟩⟩
noncomputable def C_X11_copy_129 (f : Int32 → Int32 → Int32 → Int32 → pj_M → Option (Int32 × pj_M)) : pj_N (Int32 × pj_M) := fun L st m => match L, st with
  | [some (.inr (.inr (t0, w0, a0))), _, _, some (.inl x3), some (.inl x4), some (.inl x5), some (.inl x6)], [] => (match Nat.beq t0 0 && (Nat.beq w0 11 && (Nat.beq a0 72)) with
    | true => f x3 x4 x5 x6 m
    | false => none)
  | _, _ => none
noncomputable def C_X11_copy_92 (f : Int32 → Int32 → Int32 → Int32 → Int32 → Int32 → pj_M → Option (Int32 × pj_M)) : pj_N (Int32 × pj_M) := fun L st m => match L, st with
  | [some (.inr (.inr (t0, w0, a0))), some (.inl x1), some (.inl x2), some (.inl x3), some (.inl x4), some (.inl x5), some (.inl x6)], [] => (match Nat.beq t0 0 && (Nat.beq w0 11 && (Nat.beq a0 72)) with
    | true => f x1 x2 x3 x4 x5 x6 m
    | false => none)
  | _, _ => none
set_option maxRecDepth 20000 in
theorem eq_X11_copy_129 (n1 : Nat) (x3 : Int32) (x4 : Int32) (x5 : Int32) (x6 : Int32) (d1 d2 : Option pj_V) (m : pj_M) : pj_run tb_X11_copy [(129, C_X11_copy_129 (H_X11_copy_129 n1))] 97 129 [some (.inr (.inr (0, 11, 72))), d1, d2, some (.inl x3), some (.inl x4), some (.inl x5), some (.inl x6)] [] m = H_X11_copy_129 (n1 + 1) x3 x4 x5 x6 m := by rfl
theorem sg_X11_copy_129 {G : pj_E} {A : Nat → Prop} {P : pj_P} {S : pj_U} {Z : pj_Z} (C : pj_C (G, A, (c_X11_copy, y_X11_copy.cls, 7, (some .int), 3), P, S, Z)) : ∀ n1, pj_G (G, A, (c_X11_copy, y_X11_copy.cls, 7, (some .int), 3), P, S, Z) pj_eI 129 (C_X11_copy_129 (H_X11_copy_129 n1)) := by
  intro n1
  induction n1 with
  | zero =>
    intro L st m r h hR
    unfold C_X11_copy_129 at h
    split at h
    · split at h
      · cases h
      · cases h
    · cases h
  | succ n1 ih1 =>
    intro L st m r h hR
    unfold C_X11_copy_129 at h
    split at h
    · split at h
      · rename_i hbq
        simp only [Bool.and_eq_true, Nat.beq_eq] at hbq
        obtain ⟨rfl, rfl, rfl⟩ := hbq
        exact pj_run_ok (sd_X11_copy C) (List.forall_mem_cons.mpr ⟨ih1, fun q h => by cases h⟩) 97 129 _ _ _ _ ((eq_X11_copy_129 _ _ _ _ _ _ _ _).trans h) hR
      · cases h
    · cases h
set_option maxRecDepth 20000 in
theorem eq_X11_copy_92 (n1 : Nat) (x1 : Int32) (x2 : Int32) (x3 : Int32) (x4 : Int32) (x5 : Int32) (x6 : Int32) (m : pj_M) : pj_run tb_X11_copy [(92, C_X11_copy_92 (H_X11_copy_92 n1)), (129, C_X11_copy_129 (H_X11_copy_129  pj_z))] 97 92 [some (.inr (.inr (0, 11, 72))), some (.inl x1), some (.inl x2), some (.inl x3), some (.inl x4), some (.inl x5), some (.inl x6)] [] m = H_X11_copy_92 (n1 + 1) x1 x2 x3 x4 x5 x6 m := by rfl
theorem sg_X11_copy_92 {G : pj_E} {A : Nat → Prop} {P : pj_P} {S : pj_U} {Z : pj_Z} (C : pj_C (G, A, (c_X11_copy, y_X11_copy.cls, 7, (some .int), 3), P, S, Z)) : ∀ n1, pj_G (G, A, (c_X11_copy, y_X11_copy.cls, 7, (some .int), 3), P, S, Z) pj_eI 92 (C_X11_copy_92 (H_X11_copy_92 n1)) := by
  intro n1
  induction n1 with
  | zero =>
    intro L st m r h hR
    unfold C_X11_copy_92 at h
    split at h
    · split at h
      · cases h
      · cases h
    · cases h
  | succ n1 ih1 =>
    intro L st m r h hR
    unfold C_X11_copy_92 at h
    split at h
    · split at h
      · rename_i hbq
        simp only [Bool.and_eq_true, Nat.beq_eq] at hbq
        obtain ⟨rfl, rfl, rfl⟩ := hbq
        exact pj_run_ok (sd_X11_copy C) (List.forall_mem_cons.mpr ⟨ih1, List.forall_mem_cons.mpr ⟨sg_X11_copy_129 C  pj_z, fun q h => by cases h⟩⟩) 97 92 _ _ _ _ ((eq_X11_copy_92 _ _ _ _ _ _ _ _).trans h) hR
      · cases h
    · cases h
set_option maxRecDepth 20000 in
theorem eq_X11_copy (x1 : Int32) (x2 : Int32) (x3 : Int32) (x4 : Int32) (x5 : Int32) (m : pj_M) : pj_run tb_X11_copy [(92, C_X11_copy_92 (H_X11_copy_92  pj_z))] 97 0 [some (.inr (.inr (0, 11, 72))), some (.inl x1), some (.inl x2), some (.inl x3), some (.inl x4), some (.inl x5), none] [] m = F_X11_copy x1 x2 x3 x4 x5 m := by rfl
theorem ct_X11_copy : pj_Ct pj_eI y_X11_copy c_X11_copy 7 (some .int) 3 W_X11_copy := by
  refine pj_ct_of (by decide +kernel) ?_ ?_
  · intro as m r h
    unfold W_X11_copy at h
    split at h
    · simp [pj_l0]
    · cases h
  · intro G A P S Z C as m r h hR
    unfold W_X11_copy at h
    split at h
    · split at h
      · rename_i hbq
        simp only [Bool.and_eq_true, Nat.beq_eq] at hbq
        obtain ⟨rfl, rfl, rfl⟩ := hbq
        exact pj_run_ok (sd_X11_copy C) (List.forall_mem_cons.mpr ⟨sg_X11_copy_92 C  pj_z, fun q h => by cases h⟩) 97 0 _ _ _ _ ((eq_X11_copy _ _ _ _ _ _).trans h) hR
      · cases h
    · cases h
/-! AlikeStepsModel.drop(I)I -/
abbrev c_X11_drop : ByteArray := prog_13_method_16_code
def y_X11_drop : MethodName := ⟨RX11, "drop", "(I)I"⟩
noncomputable def F_X11_drop (x1 : Int32) (m : pj_M) : Option (Int32 × pj_M) := ((F_X11_isRow x1 m).bind fun q1 => (if q1.1 = 0 then (some ((-1000001), q1.2)) else ((F_X11_isMissing x1 q1.2).bind fun q2 => (if q2.1 = 0 then (if x1 < 0 ∨ 8 ≤ x1.toNatClampNeg then none else (if x1 < 0 ∨ 8 ≤ x1.toNatClampNeg then none else ((F_X11_well ((pj_wr q2.2 73 x1.toNatClampNeg (-1000000)).1 74 x1.toNatClampNeg) (pj_wr q2.2 73 x1.toNatClampNeg (-1000000))).bind fun q3 => (some (q3.1, q3.2))))) else ((F_X11_found 1 q2.2).bind fun q4 => (some (q4.1, q4.2)))))))
noncomputable def W_X11_drop : List pj_V → pj_M → Option (Int32 × pj_M) := fun as m => match as with
  | [.inr (.inr (t0, w0, a0)), .inl x1] => (match Nat.beq t0 0 && (Nat.beq w0 11 && (Nat.beq a0 72)) with
    | true => F_X11_drop x1 m
    | false => none)
  | _ => none
noncomputable def tb_X11_drop_0 : List (Nat × pj_T (Int32 × pj_M)) := [(0, qs_ldi 1 1), (1, qs_sI 1 W_X11_isRow 4), (4, qs_ifne 10 7), (7, qs_ci (-1000001) 9), (9, qs_iret), (10, qs_lda 0 11), (11, qs_ldi 1 12), (12, qs_vI 11 2 W_X11_isMissing 15), (15, qs_ifeq 24 18), (18, qs_lda 0 19), (19, qs_ci 1 20), (20, qs_vI 11 2 W_X11_found 23), (23, qs_iret), (24, qs_lda 0 25), (25, qs_gf 11 0 28), (28, qs_ldi 1 29), (29, qs_ci (-1000000) 31), (31, qs_iast 32), (32, qs_lda 0 33), (33, qs_lda 0 34), (34, qs_gf 11 1 37), (37, qs_ldi 1 38), (38, qs_iald 39), (39, qs_vI 11 2 W_X11_well 42), (42, qs_iret)]
noncomputable abbrev tb_X11_drop : List (Nat × pj_T (Int32 × pj_M)) := tb_X11_drop_0
theorem mv_X11_drop : pj_mv y_X11_drop c_X11_drop 2 (some .int) 1 := ⟨⟨cw_1161, cw_1159, cw_1160, cw_92⟩, by decide +kernel, by decide⟩
set_option maxRecDepth 20000 in
theorem sd_X11_drop_0 {G : pj_E} {A : Nat → Prop} {P : pj_P} {S : pj_U} {Z : pj_Z} (C : pj_C (G, A, (c_X11_drop, y_X11_drop.cls, 2, (some .int), 3), P, S, Z)) : ∀ q ∈ tb_X11_drop_0, pj_S (G, A, (c_X11_drop, y_X11_drop.cls, 2, (some .int), 3), P, S, Z) pj_eI q.1 q.2 :=
  List.forall_mem_cons.mpr ⟨qz_iload_n C (show decode c_X11_drop 0 = .ok (.iload_n 1, 1) by decide +kernel) rfl,
  List.forall_mem_cons.mpr ⟨qz_sI C (show decode c_X11_drop 1 = .ok (.invokestatic 88, 3) by decide +kernel) ct_X11_isRow mv_X11_isRow (Or.inl cw_1123) (show 2 < 3 by omega),
  List.forall_mem_cons.mpr ⟨qz_ifne C (show decode c_X11_drop 4 = .ok (.ifCond .ne 6, 3) by decide +kernel) (by decide),
  List.forall_mem_cons.mpr ⟨qz_ldc C (show decode c_X11_drop 7 = .ok (.ldc 92, 2) by decide +kernel) cw_1129,
  List.forall_mem_cons.mpr ⟨qz_iret C (show decode c_X11_drop 9 = .ok (.ireturn, 1) by decide +kernel) rfl,
  List.forall_mem_cons.mpr ⟨qz_aload_n C (show decode c_X11_drop 10 = .ok (.aload_n 0, 1) by decide +kernel) rfl,
  List.forall_mem_cons.mpr ⟨qz_iload_n C (show decode c_X11_drop 11 = .ok (.iload_n 1, 1) by decide +kernel) rfl,
  List.forall_mem_cons.mpr ⟨qz_vI C (show decode c_X11_drop 12 = .ok (.invokevirtual 100, 3) by decide +kernel) ct_X11_isMissing mv_X11_isMissing cw_1143 vcX11 (show 1 < 3 by omega),
  List.forall_mem_cons.mpr ⟨qz_ifeq C (show decode c_X11_drop 15 = .ok (.ifCond .eq 9, 3) by decide +kernel) (by decide),
  List.forall_mem_cons.mpr ⟨qz_aload_n C (show decode c_X11_drop 18 = .ok (.aload_n 0, 1) by decide +kernel) rfl,
  List.forall_mem_cons.mpr ⟨qz_iconst C (show decode c_X11_drop 19 = .ok (.iconst 1, 1) by decide +kernel) (by decide +kernel),
  List.forall_mem_cons.mpr ⟨qz_vI C (show decode c_X11_drop 20 = .ok (.invokevirtual 93, 3) by decide +kernel) ct_X11_found mv_X11_found cw_1130 vcX11 (show 1 < 3 by omega),
  List.forall_mem_cons.mpr ⟨qz_iret C (show decode c_X11_drop 23 = .ok (.ireturn, 1) by decide +kernel) rfl,
  List.forall_mem_cons.mpr ⟨qz_aload_n C (show decode c_X11_drop 24 = .ok (.aload_n 0, 1) by decide +kernel) rfl,
  List.forall_mem_cons.mpr ⟨qz_gf (k := 0) C (show decode c_X11_drop 25 = .ok (.getfield 7, 3) by decide +kernel) vcX11 wiX11 (by decide) cw_1018,
  List.forall_mem_cons.mpr ⟨qz_iload_n C (show decode c_X11_drop 28 = .ok (.iload_n 1, 1) by decide +kernel) rfl,
  List.forall_mem_cons.mpr ⟨qz_ldc C (show decode c_X11_drop 29 = .ok (.ldc 78, 2) by decide +kernel) cw_1017,
  List.forall_mem_cons.mpr ⟨qz_iast C (show decode c_X11_drop 31 = .ok (.iastore, 1) by decide +kernel),
  List.forall_mem_cons.mpr ⟨qz_aload_n C (show decode c_X11_drop 32 = .ok (.aload_n 0, 1) by decide +kernel) rfl,
  List.forall_mem_cons.mpr ⟨qz_aload_n C (show decode c_X11_drop 33 = .ok (.aload_n 0, 1) by decide +kernel) rfl,
  List.forall_mem_cons.mpr ⟨qz_gf (k := 1) C (show decode c_X11_drop 34 = .ok (.getfield 13, 3) by decide +kernel) vcX11 wiX11 (by decide) cw_1019,
  List.forall_mem_cons.mpr ⟨qz_iload_n C (show decode c_X11_drop 37 = .ok (.iload_n 1, 1) by decide +kernel) rfl,
  List.forall_mem_cons.mpr ⟨qz_iald C (show decode c_X11_drop 38 = .ok (.iaload, 1) by decide +kernel),
  List.forall_mem_cons.mpr ⟨qz_vI C (show decode c_X11_drop 39 = .ok (.invokevirtual 97, 3) by decide +kernel) ct_X11_well mv_X11_well cw_1135 vcX11 (show 1 < 3 by omega),
  List.forall_mem_cons.mpr ⟨qz_iret C (show decode c_X11_drop 42 = .ok (.ireturn, 1) by decide +kernel) rfl,
  (fun q h => by cases h)⟩⟩⟩⟩⟩⟩⟩⟩⟩⟩⟩⟩⟩⟩⟩⟩⟩⟩⟩⟩⟩⟩⟩⟩⟩
theorem sd_X11_drop {G : pj_E} {A : Nat → Prop} {P : pj_P} {S : pj_U} {Z : pj_Z} (C : pj_C (G, A, (c_X11_drop, y_X11_drop.cls, 2, (some .int), 3), P, S, Z)) : ∀ q ∈ tb_X11_drop, pj_S (G, A, (c_X11_drop, y_X11_drop.cls, 2, (some .int), 3), P, S, Z) pj_eI q.1 q.2 := sd_X11_drop_0 C
set_option maxRecDepth 20000 in
theorem eq_X11_drop (x1 : Int32) (m : pj_M) : pj_run tb_X11_drop [] 27 0 [some (.inr (.inr (0, 11, 72))), some (.inl x1)] [] m = F_X11_drop x1 m := by rfl
theorem ct_X11_drop : pj_Ct pj_eI y_X11_drop c_X11_drop 2 (some .int) 3 W_X11_drop := by
  refine pj_ct_of (by decide +kernel) ?_ ?_
  · intro as m r h
    unfold W_X11_drop at h
    split at h
    · simp [pj_l0]
    · cases h
  · intro G A P S Z C as m r h hR
    unfold W_X11_drop at h
    split at h
    · split at h
      · rename_i hbq
        simp only [Bool.and_eq_true, Nat.beq_eq] at hbq
        obtain ⟨rfl, rfl, rfl⟩ := hbq
        exact pj_run_ok (sd_X11_drop C) (fun q h => by cases h) 27 0 _ _ _ _ ((eq_X11_drop _ _).trans h) hR
      · cases h
    · cases h
/-! AlikeStepsModel.feed(I)I -/
abbrev c_X11_feed : ByteArray := prog_13_method_17_code
def y_X11_feed : MethodName := ⟨RX11, "feed", "(I)I"⟩
noncomputable def F_X11_feed (x1 : Int32) (m : pj_M) : Option (Int32 × pj_M) := ((F_X11_in x1 0 255 m).bind fun q1 => (if q1.1 = 0 then (some ((-1000001), q1.2)) else (if (q1.2.1 72 6) = 140 then (some ((-1000003), q1.2)) else (if (q1.2.1 72 6) < 0 ∨ 140 ≤ (q1.2.1 72 6).toNatClampNeg then none else (some ((pj_wr (pj_wr q1.2 77 (q1.2.1 72 6).toNatClampNeg x1) 72 6 (((pj_wr q1.2 77 (q1.2.1 72 6).toNatClampNeg x1).1 72 6) + 1)).1 72 6, (pj_wr (pj_wr q1.2 77 (q1.2.1 72 6).toNatClampNeg x1) 72 6 (((pj_wr q1.2 77 (q1.2.1 72 6).toNatClampNeg x1).1 72 6) + 1))))))))
noncomputable def W_X11_feed : List pj_V → pj_M → Option (Int32 × pj_M) := fun as m => match as with
  | [.inr (.inr (t0, w0, a0)), .inl x1] => (match Nat.beq t0 0 && (Nat.beq w0 11 && (Nat.beq a0 72)) with
    | true => F_X11_feed x1 m
    | false => none)
  | _ => none
noncomputable def tb_X11_feed_0 : List (Nat × pj_T (Int32 × pj_M)) := [(0, qs_ldi 1 1), (1, qs_ci 0 2), (2, qs_ci 255 5), (5, qs_sI 3 W_X11_in 8), (8, qs_ifne 14 11), (11, qs_ci (-1000001) 13), (13, qs_iret), (14, qs_lda 0 15), (15, qs_gf 11 6 18), (18, qs_ci 140 21), (21, qs_icne 27 24), (24, qs_ci (-1000003) 26), (26, qs_iret), (27, qs_lda 0 28), (28, qs_gf 11 5 31), (31, qs_lda 0 32), (32, qs_gf 11 6 35), (35, qs_ldi 1 36), (36, qs_iast 37), (37, qs_lda 0 38), (38, qs_dup 39), (39, qs_gf 11 6 42), (42, qs_ci 1 43), (43, qs_b2 (fun x y => x + y) 44), (44, qs_pf 11 6 47), (47, qs_lda 0 48), (48, qs_gf 11 6 51), (51, qs_iret)]
noncomputable abbrev tb_X11_feed : List (Nat × pj_T (Int32 × pj_M)) := tb_X11_feed_0
theorem mv_X11_feed : pj_mv y_X11_feed c_X11_feed 2 (some .int) 1 := ⟨⟨cw_1165, cw_1163, cw_1164, cw_92⟩, by decide +kernel, by decide⟩
set_option maxRecDepth 20000 in
theorem sd_X11_feed_0 {G : pj_E} {A : Nat → Prop} {P : pj_P} {S : pj_U} {Z : pj_Z} (C : pj_C (G, A, (c_X11_feed, y_X11_feed.cls, 2, (some .int), 2), P, S, Z)) : ∀ q ∈ tb_X11_feed_0, pj_S (G, A, (c_X11_feed, y_X11_feed.cls, 2, (some .int), 2), P, S, Z) pj_eI q.1 q.2 :=
  List.forall_mem_cons.mpr ⟨qz_iload_n C (show decode c_X11_feed 0 = .ok (.iload_n 1, 1) by decide +kernel) rfl,
  List.forall_mem_cons.mpr ⟨qz_iconst C (show decode c_X11_feed 1 = .ok (.iconst 0, 1) by decide +kernel) (by decide +kernel),
  List.forall_mem_cons.mpr ⟨qz_sipush C (show decode c_X11_feed 2 = .ok (.sipush 255, 3) by decide +kernel) (by decide +kernel),
  List.forall_mem_cons.mpr ⟨qz_sI C (show decode c_X11_feed 5 = .ok (.invokestatic 84, 3) by decide +kernel) ct_X11_in mv_X11_in (Or.inl cw_1126) (show 1 < 2 by omega),
  List.forall_mem_cons.mpr ⟨qz_ifne C (show decode c_X11_feed 8 = .ok (.ifCond .ne 6, 3) by decide +kernel) (by decide),
  List.forall_mem_cons.mpr ⟨qz_ldc C (show decode c_X11_feed 11 = .ok (.ldc 92, 2) by decide +kernel) cw_1129,
  List.forall_mem_cons.mpr ⟨qz_iret C (show decode c_X11_feed 13 = .ok (.ireturn, 1) by decide +kernel) rfl,
  List.forall_mem_cons.mpr ⟨qz_aload_n C (show decode c_X11_feed 14 = .ok (.aload_n 0, 1) by decide +kernel) rfl,
  List.forall_mem_cons.mpr ⟨qz_gf (k := 6) C (show decode c_X11_feed 15 = .ok (.getfield 110, 3) by decide +kernel) vcX11 wiX11 (by decide) cw_1024,
  List.forall_mem_cons.mpr ⟨qz_sipush C (show decode c_X11_feed 18 = .ok (.sipush 140, 3) by decide +kernel) (by decide +kernel),
  List.forall_mem_cons.mpr ⟨qz_icne C (show decode c_X11_feed 21 = .ok (.if_icmp .ne 6, 3) by decide +kernel) (by decide),
  List.forall_mem_cons.mpr ⟨qz_ldc C (show decode c_X11_feed 24 = .ok (.ldc 113, 2) by decide +kernel) cw_1166,
  List.forall_mem_cons.mpr ⟨qz_iret C (show decode c_X11_feed 26 = .ok (.ireturn, 1) by decide +kernel) rfl,
  List.forall_mem_cons.mpr ⟨qz_aload_n C (show decode c_X11_feed 27 = .ok (.aload_n 0, 1) by decide +kernel) rfl,
  List.forall_mem_cons.mpr ⟨qz_gf (k := 5) C (show decode c_X11_feed 28 = .ok (.getfield 22, 3) by decide +kernel) vcX11 wiX11 (by decide) cw_1023,
  List.forall_mem_cons.mpr ⟨qz_aload_n C (show decode c_X11_feed 31 = .ok (.aload_n 0, 1) by decide +kernel) rfl,
  List.forall_mem_cons.mpr ⟨qz_gf (k := 6) C (show decode c_X11_feed 32 = .ok (.getfield 110, 3) by decide +kernel) vcX11 wiX11 (by decide) cw_1024,
  List.forall_mem_cons.mpr ⟨qz_iload_n C (show decode c_X11_feed 35 = .ok (.iload_n 1, 1) by decide +kernel) rfl,
  List.forall_mem_cons.mpr ⟨qz_iast C (show decode c_X11_feed 36 = .ok (.iastore, 1) by decide +kernel),
  List.forall_mem_cons.mpr ⟨qz_aload_n C (show decode c_X11_feed 37 = .ok (.aload_n 0, 1) by decide +kernel) rfl,
  List.forall_mem_cons.mpr ⟨qz_dup C (show decode c_X11_feed 38 = .ok (.dup, 1) by decide +kernel),
  List.forall_mem_cons.mpr ⟨qz_gf (k := 6) C (show decode c_X11_feed 39 = .ok (.getfield 110, 3) by decide +kernel) vcX11 wiX11 (by decide) cw_1024,
  List.forall_mem_cons.mpr ⟨qz_iconst C (show decode c_X11_feed 42 = .ok (.iconst 1, 1) by decide +kernel) (by decide +kernel),
  List.forall_mem_cons.mpr ⟨qz_iadd C (show decode c_X11_feed 43 = .ok (.iadd, 1) by decide +kernel),
  List.forall_mem_cons.mpr ⟨qz_pf (k := 6) C (show decode c_X11_feed 44 = .ok (.putfield 110, 3) by decide +kernel) vcX11 wiX11 tyX11_ok nmX11 (by decide) cw_1024 rfl rfl,
  List.forall_mem_cons.mpr ⟨qz_aload_n C (show decode c_X11_feed 47 = .ok (.aload_n 0, 1) by decide +kernel) rfl,
  List.forall_mem_cons.mpr ⟨qz_gf (k := 6) C (show decode c_X11_feed 48 = .ok (.getfield 110, 3) by decide +kernel) vcX11 wiX11 (by decide) cw_1024,
  List.forall_mem_cons.mpr ⟨qz_iret C (show decode c_X11_feed 51 = .ok (.ireturn, 1) by decide +kernel) rfl,
  (fun q h => by cases h)⟩⟩⟩⟩⟩⟩⟩⟩⟩⟩⟩⟩⟩⟩⟩⟩⟩⟩⟩⟩⟩⟩⟩⟩⟩⟩⟩⟩
theorem sd_X11_feed {G : pj_E} {A : Nat → Prop} {P : pj_P} {S : pj_U} {Z : pj_Z} (C : pj_C (G, A, (c_X11_feed, y_X11_feed.cls, 2, (some .int), 2), P, S, Z)) : ∀ q ∈ tb_X11_feed, pj_S (G, A, (c_X11_feed, y_X11_feed.cls, 2, (some .int), 2), P, S, Z) pj_eI q.1 q.2 := sd_X11_feed_0 C
set_option maxRecDepth 20000 in
theorem eq_X11_feed (x1 : Int32) (m : pj_M) : pj_run tb_X11_feed [] 30 0 [some (.inr (.inr (0, 11, 72))), some (.inl x1)] [] m = F_X11_feed x1 m := by rfl
theorem ct_X11_feed : pj_Ct pj_eI y_X11_feed c_X11_feed 2 (some .int) 2 W_X11_feed := by
  refine pj_ct_of (by decide +kernel) ?_ ?_
  · intro as m r h
    unfold W_X11_feed at h
    split at h
    · simp [pj_l0]
    · cases h
  · intro G A P S Z C as m r h hR
    unfold W_X11_feed at h
    split at h
    · split at h
      · rename_i hbq
        simp only [Bool.and_eq_true, Nat.beq_eq] at hbq
        obtain ⟨rfl, rfl, rfl⟩ := hbq
        exact pj_run_ok (sd_X11_feed C) (fun q h => by cases h) 30 0 _ _ _ _ ((eq_X11_feed _ _).trans h) hR
      · cases h
    · cases h
/-! AlikeStepsModel.byteAt(I)I -/
abbrev c_X11_byteAt : ByteArray := prog_13_method_18_code
def y_X11_byteAt : MethodName := ⟨RX11, "byteAt", "(I)I"⟩
noncomputable def F_X11_byteAt (x1 : Int32) (m : pj_M) : Option (Int32 × pj_M) := (if x1 < (m.1 72 6) then (if x1 < 0 ∨ 140 ≤ x1.toNatClampNeg then none else (some (m.1 77 x1.toNatClampNeg, m))) else (some ((-1), m)))
noncomputable def W_X11_byteAt : List pj_V → pj_M → Option (Int32 × pj_M) := fun as m => match as with
  | [.inr (.inr (t0, w0, a0)), .inl x1] => (match Nat.beq t0 0 && (Nat.beq w0 11 && (Nat.beq a0 72)) with
    | true => F_X11_byteAt x1 m
    | false => none)
  | _ => none
noncomputable def tb_X11_byteAt_0 : List (Nat × pj_T (Int32 × pj_M)) := [(0, qs_ldi 1 1), (1, qs_lda 0 2), (2, qs_gf 11 6 5), (5, qs_icge 17 8), (8, qs_lda 0 9), (9, qs_gf 11 5 12), (12, qs_ldi 1 13), (13, qs_iald 14), (14, qs_go 18), (17, qs_ci (-1) 18), (18, qs_iret)]
noncomputable abbrev tb_X11_byteAt : List (Nat × pj_T (Int32 × pj_M)) := tb_X11_byteAt_0
theorem mv_X11_byteAt : pj_mv y_X11_byteAt c_X11_byteAt 2 (some .int) 1 := ⟨⟨cw_1178, cw_1177, cw_37, cw_92⟩, by decide +kernel, by decide⟩
set_option maxRecDepth 20000 in
theorem sd_X11_byteAt_0 {G : pj_E} {A : Nat → Prop} {P : pj_P} {S : pj_U} {Z : pj_Z} (C : pj_C (G, A, (c_X11_byteAt, y_X11_byteAt.cls, 2, (some .int), 1), P, S, Z)) : ∀ q ∈ tb_X11_byteAt_0, pj_S (G, A, (c_X11_byteAt, y_X11_byteAt.cls, 2, (some .int), 1), P, S, Z) pj_eI q.1 q.2 :=
  List.forall_mem_cons.mpr ⟨qz_iload_n C (show decode c_X11_byteAt 0 = .ok (.iload_n 1, 1) by decide +kernel) rfl,
  List.forall_mem_cons.mpr ⟨qz_aload_n C (show decode c_X11_byteAt 1 = .ok (.aload_n 0, 1) by decide +kernel) rfl,
  List.forall_mem_cons.mpr ⟨qz_gf (k := 6) C (show decode c_X11_byteAt 2 = .ok (.getfield 110, 3) by decide +kernel) vcX11 wiX11 (by decide) cw_1024,
  List.forall_mem_cons.mpr ⟨qz_icge C (show decode c_X11_byteAt 5 = .ok (.if_icmp .ge 12, 3) by decide +kernel) (by decide),
  List.forall_mem_cons.mpr ⟨qz_aload_n C (show decode c_X11_byteAt 8 = .ok (.aload_n 0, 1) by decide +kernel) rfl,
  List.forall_mem_cons.mpr ⟨qz_gf (k := 5) C (show decode c_X11_byteAt 9 = .ok (.getfield 22, 3) by decide +kernel) vcX11 wiX11 (by decide) cw_1023,
  List.forall_mem_cons.mpr ⟨qz_iload_n C (show decode c_X11_byteAt 12 = .ok (.iload_n 1, 1) by decide +kernel) rfl,
  List.forall_mem_cons.mpr ⟨qz_iald C (show decode c_X11_byteAt 13 = .ok (.iaload, 1) by decide +kernel),
  List.forall_mem_cons.mpr ⟨qz_goto C (show decode c_X11_byteAt 14 = .ok (.goto 4, 3) by decide +kernel) (by decide),
  List.forall_mem_cons.mpr ⟨qz_iconst C (show decode c_X11_byteAt 17 = .ok (.iconst (-1), 1) by decide +kernel) (by decide +kernel),
  List.forall_mem_cons.mpr ⟨qz_iret C (show decode c_X11_byteAt 18 = .ok (.ireturn, 1) by decide +kernel) rfl,
  (fun q h => by cases h)⟩⟩⟩⟩⟩⟩⟩⟩⟩⟩⟩
theorem sd_X11_byteAt {G : pj_E} {A : Nat → Prop} {P : pj_P} {S : pj_U} {Z : pj_Z} (C : pj_C (G, A, (c_X11_byteAt, y_X11_byteAt.cls, 2, (some .int), 1), P, S, Z)) : ∀ q ∈ tb_X11_byteAt, pj_S (G, A, (c_X11_byteAt, y_X11_byteAt.cls, 2, (some .int), 1), P, S, Z) pj_eI q.1 q.2 := sd_X11_byteAt_0 C
set_option maxRecDepth 20000 in
theorem eq_X11_byteAt (x1 : Int32) (m : pj_M) : pj_run tb_X11_byteAt [] 13 0 [some (.inr (.inr (0, 11, 72))), some (.inl x1)] [] m = F_X11_byteAt x1 m := by rfl
theorem ct_X11_byteAt : pj_Ct pj_eI y_X11_byteAt c_X11_byteAt 2 (some .int) 1 W_X11_byteAt := by
  refine pj_ct_of (by decide +kernel) ?_ ?_
  · intro as m r h
    unfold W_X11_byteAt at h
    split at h
    · simp [pj_l0]
    · cases h
  · intro G A P S Z C as m r h hR
    unfold W_X11_byteAt at h
    split at h
    · split at h
      · rename_i hbq
        simp only [Bool.and_eq_true, Nat.beq_eq] at hbq
        obtain ⟨rfl, rfl, rfl⟩ := hbq
        exact pj_run_ok (sd_X11_byteAt C) (fun q h => by cases h) 13 0 _ _ _ _ ((eq_X11_byteAt _ _).trans h) hR
      · cases h
    · cases h
/-! AlikeStepsModel.advances()V -/
abbrev c_X11_advances : ByteArray := prog_13_method_19_code
def y_X11_advances : MethodName := ⟨RX11, "advances", "()V"⟩
noncomputable def J_X11_advances_180 (s1 : Int32) (m : pj_M) : Option (pj_M) := (if ((pj_wr m 72 11 s1).1 72 11) = 0 then (some (pj_wr (pj_wr m 72 11 s1) 72 9 (((pj_wr m 72 11 s1).1 72 9) + 0))) else (some (pj_wr (pj_wr m 72 11 s1) 72 9 (((pj_wr m 72 11 s1).1 72 9) + 1))))
noncomputable def J_X11_advances_112 (m : pj_M) : Option (pj_M) := (if ((m.1 72 9) - (m.1 72 10)) < 3 then (some (pj_wr m 72 11 2)) else (some (pj_wr m 72 11 5)))
noncomputable def H_X11_advances_38 : Nat → pj_M → Option (pj_M)
  | 0, _ => none
  | n1 + 1, m => ((F_X11_byteAt (m.1 72 9) m).bind fun q1 => ((F_X11_in q1.1 48 57 q1.2).bind fun q2 => (if q2.1 = 0 then (J_X11_advances_112 q2.2) else (if ((q2.2.1 72 9) - (q2.2.1 72 10)) < 2 then ((F_X11_byteAt (q2.2.1 72 9) q2.2).bind fun q3 => (H_X11_advances_38 n1 (pj_wr (pj_wr q3.2 72 12 (((10 * (q2.2.1 72 12)) + q3.1) - 48)) 72 9 (((pj_wr q3.2 72 12 (((10 * (q2.2.1 72 12)) + q3.1) - 48)).1 72 9) + 1)))) else (H_X11_advances_38 n1 (pj_wr (pj_wr q2.2 72 12 (q2.2.1 72 12)) 72 9 (((pj_wr q2.2 72 12 (q2.2.1 72 12)).1 72 9) + 1)))))))
noncomputable def F_X11_advances (m : pj_M) : Option (pj_M) := ((F_X11_byteAt ((pj_wr m 72 10 (m.1 72 9)).1 72 9) (pj_wr m 72 10 (m.1 72 9))).bind fun q1 => ((F_X11_in q1.1 48 57 (pj_wr q1.2 72 12 q1.1)).bind fun q2 => (if q2.1 = 0 then (if q1.1 < 0 then (J_X11_advances_180 0 q2.2) else ((F_X11_in q1.1 97 122 q2.2).bind fun q3 => (if q3.1 = 0 then (if q1.1 = 44 then (J_X11_advances_180 3 q3.2) else (if q1.1 = 59 then (J_X11_advances_180 4 q3.2) else (J_X11_advances_180 5 q3.2))) else (J_X11_advances_180 1 q3.2)))) else (H_X11_advances_38 pj_z (pj_wr q2.2 72 12 0)))))
noncomputable def W_X11_advances : List pj_V → pj_M → Option (pj_M) := fun as m => match as with
  | [.inr (.inr (t0, w0, a0))] => (match Nat.beq t0 0 && (Nat.beq w0 11 && (Nat.beq a0 72)) with
    | true => F_X11_advances m
    | false => none)
  | _ => none
noncomputable def tb_X11_advances_0 : List (Nat × pj_T (pj_M)) := [(0, qs_lda 0 1), (1, qs_lda 0 2), (2, qs_gf 11 9 5), (5, qs_pf 11 10 8), (8, qs_lda 0 9), (9, qs_lda 0 10), (10, qs_gf 11 9 13), (13, qs_vI 11 2 W_X11_byteAt 16), (16, qs_sti 1 17), (17, qs_lda 0 18), (18, qs_ldi 1 19), (19, qs_pf 11 12 22), (22, qs_ldi 1 23), (23, qs_ci 48 25), (25, qs_ci 57 27), (27, qs_sI 3 W_X11_in 30), (30, qs_ifeq 135 33), (33, qs_lda 0 34), (34, qs_ci 0 35), (35, qs_pf 11 12 38), (38, qs_lda 0 39), (39, qs_lda 0 40), (40, qs_gf 11 9 43), (43, qs_vI 11 2 W_X11_byteAt 46), (46, qs_ci 48 48), (48, qs_ci 57 50), (50, qs_sI 3 W_X11_in 53), (53, qs_ifeq 112 56), (56, qs_lda 0 57), (57, qs_lda 0 58), (58, qs_gf 11 9 61), (61, qs_lda 0 62), (62, qs_gf 11 10 65), (65, qs_b2 (fun x y => x - y) 66), (66, qs_ci 2 67), (67, qs_icge 92 70), (70, qs_ci 10 72), (72, qs_lda 0 73), (73, qs_gf 11 12 76), (76, qs_b2 (fun x y => x * y) 77)]
noncomputable def tb_X11_advances_1 : List (Nat × pj_T (pj_M)) := [(77, qs_lda 0 78), (78, qs_lda 0 79), (79, qs_gf 11 9 82), (82, qs_vI 11 2 W_X11_byteAt 85), (85, qs_b2 (fun x y => x + y) 86), (86, qs_ci 48 88), (88, qs_b2 (fun x y => x - y) 89), (89, qs_go 96), (92, qs_lda 0 93), (93, qs_gf 11 12 96), (96, qs_pf 11 12 99), (99, qs_lda 0 100), (100, qs_dup 101), (101, qs_gf 11 9 104), (104, qs_ci 1 105), (105, qs_b2 (fun x y => x + y) 106), (106, qs_pf 11 9 109), (109, qs_go 38), (112, qs_lda 0 113), (113, qs_lda 0 114), (114, qs_gf 11 9 117), (117, qs_lda 0 118), (118, qs_gf 11 10 121), (121, qs_b2 (fun x y => x - y) 122), (122, qs_ci 3 123), (123, qs_icge 130 126), (126, qs_ci 2 127), (127, qs_go 131), (130, qs_ci 5 131), (131, qs_pf 11 11 134), (134, qs_vret), (135, qs_lda 0 136), (136, qs_ldi 1 137), (137, qs_ifge 144 140), (140, qs_ci 0 141), (141, qs_go 180), (144, qs_ldi 1 145), (145, qs_ci 97 147), (147, qs_ci 122 149), (149, qs_sI 3 W_X11_in 152)]
noncomputable def tb_X11_advances_2 : List (Nat × pj_T (pj_M)) := [(152, qs_ifeq 159 155), (155, qs_ci 1 156), (156, qs_go 180), (159, qs_ldi 1 160), (160, qs_ci 44 162), (162, qs_icne 169 165), (165, qs_ci 3 166), (166, qs_go 180), (169, qs_ldi 1 170), (170, qs_ci 59 172), (172, qs_icne 179 175), (175, qs_ci 4 176), (176, qs_go 180), (179, qs_ci 5 180), (180, qs_pf 11 11 183), (183, qs_lda 0 184), (184, qs_dup 185), (185, qs_gf 11 9 188), (188, qs_lda 0 189), (189, qs_gf 11 11 192), (192, qs_ifne 199 195), (195, qs_ci 0 196), (196, qs_go 200), (199, qs_ci 1 200), (200, qs_b2 (fun x y => x + y) 201), (201, qs_pf 11 9 204), (204, qs_vret)]
noncomputable def tb_X11_advances : List (Nat × pj_T (pj_M)) := tb_X11_advances_0 ++ (tb_X11_advances_1 ++ (tb_X11_advances_2))
theorem mv_X11_advances : pj_mv y_X11_advances c_X11_advances 2 none 0 := ⟨⟨cw_1174, cw_1173, cw_36, cw_92⟩, by decide +kernel, by decide⟩
set_option maxRecDepth 20000 in
theorem sd_X11_advances_0 {G : pj_E} {A : Nat → Prop} {P : pj_P} {S : pj_U} {Z : pj_Z} (C : pj_C (G, A, (c_X11_advances, y_X11_advances.cls, 2, none, 2), P, S, Z)) : ∀ q ∈ tb_X11_advances_0, pj_S (G, A, (c_X11_advances, y_X11_advances.cls, 2, none, 2), P, S, Z) pj_eV q.1 q.2 :=
  List.forall_mem_cons.mpr ⟨qz_aload_n C (show decode c_X11_advances 0 = .ok (.aload_n 0, 1) by decide +kernel) rfl,
  List.forall_mem_cons.mpr ⟨qz_aload_n C (show decode c_X11_advances 1 = .ok (.aload_n 0, 1) by decide +kernel) rfl,
  List.forall_mem_cons.mpr ⟨qz_gf (k := 9) C (show decode c_X11_advances 2 = .ok (.getfield 114, 3) by decide +kernel) vcX11 wiX11 (by decide) cw_1027,
  List.forall_mem_cons.mpr ⟨qz_pf (k := 10) C (show decode c_X11_advances 5 = .ok (.putfield 117, 3) by decide +kernel) vcX11 wiX11 tyX11_ok nmX11 (by decide) cw_1028 rfl rfl,
  List.forall_mem_cons.mpr ⟨qz_aload_n C (show decode c_X11_advances 8 = .ok (.aload_n 0, 1) by decide +kernel) rfl,
  List.forall_mem_cons.mpr ⟨qz_aload_n C (show decode c_X11_advances 9 = .ok (.aload_n 0, 1) by decide +kernel) rfl,
  List.forall_mem_cons.mpr ⟨qz_gf (k := 9) C (show decode c_X11_advances 10 = .ok (.getfield 114, 3) by decide +kernel) vcX11 wiX11 (by decide) cw_1027,
  List.forall_mem_cons.mpr ⟨qz_vI C (show decode c_X11_advances 13 = .ok (.invokevirtual 120, 3) by decide +kernel) ct_X11_byteAt mv_X11_byteAt cw_1175 vcX11 (show 1 < 2 by omega),
  List.forall_mem_cons.mpr ⟨qz_istore_n C (show decode c_X11_advances 16 = .ok (.istore_n 1, 1) by decide +kernel) rfl,
  List.forall_mem_cons.mpr ⟨qz_aload_n C (show decode c_X11_advances 17 = .ok (.aload_n 0, 1) by decide +kernel) rfl,
  List.forall_mem_cons.mpr ⟨qz_iload_n C (show decode c_X11_advances 18 = .ok (.iload_n 1, 1) by decide +kernel) rfl,
  List.forall_mem_cons.mpr ⟨qz_pf (k := 12) C (show decode c_X11_advances 19 = .ok (.putfield 123, 3) by decide +kernel) vcX11 wiX11 tyX11_ok nmX11 (by decide) cw_1030 rfl rfl,
  List.forall_mem_cons.mpr ⟨qz_iload_n C (show decode c_X11_advances 22 = .ok (.iload_n 1, 1) by decide +kernel) rfl,
  List.forall_mem_cons.mpr ⟨qz_bipush C (show decode c_X11_advances 23 = .ok (.bipush 48, 2) by decide +kernel) (by decide +kernel),
  List.forall_mem_cons.mpr ⟨qz_bipush C (show decode c_X11_advances 25 = .ok (.bipush 57, 2) by decide +kernel) (by decide +kernel),
  List.forall_mem_cons.mpr ⟨qz_sI C (show decode c_X11_advances 27 = .ok (.invokestatic 84, 3) by decide +kernel) ct_X11_in mv_X11_in (Or.inl cw_1126) (show 1 < 2 by omega),
  List.forall_mem_cons.mpr ⟨qz_ifeq C (show decode c_X11_advances 30 = .ok (.ifCond .eq 105, 3) by decide +kernel) (by decide),
  List.forall_mem_cons.mpr ⟨qz_aload_n C (show decode c_X11_advances 33 = .ok (.aload_n 0, 1) by decide +kernel) rfl,
  List.forall_mem_cons.mpr ⟨qz_iconst C (show decode c_X11_advances 34 = .ok (.iconst 0, 1) by decide +kernel) (by decide +kernel),
  List.forall_mem_cons.mpr ⟨qz_pf (k := 12) C (show decode c_X11_advances 35 = .ok (.putfield 123, 3) by decide +kernel) vcX11 wiX11 tyX11_ok nmX11 (by decide) cw_1030 rfl rfl,
  List.forall_mem_cons.mpr ⟨qz_aload_n C (show decode c_X11_advances 38 = .ok (.aload_n 0, 1) by decide +kernel) rfl,
  List.forall_mem_cons.mpr ⟨qz_aload_n C (show decode c_X11_advances 39 = .ok (.aload_n 0, 1) by decide +kernel) rfl,
  List.forall_mem_cons.mpr ⟨qz_gf (k := 9) C (show decode c_X11_advances 40 = .ok (.getfield 114, 3) by decide +kernel) vcX11 wiX11 (by decide) cw_1027,
  List.forall_mem_cons.mpr ⟨qz_vI C (show decode c_X11_advances 43 = .ok (.invokevirtual 120, 3) by decide +kernel) ct_X11_byteAt mv_X11_byteAt cw_1175 vcX11 (show 1 < 2 by omega),
  List.forall_mem_cons.mpr ⟨qz_bipush C (show decode c_X11_advances 46 = .ok (.bipush 48, 2) by decide +kernel) (by decide +kernel),
  List.forall_mem_cons.mpr ⟨qz_bipush C (show decode c_X11_advances 48 = .ok (.bipush 57, 2) by decide +kernel) (by decide +kernel),
  List.forall_mem_cons.mpr ⟨qz_sI C (show decode c_X11_advances 50 = .ok (.invokestatic 84, 3) by decide +kernel) ct_X11_in mv_X11_in (Or.inl cw_1126) (show 1 < 2 by omega),
  List.forall_mem_cons.mpr ⟨qz_ifeq C (show decode c_X11_advances 53 = .ok (.ifCond .eq 59, 3) by decide +kernel) (by decide),
  List.forall_mem_cons.mpr ⟨qz_aload_n C (show decode c_X11_advances 56 = .ok (.aload_n 0, 1) by decide +kernel) rfl,
  List.forall_mem_cons.mpr ⟨qz_aload_n C (show decode c_X11_advances 57 = .ok (.aload_n 0, 1) by decide +kernel) rfl,
  List.forall_mem_cons.mpr ⟨qz_gf (k := 9) C (show decode c_X11_advances 58 = .ok (.getfield 114, 3) by decide +kernel) vcX11 wiX11 (by decide) cw_1027,
  List.forall_mem_cons.mpr ⟨qz_aload_n C (show decode c_X11_advances 61 = .ok (.aload_n 0, 1) by decide +kernel) rfl,
  List.forall_mem_cons.mpr ⟨qz_gf (k := 10) C (show decode c_X11_advances 62 = .ok (.getfield 117, 3) by decide +kernel) vcX11 wiX11 (by decide) cw_1028,
  List.forall_mem_cons.mpr ⟨qz_isub C (show decode c_X11_advances 65 = .ok (.isub, 1) by decide +kernel),
  List.forall_mem_cons.mpr ⟨qz_iconst C (show decode c_X11_advances 66 = .ok (.iconst 2, 1) by decide +kernel) (by decide +kernel),
  List.forall_mem_cons.mpr ⟨qz_icge C (show decode c_X11_advances 67 = .ok (.if_icmp .ge 25, 3) by decide +kernel) (by decide),
  List.forall_mem_cons.mpr ⟨qz_bipush C (show decode c_X11_advances 70 = .ok (.bipush 10, 2) by decide +kernel) (by decide +kernel),
  List.forall_mem_cons.mpr ⟨qz_aload_n C (show decode c_X11_advances 72 = .ok (.aload_n 0, 1) by decide +kernel) rfl,
  List.forall_mem_cons.mpr ⟨qz_gf (k := 12) C (show decode c_X11_advances 73 = .ok (.getfield 123, 3) by decide +kernel) vcX11 wiX11 (by decide) cw_1030,
  List.forall_mem_cons.mpr ⟨qz_imul C (show decode c_X11_advances 76 = .ok (.imul, 1) by decide +kernel),
  (fun q h => by cases h)⟩⟩⟩⟩⟩⟩⟩⟩⟩⟩⟩⟩⟩⟩⟩⟩⟩⟩⟩⟩⟩⟩⟩⟩⟩⟩⟩⟩⟩⟩⟩⟩⟩⟩⟩⟩⟩⟩⟩⟩
set_option maxRecDepth 20000 in
theorem sd_X11_advances_1 {G : pj_E} {A : Nat → Prop} {P : pj_P} {S : pj_U} {Z : pj_Z} (C : pj_C (G, A, (c_X11_advances, y_X11_advances.cls, 2, none, 2), P, S, Z)) : ∀ q ∈ tb_X11_advances_1, pj_S (G, A, (c_X11_advances, y_X11_advances.cls, 2, none, 2), P, S, Z) pj_eV q.1 q.2 :=
  List.forall_mem_cons.mpr ⟨qz_aload_n C (show decode c_X11_advances 77 = .ok (.aload_n 0, 1) by decide +kernel) rfl,
  List.forall_mem_cons.mpr ⟨qz_aload_n C (show decode c_X11_advances 78 = .ok (.aload_n 0, 1) by decide +kernel) rfl,
  List.forall_mem_cons.mpr ⟨qz_gf (k := 9) C (show decode c_X11_advances 79 = .ok (.getfield 114, 3) by decide +kernel) vcX11 wiX11 (by decide) cw_1027,
  List.forall_mem_cons.mpr ⟨qz_vI C (show decode c_X11_advances 82 = .ok (.invokevirtual 120, 3) by decide +kernel) ct_X11_byteAt mv_X11_byteAt cw_1175 vcX11 (show 1 < 2 by omega),
  List.forall_mem_cons.mpr ⟨qz_iadd C (show decode c_X11_advances 85 = .ok (.iadd, 1) by decide +kernel),
  List.forall_mem_cons.mpr ⟨qz_bipush C (show decode c_X11_advances 86 = .ok (.bipush 48, 2) by decide +kernel) (by decide +kernel),
  List.forall_mem_cons.mpr ⟨qz_isub C (show decode c_X11_advances 88 = .ok (.isub, 1) by decide +kernel),
  List.forall_mem_cons.mpr ⟨qz_goto C (show decode c_X11_advances 89 = .ok (.goto 7, 3) by decide +kernel) (by decide),
  List.forall_mem_cons.mpr ⟨qz_aload_n C (show decode c_X11_advances 92 = .ok (.aload_n 0, 1) by decide +kernel) rfl,
  List.forall_mem_cons.mpr ⟨qz_gf (k := 12) C (show decode c_X11_advances 93 = .ok (.getfield 123, 3) by decide +kernel) vcX11 wiX11 (by decide) cw_1030,
  List.forall_mem_cons.mpr ⟨qz_pf (k := 12) C (show decode c_X11_advances 96 = .ok (.putfield 123, 3) by decide +kernel) vcX11 wiX11 tyX11_ok nmX11 (by decide) cw_1030 rfl rfl,
  List.forall_mem_cons.mpr ⟨qz_aload_n C (show decode c_X11_advances 99 = .ok (.aload_n 0, 1) by decide +kernel) rfl,
  List.forall_mem_cons.mpr ⟨qz_dup C (show decode c_X11_advances 100 = .ok (.dup, 1) by decide +kernel),
  List.forall_mem_cons.mpr ⟨qz_gf (k := 9) C (show decode c_X11_advances 101 = .ok (.getfield 114, 3) by decide +kernel) vcX11 wiX11 (by decide) cw_1027,
  List.forall_mem_cons.mpr ⟨qz_iconst C (show decode c_X11_advances 104 = .ok (.iconst 1, 1) by decide +kernel) (by decide +kernel),
  List.forall_mem_cons.mpr ⟨qz_iadd C (show decode c_X11_advances 105 = .ok (.iadd, 1) by decide +kernel),
  List.forall_mem_cons.mpr ⟨qz_pf (k := 9) C (show decode c_X11_advances 106 = .ok (.putfield 114, 3) by decide +kernel) vcX11 wiX11 tyX11_ok nmX11 (by decide) cw_1027 rfl rfl,
  List.forall_mem_cons.mpr ⟨qz_goto C (show decode c_X11_advances 109 = .ok (.goto (-71), 3) by decide +kernel) (by decide),
  List.forall_mem_cons.mpr ⟨qz_aload_n C (show decode c_X11_advances 112 = .ok (.aload_n 0, 1) by decide +kernel) rfl,
  List.forall_mem_cons.mpr ⟨qz_aload_n C (show decode c_X11_advances 113 = .ok (.aload_n 0, 1) by decide +kernel) rfl,
  List.forall_mem_cons.mpr ⟨qz_gf (k := 9) C (show decode c_X11_advances 114 = .ok (.getfield 114, 3) by decide +kernel) vcX11 wiX11 (by decide) cw_1027,
  List.forall_mem_cons.mpr ⟨qz_aload_n C (show decode c_X11_advances 117 = .ok (.aload_n 0, 1) by decide +kernel) rfl,
  List.forall_mem_cons.mpr ⟨qz_gf (k := 10) C (show decode c_X11_advances 118 = .ok (.getfield 117, 3) by decide +kernel) vcX11 wiX11 (by decide) cw_1028,
  List.forall_mem_cons.mpr ⟨qz_isub C (show decode c_X11_advances 121 = .ok (.isub, 1) by decide +kernel),
  List.forall_mem_cons.mpr ⟨qz_iconst C (show decode c_X11_advances 122 = .ok (.iconst 3, 1) by decide +kernel) (by decide +kernel),
  List.forall_mem_cons.mpr ⟨qz_icge C (show decode c_X11_advances 123 = .ok (.if_icmp .ge 7, 3) by decide +kernel) (by decide),
  List.forall_mem_cons.mpr ⟨qz_iconst C (show decode c_X11_advances 126 = .ok (.iconst 2, 1) by decide +kernel) (by decide +kernel),
  List.forall_mem_cons.mpr ⟨qz_goto C (show decode c_X11_advances 127 = .ok (.goto 4, 3) by decide +kernel) (by decide),
  List.forall_mem_cons.mpr ⟨qz_iconst C (show decode c_X11_advances 130 = .ok (.iconst 5, 1) by decide +kernel) (by decide +kernel),
  List.forall_mem_cons.mpr ⟨qz_pf (k := 11) C (show decode c_X11_advances 131 = .ok (.putfield 126, 3) by decide +kernel) vcX11 wiX11 tyX11_ok nmX11 (by decide) cw_1029 rfl rfl,
  List.forall_mem_cons.mpr ⟨qz_vret C (show decode c_X11_advances 134 = .ok (.return_, 1) by decide +kernel) rfl,
  List.forall_mem_cons.mpr ⟨qz_aload_n C (show decode c_X11_advances 135 = .ok (.aload_n 0, 1) by decide +kernel) rfl,
  List.forall_mem_cons.mpr ⟨qz_iload_n C (show decode c_X11_advances 136 = .ok (.iload_n 1, 1) by decide +kernel) rfl,
  List.forall_mem_cons.mpr ⟨qz_ifge C (show decode c_X11_advances 137 = .ok (.ifCond .ge 7, 3) by decide +kernel) (by decide),
  List.forall_mem_cons.mpr ⟨qz_iconst C (show decode c_X11_advances 140 = .ok (.iconst 0, 1) by decide +kernel) (by decide +kernel),
  List.forall_mem_cons.mpr ⟨qz_goto C (show decode c_X11_advances 141 = .ok (.goto 39, 3) by decide +kernel) (by decide),
  List.forall_mem_cons.mpr ⟨qz_iload_n C (show decode c_X11_advances 144 = .ok (.iload_n 1, 1) by decide +kernel) rfl,
  List.forall_mem_cons.mpr ⟨qz_bipush C (show decode c_X11_advances 145 = .ok (.bipush 97, 2) by decide +kernel) (by decide +kernel),
  List.forall_mem_cons.mpr ⟨qz_bipush C (show decode c_X11_advances 147 = .ok (.bipush 122, 2) by decide +kernel) (by decide +kernel),
  List.forall_mem_cons.mpr ⟨qz_sI C (show decode c_X11_advances 149 = .ok (.invokestatic 84, 3) by decide +kernel) ct_X11_in mv_X11_in (Or.inl cw_1126) (show 1 < 2 by omega),
  (fun q h => by cases h)⟩⟩⟩⟩⟩⟩⟩⟩⟩⟩⟩⟩⟩⟩⟩⟩⟩⟩⟩⟩⟩⟩⟩⟩⟩⟩⟩⟩⟩⟩⟩⟩⟩⟩⟩⟩⟩⟩⟩⟩
set_option maxRecDepth 20000 in
theorem sd_X11_advances_2 {G : pj_E} {A : Nat → Prop} {P : pj_P} {S : pj_U} {Z : pj_Z} (C : pj_C (G, A, (c_X11_advances, y_X11_advances.cls, 2, none, 2), P, S, Z)) : ∀ q ∈ tb_X11_advances_2, pj_S (G, A, (c_X11_advances, y_X11_advances.cls, 2, none, 2), P, S, Z) pj_eV q.1 q.2 :=
  List.forall_mem_cons.mpr ⟨qz_ifeq C (show decode c_X11_advances 152 = .ok (.ifCond .eq 7, 3) by decide +kernel) (by decide),
  List.forall_mem_cons.mpr ⟨qz_iconst C (show decode c_X11_advances 155 = .ok (.iconst 1, 1) by decide +kernel) (by decide +kernel),
  List.forall_mem_cons.mpr ⟨qz_goto C (show decode c_X11_advances 156 = .ok (.goto 24, 3) by decide +kernel) (by decide),
  List.forall_mem_cons.mpr ⟨qz_iload_n C (show decode c_X11_advances 159 = .ok (.iload_n 1, 1) by decide +kernel) rfl,
  List.forall_mem_cons.mpr ⟨qz_bipush C (show decode c_X11_advances 160 = .ok (.bipush 44, 2) by decide +kernel) (by decide +kernel),
  List.forall_mem_cons.mpr ⟨qz_icne C (show decode c_X11_advances 162 = .ok (.if_icmp .ne 7, 3) by decide +kernel) (by decide),
  List.forall_mem_cons.mpr ⟨qz_iconst C (show decode c_X11_advances 165 = .ok (.iconst 3, 1) by decide +kernel) (by decide +kernel),
  List.forall_mem_cons.mpr ⟨qz_goto C (show decode c_X11_advances 166 = .ok (.goto 14, 3) by decide +kernel) (by decide),
  List.forall_mem_cons.mpr ⟨qz_iload_n C (show decode c_X11_advances 169 = .ok (.iload_n 1, 1) by decide +kernel) rfl,
  List.forall_mem_cons.mpr ⟨qz_bipush C (show decode c_X11_advances 170 = .ok (.bipush 59, 2) by decide +kernel) (by decide +kernel),
  List.forall_mem_cons.mpr ⟨qz_icne C (show decode c_X11_advances 172 = .ok (.if_icmp .ne 7, 3) by decide +kernel) (by decide),
  List.forall_mem_cons.mpr ⟨qz_iconst C (show decode c_X11_advances 175 = .ok (.iconst 4, 1) by decide +kernel) (by decide +kernel),
  List.forall_mem_cons.mpr ⟨qz_goto C (show decode c_X11_advances 176 = .ok (.goto 4, 3) by decide +kernel) (by decide),
  List.forall_mem_cons.mpr ⟨qz_iconst C (show decode c_X11_advances 179 = .ok (.iconst 5, 1) by decide +kernel) (by decide +kernel),
  List.forall_mem_cons.mpr ⟨qz_pf (k := 11) C (show decode c_X11_advances 180 = .ok (.putfield 126, 3) by decide +kernel) vcX11 wiX11 tyX11_ok nmX11 (by decide) cw_1029 rfl rfl,
  List.forall_mem_cons.mpr ⟨qz_aload_n C (show decode c_X11_advances 183 = .ok (.aload_n 0, 1) by decide +kernel) rfl,
  List.forall_mem_cons.mpr ⟨qz_dup C (show decode c_X11_advances 184 = .ok (.dup, 1) by decide +kernel),
  List.forall_mem_cons.mpr ⟨qz_gf (k := 9) C (show decode c_X11_advances 185 = .ok (.getfield 114, 3) by decide +kernel) vcX11 wiX11 (by decide) cw_1027,
  List.forall_mem_cons.mpr ⟨qz_aload_n C (show decode c_X11_advances 188 = .ok (.aload_n 0, 1) by decide +kernel) rfl,
  List.forall_mem_cons.mpr ⟨qz_gf (k := 11) C (show decode c_X11_advances 189 = .ok (.getfield 126, 3) by decide +kernel) vcX11 wiX11 (by decide) cw_1029,
  List.forall_mem_cons.mpr ⟨qz_ifne C (show decode c_X11_advances 192 = .ok (.ifCond .ne 7, 3) by decide +kernel) (by decide),
  List.forall_mem_cons.mpr ⟨qz_iconst C (show decode c_X11_advances 195 = .ok (.iconst 0, 1) by decide +kernel) (by decide +kernel),
  List.forall_mem_cons.mpr ⟨qz_goto C (show decode c_X11_advances 196 = .ok (.goto 4, 3) by decide +kernel) (by decide),
  List.forall_mem_cons.mpr ⟨qz_iconst C (show decode c_X11_advances 199 = .ok (.iconst 1, 1) by decide +kernel) (by decide +kernel),
  List.forall_mem_cons.mpr ⟨qz_iadd C (show decode c_X11_advances 200 = .ok (.iadd, 1) by decide +kernel),
  List.forall_mem_cons.mpr ⟨qz_pf (k := 9) C (show decode c_X11_advances 201 = .ok (.putfield 114, 3) by decide +kernel) vcX11 wiX11 tyX11_ok nmX11 (by decide) cw_1027 rfl rfl,
  List.forall_mem_cons.mpr ⟨qz_vret C (show decode c_X11_advances 204 = .ok (.return_, 1) by decide +kernel) rfl,
  (fun q h => by cases h)⟩⟩⟩⟩⟩⟩⟩⟩⟩⟩⟩⟩⟩⟩⟩⟩⟩⟩⟩⟩⟩⟩⟩⟩⟩⟩⟩
theorem sd_X11_advances {G : pj_E} {A : Nat → Prop} {P : pj_P} {S : pj_U} {Z : pj_Z} (C : pj_C (G, A, (c_X11_advances, y_X11_advances.cls, 2, none, 2), P, S, Z)) : ∀ q ∈ tb_X11_advances, pj_S (G, A, (c_X11_advances, y_X11_advances.cls, 2, none, 2), P, S, Z) pj_eV q.1 q.2 := List.forall_mem_append.mpr ⟨sd_X11_advances_0 C, List.forall_mem_append.mpr ⟨sd_X11_advances_1 C, sd_X11_advances_2 C⟩⟩
noncomputable def C_X11_advances_180 (f : Int32 → pj_M → Option (pj_M)) : pj_N (pj_M) := fun L st m => match L, st with
  | [some (.inr (.inr (t0, w0, a0))), _], [.inl s1, .inr (.inr (ts0, ws0, sa0))] => (match Nat.beq t0 0 && (Nat.beq w0 11 && (Nat.beq a0 72 && (Nat.beq ts0 0 && (Nat.beq ws0 11 && (Nat.beq sa0 72))))) with
    | true => f s1 m
    | false => none)
  | _, _ => none
noncomputable def C_X11_advances_112 (f : pj_M → Option (pj_M)) : pj_N (pj_M) := fun L st m => match L, st with
  | [some (.inr (.inr (t0, w0, a0))), _], [] => (match Nat.beq t0 0 && (Nat.beq w0 11 && (Nat.beq a0 72)) with
    | true => f m
    | false => none)
  | _, _ => none
noncomputable def C_X11_advances_38 (f : pj_M → Option (pj_M)) : pj_N (pj_M) := fun L st m => match L, st with
  | [some (.inr (.inr (t0, w0, a0))), _], [] => (match Nat.beq t0 0 && (Nat.beq w0 11 && (Nat.beq a0 72)) with
    | true => f m
    | false => none)
  | _, _ => none
set_option maxRecDepth 20000 in
theorem eq_X11_advances_180 (s1 : Int32) (d1 : Option pj_V) (m : pj_M) : pj_run tb_X11_advances [] 109 180 [some (.inr (.inr (0, 11, 72))), d1] [.inl s1, .inr (.inr (0, 11, 72))] m = J_X11_advances_180 s1 m := by rfl
theorem sg_X11_advances_180 {G : pj_E} {A : Nat → Prop} {P : pj_P} {S : pj_U} {Z : pj_Z} (C : pj_C (G, A, (c_X11_advances, y_X11_advances.cls, 2, none, 2), P, S, Z)) : pj_G (G, A, (c_X11_advances, y_X11_advances.cls, 2, none, 2), P, S, Z) pj_eV 180 (C_X11_advances_180 (J_X11_advances_180)) := by
  intro L st m r h hR
  unfold C_X11_advances_180 at h
  split at h
  · split at h
    · rename_i hbq
      simp only [Bool.and_eq_true, Nat.beq_eq] at hbq
      obtain ⟨rfl, rfl, rfl, rfl, rfl, rfl⟩ := hbq
      exact pj_run_ok (sd_X11_advances C) (fun q h => by cases h) 109 180 _ _ _ _ ((eq_X11_advances_180 _ _ _).trans h) hR
    · cases h
  · cases h
set_option maxRecDepth 20000 in
theorem eq_X11_advances_112 (d1 : Option pj_V) (m : pj_M) : pj_run tb_X11_advances [] 109 112 [some (.inr (.inr (0, 11, 72))), d1] [] m = J_X11_advances_112  m := by rfl
theorem sg_X11_advances_112 {G : pj_E} {A : Nat → Prop} {P : pj_P} {S : pj_U} {Z : pj_Z} (C : pj_C (G, A, (c_X11_advances, y_X11_advances.cls, 2, none, 2), P, S, Z)) : pj_G (G, A, (c_X11_advances, y_X11_advances.cls, 2, none, 2), P, S, Z) pj_eV 112 (C_X11_advances_112 (J_X11_advances_112)) := by
  intro L st m r h hR
  unfold C_X11_advances_112 at h
  split at h
  · split at h
    · rename_i hbq
      simp only [Bool.and_eq_true, Nat.beq_eq] at hbq
      obtain ⟨rfl, rfl, rfl⟩ := hbq
      exact pj_run_ok (sd_X11_advances C) (fun q h => by cases h) 109 112 _ _ _ _ ((eq_X11_advances_112 _ _).trans h) hR
    · cases h
  · cases h
set_option maxRecDepth 20000 in
theorem eq_X11_advances_38 (n1 : Nat) (d1 : Option pj_V) (m : pj_M) : pj_run tb_X11_advances [(38, C_X11_advances_38 (H_X11_advances_38 n1)), (112, C_X11_advances_112 (J_X11_advances_112 ))] 109 38 [some (.inr (.inr (0, 11, 72))), d1] [] m = H_X11_advances_38 (n1 + 1)  m := by rfl
theorem sg_X11_advances_38 {G : pj_E} {A : Nat → Prop} {P : pj_P} {S : pj_U} {Z : pj_Z} (C : pj_C (G, A, (c_X11_advances, y_X11_advances.cls, 2, none, 2), P, S, Z)) : ∀ n1, pj_G (G, A, (c_X11_advances, y_X11_advances.cls, 2, none, 2), P, S, Z) pj_eV 38 (C_X11_advances_38 (H_X11_advances_38 n1)) := by
  intro n1
  induction n1 with
  | zero =>
    intro L st m r h hR
    unfold C_X11_advances_38 at h
    split at h
    · split at h
      · cases h
      · cases h
    · cases h
  | succ n1 ih1 =>
    intro L st m r h hR
    unfold C_X11_advances_38 at h
    split at h
    · split at h
      · rename_i hbq
        simp only [Bool.and_eq_true, Nat.beq_eq] at hbq
        obtain ⟨rfl, rfl, rfl⟩ := hbq
        exact pj_run_ok (sd_X11_advances C) (List.forall_mem_cons.mpr ⟨ih1, List.forall_mem_cons.mpr ⟨sg_X11_advances_112 C , fun q h => by cases h⟩⟩) 109 38 _ _ _ _ ((eq_X11_advances_38 _ _ _).trans h) hR
      · cases h
    · cases h
set_option maxRecDepth 20000 in
theorem eq_X11_advances (m : pj_M) : pj_run tb_X11_advances [(38, C_X11_advances_38 (H_X11_advances_38  pj_z)), (180, C_X11_advances_180 (J_X11_advances_180 ))] 109 0 [some (.inr (.inr (0, 11, 72))), none] [] m = F_X11_advances m := by rfl
theorem ct_X11_advances : pj_Ct pj_eV y_X11_advances c_X11_advances 2 none 2 W_X11_advances := by
  refine pj_ct_of (by decide +kernel) ?_ ?_
  · intro as m r h
    unfold W_X11_advances at h
    split at h
    · simp [pj_l0]
    · cases h
  · intro G A P S Z C as m r h hR
    unfold W_X11_advances at h
    split at h
    · split at h
      · rename_i hbq
        simp only [Bool.and_eq_true, Nat.beq_eq] at hbq
        obtain ⟨rfl, rfl, rfl⟩ := hbq
        exact pj_run_ok (sd_X11_advances C) (List.forall_mem_cons.mpr ⟨sg_X11_advances_38 C  pj_z, List.forall_mem_cons.mpr ⟨sg_X11_advances_180 C , fun q h => by cases h⟩⟩) 109 0 _ _ _ _ ((eq_X11_advances _).trans h) hR
      · cases h
    · cases h
/-! AlikeStepsModel.isWell()Z -/
abbrev c_X11_isWell : ByteArray := prog_13_method_20_code
def y_X11_isWell : MethodName := ⟨RX11, "isWell", "()Z"⟩
noncomputable def F_X11_isWell (m : pj_M) : Option (Int32 × pj_M) := (if (m.1 72 8) < 0 then (some (1, m)) else (some (0, m)))
noncomputable def W_X11_isWell : List pj_V → pj_M → Option (Int32 × pj_M) := fun as m => match as with
  | [.inr (.inr (t0, w0, a0))] => (match Nat.beq t0 0 && (Nat.beq w0 11 && (Nat.beq a0 72)) with
    | true => F_X11_isWell m
    | false => none)
  | _ => none
noncomputable def tb_X11_isWell_0 : List (Nat × pj_T (Int32 × pj_M)) := [(0, qs_lda 0 1), (1, qs_gf 11 8 4), (4, qs_ifge 11 7), (7, qs_ci 1 8), (8, qs_go 12), (11, qs_ci 0 12), (12, qs_zret)]
noncomputable abbrev tb_X11_isWell : List (Nat × pj_T (Int32 × pj_M)) := tb_X11_isWell_0
theorem mv_X11_isWell : pj_mv y_X11_isWell c_X11_isWell 1 (some .boolean) 0 := ⟨⟨cw_1182, cw_1181, cw_38, cw_92⟩, by decide +kernel, by decide⟩
set_option maxRecDepth 20000 in
theorem sd_X11_isWell_0 {G : pj_E} {A : Nat → Prop} {P : pj_P} {S : pj_U} {Z : pj_Z} (C : pj_C (G, A, (c_X11_isWell, y_X11_isWell.cls, 1, (some .boolean), 1), P, S, Z)) : ∀ q ∈ tb_X11_isWell_0, pj_S (G, A, (c_X11_isWell, y_X11_isWell.cls, 1, (some .boolean), 1), P, S, Z) pj_eI q.1 q.2 :=
  List.forall_mem_cons.mpr ⟨qz_aload_n C (show decode c_X11_isWell 0 = .ok (.aload_n 0, 1) by decide +kernel) rfl,
  List.forall_mem_cons.mpr ⟨qz_gf (k := 8) C (show decode c_X11_isWell 1 = .ok (.getfield 129, 3) by decide +kernel) vcX11 wiX11 (by decide) cw_1026,
  List.forall_mem_cons.mpr ⟨qz_ifge C (show decode c_X11_isWell 4 = .ok (.ifCond .ge 7, 3) by decide +kernel) (by decide),
  List.forall_mem_cons.mpr ⟨qz_iconst C (show decode c_X11_isWell 7 = .ok (.iconst 1, 1) by decide +kernel) (by decide +kernel),
  List.forall_mem_cons.mpr ⟨qz_goto C (show decode c_X11_isWell 8 = .ok (.goto 4, 3) by decide +kernel) (by decide),
  List.forall_mem_cons.mpr ⟨qz_iconst C (show decode c_X11_isWell 11 = .ok (.iconst 0, 1) by decide +kernel) (by decide +kernel),
  List.forall_mem_cons.mpr ⟨qz_zret C (show decode c_X11_isWell 12 = .ok (.ireturn, 1) by decide +kernel) rfl,
  (fun q h => by cases h)⟩⟩⟩⟩⟩⟩⟩
theorem sd_X11_isWell {G : pj_E} {A : Nat → Prop} {P : pj_P} {S : pj_U} {Z : pj_Z} (C : pj_C (G, A, (c_X11_isWell, y_X11_isWell.cls, 1, (some .boolean), 1), P, S, Z)) : ∀ q ∈ tb_X11_isWell, pj_S (G, A, (c_X11_isWell, y_X11_isWell.cls, 1, (some .boolean), 1), P, S, Z) pj_eI q.1 q.2 := sd_X11_isWell_0 C
set_option maxRecDepth 20000 in
theorem eq_X11_isWell (m : pj_M) : pj_run tb_X11_isWell [] 9 0 [some (.inr (.inr (0, 11, 72)))] [] m = F_X11_isWell m := by rfl
theorem ct_X11_isWell : pj_Ct pj_eI y_X11_isWell c_X11_isWell 1 (some .boolean) 1 W_X11_isWell := by
  refine pj_ct_of (by decide +kernel) ?_ ?_
  · intro as m r h
    unfold W_X11_isWell at h
    split at h
    · simp [pj_l0]
    · cases h
  · intro G A P S Z C as m r h hR
    unfold W_X11_isWell at h
    split at h
    · split at h
      · rename_i hbq
        simp only [Bool.and_eq_true, Nat.beq_eq] at hbq
        obtain ⟨rfl, rfl, rfl⟩ := hbq
        exact pj_run_ok (sd_X11_isWell C) (fun q h => by cases h) 9 0 _ _ _ _ ((eq_X11_isWell _).trans h) hR
      · cases h
    · cases h
/-! AlikeStepsModel.takes(ZI)I -/
abbrev c_X11_takes : ByteArray := prog_13_method_21_code
def y_X11_takes : MethodName := ⟨RX11, "takes", "(ZI)I"⟩
noncomputable def F_X11_takes (x1 : Int32) (x2 : Int32) (m : pj_M) : Option (Int32 × pj_M) := ((F_X11_isWell m).bind fun q1 => (if q1.1 = 0 then (some (0, q1.2)) else (if x1 = 0 then (some (0, (pj_wr (pj_wr q1.2 72 8 (q1.2.1 72 10)) 72 7 x2))) else ((F_X11_advances q1.2).bind fun q2 => (some (q1.2.1 72 12, q2))))))
noncomputable def W_X11_takes : List pj_V → pj_M → Option (Int32 × pj_M) := fun as m => match as with
  | [.inr (.inr (t0, w0, a0)), .inl x1, .inl x2] => (match Nat.beq t0 0 && (Nat.beq w0 11 && (Nat.beq a0 72)) with
    | true => F_X11_takes x1 x2 m
    | false => none)
  | _ => none
noncomputable def tb_X11_takes_0 : List (Nat × pj_T (Int32 × pj_M)) := [(0, qs_lda 0 1), (1, qs_vI 11 1 W_X11_isWell 4), (4, qs_ifne 9 7), (7, qs_ci 0 8), (8, qs_iret), (9, qs_ldi 1 10), (10, qs_ifne 28 13), (13, qs_lda 0 14), (14, qs_lda 0 15), (15, qs_gf 11 10 18), (18, qs_pf 11 8 21), (21, qs_lda 0 22), (22, qs_ldi 2 23), (23, qs_pf 11 7 26), (26, qs_ci 0 27), (27, qs_iret), (28, qs_lda 0 29), (29, qs_gf 11 12 32), (32, qs_sti 3 33), (33, qs_lda 0 34), (34, qs_vV 11 1 W_X11_advances 37), (37, qs_ldi 3 38), (38, qs_iret)]
noncomputable abbrev tb_X11_takes : List (Nat × pj_T (Int32 × pj_M)) := tb_X11_takes_0
theorem mv_X11_takes : pj_mv y_X11_takes c_X11_takes 4 (some .int) 2 := ⟨⟨cw_1193, cw_1192, cw_40, cw_92⟩, by decide +kernel, by decide⟩
set_option maxRecDepth 20000 in
theorem sd_X11_takes_0 {G : pj_E} {A : Nat → Prop} {P : pj_P} {S : pj_U} {Z : pj_Z} (C : pj_C (G, A, (c_X11_takes, y_X11_takes.cls, 4, (some .int), 3), P, S, Z)) : ∀ q ∈ tb_X11_takes_0, pj_S (G, A, (c_X11_takes, y_X11_takes.cls, 4, (some .int), 3), P, S, Z) pj_eI q.1 q.2 :=
  List.forall_mem_cons.mpr ⟨qz_aload_n C (show decode c_X11_takes 0 = .ok (.aload_n 0, 1) by decide +kernel) rfl,
  List.forall_mem_cons.mpr ⟨qz_vI C (show decode c_X11_takes 1 = .ok (.invokevirtual 132, 3) by decide +kernel) ct_X11_isWell mv_X11_isWell cw_1179 vcX11 (show 1 < 3 by omega),
  List.forall_mem_cons.mpr ⟨qz_ifne C (show decode c_X11_takes 4 = .ok (.ifCond .ne 5, 3) by decide +kernel) (by decide),
  List.forall_mem_cons.mpr ⟨qz_iconst C (show decode c_X11_takes 7 = .ok (.iconst 0, 1) by decide +kernel) (by decide +kernel),
  List.forall_mem_cons.mpr ⟨qz_iret C (show decode c_X11_takes 8 = .ok (.ireturn, 1) by decide +kernel) rfl,
  List.forall_mem_cons.mpr ⟨qz_iload_n C (show decode c_X11_takes 9 = .ok (.iload_n 1, 1) by decide +kernel) rfl,
  List.forall_mem_cons.mpr ⟨qz_ifne C (show decode c_X11_takes 10 = .ok (.ifCond .ne 18, 3) by decide +kernel) (by decide),
  List.forall_mem_cons.mpr ⟨qz_aload_n C (show decode c_X11_takes 13 = .ok (.aload_n 0, 1) by decide +kernel) rfl,
  List.forall_mem_cons.mpr ⟨qz_aload_n C (show decode c_X11_takes 14 = .ok (.aload_n 0, 1) by decide +kernel) rfl,
  List.forall_mem_cons.mpr ⟨qz_gf (k := 10) C (show decode c_X11_takes 15 = .ok (.getfield 117, 3) by decide +kernel) vcX11 wiX11 (by decide) cw_1028,
  List.forall_mem_cons.mpr ⟨qz_pf (k := 8) C (show decode c_X11_takes 18 = .ok (.putfield 129, 3) by decide +kernel) vcX11 wiX11 tyX11_ok nmX11 (by decide) cw_1026 rfl rfl,
  List.forall_mem_cons.mpr ⟨qz_aload_n C (show decode c_X11_takes 21 = .ok (.aload_n 0, 1) by decide +kernel) rfl,
  List.forall_mem_cons.mpr ⟨qz_iload_n C (show decode c_X11_takes 22 = .ok (.iload_n 2, 1) by decide +kernel) rfl,
  List.forall_mem_cons.mpr ⟨qz_pf (k := 7) C (show decode c_X11_takes 23 = .ok (.putfield 136, 3) by decide +kernel) vcX11 wiX11 tyX11_ok nmX11 (by decide) cw_1025 rfl rfl,
  List.forall_mem_cons.mpr ⟨qz_iconst C (show decode c_X11_takes 26 = .ok (.iconst 0, 1) by decide +kernel) (by decide +kernel),
  List.forall_mem_cons.mpr ⟨qz_iret C (show decode c_X11_takes 27 = .ok (.ireturn, 1) by decide +kernel) rfl,
  List.forall_mem_cons.mpr ⟨qz_aload_n C (show decode c_X11_takes 28 = .ok (.aload_n 0, 1) by decide +kernel) rfl,
  List.forall_mem_cons.mpr ⟨qz_gf (k := 12) C (show decode c_X11_takes 29 = .ok (.getfield 123, 3) by decide +kernel) vcX11 wiX11 (by decide) cw_1030,
  List.forall_mem_cons.mpr ⟨qz_istore_n C (show decode c_X11_takes 32 = .ok (.istore_n 3, 1) by decide +kernel) rfl,
  List.forall_mem_cons.mpr ⟨qz_aload_n C (show decode c_X11_takes 33 = .ok (.aload_n 0, 1) by decide +kernel) rfl,
  List.forall_mem_cons.mpr ⟨qz_vV C (show decode c_X11_takes 34 = .ok (.invokevirtual 139, 3) by decide +kernel) ct_X11_advances mv_X11_advances cw_1171 vcX11 (show 2 < 3 by omega),
  List.forall_mem_cons.mpr ⟨qz_iload_n C (show decode c_X11_takes 37 = .ok (.iload_n 3, 1) by decide +kernel) rfl,
  List.forall_mem_cons.mpr ⟨qz_iret C (show decode c_X11_takes 38 = .ok (.ireturn, 1) by decide +kernel) rfl,
  (fun q h => by cases h)⟩⟩⟩⟩⟩⟩⟩⟩⟩⟩⟩⟩⟩⟩⟩⟩⟩⟩⟩⟩⟩⟩⟩
theorem sd_X11_takes {G : pj_E} {A : Nat → Prop} {P : pj_P} {S : pj_U} {Z : pj_Z} (C : pj_C (G, A, (c_X11_takes, y_X11_takes.cls, 4, (some .int), 3), P, S, Z)) : ∀ q ∈ tb_X11_takes, pj_S (G, A, (c_X11_takes, y_X11_takes.cls, 4, (some .int), 3), P, S, Z) pj_eI q.1 q.2 := sd_X11_takes_0 C
set_option maxRecDepth 20000 in
theorem eq_X11_takes (x1 : Int32) (x2 : Int32) (m : pj_M) : pj_run tb_X11_takes [] 25 0 [some (.inr (.inr (0, 11, 72))), some (.inl x1), some (.inl x2), none] [] m = F_X11_takes x1 x2 m := by rfl
theorem ct_X11_takes : pj_Ct pj_eI y_X11_takes c_X11_takes 4 (some .int) 3 W_X11_takes := by
  refine pj_ct_of (by decide +kernel) ?_ ?_
  · intro as m r h
    unfold W_X11_takes at h
    split at h
    · simp [pj_l0]
    · cases h
  · intro G A P S Z C as m r h hR
    unfold W_X11_takes at h
    split at h
    · split at h
      · rename_i hbq
        simp only [Bool.and_eq_true, Nat.beq_eq] at hbq
        obtain ⟨rfl, rfl, rfl⟩ := hbq
        exact pj_run_ok (sd_X11_takes C) (fun q h => by cases h) 25 0 _ _ _ _ ((eq_X11_takes _ _ _).trans h) hR
      · cases h
    · cases h
/-! AlikeStepsModel.figure(II)I -/
abbrev c_X11_figure : ByteArray := prog_13_method_22_code
def y_X11_figure : MethodName := ⟨RX11, "figure", "(II)I"⟩
noncomputable def F_X11_figure (x1 : Int32) (x2 : Int32) (m : pj_M) : Option (Int32 × pj_M) := ((F_X11_isWell m).bind fun q1 => (if q1.1 = 0 then ((F_X11_in (q1.2.1 72 12) x1 x2 q1.2).bind fun q2 => ((F_X11_takes q2.1 2 q2.2).bind fun q3 => (some (q3.1, q3.2)))) else (if (q1.2.1 72 11) = 2 then ((F_X11_in (q1.2.1 72 12) x1 x2 q1.2).bind fun q4 => ((F_X11_takes q4.1 2 q4.2).bind fun q5 => (some (q5.1, q5.2)))) else ((F_X11_takes 0 1 q1.2).bind fun q6 => (some (q6.1, q6.2))))))
noncomputable def W_X11_figure : List pj_V → pj_M → Option (Int32 × pj_M) := fun as m => match as with
  | [.inr (.inr (t0, w0, a0)), .inl x1, .inl x2] => (match Nat.beq t0 0 && (Nat.beq w0 11 && (Nat.beq a0 72)) with
    | true => F_X11_figure x1 x2 m
    | false => none)
  | _ => none
noncomputable def tb_X11_figure_0 : List (Nat × pj_T (Int32 × pj_M)) := [(0, qs_lda 0 1), (1, qs_vI 11 1 W_X11_isWell 4), (4, qs_ifeq 22 7), (7, qs_lda 0 8), (8, qs_gf 11 11 11), (11, qs_ci 2 12), (12, qs_iceq 22 15), (15, qs_lda 0 16), (16, qs_ci 0 17), (17, qs_ci 1 18), (18, qs_vI 11 3 W_X11_takes 21), (21, qs_iret), (22, qs_lda 0 23), (23, qs_lda 0 24), (24, qs_gf 11 12 27), (27, qs_ldi 1 28), (28, qs_ldi 2 29), (29, qs_sI 3 W_X11_in 32), (32, qs_ci 2 33), (33, qs_vI 11 3 W_X11_takes 36), (36, qs_iret)]
noncomputable abbrev tb_X11_figure : List (Nat × pj_T (Int32 × pj_M)) := tb_X11_figure_0
theorem mv_X11_figure : pj_mv y_X11_figure c_X11_figure 3 (some .int) 2 := ⟨⟨cw_1208, cw_1207, cw_43, cw_92⟩, by decide +kernel, by decide⟩
set_option maxRecDepth 20000 in
theorem sd_X11_figure_0 {G : pj_E} {A : Nat → Prop} {P : pj_P} {S : pj_U} {Z : pj_Z} (C : pj_C (G, A, (c_X11_figure, y_X11_figure.cls, 3, (some .int), 4), P, S, Z)) : ∀ q ∈ tb_X11_figure_0, pj_S (G, A, (c_X11_figure, y_X11_figure.cls, 3, (some .int), 4), P, S, Z) pj_eI q.1 q.2 :=
  List.forall_mem_cons.mpr ⟨qz_aload_n C (show decode c_X11_figure 0 = .ok (.aload_n 0, 1) by decide +kernel) rfl,
  List.forall_mem_cons.mpr ⟨qz_vI C (show decode c_X11_figure 1 = .ok (.invokevirtual 132, 3) by decide +kernel) ct_X11_isWell mv_X11_isWell cw_1179 vcX11 (show 1 < 4 by omega),
  List.forall_mem_cons.mpr ⟨qz_ifeq C (show decode c_X11_figure 4 = .ok (.ifCond .eq 18, 3) by decide +kernel) (by decide),
  List.forall_mem_cons.mpr ⟨qz_aload_n C (show decode c_X11_figure 7 = .ok (.aload_n 0, 1) by decide +kernel) rfl,
  List.forall_mem_cons.mpr ⟨qz_gf (k := 11) C (show decode c_X11_figure 8 = .ok (.getfield 126, 3) by decide +kernel) vcX11 wiX11 (by decide) cw_1029,
  List.forall_mem_cons.mpr ⟨qz_iconst C (show decode c_X11_figure 11 = .ok (.iconst 2, 1) by decide +kernel) (by decide +kernel),
  List.forall_mem_cons.mpr ⟨qz_iceq C (show decode c_X11_figure 12 = .ok (.if_icmp .eq 10, 3) by decide +kernel) (by decide),
  List.forall_mem_cons.mpr ⟨qz_aload_n C (show decode c_X11_figure 15 = .ok (.aload_n 0, 1) by decide +kernel) rfl,
  List.forall_mem_cons.mpr ⟨qz_iconst C (show decode c_X11_figure 16 = .ok (.iconst 0, 1) by decide +kernel) (by decide +kernel),
  List.forall_mem_cons.mpr ⟨qz_iconst C (show decode c_X11_figure 17 = .ok (.iconst 1, 1) by decide +kernel) (by decide +kernel),
  List.forall_mem_cons.mpr ⟨qz_vI C (show decode c_X11_figure 18 = .ok (.invokevirtual 142, 3) by decide +kernel) ct_X11_takes mv_X11_takes cw_1190 vcX11 (show 3 < 4 by omega),
  List.forall_mem_cons.mpr ⟨qz_iret C (show decode c_X11_figure 21 = .ok (.ireturn, 1) by decide +kernel) rfl,
  List.forall_mem_cons.mpr ⟨qz_aload_n C (show decode c_X11_figure 22 = .ok (.aload_n 0, 1) by decide +kernel) rfl,
  List.forall_mem_cons.mpr ⟨qz_aload_n C (show decode c_X11_figure 23 = .ok (.aload_n 0, 1) by decide +kernel) rfl,
  List.forall_mem_cons.mpr ⟨qz_gf (k := 12) C (show decode c_X11_figure 24 = .ok (.getfield 123, 3) by decide +kernel) vcX11 wiX11 (by decide) cw_1030,
  List.forall_mem_cons.mpr ⟨qz_iload_n C (show decode c_X11_figure 27 = .ok (.iload_n 1, 1) by decide +kernel) rfl,
  List.forall_mem_cons.mpr ⟨qz_iload_n C (show decode c_X11_figure 28 = .ok (.iload_n 2, 1) by decide +kernel) rfl,
  List.forall_mem_cons.mpr ⟨qz_sI C (show decode c_X11_figure 29 = .ok (.invokestatic 84, 3) by decide +kernel) ct_X11_in mv_X11_in (Or.inl cw_1126) (show 1 < 4 by omega),
  List.forall_mem_cons.mpr ⟨qz_iconst C (show decode c_X11_figure 32 = .ok (.iconst 2, 1) by decide +kernel) (by decide +kernel),
  List.forall_mem_cons.mpr ⟨qz_vI C (show decode c_X11_figure 33 = .ok (.invokevirtual 142, 3) by decide +kernel) ct_X11_takes mv_X11_takes cw_1190 vcX11 (show 3 < 4 by omega),
  List.forall_mem_cons.mpr ⟨qz_iret C (show decode c_X11_figure 36 = .ok (.ireturn, 1) by decide +kernel) rfl,
  (fun q h => by cases h)⟩⟩⟩⟩⟩⟩⟩⟩⟩⟩⟩⟩⟩⟩⟩⟩⟩⟩⟩⟩⟩
theorem sd_X11_figure {G : pj_E} {A : Nat → Prop} {P : pj_P} {S : pj_U} {Z : pj_Z} (C : pj_C (G, A, (c_X11_figure, y_X11_figure.cls, 3, (some .int), 4), P, S, Z)) : ∀ q ∈ tb_X11_figure, pj_S (G, A, (c_X11_figure, y_X11_figure.cls, 3, (some .int), 4), P, S, Z) pj_eI q.1 q.2 := sd_X11_figure_0 C
set_option maxRecDepth 20000 in
theorem eq_X11_figure (x1 : Int32) (x2 : Int32) (m : pj_M) : pj_run tb_X11_figure [] 23 0 [some (.inr (.inr (0, 11, 72))), some (.inl x1), some (.inl x2)] [] m = F_X11_figure x1 x2 m := by rfl
theorem ct_X11_figure : pj_Ct pj_eI y_X11_figure c_X11_figure 3 (some .int) 4 W_X11_figure := by
  refine pj_ct_of (by decide +kernel) ?_ ?_
  · intro as m r h
    unfold W_X11_figure at h
    split at h
    · simp [pj_l0]
    · cases h
  · intro G A P S Z C as m r h hR
    unfold W_X11_figure at h
    split at h
    · split at h
      · rename_i hbq
        simp only [Bool.and_eq_true, Nat.beq_eq] at hbq
        obtain ⟨rfl, rfl, rfl⟩ := hbq
        exact pj_run_ok (sd_X11_figure C) (fun q h => by cases h) 23 0 _ _ _ _ ((eq_X11_figure _ _ _).trans h) hR
      · cases h
    · cases h
/-! AlikeStepsModel.kindOf(I)I -/
abbrev c_X11_kindOf : ByteArray := prog_13_method_23_code
def y_X11_kindOf : MethodName := ⟨RX11, "kindOf", "(I)I"⟩
noncomputable def F_X11_kindOf (x0 : Int32) (m : pj_M) : Option (Int32 × pj_M) := (if x0 = 112 then (some (1, m)) else (if x0 = 103 then (some (2, m)) else (if x0 = 120 then (some (3, m)) else (if x0 = 100 then (some (4, m)) else (if x0 = 119 then (some (5, m)) else (some (0, m)))))))
noncomputable def W_X11_kindOf : List pj_V → pj_M → Option (Int32 × pj_M) := fun as m => match as with
  | [.inl x0] => F_X11_kindOf x0 m
  | _ => none
noncomputable def tb_X11_kindOf_0 : List (Nat × pj_T (Int32 × pj_M)) := [(0, qs_ldi 0 1), (1, qs_ci 112 3), (3, qs_icne 10 6), (6, qs_ci 1 7), (7, qs_go 51), (10, qs_ldi 0 11), (11, qs_ci 103 13), (13, qs_icne 20 16), (16, qs_ci 2 17), (17, qs_go 51), (20, qs_ldi 0 21), (21, qs_ci 120 23), (23, qs_icne 30 26), (26, qs_ci 3 27), (27, qs_go 51), (30, qs_ldi 0 31), (31, qs_ci 100 33), (33, qs_icne 40 36), (36, qs_ci 4 37), (37, qs_go 51), (40, qs_ldi 0 41), (41, qs_ci 119 43), (43, qs_icne 50 46), (46, qs_ci 5 47), (47, qs_go 51), (50, qs_ci 0 51), (51, qs_iret)]
noncomputable abbrev tb_X11_kindOf : List (Nat × pj_T (Int32 × pj_M)) := tb_X11_kindOf_0
theorem mv_X11_kindOf : pj_ms y_X11_kindOf c_X11_kindOf 1 (some .int) 1 := ⟨⟨cw_1185, cw_1184, cw_92⟩, by decide +kernel, by decide⟩
set_option maxRecDepth 20000 in
theorem sd_X11_kindOf_0 {G : pj_E} {A : Nat → Prop} {P : pj_P} {S : pj_U} {Z : pj_Z} (C : pj_C (G, A, (c_X11_kindOf, y_X11_kindOf.cls, 1, (some .int), 1), P, S, Z)) : ∀ q ∈ tb_X11_kindOf_0, pj_S (G, A, (c_X11_kindOf, y_X11_kindOf.cls, 1, (some .int), 1), P, S, Z) pj_eI q.1 q.2 :=
  List.forall_mem_cons.mpr ⟨qz_iload_n C (show decode c_X11_kindOf 0 = .ok (.iload_n 0, 1) by decide +kernel) rfl,
  List.forall_mem_cons.mpr ⟨qz_bipush C (show decode c_X11_kindOf 1 = .ok (.bipush 112, 2) by decide +kernel) (by decide +kernel),
  List.forall_mem_cons.mpr ⟨qz_icne C (show decode c_X11_kindOf 3 = .ok (.if_icmp .ne 7, 3) by decide +kernel) (by decide),
  List.forall_mem_cons.mpr ⟨qz_iconst C (show decode c_X11_kindOf 6 = .ok (.iconst 1, 1) by decide +kernel) (by decide +kernel),
  List.forall_mem_cons.mpr ⟨qz_goto C (show decode c_X11_kindOf 7 = .ok (.goto 44, 3) by decide +kernel) (by decide),
  List.forall_mem_cons.mpr ⟨qz_iload_n C (show decode c_X11_kindOf 10 = .ok (.iload_n 0, 1) by decide +kernel) rfl,
  List.forall_mem_cons.mpr ⟨qz_bipush C (show decode c_X11_kindOf 11 = .ok (.bipush 103, 2) by decide +kernel) (by decide +kernel),
  List.forall_mem_cons.mpr ⟨qz_icne C (show decode c_X11_kindOf 13 = .ok (.if_icmp .ne 7, 3) by decide +kernel) (by decide),
  List.forall_mem_cons.mpr ⟨qz_iconst C (show decode c_X11_kindOf 16 = .ok (.iconst 2, 1) by decide +kernel) (by decide +kernel),
  List.forall_mem_cons.mpr ⟨qz_goto C (show decode c_X11_kindOf 17 = .ok (.goto 34, 3) by decide +kernel) (by decide),
  List.forall_mem_cons.mpr ⟨qz_iload_n C (show decode c_X11_kindOf 20 = .ok (.iload_n 0, 1) by decide +kernel) rfl,
  List.forall_mem_cons.mpr ⟨qz_bipush C (show decode c_X11_kindOf 21 = .ok (.bipush 120, 2) by decide +kernel) (by decide +kernel),
  List.forall_mem_cons.mpr ⟨qz_icne C (show decode c_X11_kindOf 23 = .ok (.if_icmp .ne 7, 3) by decide +kernel) (by decide),
  List.forall_mem_cons.mpr ⟨qz_iconst C (show decode c_X11_kindOf 26 = .ok (.iconst 3, 1) by decide +kernel) (by decide +kernel),
  List.forall_mem_cons.mpr ⟨qz_goto C (show decode c_X11_kindOf 27 = .ok (.goto 24, 3) by decide +kernel) (by decide),
  List.forall_mem_cons.mpr ⟨qz_iload_n C (show decode c_X11_kindOf 30 = .ok (.iload_n 0, 1) by decide +kernel) rfl,
  List.forall_mem_cons.mpr ⟨qz_bipush C (show decode c_X11_kindOf 31 = .ok (.bipush 100, 2) by decide +kernel) (by decide +kernel),
  List.forall_mem_cons.mpr ⟨qz_icne C (show decode c_X11_kindOf 33 = .ok (.if_icmp .ne 7, 3) by decide +kernel) (by decide),
  List.forall_mem_cons.mpr ⟨qz_iconst C (show decode c_X11_kindOf 36 = .ok (.iconst 4, 1) by decide +kernel) (by decide +kernel),
  List.forall_mem_cons.mpr ⟨qz_goto C (show decode c_X11_kindOf 37 = .ok (.goto 14, 3) by decide +kernel) (by decide),
  List.forall_mem_cons.mpr ⟨qz_iload_n C (show decode c_X11_kindOf 40 = .ok (.iload_n 0, 1) by decide +kernel) rfl,
  List.forall_mem_cons.mpr ⟨qz_bipush C (show decode c_X11_kindOf 41 = .ok (.bipush 119, 2) by decide +kernel) (by decide +kernel),
  List.forall_mem_cons.mpr ⟨qz_icne C (show decode c_X11_kindOf 43 = .ok (.if_icmp .ne 7, 3) by decide +kernel) (by decide),
  List.forall_mem_cons.mpr ⟨qz_iconst C (show decode c_X11_kindOf 46 = .ok (.iconst 5, 1) by decide +kernel) (by decide +kernel),
  List.forall_mem_cons.mpr ⟨qz_goto C (show decode c_X11_kindOf 47 = .ok (.goto 4, 3) by decide +kernel) (by decide),
  List.forall_mem_cons.mpr ⟨qz_iconst C (show decode c_X11_kindOf 50 = .ok (.iconst 0, 1) by decide +kernel) (by decide +kernel),
  List.forall_mem_cons.mpr ⟨qz_iret C (show decode c_X11_kindOf 51 = .ok (.ireturn, 1) by decide +kernel) rfl,
  (fun q h => by cases h)⟩⟩⟩⟩⟩⟩⟩⟩⟩⟩⟩⟩⟩⟩⟩⟩⟩⟩⟩⟩⟩⟩⟩⟩⟩⟩⟩
theorem sd_X11_kindOf {G : pj_E} {A : Nat → Prop} {P : pj_P} {S : pj_U} {Z : pj_Z} (C : pj_C (G, A, (c_X11_kindOf, y_X11_kindOf.cls, 1, (some .int), 1), P, S, Z)) : ∀ q ∈ tb_X11_kindOf, pj_S (G, A, (c_X11_kindOf, y_X11_kindOf.cls, 1, (some .int), 1), P, S, Z) pj_eI q.1 q.2 := sd_X11_kindOf_0 C
set_option maxRecDepth 20000 in
theorem eq_X11_kindOf (x0 : Int32) (m : pj_M) : pj_run tb_X11_kindOf [] 29 0 [some (.inl x0)] [] m = F_X11_kindOf x0 m := by rfl
theorem ct_X11_kindOf : pj_Ct pj_eI y_X11_kindOf c_X11_kindOf 1 (some .int) 1 W_X11_kindOf := by
  refine pj_ct_of (by decide +kernel) ?_ ?_
  · intro as m r h
    unfold W_X11_kindOf at h
    split at h
    · simp [pj_l0]
    · cases h
  · intro G A P S Z C as m r h hR
    unfold W_X11_kindOf at h
    split at h
    · exact pj_run_ok (sd_X11_kindOf C) (fun q h => by cases h) 29 0 _ _ _ _ ((eq_X11_kindOf _ _).trans h) hR
    · cases h
/-! AlikeStepsModel.letterOf(I)I -/
abbrev c_X11_letterOf : ByteArray := prog_13_method_24_code
def y_X11_letterOf : MethodName := ⟨RX11, "letterOf", "(I)I"⟩
noncomputable def F_X11_letterOf (x0 : Int32) (m : pj_M) : Option (Int32 × pj_M) := (if x0 = 116 then (some (0, m)) else ((F_X11_in x0 97 99 m).bind fun q1 => (if q1.1 = 0 then (some ((-1000000), q1.2)) else (some ((x0 - 97) + 1, q1.2)))))
noncomputable def W_X11_letterOf : List pj_V → pj_M → Option (Int32 × pj_M) := fun as m => match as with
  | [.inl x0] => F_X11_letterOf x0 m
  | _ => none
noncomputable def tb_X11_letterOf_0 : List (Nat × pj_T (Int32 × pj_M)) := [(0, qs_ldi 0 1), (1, qs_ci 116 3), (3, qs_icne 10 6), (6, qs_ci 0 7), (7, qs_go 32), (10, qs_ldi 0 11), (11, qs_ci 97 13), (13, qs_ci 99 15), (15, qs_sI 3 W_X11_in 18), (18, qs_ifeq 30 21), (21, qs_ldi 0 22), (22, qs_ci 97 24), (24, qs_b2 (fun x y => x - y) 25), (25, qs_ci 1 26), (26, qs_b2 (fun x y => x + y) 27), (27, qs_go 32), (30, qs_ci (-1000000) 32), (32, qs_iret)]
noncomputable abbrev tb_X11_letterOf : List (Nat × pj_T (Int32 × pj_M)) := tb_X11_letterOf_0
theorem mv_X11_letterOf : pj_ms y_X11_letterOf c_X11_letterOf 1 (some .int) 1 := ⟨⟨cw_1200, cw_1199, cw_92⟩, by decide +kernel, by decide⟩
set_option maxRecDepth 20000 in
theorem sd_X11_letterOf_0 {G : pj_E} {A : Nat → Prop} {P : pj_P} {S : pj_U} {Z : pj_Z} (C : pj_C (G, A, (c_X11_letterOf, y_X11_letterOf.cls, 1, (some .int), 2), P, S, Z)) : ∀ q ∈ tb_X11_letterOf_0, pj_S (G, A, (c_X11_letterOf, y_X11_letterOf.cls, 1, (some .int), 2), P, S, Z) pj_eI q.1 q.2 :=
  List.forall_mem_cons.mpr ⟨qz_iload_n C (show decode c_X11_letterOf 0 = .ok (.iload_n 0, 1) by decide +kernel) rfl,
  List.forall_mem_cons.mpr ⟨qz_bipush C (show decode c_X11_letterOf 1 = .ok (.bipush 116, 2) by decide +kernel) (by decide +kernel),
  List.forall_mem_cons.mpr ⟨qz_icne C (show decode c_X11_letterOf 3 = .ok (.if_icmp .ne 7, 3) by decide +kernel) (by decide),
  List.forall_mem_cons.mpr ⟨qz_iconst C (show decode c_X11_letterOf 6 = .ok (.iconst 0, 1) by decide +kernel) (by decide +kernel),
  List.forall_mem_cons.mpr ⟨qz_goto C (show decode c_X11_letterOf 7 = .ok (.goto 25, 3) by decide +kernel) (by decide),
  List.forall_mem_cons.mpr ⟨qz_iload_n C (show decode c_X11_letterOf 10 = .ok (.iload_n 0, 1) by decide +kernel) rfl,
  List.forall_mem_cons.mpr ⟨qz_bipush C (show decode c_X11_letterOf 11 = .ok (.bipush 97, 2) by decide +kernel) (by decide +kernel),
  List.forall_mem_cons.mpr ⟨qz_bipush C (show decode c_X11_letterOf 13 = .ok (.bipush 99, 2) by decide +kernel) (by decide +kernel),
  List.forall_mem_cons.mpr ⟨qz_sI C (show decode c_X11_letterOf 15 = .ok (.invokestatic 84, 3) by decide +kernel) ct_X11_in mv_X11_in (Or.inl cw_1126) (show 1 < 2 by omega),
  List.forall_mem_cons.mpr ⟨qz_ifeq C (show decode c_X11_letterOf 18 = .ok (.ifCond .eq 12, 3) by decide +kernel) (by decide),
  List.forall_mem_cons.mpr ⟨qz_iload_n C (show decode c_X11_letterOf 21 = .ok (.iload_n 0, 1) by decide +kernel) rfl,
  List.forall_mem_cons.mpr ⟨qz_bipush C (show decode c_X11_letterOf 22 = .ok (.bipush 97, 2) by decide +kernel) (by decide +kernel),
  List.forall_mem_cons.mpr ⟨qz_isub C (show decode c_X11_letterOf 24 = .ok (.isub, 1) by decide +kernel),
  List.forall_mem_cons.mpr ⟨qz_iconst C (show decode c_X11_letterOf 25 = .ok (.iconst 1, 1) by decide +kernel) (by decide +kernel),
  List.forall_mem_cons.mpr ⟨qz_iadd C (show decode c_X11_letterOf 26 = .ok (.iadd, 1) by decide +kernel),
  List.forall_mem_cons.mpr ⟨qz_goto C (show decode c_X11_letterOf 27 = .ok (.goto 5, 3) by decide +kernel) (by decide),
  List.forall_mem_cons.mpr ⟨qz_ldc C (show decode c_X11_letterOf 30 = .ok (.ldc 78, 2) by decide +kernel) cw_1017,
  List.forall_mem_cons.mpr ⟨qz_iret C (show decode c_X11_letterOf 32 = .ok (.ireturn, 1) by decide +kernel) rfl,
  (fun q h => by cases h)⟩⟩⟩⟩⟩⟩⟩⟩⟩⟩⟩⟩⟩⟩⟩⟩⟩⟩
theorem sd_X11_letterOf {G : pj_E} {A : Nat → Prop} {P : pj_P} {S : pj_U} {Z : pj_Z} (C : pj_C (G, A, (c_X11_letterOf, y_X11_letterOf.cls, 1, (some .int), 2), P, S, Z)) : ∀ q ∈ tb_X11_letterOf, pj_S (G, A, (c_X11_letterOf, y_X11_letterOf.cls, 1, (some .int), 2), P, S, Z) pj_eI q.1 q.2 := sd_X11_letterOf_0 C
set_option maxRecDepth 20000 in
theorem eq_X11_letterOf (x0 : Int32) (m : pj_M) : pj_run tb_X11_letterOf [] 20 0 [some (.inl x0)] [] m = F_X11_letterOf x0 m := by rfl
theorem ct_X11_letterOf : pj_Ct pj_eI y_X11_letterOf c_X11_letterOf 1 (some .int) 2 W_X11_letterOf := by
  refine pj_ct_of (by decide +kernel) ?_ ?_
  · intro as m r h
    unfold W_X11_letterOf at h
    split at h
    · simp [pj_l0]
    · cases h
  · intro G A P S Z C as m r h hR
    unfold W_X11_letterOf at h
    split at h
    · exact pj_run_ok (sd_X11_letterOf C) (fun q h => by cases h) 20 0 _ _ _ _ ((eq_X11_letterOf _ _).trans h) hR
    · cases h
/-! AlikeStepsModel.must(Z)V -/
abbrev c_X11_must : ByteArray := prog_13_method_25_code
def y_X11_must : MethodName := ⟨RX11, "must", "(Z)V"⟩
noncomputable def F_X11_must (x1 : Int32) (m : pj_M) : Option (pj_M) := ((F_X11_isWell m).bind fun q1 => (if q1.1 = 0 then (some q1.2) else (if x1 = 0 then ((F_X11_takes 0 1 q1.2).bind fun q2 => (some q2.2)) else (some q1.2))))
noncomputable def W_X11_must : List pj_V → pj_M → Option (pj_M) := fun as m => match as with
  | [.inr (.inr (t0, w0, a0)), .inl x1] => (match Nat.beq t0 0 && (Nat.beq w0 11 && (Nat.beq a0 72)) with
    | true => F_X11_must x1 m
    | false => none)
  | _ => none
noncomputable def tb_X11_must_0 : List (Nat × pj_T (pj_M)) := [(0, qs_lda 0 1), (1, qs_vI 11 1 W_X11_isWell 4), (4, qs_ifeq 18 7), (7, qs_ldi 1 8), (8, qs_ifne 18 11), (11, qs_lda 0 12), (12, qs_ci 0 13), (13, qs_ci 1 14), (14, qs_vI 11 3 W_X11_takes 17), (17, qs_pop 18), (18, qs_vret)]
noncomputable abbrev tb_X11_must : List (Nat × pj_T (pj_M)) := tb_X11_must_0
theorem mv_X11_must : pj_mv y_X11_must c_X11_must 2 none 1 := ⟨⟨cw_1197, cw_1196, cw_41, cw_92⟩, by decide +kernel, by decide⟩
set_option maxRecDepth 20000 in
theorem sd_X11_must_0 {G : pj_E} {A : Nat → Prop} {P : pj_P} {S : pj_U} {Z : pj_Z} (C : pj_C (G, A, (c_X11_must, y_X11_must.cls, 2, none, 4), P, S, Z)) : ∀ q ∈ tb_X11_must_0, pj_S (G, A, (c_X11_must, y_X11_must.cls, 2, none, 4), P, S, Z) pj_eV q.1 q.2 :=
  List.forall_mem_cons.mpr ⟨qz_aload_n C (show decode c_X11_must 0 = .ok (.aload_n 0, 1) by decide +kernel) rfl,
  List.forall_mem_cons.mpr ⟨qz_vI C (show decode c_X11_must 1 = .ok (.invokevirtual 132, 3) by decide +kernel) ct_X11_isWell mv_X11_isWell cw_1179 vcX11 (show 1 < 4 by omega),
  List.forall_mem_cons.mpr ⟨qz_ifeq C (show decode c_X11_must 4 = .ok (.ifCond .eq 14, 3) by decide +kernel) (by decide),
  List.forall_mem_cons.mpr ⟨qz_iload_n C (show decode c_X11_must 7 = .ok (.iload_n 1, 1) by decide +kernel) rfl,
  List.forall_mem_cons.mpr ⟨qz_ifne C (show decode c_X11_must 8 = .ok (.ifCond .ne 10, 3) by decide +kernel) (by decide),
  List.forall_mem_cons.mpr ⟨qz_aload_n C (show decode c_X11_must 11 = .ok (.aload_n 0, 1) by decide +kernel) rfl,
  List.forall_mem_cons.mpr ⟨qz_iconst C (show decode c_X11_must 12 = .ok (.iconst 0, 1) by decide +kernel) (by decide +kernel),
  List.forall_mem_cons.mpr ⟨qz_iconst C (show decode c_X11_must 13 = .ok (.iconst 1, 1) by decide +kernel) (by decide +kernel),
  List.forall_mem_cons.mpr ⟨qz_vI C (show decode c_X11_must 14 = .ok (.invokevirtual 142, 3) by decide +kernel) ct_X11_takes mv_X11_takes cw_1190 vcX11 (show 3 < 4 by omega),
  List.forall_mem_cons.mpr ⟨qz_pop C (show decode c_X11_must 17 = .ok (.pop, 1) by decide +kernel),
  List.forall_mem_cons.mpr ⟨qz_vret C (show decode c_X11_must 18 = .ok (.return_, 1) by decide +kernel) rfl,
  (fun q h => by cases h)⟩⟩⟩⟩⟩⟩⟩⟩⟩⟩⟩
theorem sd_X11_must {G : pj_E} {A : Nat → Prop} {P : pj_P} {S : pj_U} {Z : pj_Z} (C : pj_C (G, A, (c_X11_must, y_X11_must.cls, 2, none, 4), P, S, Z)) : ∀ q ∈ tb_X11_must, pj_S (G, A, (c_X11_must, y_X11_must.cls, 2, none, 4), P, S, Z) pj_eV q.1 q.2 := sd_X11_must_0 C
set_option maxRecDepth 20000 in
theorem eq_X11_must (x1 : Int32) (m : pj_M) : pj_run tb_X11_must [] 13 0 [some (.inr (.inr (0, 11, 72))), some (.inl x1)] [] m = F_X11_must x1 m := by rfl
theorem ct_X11_must : pj_Ct pj_eV y_X11_must c_X11_must 2 none 4 W_X11_must := by
  refine pj_ct_of (by decide +kernel) ?_ ?_
  · intro as m r h
    unfold W_X11_must at h
    split at h
    · simp [pj_l0]
    · cases h
  · intro G A P S Z C as m r h hR
    unfold W_X11_must at h
    split at h
    · split at h
      · rename_i hbq
        simp only [Bool.and_eq_true, Nat.beq_eq] at hbq
        obtain ⟨rfl, rfl, rfl⟩ := hbq
        exact pj_run_ok (sd_X11_must C) (fun q h => by cases h) 13 0 _ _ _ _ ((eq_X11_must _ _).trans h) hR
      · cases h
    · cases h
/-! AlikeStepsModel.readsState()V -/
abbrev c_X11_readsState : ByteArray := prog_13_method_26_code
def y_X11_readsState : MethodName := ⟨RX11, "readsState", "()V"⟩
noncomputable def J_X11_readsState_44 (x1 : Int32) (s1 : Int32) (m : pj_M) : Option (pj_M) := ((F_X11_takes s1 1 m).bind fun q1 => ((F_X11_isWell q1.2).bind fun q2 => (if q2.1 = 0 then (some q2.2) else (if (0 : Int32) < 0 ∨ 72 ≤ (0 : Int32).toNatClampNeg then none else (if (2 + (q2.2.1 79 (0 : Int32).toNatClampNeg)) < 0 ∨ 72 ≤ (2 + (q2.2.1 79 (0 : Int32).toNatClampNeg)).toNatClampNeg then none else (if (0 : Int32) < 0 ∨ 72 ≤ (0 : Int32).toNatClampNeg then none else (if (0 : Int32) < 0 ∨ 72 ≤ (0 : Int32).toNatClampNeg then none else (some (pj_wr (pj_wr q2.2 79 (2 + (q2.2.1 79 (0 : Int32).toNatClampNeg)).toNatClampNeg x1) 79 (0 : Int32).toNatClampNeg (((pj_wr q2.2 79 (2 + (q2.2.1 79 (0 : Int32).toNatClampNeg)).toNatClampNeg x1).1 79 (0 : Int32).toNatClampNeg) + 1))))))))))
noncomputable def J_X11_readsState_25 (x1 : Int32) (s1 : Int32) (m : pj_M) : Option (pj_M) := ((F_X11_takes s1 3 m).bind fun q1 => (if (q1.2.1 72 11) = 4 then (J_X11_readsState_44 x1 1 q1.2) else (J_X11_readsState_44 x1 0 q1.2)))
noncomputable def F_X11_readsState (m : pj_M) : Option (pj_M) := ((F_X11_kindOf (m.1 72 12) m).bind fun q1 => (if (0 : Int32) < 0 ∨ 72 ≤ (0 : Int32).toNatClampNeg then none else (if (q1.2.1 79 (0 : Int32).toNatClampNeg) < 10 then (J_X11_readsState_25 q1.1 1 q1.2) else (J_X11_readsState_25 q1.1 0 q1.2))))
noncomputable def W_X11_readsState : List pj_V → pj_M → Option (pj_M) := fun as m => match as with
  | [.inr (.inr (t0, w0, a0))] => (match Nat.beq t0 0 && (Nat.beq w0 11 && (Nat.beq a0 72)) with
    | true => F_X11_readsState m
    | false => none)
  | _ => none
noncomputable def tb_X11_readsState_0 : List (Nat × pj_T (pj_M)) := [(0, qs_lda 0 1), (1, qs_gf 11 12 4), (4, qs_sI 1 W_X11_kindOf 7), (7, qs_sti 1 8), (8, qs_lda 0 9), (9, qs_lda 0 10), (10, qs_gf 11 14 13), (13, qs_ci 0 14), (14, qs_iald 15), (15, qs_ci 10 17), (17, qs_icge 24 20), (20, qs_ci 1 21), (21, qs_go 25), (24, qs_ci 0 25), (25, qs_ci 3 26), (26, qs_vI 11 3 W_X11_takes 29), (29, qs_pop 30), (30, qs_lda 0 31), (31, qs_lda 0 32), (32, qs_gf 11 11 35), (35, qs_ci 4 36), (36, qs_icne 43 39), (39, qs_ci 1 40), (40, qs_go 44), (43, qs_ci 0 44), (44, qs_ci 1 45), (45, qs_vI 11 3 W_X11_takes 48), (48, qs_pop 49), (49, qs_lda 0 50), (50, qs_vI 11 1 W_X11_isWell 53), (53, qs_ifeq 80 56), (56, qs_lda 0 57), (57, qs_gf 11 14 60), (60, qs_ci 2 61), (61, qs_lda 0 62), (62, qs_gf 11 14 65), (65, qs_ci 0 66), (66, qs_iald 67), (67, qs_b2 (fun x y => x + y) 68), (68, qs_ldi 1 69)]
noncomputable def tb_X11_readsState_1 : List (Nat × pj_T (pj_M)) := [(69, qs_iast 70), (70, qs_lda 0 71), (71, qs_gf 11 14 74), (74, qs_ci 0 75), (75, qs_dup2 76), (76, qs_iald 77), (77, qs_ci 1 78), (78, qs_b2 (fun x y => x + y) 79), (79, qs_iast 80), (80, qs_vret)]
noncomputable def tb_X11_readsState : List (Nat × pj_T (pj_M)) := tb_X11_readsState_0 ++ (tb_X11_readsState_1)
theorem mv_X11_readsState : pj_mv y_X11_readsState c_X11_readsState 2 none 0 := ⟨⟨cw_1189, cw_1188, cw_39, cw_92⟩, by decide +kernel, by decide⟩
set_option maxRecDepth 20000 in
theorem sd_X11_readsState_0 {G : pj_E} {A : Nat → Prop} {P : pj_P} {S : pj_U} {Z : pj_Z} (C : pj_C (G, A, (c_X11_readsState, y_X11_readsState.cls, 2, none, 4), P, S, Z)) : ∀ q ∈ tb_X11_readsState_0, pj_S (G, A, (c_X11_readsState, y_X11_readsState.cls, 2, none, 4), P, S, Z) pj_eV q.1 q.2 :=
  List.forall_mem_cons.mpr ⟨qz_aload_n C (show decode c_X11_readsState 0 = .ok (.aload_n 0, 1) by decide +kernel) rfl,
  List.forall_mem_cons.mpr ⟨qz_gf (k := 12) C (show decode c_X11_readsState 1 = .ok (.getfield 123, 3) by decide +kernel) vcX11 wiX11 (by decide) cw_1030,
  List.forall_mem_cons.mpr ⟨qz_sI C (show decode c_X11_readsState 4 = .ok (.invokestatic 146, 3) by decide +kernel) ct_X11_kindOf mv_X11_kindOf (Or.inl cw_1183) (show 1 < 4 by omega),
  List.forall_mem_cons.mpr ⟨qz_istore_n C (show decode c_X11_readsState 7 = .ok (.istore_n 1, 1) by decide +kernel) rfl,
  List.forall_mem_cons.mpr ⟨qz_aload_n C (show decode c_X11_readsState 8 = .ok (.aload_n 0, 1) by decide +kernel) rfl,
  List.forall_mem_cons.mpr ⟨qz_aload_n C (show decode c_X11_readsState 9 = .ok (.aload_n 0, 1) by decide +kernel) rfl,
  List.forall_mem_cons.mpr ⟨qz_gf (k := 14) C (show decode c_X11_readsState 10 = .ok (.getfield 28, 3) by decide +kernel) vcX11 wiX11 (by decide) cw_1032,
  List.forall_mem_cons.mpr ⟨qz_iconst C (show decode c_X11_readsState 13 = .ok (.iconst 0, 1) by decide +kernel) (by decide +kernel),
  List.forall_mem_cons.mpr ⟨qz_iald C (show decode c_X11_readsState 14 = .ok (.iaload, 1) by decide +kernel),
  List.forall_mem_cons.mpr ⟨qz_bipush C (show decode c_X11_readsState 15 = .ok (.bipush 10, 2) by decide +kernel) (by decide +kernel),
  List.forall_mem_cons.mpr ⟨qz_icge C (show decode c_X11_readsState 17 = .ok (.if_icmp .ge 7, 3) by decide +kernel) (by decide),
  List.forall_mem_cons.mpr ⟨qz_iconst C (show decode c_X11_readsState 20 = .ok (.iconst 1, 1) by decide +kernel) (by decide +kernel),
  List.forall_mem_cons.mpr ⟨qz_goto C (show decode c_X11_readsState 21 = .ok (.goto 4, 3) by decide +kernel) (by decide),
  List.forall_mem_cons.mpr ⟨qz_iconst C (show decode c_X11_readsState 24 = .ok (.iconst 0, 1) by decide +kernel) (by decide +kernel),
  List.forall_mem_cons.mpr ⟨qz_iconst C (show decode c_X11_readsState 25 = .ok (.iconst 3, 1) by decide +kernel) (by decide +kernel),
  List.forall_mem_cons.mpr ⟨qz_vI C (show decode c_X11_readsState 26 = .ok (.invokevirtual 142, 3) by decide +kernel) ct_X11_takes mv_X11_takes cw_1190 vcX11 (show 3 < 4 by omega),
  List.forall_mem_cons.mpr ⟨qz_pop C (show decode c_X11_readsState 29 = .ok (.pop, 1) by decide +kernel),
  List.forall_mem_cons.mpr ⟨qz_aload_n C (show decode c_X11_readsState 30 = .ok (.aload_n 0, 1) by decide +kernel) rfl,
  List.forall_mem_cons.mpr ⟨qz_aload_n C (show decode c_X11_readsState 31 = .ok (.aload_n 0, 1) by decide +kernel) rfl,
  List.forall_mem_cons.mpr ⟨qz_gf (k := 11) C (show decode c_X11_readsState 32 = .ok (.getfield 126, 3) by decide +kernel) vcX11 wiX11 (by decide) cw_1029,
  List.forall_mem_cons.mpr ⟨qz_iconst C (show decode c_X11_readsState 35 = .ok (.iconst 4, 1) by decide +kernel) (by decide +kernel),
  List.forall_mem_cons.mpr ⟨qz_icne C (show decode c_X11_readsState 36 = .ok (.if_icmp .ne 7, 3) by decide +kernel) (by decide),
  List.forall_mem_cons.mpr ⟨qz_iconst C (show decode c_X11_readsState 39 = .ok (.iconst 1, 1) by decide +kernel) (by decide +kernel),
  List.forall_mem_cons.mpr ⟨qz_goto C (show decode c_X11_readsState 40 = .ok (.goto 4, 3) by decide +kernel) (by decide),
  List.forall_mem_cons.mpr ⟨qz_iconst C (show decode c_X11_readsState 43 = .ok (.iconst 0, 1) by decide +kernel) (by decide +kernel),
  List.forall_mem_cons.mpr ⟨qz_iconst C (show decode c_X11_readsState 44 = .ok (.iconst 1, 1) by decide +kernel) (by decide +kernel),
  List.forall_mem_cons.mpr ⟨qz_vI C (show decode c_X11_readsState 45 = .ok (.invokevirtual 142, 3) by decide +kernel) ct_X11_takes mv_X11_takes cw_1190 vcX11 (show 3 < 4 by omega),
  List.forall_mem_cons.mpr ⟨qz_pop C (show decode c_X11_readsState 48 = .ok (.pop, 1) by decide +kernel),
  List.forall_mem_cons.mpr ⟨qz_aload_n C (show decode c_X11_readsState 49 = .ok (.aload_n 0, 1) by decide +kernel) rfl,
  List.forall_mem_cons.mpr ⟨qz_vI C (show decode c_X11_readsState 50 = .ok (.invokevirtual 132, 3) by decide +kernel) ct_X11_isWell mv_X11_isWell cw_1179 vcX11 (show 1 < 4 by omega),
  List.forall_mem_cons.mpr ⟨qz_ifeq C (show decode c_X11_readsState 53 = .ok (.ifCond .eq 27, 3) by decide +kernel) (by decide),
  List.forall_mem_cons.mpr ⟨qz_aload_n C (show decode c_X11_readsState 56 = .ok (.aload_n 0, 1) by decide +kernel) rfl,
  List.forall_mem_cons.mpr ⟨qz_gf (k := 14) C (show decode c_X11_readsState 57 = .ok (.getfield 28, 3) by decide +kernel) vcX11 wiX11 (by decide) cw_1032,
  List.forall_mem_cons.mpr ⟨qz_iconst C (show decode c_X11_readsState 60 = .ok (.iconst 2, 1) by decide +kernel) (by decide +kernel),
  List.forall_mem_cons.mpr ⟨qz_aload_n C (show decode c_X11_readsState 61 = .ok (.aload_n 0, 1) by decide +kernel) rfl,
  List.forall_mem_cons.mpr ⟨qz_gf (k := 14) C (show decode c_X11_readsState 62 = .ok (.getfield 28, 3) by decide +kernel) vcX11 wiX11 (by decide) cw_1032,
  List.forall_mem_cons.mpr ⟨qz_iconst C (show decode c_X11_readsState 65 = .ok (.iconst 0, 1) by decide +kernel) (by decide +kernel),
  List.forall_mem_cons.mpr ⟨qz_iald C (show decode c_X11_readsState 66 = .ok (.iaload, 1) by decide +kernel),
  List.forall_mem_cons.mpr ⟨qz_iadd C (show decode c_X11_readsState 67 = .ok (.iadd, 1) by decide +kernel),
  List.forall_mem_cons.mpr ⟨qz_iload_n C (show decode c_X11_readsState 68 = .ok (.iload_n 1, 1) by decide +kernel) rfl,
  (fun q h => by cases h)⟩⟩⟩⟩⟩⟩⟩⟩⟩⟩⟩⟩⟩⟩⟩⟩⟩⟩⟩⟩⟩⟩⟩⟩⟩⟩⟩⟩⟩⟩⟩⟩⟩⟩⟩⟩⟩⟩⟩⟩
set_option maxRecDepth 20000 in
theorem sd_X11_readsState_1 {G : pj_E} {A : Nat → Prop} {P : pj_P} {S : pj_U} {Z : pj_Z} (C : pj_C (G, A, (c_X11_readsState, y_X11_readsState.cls, 2, none, 4), P, S, Z)) : ∀ q ∈ tb_X11_readsState_1, pj_S (G, A, (c_X11_readsState, y_X11_readsState.cls, 2, none, 4), P, S, Z) pj_eV q.1 q.2 :=
  List.forall_mem_cons.mpr ⟨qz_iast C (show decode c_X11_readsState 69 = .ok (.iastore, 1) by decide +kernel),
  List.forall_mem_cons.mpr ⟨qz_aload_n C (show decode c_X11_readsState 70 = .ok (.aload_n 0, 1) by decide +kernel) rfl,
  List.forall_mem_cons.mpr ⟨qz_gf (k := 14) C (show decode c_X11_readsState 71 = .ok (.getfield 28, 3) by decide +kernel) vcX11 wiX11 (by decide) cw_1032,
  List.forall_mem_cons.mpr ⟨qz_iconst C (show decode c_X11_readsState 74 = .ok (.iconst 0, 1) by decide +kernel) (by decide +kernel),
  List.forall_mem_cons.mpr ⟨qz_dup2 C (show decode c_X11_readsState 75 = .ok (.dup2, 1) by decide +kernel),
  List.forall_mem_cons.mpr ⟨qz_iald C (show decode c_X11_readsState 76 = .ok (.iaload, 1) by decide +kernel),
  List.forall_mem_cons.mpr ⟨qz_iconst C (show decode c_X11_readsState 77 = .ok (.iconst 1, 1) by decide +kernel) (by decide +kernel),
  List.forall_mem_cons.mpr ⟨qz_iadd C (show decode c_X11_readsState 78 = .ok (.iadd, 1) by decide +kernel),
  List.forall_mem_cons.mpr ⟨qz_iast C (show decode c_X11_readsState 79 = .ok (.iastore, 1) by decide +kernel),
  List.forall_mem_cons.mpr ⟨qz_vret C (show decode c_X11_readsState 80 = .ok (.return_, 1) by decide +kernel) rfl,
  (fun q h => by cases h)⟩⟩⟩⟩⟩⟩⟩⟩⟩⟩
theorem sd_X11_readsState {G : pj_E} {A : Nat → Prop} {P : pj_P} {S : pj_U} {Z : pj_Z} (C : pj_C (G, A, (c_X11_readsState, y_X11_readsState.cls, 2, none, 4), P, S, Z)) : ∀ q ∈ tb_X11_readsState, pj_S (G, A, (c_X11_readsState, y_X11_readsState.cls, 2, none, 4), P, S, Z) pj_eV q.1 q.2 := List.forall_mem_append.mpr ⟨sd_X11_readsState_0 C, sd_X11_readsState_1 C⟩
noncomputable def C_X11_readsState_44 (f : Int32 → Int32 → pj_M → Option (pj_M)) : pj_N (pj_M) := fun L st m => match L, st with
  | [some (.inr (.inr (t0, w0, a0))), some (.inl x1)], [.inl s1, .inr (.inr (ts0, ws0, sa0))] => (match Nat.beq t0 0 && (Nat.beq w0 11 && (Nat.beq a0 72 && (Nat.beq ts0 0 && (Nat.beq ws0 11 && (Nat.beq sa0 72))))) with
    | true => f x1 s1 m
    | false => none)
  | _, _ => none
noncomputable def C_X11_readsState_25 (f : Int32 → Int32 → pj_M → Option (pj_M)) : pj_N (pj_M) := fun L st m => match L, st with
  | [some (.inr (.inr (t0, w0, a0))), some (.inl x1)], [.inl s1, .inr (.inr (ts0, ws0, sa0))] => (match Nat.beq t0 0 && (Nat.beq w0 11 && (Nat.beq a0 72 && (Nat.beq ts0 0 && (Nat.beq ws0 11 && (Nat.beq sa0 72))))) with
    | true => f x1 s1 m
    | false => none)
  | _, _ => none
set_option maxRecDepth 20000 in
theorem eq_X11_readsState_44 (x1 : Int32) (s1 : Int32) (m : pj_M) : pj_run tb_X11_readsState [] 52 44 [some (.inr (.inr (0, 11, 72))), some (.inl x1)] [.inl s1, .inr (.inr (0, 11, 72))] m = J_X11_readsState_44 x1 s1 m := by rfl
theorem sg_X11_readsState_44 {G : pj_E} {A : Nat → Prop} {P : pj_P} {S : pj_U} {Z : pj_Z} (C : pj_C (G, A, (c_X11_readsState, y_X11_readsState.cls, 2, none, 4), P, S, Z)) : pj_G (G, A, (c_X11_readsState, y_X11_readsState.cls, 2, none, 4), P, S, Z) pj_eV 44 (C_X11_readsState_44 (J_X11_readsState_44)) := by
  intro L st m r h hR
  unfold C_X11_readsState_44 at h
  split at h
  · split at h
    · rename_i hbq
      simp only [Bool.and_eq_true, Nat.beq_eq] at hbq
      obtain ⟨rfl, rfl, rfl, rfl, rfl, rfl⟩ := hbq
      exact pj_run_ok (sd_X11_readsState C) (fun q h => by cases h) 52 44 _ _ _ _ ((eq_X11_readsState_44 _ _ _).trans h) hR
    · cases h
  · cases h
set_option maxRecDepth 20000 in
theorem eq_X11_readsState_25 (x1 : Int32) (s1 : Int32) (m : pj_M) : pj_run tb_X11_readsState [(44, C_X11_readsState_44 (J_X11_readsState_44 ))] 52 25 [some (.inr (.inr (0, 11, 72))), some (.inl x1)] [.inl s1, .inr (.inr (0, 11, 72))] m = J_X11_readsState_25 x1 s1 m := by rfl
theorem sg_X11_readsState_25 {G : pj_E} {A : Nat → Prop} {P : pj_P} {S : pj_U} {Z : pj_Z} (C : pj_C (G, A, (c_X11_readsState, y_X11_readsState.cls, 2, none, 4), P, S, Z)) : pj_G (G, A, (c_X11_readsState, y_X11_readsState.cls, 2, none, 4), P, S, Z) pj_eV 25 (C_X11_readsState_25 (J_X11_readsState_25)) := by
  intro L st m r h hR
  unfold C_X11_readsState_25 at h
  split at h
  · split at h
    · rename_i hbq
      simp only [Bool.and_eq_true, Nat.beq_eq] at hbq
      obtain ⟨rfl, rfl, rfl, rfl, rfl, rfl⟩ := hbq
      exact pj_run_ok (sd_X11_readsState C) (List.forall_mem_cons.mpr ⟨sg_X11_readsState_44 C , fun q h => by cases h⟩) 52 25 _ _ _ _ ((eq_X11_readsState_25 _ _ _).trans h) hR
    · cases h
  · cases h
set_option maxRecDepth 20000 in
theorem eq_X11_readsState (m : pj_M) : pj_run tb_X11_readsState [(25, C_X11_readsState_25 (J_X11_readsState_25 ))] 52 0 [some (.inr (.inr (0, 11, 72))), none] [] m = F_X11_readsState m := by rfl
theorem ct_X11_readsState : pj_Ct pj_eV y_X11_readsState c_X11_readsState 2 none 4 W_X11_readsState := by
  refine pj_ct_of (by decide +kernel) ?_ ?_
  · intro as m r h
    unfold W_X11_readsState at h
    split at h
    · simp [pj_l0]
    · cases h
  · intro G A P S Z C as m r h hR
    unfold W_X11_readsState at h
    split at h
    · split at h
      · rename_i hbq
        simp only [Bool.and_eq_true, Nat.beq_eq] at hbq
        obtain ⟨rfl, rfl, rfl⟩ := hbq
        exact pj_run_ok (sd_X11_readsState C) (List.forall_mem_cons.mpr ⟨sg_X11_readsState_25 C , fun q h => by cases h⟩) 52 0 _ _ _ _ ((eq_X11_readsState _).trans h) hR
      · cases h
    · cases h
/-! AlikeStepsModel.readsArc()V -/
abbrev c_X11_readsArc : ByteArray := prog_13_method_27_code
def y_X11_readsArc : MethodName := ⟨RX11, "readsArc", "()V"⟩
noncomputable def J_X11_readsArc_91 (x1 : Int32) (x2 : Int32) (x3 : Int32) (s1 : Int32) (m : pj_M) : Option (pj_M) := ((F_X11_takes s1 1 m).bind fun q1 => ((F_X11_isWell q1.2).bind fun q2 => (if q2.1 = 0 then (some q2.2) else (if (1 : Int32) < 0 ∨ 72 ≤ (1 : Int32).toNatClampNeg then none else (if (12 + (3 * (q2.2.1 79 (1 : Int32).toNatClampNeg))) < 0 ∨ 72 ≤ (12 + (3 * (q2.2.1 79 (1 : Int32).toNatClampNeg))).toNatClampNeg then none else (if ((12 + (3 * (q2.2.1 79 (1 : Int32).toNatClampNeg))) + 1) < 0 ∨ 72 ≤ ((12 + (3 * (q2.2.1 79 (1 : Int32).toNatClampNeg))) + 1).toNatClampNeg then none else (if ((12 + (3 * (q2.2.1 79 (1 : Int32).toNatClampNeg))) + 2) < 0 ∨ 72 ≤ ((12 + (3 * (q2.2.1 79 (1 : Int32).toNatClampNeg))) + 2).toNatClampNeg then none else (if (1 : Int32) < 0 ∨ 72 ≤ (1 : Int32).toNatClampNeg then none else (if (1 : Int32) < 0 ∨ 72 ≤ (1 : Int32).toNatClampNeg then none else (some (pj_wr (pj_wr (pj_wr (pj_wr q2.2 79 (12 + (3 * (q2.2.1 79 (1 : Int32).toNatClampNeg))).toNatClampNeg x1) 79 ((12 + (3 * (q2.2.1 79 (1 : Int32).toNatClampNeg))) + 1).toNatClampNeg x2) 79 ((12 + (3 * (q2.2.1 79 (1 : Int32).toNatClampNeg))) + 2).toNatClampNeg x3) 79 (1 : Int32).toNatClampNeg (((pj_wr (pj_wr (pj_wr q2.2 79 (12 + (3 * (q2.2.1 79 (1 : Int32).toNatClampNeg))).toNatClampNeg x1) 79 ((12 + (3 * (q2.2.1 79 (1 : Int32).toNatClampNeg))) + 1).toNatClampNeg x2) 79 ((12 + (3 * (q2.2.1 79 (1 : Int32).toNatClampNeg))) + 2).toNatClampNeg x3).1 79 (1 : Int32).toNatClampNeg) + 1))))))))))))
noncomputable def J_X11_readsArc_58 (x1 : Int32) (x2 : Int32) (s1 : Int32) (m : pj_M) : Option (pj_M) := ((F_X11_takes s1 1 m).bind fun q1 => (if (0 : Int32) < 0 ∨ 72 ≤ (0 : Int32).toNatClampNeg then none else ((F_X11_figure 0 ((q1.2.1 79 (0 : Int32).toNatClampNeg) - 1) q1.2).bind fun q2 => (if (q2.2.1 72 11) = 4 then (J_X11_readsArc_91 x1 x2 q2.1 1 q2.2) else (J_X11_readsArc_91 x1 x2 q2.1 0 q2.2)))))
noncomputable def J_X11_readsArc_25 (x1 : Int32) (s1 : Int32) (m : pj_M) : Option (pj_M) := ((F_X11_takes s1 3 m).bind fun q1 => (if (0 : Int32) < 0 ∨ 72 ≤ (0 : Int32).toNatClampNeg then none else ((F_X11_figure 0 ((q1.2.1 79 (0 : Int32).toNatClampNeg) - 1) q1.2).bind fun q2 => (if (q2.2.1 72 11) = 3 then (J_X11_readsArc_58 x1 q2.1 1 q2.2) else (J_X11_readsArc_58 x1 q2.1 0 q2.2)))))
noncomputable def F_X11_readsArc (m : pj_M) : Option (pj_M) := ((F_X11_letterOf (m.1 72 12) m).bind fun q1 => (if (1 : Int32) < 0 ∨ 72 ≤ (1 : Int32).toNatClampNeg then none else (if (q1.2.1 79 (1 : Int32).toNatClampNeg) < 20 then (J_X11_readsArc_25 q1.1 1 q1.2) else (J_X11_readsArc_25 q1.1 0 q1.2))))
noncomputable def W_X11_readsArc : List pj_V → pj_M → Option (pj_M) := fun as m => match as with
  | [.inr (.inr (t0, w0, a0))] => (match Nat.beq t0 0 && (Nat.beq w0 11 && (Nat.beq a0 72)) with
    | true => F_X11_readsArc m
    | false => none)
  | _ => none
noncomputable def tb_X11_readsArc_0 : List (Nat × pj_T (pj_M)) := [(0, qs_lda 0 1), (1, qs_gf 11 12 4), (4, qs_sI 1 W_X11_letterOf 7), (7, qs_sti 1 8), (8, qs_lda 0 9), (9, qs_lda 0 10), (10, qs_gf 11 14 13), (13, qs_ci 1 14), (14, qs_iald 15), (15, qs_ci 20 17), (17, qs_icge 24 20), (20, qs_ci 1 21), (21, qs_go 25), (24, qs_ci 0 25), (25, qs_ci 3 26), (26, qs_vI 11 3 W_X11_takes 29), (29, qs_pop 30), (30, qs_lda 0 31), (31, qs_ci 0 32), (32, qs_lda 0 33), (33, qs_gf 11 14 36), (36, qs_ci 0 37), (37, qs_iald 38), (38, qs_ci 1 39), (39, qs_b2 (fun x y => x - y) 40), (40, qs_vI 11 3 W_X11_figure 43), (43, qs_sti 2 44), (44, qs_lda 0 45), (45, qs_lda 0 46), (46, qs_gf 11 11 49), (49, qs_ci 3 50), (50, qs_icne 57 53), (53, qs_ci 1 54), (54, qs_go 58), (57, qs_ci 0 58), (58, qs_ci 1 59), (59, qs_vI 11 3 W_X11_takes 62), (62, qs_pop 63), (63, qs_lda 0 64), (64, qs_ci 0 65)]
noncomputable def tb_X11_readsArc_1 : List (Nat × pj_T (pj_M)) := [(65, qs_lda 0 66), (66, qs_gf 11 14 69), (69, qs_ci 0 70), (70, qs_iald 71), (71, qs_ci 1 72), (72, qs_b2 (fun x y => x - y) 73), (73, qs_vI 11 3 W_X11_figure 76), (76, qs_sti 3 77), (77, qs_lda 0 78), (78, qs_lda 0 79), (79, qs_gf 11 11 82), (82, qs_ci 4 83), (83, qs_icne 90 86), (86, qs_ci 1 87), (87, qs_go 91), (90, qs_ci 0 91), (91, qs_ci 1 92), (92, qs_vI 11 3 W_X11_takes 95), (95, qs_pop 96), (96, qs_lda 0 97), (97, qs_vI 11 1 W_X11_isWell 100), (100, qs_ifeq 154 103), (103, qs_ci 12 105), (105, qs_ci 3 106), (106, qs_lda 0 107), (107, qs_gf 11 14 110), (110, qs_ci 1 111), (111, qs_iald 112), (112, qs_b2 (fun x y => x * y) 113), (113, qs_b2 (fun x y => x + y) 114), (114, qs_sti 4 116), (116, qs_lda 0 117), (117, qs_gf 11 14 120), (120, qs_ldi 4 122), (122, qs_ldi 1 123), (123, qs_iast 124), (124, qs_lda 0 125), (125, qs_gf 11 14 128), (128, qs_ldi 4 130), (130, qs_ci 1 131)]
noncomputable def tb_X11_readsArc_2 : List (Nat × pj_T (pj_M)) := [(131, qs_b2 (fun x y => x + y) 132), (132, qs_ldi 2 133), (133, qs_iast 134), (134, qs_lda 0 135), (135, qs_gf 11 14 138), (138, qs_ldi 4 140), (140, qs_ci 2 141), (141, qs_b2 (fun x y => x + y) 142), (142, qs_ldi 3 143), (143, qs_iast 144), (144, qs_lda 0 145), (145, qs_gf 11 14 148), (148, qs_ci 1 149), (149, qs_dup2 150), (150, qs_iald 151), (151, qs_ci 1 152), (152, qs_b2 (fun x y => x + y) 153), (153, qs_iast 154), (154, qs_vret)]
noncomputable def tb_X11_readsArc : List (Nat × pj_T (pj_M)) := tb_X11_readsArc_0 ++ (tb_X11_readsArc_1 ++ (tb_X11_readsArc_2))
theorem mv_X11_readsArc : pj_mv y_X11_readsArc c_X11_readsArc 5 none 0 := ⟨⟨cw_1204, cw_1203, cw_42, cw_92⟩, by decide +kernel, by decide⟩
set_option maxRecDepth 20000 in
theorem sd_X11_readsArc_0 {G : pj_E} {A : Nat → Prop} {P : pj_P} {S : pj_U} {Z : pj_Z} (C : pj_C (G, A, (c_X11_readsArc, y_X11_readsArc.cls, 5, none, 5), P, S, Z)) : ∀ q ∈ tb_X11_readsArc_0, pj_S (G, A, (c_X11_readsArc, y_X11_readsArc.cls, 5, none, 5), P, S, Z) pj_eV q.1 q.2 :=
  List.forall_mem_cons.mpr ⟨qz_aload_n C (show decode c_X11_readsArc 0 = .ok (.aload_n 0, 1) by decide +kernel) rfl,
  List.forall_mem_cons.mpr ⟨qz_gf (k := 12) C (show decode c_X11_readsArc 1 = .ok (.getfield 123, 3) by decide +kernel) vcX11 wiX11 (by decide) cw_1030,
  List.forall_mem_cons.mpr ⟨qz_sI C (show decode c_X11_readsArc 4 = .ok (.invokestatic 149, 3) by decide +kernel) ct_X11_letterOf mv_X11_letterOf (Or.inl cw_1198) (show 2 < 5 by omega),
  List.forall_mem_cons.mpr ⟨qz_istore_n C (show decode c_X11_readsArc 7 = .ok (.istore_n 1, 1) by decide +kernel) rfl,
  List.forall_mem_cons.mpr ⟨qz_aload_n C (show decode c_X11_readsArc 8 = .ok (.aload_n 0, 1) by decide +kernel) rfl,
  List.forall_mem_cons.mpr ⟨qz_aload_n C (show decode c_X11_readsArc 9 = .ok (.aload_n 0, 1) by decide +kernel) rfl,
  List.forall_mem_cons.mpr ⟨qz_gf (k := 14) C (show decode c_X11_readsArc 10 = .ok (.getfield 28, 3) by decide +kernel) vcX11 wiX11 (by decide) cw_1032,
  List.forall_mem_cons.mpr ⟨qz_iconst C (show decode c_X11_readsArc 13 = .ok (.iconst 1, 1) by decide +kernel) (by decide +kernel),
  List.forall_mem_cons.mpr ⟨qz_iald C (show decode c_X11_readsArc 14 = .ok (.iaload, 1) by decide +kernel),
  List.forall_mem_cons.mpr ⟨qz_bipush C (show decode c_X11_readsArc 15 = .ok (.bipush 20, 2) by decide +kernel) (by decide +kernel),
  List.forall_mem_cons.mpr ⟨qz_icge C (show decode c_X11_readsArc 17 = .ok (.if_icmp .ge 7, 3) by decide +kernel) (by decide),
  List.forall_mem_cons.mpr ⟨qz_iconst C (show decode c_X11_readsArc 20 = .ok (.iconst 1, 1) by decide +kernel) (by decide +kernel),
  List.forall_mem_cons.mpr ⟨qz_goto C (show decode c_X11_readsArc 21 = .ok (.goto 4, 3) by decide +kernel) (by decide),
  List.forall_mem_cons.mpr ⟨qz_iconst C (show decode c_X11_readsArc 24 = .ok (.iconst 0, 1) by decide +kernel) (by decide +kernel),
  List.forall_mem_cons.mpr ⟨qz_iconst C (show decode c_X11_readsArc 25 = .ok (.iconst 3, 1) by decide +kernel) (by decide +kernel),
  List.forall_mem_cons.mpr ⟨qz_vI C (show decode c_X11_readsArc 26 = .ok (.invokevirtual 142, 3) by decide +kernel) ct_X11_takes mv_X11_takes cw_1190 vcX11 (show 3 < 5 by omega),
  List.forall_mem_cons.mpr ⟨qz_pop C (show decode c_X11_readsArc 29 = .ok (.pop, 1) by decide +kernel),
  List.forall_mem_cons.mpr ⟨qz_aload_n C (show decode c_X11_readsArc 30 = .ok (.aload_n 0, 1) by decide +kernel) rfl,
  List.forall_mem_cons.mpr ⟨qz_iconst C (show decode c_X11_readsArc 31 = .ok (.iconst 0, 1) by decide +kernel) (by decide +kernel),
  List.forall_mem_cons.mpr ⟨qz_aload_n C (show decode c_X11_readsArc 32 = .ok (.aload_n 0, 1) by decide +kernel) rfl,
  List.forall_mem_cons.mpr ⟨qz_gf (k := 14) C (show decode c_X11_readsArc 33 = .ok (.getfield 28, 3) by decide +kernel) vcX11 wiX11 (by decide) cw_1032,
  List.forall_mem_cons.mpr ⟨qz_iconst C (show decode c_X11_readsArc 36 = .ok (.iconst 0, 1) by decide +kernel) (by decide +kernel),
  List.forall_mem_cons.mpr ⟨qz_iald C (show decode c_X11_readsArc 37 = .ok (.iaload, 1) by decide +kernel),
  List.forall_mem_cons.mpr ⟨qz_iconst C (show decode c_X11_readsArc 38 = .ok (.iconst 1, 1) by decide +kernel) (by decide +kernel),
  List.forall_mem_cons.mpr ⟨qz_isub C (show decode c_X11_readsArc 39 = .ok (.isub, 1) by decide +kernel),
  List.forall_mem_cons.mpr ⟨qz_vI C (show decode c_X11_readsArc 40 = .ok (.invokevirtual 152, 3) by decide +kernel) ct_X11_figure mv_X11_figure cw_1205 vcX11 (show 4 < 5 by omega),
  List.forall_mem_cons.mpr ⟨qz_istore_n C (show decode c_X11_readsArc 43 = .ok (.istore_n 2, 1) by decide +kernel) rfl,
  List.forall_mem_cons.mpr ⟨qz_aload_n C (show decode c_X11_readsArc 44 = .ok (.aload_n 0, 1) by decide +kernel) rfl,
  List.forall_mem_cons.mpr ⟨qz_aload_n C (show decode c_X11_readsArc 45 = .ok (.aload_n 0, 1) by decide +kernel) rfl,
  List.forall_mem_cons.mpr ⟨qz_gf (k := 11) C (show decode c_X11_readsArc 46 = .ok (.getfield 126, 3) by decide +kernel) vcX11 wiX11 (by decide) cw_1029,
  List.forall_mem_cons.mpr ⟨qz_iconst C (show decode c_X11_readsArc 49 = .ok (.iconst 3, 1) by decide +kernel) (by decide +kernel),
  List.forall_mem_cons.mpr ⟨qz_icne C (show decode c_X11_readsArc 50 = .ok (.if_icmp .ne 7, 3) by decide +kernel) (by decide),
  List.forall_mem_cons.mpr ⟨qz_iconst C (show decode c_X11_readsArc 53 = .ok (.iconst 1, 1) by decide +kernel) (by decide +kernel),
  List.forall_mem_cons.mpr ⟨qz_goto C (show decode c_X11_readsArc 54 = .ok (.goto 4, 3) by decide +kernel) (by decide),
  List.forall_mem_cons.mpr ⟨qz_iconst C (show decode c_X11_readsArc 57 = .ok (.iconst 0, 1) by decide +kernel) (by decide +kernel),
  List.forall_mem_cons.mpr ⟨qz_iconst C (show decode c_X11_readsArc 58 = .ok (.iconst 1, 1) by decide +kernel) (by decide +kernel),
  List.forall_mem_cons.mpr ⟨qz_vI C (show decode c_X11_readsArc 59 = .ok (.invokevirtual 142, 3) by decide +kernel) ct_X11_takes mv_X11_takes cw_1190 vcX11 (show 3 < 5 by omega),
  List.forall_mem_cons.mpr ⟨qz_pop C (show decode c_X11_readsArc 62 = .ok (.pop, 1) by decide +kernel),
  List.forall_mem_cons.mpr ⟨qz_aload_n C (show decode c_X11_readsArc 63 = .ok (.aload_n 0, 1) by decide +kernel) rfl,
  List.forall_mem_cons.mpr ⟨qz_iconst C (show decode c_X11_readsArc 64 = .ok (.iconst 0, 1) by decide +kernel) (by decide +kernel),
  (fun q h => by cases h)⟩⟩⟩⟩⟩⟩⟩⟩⟩⟩⟩⟩⟩⟩⟩⟩⟩⟩⟩⟩⟩⟩⟩⟩⟩⟩⟩⟩⟩⟩⟩⟩⟩⟩⟩⟩⟩⟩⟩⟩
set_option maxRecDepth 20000 in
theorem sd_X11_readsArc_1 {G : pj_E} {A : Nat → Prop} {P : pj_P} {S : pj_U} {Z : pj_Z} (C : pj_C (G, A, (c_X11_readsArc, y_X11_readsArc.cls, 5, none, 5), P, S, Z)) : ∀ q ∈ tb_X11_readsArc_1, pj_S (G, A, (c_X11_readsArc, y_X11_readsArc.cls, 5, none, 5), P, S, Z) pj_eV q.1 q.2 :=
  List.forall_mem_cons.mpr ⟨qz_aload_n C (show decode c_X11_readsArc 65 = .ok (.aload_n 0, 1) by decide +kernel) rfl,
  List.forall_mem_cons.mpr ⟨qz_gf (k := 14) C (show decode c_X11_readsArc 66 = .ok (.getfield 28, 3) by decide +kernel) vcX11 wiX11 (by decide) cw_1032,
  List.forall_mem_cons.mpr ⟨qz_iconst C (show decode c_X11_readsArc 69 = .ok (.iconst 0, 1) by decide +kernel) (by decide +kernel),
  List.forall_mem_cons.mpr ⟨qz_iald C (show decode c_X11_readsArc 70 = .ok (.iaload, 1) by decide +kernel),
  List.forall_mem_cons.mpr ⟨qz_iconst C (show decode c_X11_readsArc 71 = .ok (.iconst 1, 1) by decide +kernel) (by decide +kernel),
  List.forall_mem_cons.mpr ⟨qz_isub C (show decode c_X11_readsArc 72 = .ok (.isub, 1) by decide +kernel),
  List.forall_mem_cons.mpr ⟨qz_vI C (show decode c_X11_readsArc 73 = .ok (.invokevirtual 152, 3) by decide +kernel) ct_X11_figure mv_X11_figure cw_1205 vcX11 (show 4 < 5 by omega),
  List.forall_mem_cons.mpr ⟨qz_istore_n C (show decode c_X11_readsArc 76 = .ok (.istore_n 3, 1) by decide +kernel) rfl,
  List.forall_mem_cons.mpr ⟨qz_aload_n C (show decode c_X11_readsArc 77 = .ok (.aload_n 0, 1) by decide +kernel) rfl,
  List.forall_mem_cons.mpr ⟨qz_aload_n C (show decode c_X11_readsArc 78 = .ok (.aload_n 0, 1) by decide +kernel) rfl,
  List.forall_mem_cons.mpr ⟨qz_gf (k := 11) C (show decode c_X11_readsArc 79 = .ok (.getfield 126, 3) by decide +kernel) vcX11 wiX11 (by decide) cw_1029,
  List.forall_mem_cons.mpr ⟨qz_iconst C (show decode c_X11_readsArc 82 = .ok (.iconst 4, 1) by decide +kernel) (by decide +kernel),
  List.forall_mem_cons.mpr ⟨qz_icne C (show decode c_X11_readsArc 83 = .ok (.if_icmp .ne 7, 3) by decide +kernel) (by decide),
  List.forall_mem_cons.mpr ⟨qz_iconst C (show decode c_X11_readsArc 86 = .ok (.iconst 1, 1) by decide +kernel) (by decide +kernel),
  List.forall_mem_cons.mpr ⟨qz_goto C (show decode c_X11_readsArc 87 = .ok (.goto 4, 3) by decide +kernel) (by decide),
  List.forall_mem_cons.mpr ⟨qz_iconst C (show decode c_X11_readsArc 90 = .ok (.iconst 0, 1) by decide +kernel) (by decide +kernel),
  List.forall_mem_cons.mpr ⟨qz_iconst C (show decode c_X11_readsArc 91 = .ok (.iconst 1, 1) by decide +kernel) (by decide +kernel),
  List.forall_mem_cons.mpr ⟨qz_vI C (show decode c_X11_readsArc 92 = .ok (.invokevirtual 142, 3) by decide +kernel) ct_X11_takes mv_X11_takes cw_1190 vcX11 (show 3 < 5 by omega),
  List.forall_mem_cons.mpr ⟨qz_pop C (show decode c_X11_readsArc 95 = .ok (.pop, 1) by decide +kernel),
  List.forall_mem_cons.mpr ⟨qz_aload_n C (show decode c_X11_readsArc 96 = .ok (.aload_n 0, 1) by decide +kernel) rfl,
  List.forall_mem_cons.mpr ⟨qz_vI C (show decode c_X11_readsArc 97 = .ok (.invokevirtual 132, 3) by decide +kernel) ct_X11_isWell mv_X11_isWell cw_1179 vcX11 (show 1 < 5 by omega),
  List.forall_mem_cons.mpr ⟨qz_ifeq C (show decode c_X11_readsArc 100 = .ok (.ifCond .eq 54, 3) by decide +kernel) (by decide),
  List.forall_mem_cons.mpr ⟨qz_bipush C (show decode c_X11_readsArc 103 = .ok (.bipush 12, 2) by decide +kernel) (by decide +kernel),
  List.forall_mem_cons.mpr ⟨qz_iconst C (show decode c_X11_readsArc 105 = .ok (.iconst 3, 1) by decide +kernel) (by decide +kernel),
  List.forall_mem_cons.mpr ⟨qz_aload_n C (show decode c_X11_readsArc 106 = .ok (.aload_n 0, 1) by decide +kernel) rfl,
  List.forall_mem_cons.mpr ⟨qz_gf (k := 14) C (show decode c_X11_readsArc 107 = .ok (.getfield 28, 3) by decide +kernel) vcX11 wiX11 (by decide) cw_1032,
  List.forall_mem_cons.mpr ⟨qz_iconst C (show decode c_X11_readsArc 110 = .ok (.iconst 1, 1) by decide +kernel) (by decide +kernel),
  List.forall_mem_cons.mpr ⟨qz_iald C (show decode c_X11_readsArc 111 = .ok (.iaload, 1) by decide +kernel),
  List.forall_mem_cons.mpr ⟨qz_imul C (show decode c_X11_readsArc 112 = .ok (.imul, 1) by decide +kernel),
  List.forall_mem_cons.mpr ⟨qz_iadd C (show decode c_X11_readsArc 113 = .ok (.iadd, 1) by decide +kernel),
  List.forall_mem_cons.mpr ⟨qz_istore C (show decode c_X11_readsArc 114 = .ok (.istore 4, 2) by decide +kernel),
  List.forall_mem_cons.mpr ⟨qz_aload_n C (show decode c_X11_readsArc 116 = .ok (.aload_n 0, 1) by decide +kernel) rfl,
  List.forall_mem_cons.mpr ⟨qz_gf (k := 14) C (show decode c_X11_readsArc 117 = .ok (.getfield 28, 3) by decide +kernel) vcX11 wiX11 (by decide) cw_1032,
  List.forall_mem_cons.mpr ⟨qz_iload C (show decode c_X11_readsArc 120 = .ok (.iload 4, 2) by decide +kernel),
  List.forall_mem_cons.mpr ⟨qz_iload_n C (show decode c_X11_readsArc 122 = .ok (.iload_n 1, 1) by decide +kernel) rfl,
  List.forall_mem_cons.mpr ⟨qz_iast C (show decode c_X11_readsArc 123 = .ok (.iastore, 1) by decide +kernel),
  List.forall_mem_cons.mpr ⟨qz_aload_n C (show decode c_X11_readsArc 124 = .ok (.aload_n 0, 1) by decide +kernel) rfl,
  List.forall_mem_cons.mpr ⟨qz_gf (k := 14) C (show decode c_X11_readsArc 125 = .ok (.getfield 28, 3) by decide +kernel) vcX11 wiX11 (by decide) cw_1032,
  List.forall_mem_cons.mpr ⟨qz_iload C (show decode c_X11_readsArc 128 = .ok (.iload 4, 2) by decide +kernel),
  List.forall_mem_cons.mpr ⟨qz_iconst C (show decode c_X11_readsArc 130 = .ok (.iconst 1, 1) by decide +kernel) (by decide +kernel),
  (fun q h => by cases h)⟩⟩⟩⟩⟩⟩⟩⟩⟩⟩⟩⟩⟩⟩⟩⟩⟩⟩⟩⟩⟩⟩⟩⟩⟩⟩⟩⟩⟩⟩⟩⟩⟩⟩⟩⟩⟩⟩⟩⟩
set_option maxRecDepth 20000 in
theorem sd_X11_readsArc_2 {G : pj_E} {A : Nat → Prop} {P : pj_P} {S : pj_U} {Z : pj_Z} (C : pj_C (G, A, (c_X11_readsArc, y_X11_readsArc.cls, 5, none, 5), P, S, Z)) : ∀ q ∈ tb_X11_readsArc_2, pj_S (G, A, (c_X11_readsArc, y_X11_readsArc.cls, 5, none, 5), P, S, Z) pj_eV q.1 q.2 :=
  List.forall_mem_cons.mpr ⟨qz_iadd C (show decode c_X11_readsArc 131 = .ok (.iadd, 1) by decide +kernel),
  List.forall_mem_cons.mpr ⟨qz_iload_n C (show decode c_X11_readsArc 132 = .ok (.iload_n 2, 1) by decide +kernel) rfl,
  List.forall_mem_cons.mpr ⟨qz_iast C (show decode c_X11_readsArc 133 = .ok (.iastore, 1) by decide +kernel),
  List.forall_mem_cons.mpr ⟨qz_aload_n C (show decode c_X11_readsArc 134 = .ok (.aload_n 0, 1) by decide +kernel) rfl,
  List.forall_mem_cons.mpr ⟨qz_gf (k := 14) C (show decode c_X11_readsArc 135 = .ok (.getfield 28, 3) by decide +kernel) vcX11 wiX11 (by decide) cw_1032,
  List.forall_mem_cons.mpr ⟨qz_iload C (show decode c_X11_readsArc 138 = .ok (.iload 4, 2) by decide +kernel),
  List.forall_mem_cons.mpr ⟨qz_iconst C (show decode c_X11_readsArc 140 = .ok (.iconst 2, 1) by decide +kernel) (by decide +kernel),
  List.forall_mem_cons.mpr ⟨qz_iadd C (show decode c_X11_readsArc 141 = .ok (.iadd, 1) by decide +kernel),
  List.forall_mem_cons.mpr ⟨qz_iload_n C (show decode c_X11_readsArc 142 = .ok (.iload_n 3, 1) by decide +kernel) rfl,
  List.forall_mem_cons.mpr ⟨qz_iast C (show decode c_X11_readsArc 143 = .ok (.iastore, 1) by decide +kernel),
  List.forall_mem_cons.mpr ⟨qz_aload_n C (show decode c_X11_readsArc 144 = .ok (.aload_n 0, 1) by decide +kernel) rfl,
  List.forall_mem_cons.mpr ⟨qz_gf (k := 14) C (show decode c_X11_readsArc 145 = .ok (.getfield 28, 3) by decide +kernel) vcX11 wiX11 (by decide) cw_1032,
  List.forall_mem_cons.mpr ⟨qz_iconst C (show decode c_X11_readsArc 148 = .ok (.iconst 1, 1) by decide +kernel) (by decide +kernel),
  List.forall_mem_cons.mpr ⟨qz_dup2 C (show decode c_X11_readsArc 149 = .ok (.dup2, 1) by decide +kernel),
  List.forall_mem_cons.mpr ⟨qz_iald C (show decode c_X11_readsArc 150 = .ok (.iaload, 1) by decide +kernel),
  List.forall_mem_cons.mpr ⟨qz_iconst C (show decode c_X11_readsArc 151 = .ok (.iconst 1, 1) by decide +kernel) (by decide +kernel),
  List.forall_mem_cons.mpr ⟨qz_iadd C (show decode c_X11_readsArc 152 = .ok (.iadd, 1) by decide +kernel),
  List.forall_mem_cons.mpr ⟨qz_iast C (show decode c_X11_readsArc 153 = .ok (.iastore, 1) by decide +kernel),
  List.forall_mem_cons.mpr ⟨qz_vret C (show decode c_X11_readsArc 154 = .ok (.return_, 1) by decide +kernel) rfl,
  (fun q h => by cases h)⟩⟩⟩⟩⟩⟩⟩⟩⟩⟩⟩⟩⟩⟩⟩⟩⟩⟩⟩
theorem sd_X11_readsArc {G : pj_E} {A : Nat → Prop} {P : pj_P} {S : pj_U} {Z : pj_Z} (C : pj_C (G, A, (c_X11_readsArc, y_X11_readsArc.cls, 5, none, 5), P, S, Z)) : ∀ q ∈ tb_X11_readsArc, pj_S (G, A, (c_X11_readsArc, y_X11_readsArc.cls, 5, none, 5), P, S, Z) pj_eV q.1 q.2 := List.forall_mem_append.mpr ⟨sd_X11_readsArc_0 C, List.forall_mem_append.mpr ⟨sd_X11_readsArc_1 C, sd_X11_readsArc_2 C⟩⟩
noncomputable def C_X11_readsArc_91 (f : Int32 → Int32 → Int32 → Int32 → pj_M → Option (pj_M)) : pj_N (pj_M) := fun L st m => match L, st with
  | [some (.inr (.inr (t0, w0, a0))), some (.inl x1), some (.inl x2), some (.inl x3), _], [.inl s1, .inr (.inr (ts0, ws0, sa0))] => (match Nat.beq t0 0 && (Nat.beq w0 11 && (Nat.beq a0 72 && (Nat.beq ts0 0 && (Nat.beq ws0 11 && (Nat.beq sa0 72))))) with
    | true => f x1 x2 x3 s1 m
    | false => none)
  | _, _ => none
noncomputable def C_X11_readsArc_58 (f : Int32 → Int32 → Int32 → pj_M → Option (pj_M)) : pj_N (pj_M) := fun L st m => match L, st with
  | [some (.inr (.inr (t0, w0, a0))), some (.inl x1), some (.inl x2), _, _], [.inl s1, .inr (.inr (ts0, ws0, sa0))] => (match Nat.beq t0 0 && (Nat.beq w0 11 && (Nat.beq a0 72 && (Nat.beq ts0 0 && (Nat.beq ws0 11 && (Nat.beq sa0 72))))) with
    | true => f x1 x2 s1 m
    | false => none)
  | _, _ => none
noncomputable def C_X11_readsArc_25 (f : Int32 → Int32 → pj_M → Option (pj_M)) : pj_N (pj_M) := fun L st m => match L, st with
  | [some (.inr (.inr (t0, w0, a0))), some (.inl x1), _, _, _], [.inl s1, .inr (.inr (ts0, ws0, sa0))] => (match Nat.beq t0 0 && (Nat.beq w0 11 && (Nat.beq a0 72 && (Nat.beq ts0 0 && (Nat.beq ws0 11 && (Nat.beq sa0 72))))) with
    | true => f x1 s1 m
    | false => none)
  | _, _ => none
set_option maxRecDepth 20000 in
theorem eq_X11_readsArc_91 (x1 : Int32) (x2 : Int32) (x3 : Int32) (s1 : Int32) (d4 : Option pj_V) (m : pj_M) : pj_run tb_X11_readsArc [] 101 91 [some (.inr (.inr (0, 11, 72))), some (.inl x1), some (.inl x2), some (.inl x3), d4] [.inl s1, .inr (.inr (0, 11, 72))] m = J_X11_readsArc_91 x1 x2 x3 s1 m := by rfl
theorem sg_X11_readsArc_91 {G : pj_E} {A : Nat → Prop} {P : pj_P} {S : pj_U} {Z : pj_Z} (C : pj_C (G, A, (c_X11_readsArc, y_X11_readsArc.cls, 5, none, 5), P, S, Z)) : pj_G (G, A, (c_X11_readsArc, y_X11_readsArc.cls, 5, none, 5), P, S, Z) pj_eV 91 (C_X11_readsArc_91 (J_X11_readsArc_91)) := by
  intro L st m r h hR
  unfold C_X11_readsArc_91 at h
  split at h
  · split at h
    · rename_i hbq
      simp only [Bool.and_eq_true, Nat.beq_eq] at hbq
      obtain ⟨rfl, rfl, rfl, rfl, rfl, rfl⟩ := hbq
      exact pj_run_ok (sd_X11_readsArc C) (fun q h => by cases h) 101 91 _ _ _ _ ((eq_X11_readsArc_91 _ _ _ _ _ _).trans h) hR
    · cases h
  · cases h
set_option maxRecDepth 20000 in
theorem eq_X11_readsArc_58 (x1 : Int32) (x2 : Int32) (s1 : Int32) (d3 d4 : Option pj_V) (m : pj_M) : pj_run tb_X11_readsArc [(91, C_X11_readsArc_91 (J_X11_readsArc_91 ))] 101 58 [some (.inr (.inr (0, 11, 72))), some (.inl x1), some (.inl x2), d3, d4] [.inl s1, .inr (.inr (0, 11, 72))] m = J_X11_readsArc_58 x1 x2 s1 m := by rfl
theorem sg_X11_readsArc_58 {G : pj_E} {A : Nat → Prop} {P : pj_P} {S : pj_U} {Z : pj_Z} (C : pj_C (G, A, (c_X11_readsArc, y_X11_readsArc.cls, 5, none, 5), P, S, Z)) : pj_G (G, A, (c_X11_readsArc, y_X11_readsArc.cls, 5, none, 5), P, S, Z) pj_eV 58 (C_X11_readsArc_58 (J_X11_readsArc_58)) := by
  intro L st m r h hR
  unfold C_X11_readsArc_58 at h
  split at h
  · split at h
    · rename_i hbq
      simp only [Bool.and_eq_true, Nat.beq_eq] at hbq
      obtain ⟨rfl, rfl, rfl, rfl, rfl, rfl⟩ := hbq
      exact pj_run_ok (sd_X11_readsArc C) (List.forall_mem_cons.mpr ⟨sg_X11_readsArc_91 C , fun q h => by cases h⟩) 101 58 _ _ _ _ ((eq_X11_readsArc_58 _ _ _ _ _ _).trans h) hR
    · cases h
  · cases h
set_option maxRecDepth 20000 in
theorem eq_X11_readsArc_25 (x1 : Int32) (s1 : Int32) (d2 d3 d4 : Option pj_V) (m : pj_M) : pj_run tb_X11_readsArc [(58, C_X11_readsArc_58 (J_X11_readsArc_58 ))] 101 25 [some (.inr (.inr (0, 11, 72))), some (.inl x1), d2, d3, d4] [.inl s1, .inr (.inr (0, 11, 72))] m = J_X11_readsArc_25 x1 s1 m := by rfl
theorem sg_X11_readsArc_25 {G : pj_E} {A : Nat → Prop} {P : pj_P} {S : pj_U} {Z : pj_Z} (C : pj_C (G, A, (c_X11_readsArc, y_X11_readsArc.cls, 5, none, 5), P, S, Z)) : pj_G (G, A, (c_X11_readsArc, y_X11_readsArc.cls, 5, none, 5), P, S, Z) pj_eV 25 (C_X11_readsArc_25 (J_X11_readsArc_25)) := by
  intro L st m r h hR
  unfold C_X11_readsArc_25 at h
  split at h
  · split at h
    · rename_i hbq
      simp only [Bool.and_eq_true, Nat.beq_eq] at hbq
      obtain ⟨rfl, rfl, rfl, rfl, rfl, rfl⟩ := hbq
      exact pj_run_ok (sd_X11_readsArc C) (List.forall_mem_cons.mpr ⟨sg_X11_readsArc_58 C , fun q h => by cases h⟩) 101 25 _ _ _ _ ((eq_X11_readsArc_25 _ _ _ _ _ _).trans h) hR
    · cases h
  · cases h
set_option maxRecDepth 20000 in
theorem eq_X11_readsArc (m : pj_M) : pj_run tb_X11_readsArc [(25, C_X11_readsArc_25 (J_X11_readsArc_25 ))] 101 0 [some (.inr (.inr (0, 11, 72))), none, none, none, none] [] m = F_X11_readsArc m := by rfl
theorem ct_X11_readsArc : pj_Ct pj_eV y_X11_readsArc c_X11_readsArc 5 none 5 W_X11_readsArc := by
  refine pj_ct_of (by decide +kernel) ?_ ?_
  · intro as m r h
    unfold W_X11_readsArc at h
    split at h
    · simp [pj_l0]
    · cases h
  · intro G A P S Z C as m r h hR
    unfold W_X11_readsArc at h
    split at h
    · split at h
      · rename_i hbq
        simp only [Bool.and_eq_true, Nat.beq_eq] at hbq
        obtain ⟨rfl, rfl, rfl⟩ := hbq
        exact pj_run_ok (sd_X11_readsArc C) (List.forall_mem_cons.mpr ⟨sg_X11_readsArc_25 C , fun q h => by cases h⟩) 101 0 _ _ _ _ ((eq_X11_readsArc _).trans h) hR
      · cases h
    · cases h
/-! AlikeStepsModel.system()I -/
abbrev c_X11_system : ByteArray := prog_13_method_28_code
def y_X11_system : MethodName := ⟨RX11, "system", "()I"⟩
noncomputable def J_X11_system_132 (s1 : Int32) (m : pj_M) : Option (Int32 × pj_M) := ((F_X11_must s1 m).bind fun q1 => ((F_X11_isWell (pj_wr q1 72 6 0)).bind fun q2 => (if q2.1 = 0 then (some ((-1000100) - (q2.2.1 72 8), q2.2)) else ((F_X11_copies 72 79 0 72 78 0 q2.2).bind fun q3 => (if (0 : Int32) < 0 ∨ 72 ≤ (0 : Int32).toNatClampNeg then none else (some ((pj_wr q3 72 16 0).1 78 (0 : Int32).toNatClampNeg, (pj_wr q3 72 16 0))))))))
noncomputable def J_X11_system_119 (m : pj_M) : Option (Int32 × pj_M) := (if (m.1 72 11) = 0 then (J_X11_system_132 1 m) else (J_X11_system_132 0 m))
noncomputable def H_X11_system_85 : Nat → pj_M → Option (Int32 × pj_M)
  | 0, _ => none
  | n1 + 1, m => ((F_X11_isWell m).bind fun q1 => (if q1.1 = 0 then (J_X11_system_119 q1.2) else (if (q1.2.1 72 11) = 1 then ((F_X11_letterOf (q1.2.1 72 12) q1.2).bind fun q2 => (if q2.1 = (-1000000) then (J_X11_system_119 q2.2) else ((F_X11_readsArc q2.2).bind fun q3 => (H_X11_system_85 n1 q3)))) else (J_X11_system_119 q1.2))))
noncomputable def J_X11_system_67 (m : pj_M) : Option (Int32 × pj_M) := (if (0 : Int32) < 0 ∨ 72 ≤ (0 : Int32).toNatClampNeg then none else (if (0 : Int32) < (m.1 79 (0 : Int32).toNatClampNeg) then ((F_X11_must 1 m).bind fun q2 => (H_X11_system_85 pj_z q2)) else ((F_X11_must 0 m).bind fun q1 => (H_X11_system_85 pj_z q1))))
noncomputable def H_X11_system_35 : Nat → pj_M → Option (Int32 × pj_M)
  | 0, _ => none
  | n1 + 1, m => ((F_X11_isWell m).bind fun q1 => (if q1.1 = 0 then (J_X11_system_67 q1.2) else (if (q1.2.1 72 11) = 1 then ((F_X11_kindOf (q1.2.1 72 12) q1.2).bind fun q2 => (if (0 : Int32) < q2.1 then ((F_X11_readsState q2.2).bind fun q3 => (H_X11_system_35 n1 q3)) else (J_X11_system_67 q2.2))) else (J_X11_system_67 q1.2))))
noncomputable def J_X11_system_21 (m : pj_M) : Option (Int32 × pj_M) := ((F_X11_advances (pj_wr (pj_wr m 72 9 0) 72 8 (-1))).bind fun q1 => (H_X11_system_35 pj_z q1))
noncomputable def H_X11_system_2 : Nat → Int32 → pj_M → Option (Int32 × pj_M)
  | 0, _, _ => none
  | n1 + 1, x1, m => (if x1 < 72 then (if x1 < 0 ∨ 72 ≤ x1.toNatClampNeg then none else (H_X11_system_2 n1 (x1 + 1) (pj_wr m 79 x1.toNatClampNeg 0))) else (J_X11_system_21 m))
noncomputable def F_X11_system (m : pj_M) : Option (Int32 × pj_M) := (H_X11_system_2 pj_z 0 m)
noncomputable def W_X11_system : List pj_V → pj_M → Option (Int32 × pj_M) := fun as m => match as with
  | [.inr (.inr (t0, w0, a0))] => (match Nat.beq t0 0 && (Nat.beq w0 11 && (Nat.beq a0 72)) with
    | true => F_X11_system m
    | false => none)
  | _ => none
noncomputable def tb_X11_system_0 : List (Nat × pj_T (Int32 × pj_M)) := [(0, qs_ci 0 1), (1, qs_sti 1 2), (2, qs_ldi 1 3), (3, qs_ci 72 5), (5, qs_icge 21 8), (8, qs_lda 0 9), (9, qs_gf 11 14 12), (12, qs_ldi 1 13), (13, qs_ci 0 14), (14, qs_iast 15), (15, qs_inc 1 1 18), (18, qs_go 2), (21, qs_lda 0 22), (22, qs_ci 0 23), (23, qs_pf 11 9 26), (26, qs_lda 0 27), (27, qs_ci (-1) 28), (28, qs_pf 11 8 31), (31, qs_lda 0 32), (32, qs_vV 11 1 W_X11_advances 35), (35, qs_lda 0 36), (36, qs_vI 11 1 W_X11_isWell 39), (39, qs_ifeq 67 42), (42, qs_lda 0 43), (43, qs_gf 11 11 46), (46, qs_ci 1 47), (47, qs_icne 67 50), (50, qs_lda 0 51), (51, qs_gf 11 12 54), (54, qs_sI 1 W_X11_kindOf 57), (57, qs_ifle 67 60), (60, qs_lda 0 61), (61, qs_vV 11 1 W_X11_readsState 64), (64, qs_go 35), (67, qs_lda 0 68), (68, qs_lda 0 69), (69, qs_gf 11 14 72), (72, qs_ci 0 73), (73, qs_iald 74), (74, qs_ifle 81 77)]
noncomputable def tb_X11_system_1 : List (Nat × pj_T (Int32 × pj_M)) := [(77, qs_ci 1 78), (78, qs_go 82), (81, qs_ci 0 82), (82, qs_vV 11 2 W_X11_must 85), (85, qs_lda 0 86), (86, qs_vI 11 1 W_X11_isWell 89), (89, qs_ifeq 119 92), (92, qs_lda 0 93), (93, qs_gf 11 11 96), (96, qs_ci 1 97), (97, qs_icne 119 100), (100, qs_lda 0 101), (101, qs_gf 11 12 104), (104, qs_sI 1 W_X11_letterOf 107), (107, qs_ci (-1000000) 109), (109, qs_iceq 119 112), (112, qs_lda 0 113), (113, qs_vV 11 1 W_X11_readsArc 116), (116, qs_go 85), (119, qs_lda 0 120), (120, qs_lda 0 121), (121, qs_gf 11 11 124), (124, qs_ifne 131 127), (127, qs_ci 1 128), (128, qs_go 132), (131, qs_ci 0 132), (132, qs_vV 11 2 W_X11_must 135), (135, qs_lda 0 136), (136, qs_ci 0 137), (137, qs_pf 11 6 140), (140, qs_lda 0 141), (141, qs_vI 11 1 W_X11_isWell 144), (144, qs_ifne 155 147), (147, qs_ci (-1000100) 149), (149, qs_lda 0 150), (150, qs_gf 11 8 153), (153, qs_b2 (fun x y => x - y) 154), (154, qs_iret), (155, qs_lda 0 156), (156, qs_gf 11 14 159)]
noncomputable def tb_X11_system_2 : List (Nat × pj_T (Int32 × pj_M)) := [(159, qs_ci 0 160), (160, qs_lda 0 161), (161, qs_gf 11 13 164), (164, qs_ci 0 165), (165, qs_sV 4 W_X11_copies 168), (168, qs_lda 0 169), (169, qs_ci 0 170), (170, qs_pf 11 16 173), (173, qs_lda 0 174), (174, qs_gf 11 13 177), (177, qs_ci 0 178), (178, qs_iald 179), (179, qs_iret)]
noncomputable def tb_X11_system : List (Nat × pj_T (Int32 × pj_M)) := tb_X11_system_0 ++ (tb_X11_system_1 ++ (tb_X11_system_2))
theorem mv_X11_system : pj_mv y_X11_system c_X11_system 2 (some .int) 0 := ⟨⟨cw_1170, cw_1168, cw_1169, cw_92⟩, by decide +kernel, by decide⟩
set_option maxRecDepth 20000 in
theorem sd_X11_system_0 {G : pj_E} {A : Nat → Prop} {P : pj_P} {S : pj_U} {Z : pj_Z} (C : pj_C (G, A, (c_X11_system, y_X11_system.cls, 2, (some .int), 6), P, S, Z)) : ∀ q ∈ tb_X11_system_0, pj_S (G, A, (c_X11_system, y_X11_system.cls, 2, (some .int), 6), P, S, Z) pj_eI q.1 q.2 :=
  List.forall_mem_cons.mpr ⟨qz_iconst C (show decode c_X11_system 0 = .ok (.iconst 0, 1) by decide +kernel) (by decide +kernel),
  List.forall_mem_cons.mpr ⟨qz_istore_n C (show decode c_X11_system 1 = .ok (.istore_n 1, 1) by decide +kernel) rfl,
  List.forall_mem_cons.mpr ⟨qz_iload_n C (show decode c_X11_system 2 = .ok (.iload_n 1, 1) by decide +kernel) rfl,
  List.forall_mem_cons.mpr ⟨qz_bipush C (show decode c_X11_system 3 = .ok (.bipush 72, 2) by decide +kernel) (by decide +kernel),
  List.forall_mem_cons.mpr ⟨qz_icge C (show decode c_X11_system 5 = .ok (.if_icmp .ge 16, 3) by decide +kernel) (by decide),
  List.forall_mem_cons.mpr ⟨qz_aload_n C (show decode c_X11_system 8 = .ok (.aload_n 0, 1) by decide +kernel) rfl,
  List.forall_mem_cons.mpr ⟨qz_gf (k := 14) C (show decode c_X11_system 9 = .ok (.getfield 28, 3) by decide +kernel) vcX11 wiX11 (by decide) cw_1032,
  List.forall_mem_cons.mpr ⟨qz_iload_n C (show decode c_X11_system 12 = .ok (.iload_n 1, 1) by decide +kernel) rfl,
  List.forall_mem_cons.mpr ⟨qz_iconst C (show decode c_X11_system 13 = .ok (.iconst 0, 1) by decide +kernel) (by decide +kernel),
  List.forall_mem_cons.mpr ⟨qz_iast C (show decode c_X11_system 14 = .ok (.iastore, 1) by decide +kernel),
  List.forall_mem_cons.mpr ⟨qz_iinc C (show decode c_X11_system 15 = .ok (.iinc 1 1, 3) by decide +kernel) (by decide +kernel),
  List.forall_mem_cons.mpr ⟨qz_goto C (show decode c_X11_system 18 = .ok (.goto (-16), 3) by decide +kernel) (by decide),
  List.forall_mem_cons.mpr ⟨qz_aload_n C (show decode c_X11_system 21 = .ok (.aload_n 0, 1) by decide +kernel) rfl,
  List.forall_mem_cons.mpr ⟨qz_iconst C (show decode c_X11_system 22 = .ok (.iconst 0, 1) by decide +kernel) (by decide +kernel),
  List.forall_mem_cons.mpr ⟨qz_pf (k := 9) C (show decode c_X11_system 23 = .ok (.putfield 114, 3) by decide +kernel) vcX11 wiX11 tyX11_ok nmX11 (by decide) cw_1027 rfl rfl,
  List.forall_mem_cons.mpr ⟨qz_aload_n C (show decode c_X11_system 26 = .ok (.aload_n 0, 1) by decide +kernel) rfl,
  List.forall_mem_cons.mpr ⟨qz_iconst C (show decode c_X11_system 27 = .ok (.iconst (-1), 1) by decide +kernel) (by decide +kernel),
  List.forall_mem_cons.mpr ⟨qz_pf (k := 8) C (show decode c_X11_system 28 = .ok (.putfield 129, 3) by decide +kernel) vcX11 wiX11 tyX11_ok nmX11 (by decide) cw_1026 rfl rfl,
  List.forall_mem_cons.mpr ⟨qz_aload_n C (show decode c_X11_system 31 = .ok (.aload_n 0, 1) by decide +kernel) rfl,
  List.forall_mem_cons.mpr ⟨qz_vV C (show decode c_X11_system 32 = .ok (.invokevirtual 139, 3) by decide +kernel) ct_X11_advances mv_X11_advances cw_1171 vcX11 (show 2 < 6 by omega),
  List.forall_mem_cons.mpr ⟨qz_aload_n C (show decode c_X11_system 35 = .ok (.aload_n 0, 1) by decide +kernel) rfl,
  List.forall_mem_cons.mpr ⟨qz_vI C (show decode c_X11_system 36 = .ok (.invokevirtual 132, 3) by decide +kernel) ct_X11_isWell mv_X11_isWell cw_1179 vcX11 (show 1 < 6 by omega),
  List.forall_mem_cons.mpr ⟨qz_ifeq C (show decode c_X11_system 39 = .ok (.ifCond .eq 28, 3) by decide +kernel) (by decide),
  List.forall_mem_cons.mpr ⟨qz_aload_n C (show decode c_X11_system 42 = .ok (.aload_n 0, 1) by decide +kernel) rfl,
  List.forall_mem_cons.mpr ⟨qz_gf (k := 11) C (show decode c_X11_system 43 = .ok (.getfield 126, 3) by decide +kernel) vcX11 wiX11 (by decide) cw_1029,
  List.forall_mem_cons.mpr ⟨qz_iconst C (show decode c_X11_system 46 = .ok (.iconst 1, 1) by decide +kernel) (by decide +kernel),
  List.forall_mem_cons.mpr ⟨qz_icne C (show decode c_X11_system 47 = .ok (.if_icmp .ne 20, 3) by decide +kernel) (by decide),
  List.forall_mem_cons.mpr ⟨qz_aload_n C (show decode c_X11_system 50 = .ok (.aload_n 0, 1) by decide +kernel) rfl,
  List.forall_mem_cons.mpr ⟨qz_gf (k := 12) C (show decode c_X11_system 51 = .ok (.getfield 123, 3) by decide +kernel) vcX11 wiX11 (by decide) cw_1030,
  List.forall_mem_cons.mpr ⟨qz_sI C (show decode c_X11_system 54 = .ok (.invokestatic 146, 3) by decide +kernel) ct_X11_kindOf mv_X11_kindOf (Or.inl cw_1183) (show 1 < 6 by omega),
  List.forall_mem_cons.mpr ⟨qz_ifle C (show decode c_X11_system 57 = .ok (.ifCond .le 10, 3) by decide +kernel) (by decide),
  List.forall_mem_cons.mpr ⟨qz_aload_n C (show decode c_X11_system 60 = .ok (.aload_n 0, 1) by decide +kernel) rfl,
  List.forall_mem_cons.mpr ⟨qz_vV C (show decode c_X11_system 61 = .ok (.invokevirtual 155, 3) by decide +kernel) ct_X11_readsState mv_X11_readsState cw_1186 vcX11 (show 4 < 6 by omega),
  List.forall_mem_cons.mpr ⟨qz_goto C (show decode c_X11_system 64 = .ok (.goto (-29), 3) by decide +kernel) (by decide),
  List.forall_mem_cons.mpr ⟨qz_aload_n C (show decode c_X11_system 67 = .ok (.aload_n 0, 1) by decide +kernel) rfl,
  List.forall_mem_cons.mpr ⟨qz_aload_n C (show decode c_X11_system 68 = .ok (.aload_n 0, 1) by decide +kernel) rfl,
  List.forall_mem_cons.mpr ⟨qz_gf (k := 14) C (show decode c_X11_system 69 = .ok (.getfield 28, 3) by decide +kernel) vcX11 wiX11 (by decide) cw_1032,
  List.forall_mem_cons.mpr ⟨qz_iconst C (show decode c_X11_system 72 = .ok (.iconst 0, 1) by decide +kernel) (by decide +kernel),
  List.forall_mem_cons.mpr ⟨qz_iald C (show decode c_X11_system 73 = .ok (.iaload, 1) by decide +kernel),
  List.forall_mem_cons.mpr ⟨qz_ifle C (show decode c_X11_system 74 = .ok (.ifCond .le 7, 3) by decide +kernel) (by decide),
  (fun q h => by cases h)⟩⟩⟩⟩⟩⟩⟩⟩⟩⟩⟩⟩⟩⟩⟩⟩⟩⟩⟩⟩⟩⟩⟩⟩⟩⟩⟩⟩⟩⟩⟩⟩⟩⟩⟩⟩⟩⟩⟩⟩
set_option maxRecDepth 20000 in
theorem sd_X11_system_1 {G : pj_E} {A : Nat → Prop} {P : pj_P} {S : pj_U} {Z : pj_Z} (C : pj_C (G, A, (c_X11_system, y_X11_system.cls, 2, (some .int), 6), P, S, Z)) : ∀ q ∈ tb_X11_system_1, pj_S (G, A, (c_X11_system, y_X11_system.cls, 2, (some .int), 6), P, S, Z) pj_eI q.1 q.2 :=
  List.forall_mem_cons.mpr ⟨qz_iconst C (show decode c_X11_system 77 = .ok (.iconst 1, 1) by decide +kernel) (by decide +kernel),
  List.forall_mem_cons.mpr ⟨qz_goto C (show decode c_X11_system 78 = .ok (.goto 4, 3) by decide +kernel) (by decide),
  List.forall_mem_cons.mpr ⟨qz_iconst C (show decode c_X11_system 81 = .ok (.iconst 0, 1) by decide +kernel) (by decide +kernel),
  List.forall_mem_cons.mpr ⟨qz_vV C (show decode c_X11_system 82 = .ok (.invokevirtual 158, 3) by decide +kernel) ct_X11_must mv_X11_must cw_1194 vcX11 (show 4 < 6 by omega),
  List.forall_mem_cons.mpr ⟨qz_aload_n C (show decode c_X11_system 85 = .ok (.aload_n 0, 1) by decide +kernel) rfl,
  List.forall_mem_cons.mpr ⟨qz_vI C (show decode c_X11_system 86 = .ok (.invokevirtual 132, 3) by decide +kernel) ct_X11_isWell mv_X11_isWell cw_1179 vcX11 (show 1 < 6 by omega),
  List.forall_mem_cons.mpr ⟨qz_ifeq C (show decode c_X11_system 89 = .ok (.ifCond .eq 30, 3) by decide +kernel) (by decide),
  List.forall_mem_cons.mpr ⟨qz_aload_n C (show decode c_X11_system 92 = .ok (.aload_n 0, 1) by decide +kernel) rfl,
  List.forall_mem_cons.mpr ⟨qz_gf (k := 11) C (show decode c_X11_system 93 = .ok (.getfield 126, 3) by decide +kernel) vcX11 wiX11 (by decide) cw_1029,
  List.forall_mem_cons.mpr ⟨qz_iconst C (show decode c_X11_system 96 = .ok (.iconst 1, 1) by decide +kernel) (by decide +kernel),
  List.forall_mem_cons.mpr ⟨qz_icne C (show decode c_X11_system 97 = .ok (.if_icmp .ne 22, 3) by decide +kernel) (by decide),
  List.forall_mem_cons.mpr ⟨qz_aload_n C (show decode c_X11_system 100 = .ok (.aload_n 0, 1) by decide +kernel) rfl,
  List.forall_mem_cons.mpr ⟨qz_gf (k := 12) C (show decode c_X11_system 101 = .ok (.getfield 123, 3) by decide +kernel) vcX11 wiX11 (by decide) cw_1030,
  List.forall_mem_cons.mpr ⟨qz_sI C (show decode c_X11_system 104 = .ok (.invokestatic 149, 3) by decide +kernel) ct_X11_letterOf mv_X11_letterOf (Or.inl cw_1198) (show 2 < 6 by omega),
  List.forall_mem_cons.mpr ⟨qz_ldc C (show decode c_X11_system 107 = .ok (.ldc 78, 2) by decide +kernel) cw_1017,
  List.forall_mem_cons.mpr ⟨qz_iceq C (show decode c_X11_system 109 = .ok (.if_icmp .eq 10, 3) by decide +kernel) (by decide),
  List.forall_mem_cons.mpr ⟨qz_aload_n C (show decode c_X11_system 112 = .ok (.aload_n 0, 1) by decide +kernel) rfl,
  List.forall_mem_cons.mpr ⟨qz_vV C (show decode c_X11_system 113 = .ok (.invokevirtual 162, 3) by decide +kernel) ct_X11_readsArc mv_X11_readsArc cw_1201 vcX11 (show 5 < 6 by omega),
  List.forall_mem_cons.mpr ⟨qz_goto C (show decode c_X11_system 116 = .ok (.goto (-31), 3) by decide +kernel) (by decide),
  List.forall_mem_cons.mpr ⟨qz_aload_n C (show decode c_X11_system 119 = .ok (.aload_n 0, 1) by decide +kernel) rfl,
  List.forall_mem_cons.mpr ⟨qz_aload_n C (show decode c_X11_system 120 = .ok (.aload_n 0, 1) by decide +kernel) rfl,
  List.forall_mem_cons.mpr ⟨qz_gf (k := 11) C (show decode c_X11_system 121 = .ok (.getfield 126, 3) by decide +kernel) vcX11 wiX11 (by decide) cw_1029,
  List.forall_mem_cons.mpr ⟨qz_ifne C (show decode c_X11_system 124 = .ok (.ifCond .ne 7, 3) by decide +kernel) (by decide),
  List.forall_mem_cons.mpr ⟨qz_iconst C (show decode c_X11_system 127 = .ok (.iconst 1, 1) by decide +kernel) (by decide +kernel),
  List.forall_mem_cons.mpr ⟨qz_goto C (show decode c_X11_system 128 = .ok (.goto 4, 3) by decide +kernel) (by decide),
  List.forall_mem_cons.mpr ⟨qz_iconst C (show decode c_X11_system 131 = .ok (.iconst 0, 1) by decide +kernel) (by decide +kernel),
  List.forall_mem_cons.mpr ⟨qz_vV C (show decode c_X11_system 132 = .ok (.invokevirtual 158, 3) by decide +kernel) ct_X11_must mv_X11_must cw_1194 vcX11 (show 4 < 6 by omega),
  List.forall_mem_cons.mpr ⟨qz_aload_n C (show decode c_X11_system 135 = .ok (.aload_n 0, 1) by decide +kernel) rfl,
  List.forall_mem_cons.mpr ⟨qz_iconst C (show decode c_X11_system 136 = .ok (.iconst 0, 1) by decide +kernel) (by decide +kernel),
  List.forall_mem_cons.mpr ⟨qz_pf (k := 6) C (show decode c_X11_system 137 = .ok (.putfield 110, 3) by decide +kernel) vcX11 wiX11 tyX11_ok nmX11 (by decide) cw_1024 rfl rfl,
  List.forall_mem_cons.mpr ⟨qz_aload_n C (show decode c_X11_system 140 = .ok (.aload_n 0, 1) by decide +kernel) rfl,
  List.forall_mem_cons.mpr ⟨qz_vI C (show decode c_X11_system 141 = .ok (.invokevirtual 132, 3) by decide +kernel) ct_X11_isWell mv_X11_isWell cw_1179 vcX11 (show 1 < 6 by omega),
  List.forall_mem_cons.mpr ⟨qz_ifne C (show decode c_X11_system 144 = .ok (.ifCond .ne 11, 3) by decide +kernel) (by decide),
  List.forall_mem_cons.mpr ⟨qz_ldc C (show decode c_X11_system 147 = .ok (.ldc 165, 2) by decide +kernel) cw_1209,
  List.forall_mem_cons.mpr ⟨qz_aload_n C (show decode c_X11_system 149 = .ok (.aload_n 0, 1) by decide +kernel) rfl,
  List.forall_mem_cons.mpr ⟨qz_gf (k := 8) C (show decode c_X11_system 150 = .ok (.getfield 129, 3) by decide +kernel) vcX11 wiX11 (by decide) cw_1026,
  List.forall_mem_cons.mpr ⟨qz_isub C (show decode c_X11_system 153 = .ok (.isub, 1) by decide +kernel),
  List.forall_mem_cons.mpr ⟨qz_iret C (show decode c_X11_system 154 = .ok (.ireturn, 1) by decide +kernel) rfl,
  List.forall_mem_cons.mpr ⟨qz_aload_n C (show decode c_X11_system 155 = .ok (.aload_n 0, 1) by decide +kernel) rfl,
  List.forall_mem_cons.mpr ⟨qz_gf (k := 14) C (show decode c_X11_system 156 = .ok (.getfield 28, 3) by decide +kernel) vcX11 wiX11 (by decide) cw_1032,
  (fun q h => by cases h)⟩⟩⟩⟩⟩⟩⟩⟩⟩⟩⟩⟩⟩⟩⟩⟩⟩⟩⟩⟩⟩⟩⟩⟩⟩⟩⟩⟩⟩⟩⟩⟩⟩⟩⟩⟩⟩⟩⟩⟩
set_option maxRecDepth 20000 in
theorem sd_X11_system_2 {G : pj_E} {A : Nat → Prop} {P : pj_P} {S : pj_U} {Z : pj_Z} (C : pj_C (G, A, (c_X11_system, y_X11_system.cls, 2, (some .int), 6), P, S, Z)) : ∀ q ∈ tb_X11_system_2, pj_S (G, A, (c_X11_system, y_X11_system.cls, 2, (some .int), 6), P, S, Z) pj_eI q.1 q.2 :=
  List.forall_mem_cons.mpr ⟨qz_iconst C (show decode c_X11_system 159 = .ok (.iconst 0, 1) by decide +kernel) (by decide +kernel),
  List.forall_mem_cons.mpr ⟨qz_aload_n C (show decode c_X11_system 160 = .ok (.aload_n 0, 1) by decide +kernel) rfl,
  List.forall_mem_cons.mpr ⟨qz_gf (k := 13) C (show decode c_X11_system 161 = .ok (.getfield 25, 3) by decide +kernel) vcX11 wiX11 (by decide) cw_1031,
  List.forall_mem_cons.mpr ⟨qz_iconst C (show decode c_X11_system 164 = .ok (.iconst 0, 1) by decide +kernel) (by decide +kernel),
  List.forall_mem_cons.mpr ⟨qz_sV C (show decode c_X11_system 165 = .ok (.invokestatic 166, 3) by decide +kernel) ct_X11_copies mv_X11_copies (Or.inl cw_1210) (show 1 < 6 by omega),
  List.forall_mem_cons.mpr ⟨qz_aload_n C (show decode c_X11_system 168 = .ok (.aload_n 0, 1) by decide +kernel) rfl,
  List.forall_mem_cons.mpr ⟨qz_iconst C (show decode c_X11_system 169 = .ok (.iconst 0, 1) by decide +kernel) (by decide +kernel),
  List.forall_mem_cons.mpr ⟨qz_pf (k := 16) C (show decode c_X11_system 170 = .ok (.putfield 170, 3) by decide +kernel) vcX11 wiX11 tyX11_ok nmX11 (by decide) cw_1034 rfl rfl,
  List.forall_mem_cons.mpr ⟨qz_aload_n C (show decode c_X11_system 173 = .ok (.aload_n 0, 1) by decide +kernel) rfl,
  List.forall_mem_cons.mpr ⟨qz_gf (k := 13) C (show decode c_X11_system 174 = .ok (.getfield 25, 3) by decide +kernel) vcX11 wiX11 (by decide) cw_1031,
  List.forall_mem_cons.mpr ⟨qz_iconst C (show decode c_X11_system 177 = .ok (.iconst 0, 1) by decide +kernel) (by decide +kernel),
  List.forall_mem_cons.mpr ⟨qz_iald C (show decode c_X11_system 178 = .ok (.iaload, 1) by decide +kernel),
  List.forall_mem_cons.mpr ⟨qz_iret C (show decode c_X11_system 179 = .ok (.ireturn, 1) by decide +kernel) rfl,
  (fun q h => by cases h)⟩⟩⟩⟩⟩⟩⟩⟩⟩⟩⟩⟩⟩
theorem sd_X11_system {G : pj_E} {A : Nat → Prop} {P : pj_P} {S : pj_U} {Z : pj_Z} (C : pj_C (G, A, (c_X11_system, y_X11_system.cls, 2, (some .int), 6), P, S, Z)) : ∀ q ∈ tb_X11_system, pj_S (G, A, (c_X11_system, y_X11_system.cls, 2, (some .int), 6), P, S, Z) pj_eI q.1 q.2 := List.forall_mem_append.mpr ⟨sd_X11_system_0 C, List.forall_mem_append.mpr ⟨sd_X11_system_1 C, sd_X11_system_2 C⟩⟩
noncomputable def C_X11_system_132 (f : Int32 → pj_M → Option (Int32 × pj_M)) : pj_N (Int32 × pj_M) := fun L st m => match L, st with
  | [some (.inr (.inr (t0, w0, a0))), _], [.inl s1, .inr (.inr (ts0, ws0, sa0))] => (match Nat.beq t0 0 && (Nat.beq w0 11 && (Nat.beq a0 72 && (Nat.beq ts0 0 && (Nat.beq ws0 11 && (Nat.beq sa0 72))))) with
    | true => f s1 m
    | false => none)
  | _, _ => none
noncomputable def C_X11_system_119 (f : pj_M → Option (Int32 × pj_M)) : pj_N (Int32 × pj_M) := fun L st m => match L, st with
  | [some (.inr (.inr (t0, w0, a0))), _], [] => (match Nat.beq t0 0 && (Nat.beq w0 11 && (Nat.beq a0 72)) with
    | true => f m
    | false => none)
  | _, _ => none
noncomputable def C_X11_system_85 (f : pj_M → Option (Int32 × pj_M)) : pj_N (Int32 × pj_M) := fun L st m => match L, st with
  | [some (.inr (.inr (t0, w0, a0))), _], [] => (match Nat.beq t0 0 && (Nat.beq w0 11 && (Nat.beq a0 72)) with
    | true => f m
    | false => none)
  | _, _ => none
noncomputable def C_X11_system_67 (f : pj_M → Option (Int32 × pj_M)) : pj_N (Int32 × pj_M) := fun L st m => match L, st with
  | [some (.inr (.inr (t0, w0, a0))), _], [] => (match Nat.beq t0 0 && (Nat.beq w0 11 && (Nat.beq a0 72)) with
    | true => f m
    | false => none)
  | _, _ => none
noncomputable def C_X11_system_35 (f : pj_M → Option (Int32 × pj_M)) : pj_N (Int32 × pj_M) := fun L st m => match L, st with
  | [some (.inr (.inr (t0, w0, a0))), _], [] => (match Nat.beq t0 0 && (Nat.beq w0 11 && (Nat.beq a0 72)) with
    | true => f m
    | false => none)
  | _, _ => none
noncomputable def C_X11_system_21 (f : pj_M → Option (Int32 × pj_M)) : pj_N (Int32 × pj_M) := fun L st m => match L, st with
  | [some (.inr (.inr (t0, w0, a0))), _], [] => (match Nat.beq t0 0 && (Nat.beq w0 11 && (Nat.beq a0 72)) with
    | true => f m
    | false => none)
  | _, _ => none
noncomputable def C_X11_system_2 (f : Int32 → pj_M → Option (Int32 × pj_M)) : pj_N (Int32 × pj_M) := fun L st m => match L, st with
  | [some (.inr (.inr (t0, w0, a0))), some (.inl x1)], [] => (match Nat.beq t0 0 && (Nat.beq w0 11 && (Nat.beq a0 72)) with
    | true => f x1 m
    | false => none)
  | _, _ => none
set_option maxRecDepth 20000 in
theorem eq_X11_system_132 (s1 : Int32) (d1 : Option pj_V) (m : pj_M) : pj_run tb_X11_system [] 95 132 [some (.inr (.inr (0, 11, 72))), d1] [.inl s1, .inr (.inr (0, 11, 72))] m = J_X11_system_132 s1 m := by rfl
theorem sg_X11_system_132 {G : pj_E} {A : Nat → Prop} {P : pj_P} {S : pj_U} {Z : pj_Z} (C : pj_C (G, A, (c_X11_system, y_X11_system.cls, 2, (some .int), 6), P, S, Z)) : pj_G (G, A, (c_X11_system, y_X11_system.cls, 2, (some .int), 6), P, S, Z) pj_eI 132 (C_X11_system_132 (J_X11_system_132)) := by
  intro L st m r h hR
  unfold C_X11_system_132 at h
  split at h
  · split at h
    · rename_i hbq
      simp only [Bool.and_eq_true, Nat.beq_eq] at hbq
      obtain ⟨rfl, rfl, rfl, rfl, rfl, rfl⟩ := hbq
      exact pj_run_ok (sd_X11_system C) (fun q h => by cases h) 95 132 _ _ _ _ ((eq_X11_system_132 _ _ _).trans h) hR
    · cases h
  · cases h
set_option maxRecDepth 20000 in
theorem eq_X11_system_119 (d1 : Option pj_V) (m : pj_M) : pj_run tb_X11_system [(132, C_X11_system_132 (J_X11_system_132 ))] 95 119 [some (.inr (.inr (0, 11, 72))), d1] [] m = J_X11_system_119  m := by rfl
theorem sg_X11_system_119 {G : pj_E} {A : Nat → Prop} {P : pj_P} {S : pj_U} {Z : pj_Z} (C : pj_C (G, A, (c_X11_system, y_X11_system.cls, 2, (some .int), 6), P, S, Z)) : pj_G (G, A, (c_X11_system, y_X11_system.cls, 2, (some .int), 6), P, S, Z) pj_eI 119 (C_X11_system_119 (J_X11_system_119)) := by
  intro L st m r h hR
  unfold C_X11_system_119 at h
  split at h
  · split at h
    · rename_i hbq
      simp only [Bool.and_eq_true, Nat.beq_eq] at hbq
      obtain ⟨rfl, rfl, rfl⟩ := hbq
      exact pj_run_ok (sd_X11_system C) (List.forall_mem_cons.mpr ⟨sg_X11_system_132 C , fun q h => by cases h⟩) 95 119 _ _ _ _ ((eq_X11_system_119 _ _).trans h) hR
    · cases h
  · cases h
set_option maxRecDepth 20000 in
theorem eq_X11_system_85 (n1 : Nat) (d1 : Option pj_V) (m : pj_M) : pj_run tb_X11_system [(85, C_X11_system_85 (H_X11_system_85 n1)), (119, C_X11_system_119 (J_X11_system_119 ))] 95 85 [some (.inr (.inr (0, 11, 72))), d1] [] m = H_X11_system_85 (n1 + 1)  m := by rfl
theorem sg_X11_system_85 {G : pj_E} {A : Nat → Prop} {P : pj_P} {S : pj_U} {Z : pj_Z} (C : pj_C (G, A, (c_X11_system, y_X11_system.cls, 2, (some .int), 6), P, S, Z)) : ∀ n1, pj_G (G, A, (c_X11_system, y_X11_system.cls, 2, (some .int), 6), P, S, Z) pj_eI 85 (C_X11_system_85 (H_X11_system_85 n1)) := by
  intro n1
  induction n1 with
  | zero =>
    intro L st m r h hR
    unfold C_X11_system_85 at h
    split at h
    · split at h
      · cases h
      · cases h
    · cases h
  | succ n1 ih1 =>
    intro L st m r h hR
    unfold C_X11_system_85 at h
    split at h
    · split at h
      · rename_i hbq
        simp only [Bool.and_eq_true, Nat.beq_eq] at hbq
        obtain ⟨rfl, rfl, rfl⟩ := hbq
        exact pj_run_ok (sd_X11_system C) (List.forall_mem_cons.mpr ⟨ih1, List.forall_mem_cons.mpr ⟨sg_X11_system_119 C , fun q h => by cases h⟩⟩) 95 85 _ _ _ _ ((eq_X11_system_85 _ _ _).trans h) hR
      · cases h
    · cases h
set_option maxRecDepth 20000 in
theorem eq_X11_system_67 (d1 : Option pj_V) (m : pj_M) : pj_run tb_X11_system [(85, C_X11_system_85 (H_X11_system_85  pj_z))] 95 67 [some (.inr (.inr (0, 11, 72))), d1] [] m = J_X11_system_67  m := by rfl
theorem sg_X11_system_67 {G : pj_E} {A : Nat → Prop} {P : pj_P} {S : pj_U} {Z : pj_Z} (C : pj_C (G, A, (c_X11_system, y_X11_system.cls, 2, (some .int), 6), P, S, Z)) : pj_G (G, A, (c_X11_system, y_X11_system.cls, 2, (some .int), 6), P, S, Z) pj_eI 67 (C_X11_system_67 (J_X11_system_67)) := by
  intro L st m r h hR
  unfold C_X11_system_67 at h
  split at h
  · split at h
    · rename_i hbq
      simp only [Bool.and_eq_true, Nat.beq_eq] at hbq
      obtain ⟨rfl, rfl, rfl⟩ := hbq
      exact pj_run_ok (sd_X11_system C) (List.forall_mem_cons.mpr ⟨sg_X11_system_85 C  pj_z, fun q h => by cases h⟩) 95 67 _ _ _ _ ((eq_X11_system_67 _ _).trans h) hR
    · cases h
  · cases h
set_option maxRecDepth 20000 in
theorem eq_X11_system_35 (n1 : Nat) (d1 : Option pj_V) (m : pj_M) : pj_run tb_X11_system [(35, C_X11_system_35 (H_X11_system_35 n1)), (67, C_X11_system_67 (J_X11_system_67 ))] 95 35 [some (.inr (.inr (0, 11, 72))), d1] [] m = H_X11_system_35 (n1 + 1)  m := by rfl
theorem sg_X11_system_35 {G : pj_E} {A : Nat → Prop} {P : pj_P} {S : pj_U} {Z : pj_Z} (C : pj_C (G, A, (c_X11_system, y_X11_system.cls, 2, (some .int), 6), P, S, Z)) : ∀ n1, pj_G (G, A, (c_X11_system, y_X11_system.cls, 2, (some .int), 6), P, S, Z) pj_eI 35 (C_X11_system_35 (H_X11_system_35 n1)) := by
  intro n1
  induction n1 with
  | zero =>
    intro L st m r h hR
    unfold C_X11_system_35 at h
    split at h
    · split at h
      · cases h
      · cases h
    · cases h
  | succ n1 ih1 =>
    intro L st m r h hR
    unfold C_X11_system_35 at h
    split at h
    · split at h
      · rename_i hbq
        simp only [Bool.and_eq_true, Nat.beq_eq] at hbq
        obtain ⟨rfl, rfl, rfl⟩ := hbq
        exact pj_run_ok (sd_X11_system C) (List.forall_mem_cons.mpr ⟨ih1, List.forall_mem_cons.mpr ⟨sg_X11_system_67 C , fun q h => by cases h⟩⟩) 95 35 _ _ _ _ ((eq_X11_system_35 _ _ _).trans h) hR
      · cases h
    · cases h
set_option maxRecDepth 20000 in
theorem eq_X11_system_21 (d1 : Option pj_V) (m : pj_M) : pj_run tb_X11_system [(35, C_X11_system_35 (H_X11_system_35  pj_z))] 95 21 [some (.inr (.inr (0, 11, 72))), d1] [] m = J_X11_system_21  m := by rfl
theorem sg_X11_system_21 {G : pj_E} {A : Nat → Prop} {P : pj_P} {S : pj_U} {Z : pj_Z} (C : pj_C (G, A, (c_X11_system, y_X11_system.cls, 2, (some .int), 6), P, S, Z)) : pj_G (G, A, (c_X11_system, y_X11_system.cls, 2, (some .int), 6), P, S, Z) pj_eI 21 (C_X11_system_21 (J_X11_system_21)) := by
  intro L st m r h hR
  unfold C_X11_system_21 at h
  split at h
  · split at h
    · rename_i hbq
      simp only [Bool.and_eq_true, Nat.beq_eq] at hbq
      obtain ⟨rfl, rfl, rfl⟩ := hbq
      exact pj_run_ok (sd_X11_system C) (List.forall_mem_cons.mpr ⟨sg_X11_system_35 C  pj_z, fun q h => by cases h⟩) 95 21 _ _ _ _ ((eq_X11_system_21 _ _).trans h) hR
    · cases h
  · cases h
set_option maxRecDepth 20000 in
theorem eq_X11_system_2 (n1 : Nat) (x1 : Int32) (m : pj_M) : pj_run tb_X11_system [(2, C_X11_system_2 (H_X11_system_2 n1)), (21, C_X11_system_21 (J_X11_system_21 ))] 95 2 [some (.inr (.inr (0, 11, 72))), some (.inl x1)] [] m = H_X11_system_2 (n1 + 1) x1 m := by rfl
theorem sg_X11_system_2 {G : pj_E} {A : Nat → Prop} {P : pj_P} {S : pj_U} {Z : pj_Z} (C : pj_C (G, A, (c_X11_system, y_X11_system.cls, 2, (some .int), 6), P, S, Z)) : ∀ n1, pj_G (G, A, (c_X11_system, y_X11_system.cls, 2, (some .int), 6), P, S, Z) pj_eI 2 (C_X11_system_2 (H_X11_system_2 n1)) := by
  intro n1
  induction n1 with
  | zero =>
    intro L st m r h hR
    unfold C_X11_system_2 at h
    split at h
    · split at h
      · cases h
      · cases h
    · cases h
  | succ n1 ih1 =>
    intro L st m r h hR
    unfold C_X11_system_2 at h
    split at h
    · split at h
      · rename_i hbq
        simp only [Bool.and_eq_true, Nat.beq_eq] at hbq
        obtain ⟨rfl, rfl, rfl⟩ := hbq
        exact pj_run_ok (sd_X11_system C) (List.forall_mem_cons.mpr ⟨ih1, List.forall_mem_cons.mpr ⟨sg_X11_system_21 C , fun q h => by cases h⟩⟩) 95 2 _ _ _ _ ((eq_X11_system_2 _ _ _).trans h) hR
      · cases h
    · cases h
set_option maxRecDepth 20000 in
theorem eq_X11_system (m : pj_M) : pj_run tb_X11_system [(2, C_X11_system_2 (H_X11_system_2  pj_z))] 95 0 [some (.inr (.inr (0, 11, 72))), none] [] m = F_X11_system m := by rfl
theorem ct_X11_system : pj_Ct pj_eI y_X11_system c_X11_system 2 (some .int) 6 W_X11_system := by
  refine pj_ct_of (by decide +kernel) ?_ ?_
  · intro as m r h
    unfold W_X11_system at h
    split at h
    · simp [pj_l0]
    · cases h
  · intro G A P S Z C as m r h hR
    unfold W_X11_system at h
    split at h
    · split at h
      · rename_i hbq
        simp only [Bool.and_eq_true, Nat.beq_eq] at hbq
        obtain ⟨rfl, rfl, rfl⟩ := hbq
        exact pj_run_ok (sd_X11_system C) (List.forall_mem_cons.mpr ⟨sg_X11_system_2 C  pj_z, fun q h => by cases h⟩) 95 0 _ _ _ _ ((eq_X11_system _).trans h) hR
      · cases h
    · cases h
/-! AlikeStepsModel.fault()I -/
abbrev c_X11_fault : ByteArray := prog_13_method_29_code
def y_X11_fault : MethodName := ⟨RX11, "fault", "()I"⟩
noncomputable def F_X11_fault (m : pj_M) : Option (Int32 × pj_M) := (some (m.1 72 7, m))
noncomputable def W_X11_fault : List pj_V → pj_M → Option (Int32 × pj_M) := fun as m => match as with
  | [.inr (.inr (t0, w0, a0))] => (match Nat.beq t0 0 && (Nat.beq w0 11 && (Nat.beq a0 72)) with
    | true => F_X11_fault m
    | false => none)
  | _ => none
noncomputable def tb_X11_fault_0 : List (Nat × pj_T (Int32 × pj_M)) := [(0, qs_lda 0 1), (1, qs_gf 11 7 4), (4, qs_iret)]
noncomputable abbrev tb_X11_fault : List (Nat × pj_T (Int32 × pj_M)) := tb_X11_fault_0
theorem mv_X11_fault : pj_mv y_X11_fault c_X11_fault 1 (some .int) 0 := ⟨⟨cw_1216, cw_1214, cw_1215, cw_92⟩, by decide +kernel, by decide⟩
set_option maxRecDepth 20000 in
theorem sd_X11_fault_0 {G : pj_E} {A : Nat → Prop} {P : pj_P} {S : pj_U} {Z : pj_Z} (C : pj_C (G, A, (c_X11_fault, y_X11_fault.cls, 1, (some .int), 1), P, S, Z)) : ∀ q ∈ tb_X11_fault_0, pj_S (G, A, (c_X11_fault, y_X11_fault.cls, 1, (some .int), 1), P, S, Z) pj_eI q.1 q.2 :=
  List.forall_mem_cons.mpr ⟨qz_aload_n C (show decode c_X11_fault 0 = .ok (.aload_n 0, 1) by decide +kernel) rfl,
  List.forall_mem_cons.mpr ⟨qz_gf (k := 7) C (show decode c_X11_fault 1 = .ok (.getfield 136, 3) by decide +kernel) vcX11 wiX11 (by decide) cw_1025,
  List.forall_mem_cons.mpr ⟨qz_iret C (show decode c_X11_fault 4 = .ok (.ireturn, 1) by decide +kernel) rfl,
  (fun q h => by cases h)⟩⟩⟩
theorem sd_X11_fault {G : pj_E} {A : Nat → Prop} {P : pj_P} {S : pj_U} {Z : pj_Z} (C : pj_C (G, A, (c_X11_fault, y_X11_fault.cls, 1, (some .int), 1), P, S, Z)) : ∀ q ∈ tb_X11_fault, pj_S (G, A, (c_X11_fault, y_X11_fault.cls, 1, (some .int), 1), P, S, Z) pj_eI q.1 q.2 := sd_X11_fault_0 C
set_option maxRecDepth 20000 in
theorem eq_X11_fault (m : pj_M) : pj_run tb_X11_fault [] 5 0 [some (.inr (.inr (0, 11, 72)))] [] m = F_X11_fault m := by rfl
theorem ct_X11_fault : pj_Ct pj_eI y_X11_fault c_X11_fault 1 (some .int) 1 W_X11_fault := by
  refine pj_ct_of (by decide +kernel) ?_ ?_
  · intro as m r h
    unfold W_X11_fault at h
    split at h
    · simp [pj_l0]
    · cases h
  · intro G A P S Z C as m r h hR
    unfold W_X11_fault at h
    split at h
    · split at h
      · rename_i hbq
        simp only [Bool.and_eq_true, Nat.beq_eq] at hbq
        obtain ⟨rfl, rfl, rfl⟩ := hbq
        exact pj_run_ok (sd_X11_fault C) (fun q h => by cases h) 5 0 _ _ _ _ ((eq_X11_fault _).trans h) hR
      · cases h
    · cases h
/-! AlikeStepsModel.isSystem()Z -/
abbrev c_X11_isSystem : ByteArray := prog_13_method_30_code
def y_X11_isSystem : MethodName := ⟨RX11, "isSystem", "()Z"⟩
noncomputable def F_X11_isSystem (m : pj_M) : Option (Int32 × pj_M) := (if (0 : Int32) < 0 ∨ 72 ≤ (0 : Int32).toNatClampNeg then none else (if (0 : Int32) < (m.1 78 (0 : Int32).toNatClampNeg) then (some (1, m)) else (some (0, m))))
noncomputable def W_X11_isSystem : List pj_V → pj_M → Option (Int32 × pj_M) := fun as m => match as with
  | [.inr (.inr (t0, w0, a0))] => (match Nat.beq t0 0 && (Nat.beq w0 11 && (Nat.beq a0 72)) with
    | true => F_X11_isSystem m
    | false => none)
  | _ => none
noncomputable def tb_X11_isSystem_0 : List (Nat × pj_T (Int32 × pj_M)) := [(0, qs_lda 0 1), (1, qs_gf 11 13 4), (4, qs_ci 0 5), (5, qs_iald 6), (6, qs_ifle 13 9), (9, qs_ci 1 10), (10, qs_go 14), (13, qs_ci 0 14), (14, qs_zret)]
noncomputable abbrev tb_X11_isSystem : List (Nat × pj_T (Int32 × pj_M)) := tb_X11_isSystem_0
theorem mv_X11_isSystem : pj_mv y_X11_isSystem c_X11_isSystem 1 (some .boolean) 0 := ⟨⟨cw_1336, cw_1335, cw_62, cw_92⟩, by decide +kernel, by decide⟩
set_option maxRecDepth 20000 in
theorem sd_X11_isSystem_0 {G : pj_E} {A : Nat → Prop} {P : pj_P} {S : pj_U} {Z : pj_Z} (C : pj_C (G, A, (c_X11_isSystem, y_X11_isSystem.cls, 1, (some .boolean), 1), P, S, Z)) : ∀ q ∈ tb_X11_isSystem_0, pj_S (G, A, (c_X11_isSystem, y_X11_isSystem.cls, 1, (some .boolean), 1), P, S, Z) pj_eI q.1 q.2 :=
  List.forall_mem_cons.mpr ⟨qz_aload_n C (show decode c_X11_isSystem 0 = .ok (.aload_n 0, 1) by decide +kernel) rfl,
  List.forall_mem_cons.mpr ⟨qz_gf (k := 13) C (show decode c_X11_isSystem 1 = .ok (.getfield 25, 3) by decide +kernel) vcX11 wiX11 (by decide) cw_1031,
  List.forall_mem_cons.mpr ⟨qz_iconst C (show decode c_X11_isSystem 4 = .ok (.iconst 0, 1) by decide +kernel) (by decide +kernel),
  List.forall_mem_cons.mpr ⟨qz_iald C (show decode c_X11_isSystem 5 = .ok (.iaload, 1) by decide +kernel),
  List.forall_mem_cons.mpr ⟨qz_ifle C (show decode c_X11_isSystem 6 = .ok (.ifCond .le 7, 3) by decide +kernel) (by decide),
  List.forall_mem_cons.mpr ⟨qz_iconst C (show decode c_X11_isSystem 9 = .ok (.iconst 1, 1) by decide +kernel) (by decide +kernel),
  List.forall_mem_cons.mpr ⟨qz_goto C (show decode c_X11_isSystem 10 = .ok (.goto 4, 3) by decide +kernel) (by decide),
  List.forall_mem_cons.mpr ⟨qz_iconst C (show decode c_X11_isSystem 13 = .ok (.iconst 0, 1) by decide +kernel) (by decide +kernel),
  List.forall_mem_cons.mpr ⟨qz_zret C (show decode c_X11_isSystem 14 = .ok (.ireturn, 1) by decide +kernel) rfl,
  (fun q h => by cases h)⟩⟩⟩⟩⟩⟩⟩⟩⟩
theorem sd_X11_isSystem {G : pj_E} {A : Nat → Prop} {P : pj_P} {S : pj_U} {Z : pj_Z} (C : pj_C (G, A, (c_X11_isSystem, y_X11_isSystem.cls, 1, (some .boolean), 1), P, S, Z)) : ∀ q ∈ tb_X11_isSystem, pj_S (G, A, (c_X11_isSystem, y_X11_isSystem.cls, 1, (some .boolean), 1), P, S, Z) pj_eI q.1 q.2 := sd_X11_isSystem_0 C
set_option maxRecDepth 20000 in
theorem eq_X11_isSystem (m : pj_M) : pj_run tb_X11_isSystem [] 11 0 [some (.inr (.inr (0, 11, 72)))] [] m = F_X11_isSystem m := by rfl
theorem ct_X11_isSystem : pj_Ct pj_eI y_X11_isSystem c_X11_isSystem 1 (some .boolean) 1 W_X11_isSystem := by
  refine pj_ct_of (by decide +kernel) ?_ ?_
  · intro as m r h
    unfold W_X11_isSystem at h
    split at h
    · simp [pj_l0]
    · cases h
  · intro G A P S Z C as m r h hR
    unfold W_X11_isSystem at h
    split at h
    · split at h
      · rename_i hbq
        simp only [Bool.and_eq_true, Nat.beq_eq] at hbq
        obtain ⟨rfl, rfl, rfl⟩ := hbq
        exact pj_run_ok (sd_X11_isSystem C) (fun q h => by cases h) 11 0 _ _ _ _ ((eq_X11_isSystem _).trans h) hR
      · cases h
    · cases h
/-! AlikeStepsModel.isState(I)Z -/
abbrev c_X11_isState : ByteArray := prog_13_method_31_code
def y_X11_isState : MethodName := ⟨RX11, "isState", "(I)Z"⟩
noncomputable def F_X11_isState (x1 : Int32) (m : pj_M) : Option (Int32 × pj_M) := (if (0 : Int32) < 0 ∨ 72 ≤ (0 : Int32).toNatClampNeg then none else ((F_X11_in x1 0 ((m.1 78 (0 : Int32).toNatClampNeg) - 1) m).bind fun q1 => (if q1.1 = 0 then (some (0, q1.2)) else (if q1.1 = 1 then (some (1, q1.2)) else none))))
noncomputable def W_X11_isState : List pj_V → pj_M → Option (Int32 × pj_M) := fun as m => match as with
  | [.inr (.inr (t0, w0, a0)), .inl x1] => (match Nat.beq t0 0 && (Nat.beq w0 11 && (Nat.beq a0 72)) with
    | true => F_X11_isState x1 m
    | false => none)
  | _ => none
noncomputable def tb_X11_isState_0 : List (Nat × pj_T (Int32 × pj_M)) := [(0, qs_ldi 1 1), (1, qs_ci 0 2), (2, qs_lda 0 3), (3, qs_gf 11 13 6), (6, qs_ci 0 7), (7, qs_iald 8), (8, qs_ci 1 9), (9, qs_b2 (fun x y => x - y) 10), (10, qs_sI 3 W_X11_in 13), (13, qs_zret)]
noncomputable abbrev tb_X11_isState : List (Nat × pj_T (Int32 × pj_M)) := tb_X11_isState_0
theorem mv_X11_isState : pj_mv y_X11_isState c_X11_isState 2 (some .boolean) 1 := ⟨⟨cw_1227, cw_1226, cw_44, cw_92⟩, by decide +kernel, by decide⟩
set_option maxRecDepth 20000 in
theorem sd_X11_isState_0 {G : pj_E} {A : Nat → Prop} {P : pj_P} {S : pj_U} {Z : pj_Z} (C : pj_C (G, A, (c_X11_isState, y_X11_isState.cls, 2, (some .boolean), 2), P, S, Z)) : ∀ q ∈ tb_X11_isState_0, pj_S (G, A, (c_X11_isState, y_X11_isState.cls, 2, (some .boolean), 2), P, S, Z) pj_eI q.1 q.2 :=
  List.forall_mem_cons.mpr ⟨qz_iload_n C (show decode c_X11_isState 0 = .ok (.iload_n 1, 1) by decide +kernel) rfl,
  List.forall_mem_cons.mpr ⟨qz_iconst C (show decode c_X11_isState 1 = .ok (.iconst 0, 1) by decide +kernel) (by decide +kernel),
  List.forall_mem_cons.mpr ⟨qz_aload_n C (show decode c_X11_isState 2 = .ok (.aload_n 0, 1) by decide +kernel) rfl,
  List.forall_mem_cons.mpr ⟨qz_gf (k := 13) C (show decode c_X11_isState 3 = .ok (.getfield 25, 3) by decide +kernel) vcX11 wiX11 (by decide) cw_1031,
  List.forall_mem_cons.mpr ⟨qz_iconst C (show decode c_X11_isState 6 = .ok (.iconst 0, 1) by decide +kernel) (by decide +kernel),
  List.forall_mem_cons.mpr ⟨qz_iald C (show decode c_X11_isState 7 = .ok (.iaload, 1) by decide +kernel),
  List.forall_mem_cons.mpr ⟨qz_iconst C (show decode c_X11_isState 8 = .ok (.iconst 1, 1) by decide +kernel) (by decide +kernel),
  List.forall_mem_cons.mpr ⟨qz_isub C (show decode c_X11_isState 9 = .ok (.isub, 1) by decide +kernel),
  List.forall_mem_cons.mpr ⟨qz_sI C (show decode c_X11_isState 10 = .ok (.invokestatic 84, 3) by decide +kernel) ct_X11_in mv_X11_in (Or.inl cw_1126) (show 1 < 2 by omega),
  List.forall_mem_cons.mpr ⟨qz_zret C (show decode c_X11_isState 13 = .ok (.ireturn, 1) by decide +kernel) rfl,
  (fun q h => by cases h)⟩⟩⟩⟩⟩⟩⟩⟩⟩⟩
theorem sd_X11_isState {G : pj_E} {A : Nat → Prop} {P : pj_P} {S : pj_U} {Z : pj_Z} (C : pj_C (G, A, (c_X11_isState, y_X11_isState.cls, 2, (some .boolean), 2), P, S, Z)) : ∀ q ∈ tb_X11_isState, pj_S (G, A, (c_X11_isState, y_X11_isState.cls, 2, (some .boolean), 2), P, S, Z) pj_eI q.1 q.2 := sd_X11_isState_0 C
set_option maxRecDepth 20000 in
theorem eq_X11_isState (x1 : Int32) (m : pj_M) : pj_run tb_X11_isState [] 12 0 [some (.inr (.inr (0, 11, 72))), some (.inl x1)] [] m = F_X11_isState x1 m := by rfl
theorem ct_X11_isState : pj_Ct pj_eI y_X11_isState c_X11_isState 2 (some .boolean) 2 W_X11_isState := by
  refine pj_ct_of (by decide +kernel) ?_ ?_
  · intro as m r h
    unfold W_X11_isState at h
    split at h
    · simp [pj_l0]
    · cases h
  · intro G A P S Z C as m r h hR
    unfold W_X11_isState at h
    split at h
    · split at h
      · rename_i hbq
        simp only [Bool.and_eq_true, Nat.beq_eq] at hbq
        obtain ⟨rfl, rfl, rfl⟩ := hbq
        exact pj_run_ok (sd_X11_isState C) (fun q h => by cases h) 12 0 _ _ _ _ ((eq_X11_isState _ _).trans h) hR
      · cases h
    · cases h
/-! AlikeStepsModel.isArc(I)Z -/
abbrev c_X11_isArc : ByteArray := prog_13_method_32_code
def y_X11_isArc : MethodName := ⟨RX11, "isArc", "(I)Z"⟩
noncomputable def F_X11_isArc (x1 : Int32) (m : pj_M) : Option (Int32 × pj_M) := (if (1 : Int32) < 0 ∨ 72 ≤ (1 : Int32).toNatClampNeg then none else ((F_X11_in x1 0 ((m.1 78 (1 : Int32).toNatClampNeg) - 1) m).bind fun q1 => (if q1.1 = 0 then (some (0, q1.2)) else (if q1.1 = 1 then (some (1, q1.2)) else none))))
noncomputable def W_X11_isArc : List pj_V → pj_M → Option (Int32 × pj_M) := fun as m => match as with
  | [.inr (.inr (t0, w0, a0)), .inl x1] => (match Nat.beq t0 0 && (Nat.beq w0 11 && (Nat.beq a0 72)) with
    | true => F_X11_isArc x1 m
    | false => none)
  | _ => none
noncomputable def tb_X11_isArc_0 : List (Nat × pj_T (Int32 × pj_M)) := [(0, qs_ldi 1 1), (1, qs_ci 0 2), (2, qs_lda 0 3), (3, qs_gf 11 13 6), (6, qs_ci 1 7), (7, qs_iald 8), (8, qs_ci 1 9), (9, qs_b2 (fun x y => x - y) 10), (10, qs_sI 3 W_X11_in 13), (13, qs_zret)]
noncomputable abbrev tb_X11_isArc : List (Nat × pj_T (Int32 × pj_M)) := tb_X11_isArc_0
theorem mv_X11_isArc : pj_mv y_X11_isArc c_X11_isArc 2 (some .boolean) 1 := ⟨⟨cw_1239, cw_1238, cw_46, cw_92⟩, by decide +kernel, by decide⟩
set_option maxRecDepth 20000 in
theorem sd_X11_isArc_0 {G : pj_E} {A : Nat → Prop} {P : pj_P} {S : pj_U} {Z : pj_Z} (C : pj_C (G, A, (c_X11_isArc, y_X11_isArc.cls, 2, (some .boolean), 2), P, S, Z)) : ∀ q ∈ tb_X11_isArc_0, pj_S (G, A, (c_X11_isArc, y_X11_isArc.cls, 2, (some .boolean), 2), P, S, Z) pj_eI q.1 q.2 :=
  List.forall_mem_cons.mpr ⟨qz_iload_n C (show decode c_X11_isArc 0 = .ok (.iload_n 1, 1) by decide +kernel) rfl,
  List.forall_mem_cons.mpr ⟨qz_iconst C (show decode c_X11_isArc 1 = .ok (.iconst 0, 1) by decide +kernel) (by decide +kernel),
  List.forall_mem_cons.mpr ⟨qz_aload_n C (show decode c_X11_isArc 2 = .ok (.aload_n 0, 1) by decide +kernel) rfl,
  List.forall_mem_cons.mpr ⟨qz_gf (k := 13) C (show decode c_X11_isArc 3 = .ok (.getfield 25, 3) by decide +kernel) vcX11 wiX11 (by decide) cw_1031,
  List.forall_mem_cons.mpr ⟨qz_iconst C (show decode c_X11_isArc 6 = .ok (.iconst 1, 1) by decide +kernel) (by decide +kernel),
  List.forall_mem_cons.mpr ⟨qz_iald C (show decode c_X11_isArc 7 = .ok (.iaload, 1) by decide +kernel),
  List.forall_mem_cons.mpr ⟨qz_iconst C (show decode c_X11_isArc 8 = .ok (.iconst 1, 1) by decide +kernel) (by decide +kernel),
  List.forall_mem_cons.mpr ⟨qz_isub C (show decode c_X11_isArc 9 = .ok (.isub, 1) by decide +kernel),
  List.forall_mem_cons.mpr ⟨qz_sI C (show decode c_X11_isArc 10 = .ok (.invokestatic 84, 3) by decide +kernel) ct_X11_in mv_X11_in (Or.inl cw_1126) (show 1 < 2 by omega),
  List.forall_mem_cons.mpr ⟨qz_zret C (show decode c_X11_isArc 13 = .ok (.ireturn, 1) by decide +kernel) rfl,
  (fun q h => by cases h)⟩⟩⟩⟩⟩⟩⟩⟩⟩⟩
theorem sd_X11_isArc {G : pj_E} {A : Nat → Prop} {P : pj_P} {S : pj_U} {Z : pj_Z} (C : pj_C (G, A, (c_X11_isArc, y_X11_isArc.cls, 2, (some .boolean), 2), P, S, Z)) : ∀ q ∈ tb_X11_isArc, pj_S (G, A, (c_X11_isArc, y_X11_isArc.cls, 2, (some .boolean), 2), P, S, Z) pj_eI q.1 q.2 := sd_X11_isArc_0 C
set_option maxRecDepth 20000 in
theorem eq_X11_isArc (x1 : Int32) (m : pj_M) : pj_run tb_X11_isArc [] 12 0 [some (.inr (.inr (0, 11, 72))), some (.inl x1)] [] m = F_X11_isArc x1 m := by rfl
theorem ct_X11_isArc : pj_Ct pj_eI y_X11_isArc c_X11_isArc 2 (some .boolean) 2 W_X11_isArc := by
  refine pj_ct_of (by decide +kernel) ?_ ?_
  · intro as m r h
    unfold W_X11_isArc at h
    split at h
    · simp [pj_l0]
    · cases h
  · intro G A P S Z C as m r h hR
    unfold W_X11_isArc at h
    split at h
    · split at h
      · rename_i hbq
        simp only [Bool.and_eq_true, Nat.beq_eq] at hbq
        obtain ⟨rfl, rfl, rfl⟩ := hbq
        exact pj_run_ok (sd_X11_isArc C) (fun q h => by cases h) 12 0 _ _ _ _ ((eq_X11_isArc _ _).trans h) hR
      · cases h
    · cases h
