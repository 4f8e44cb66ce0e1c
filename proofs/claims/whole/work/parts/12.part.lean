/-! AlikeSteps$Alike.steps(LAlikeSteps$Net;)LAlikeSteps$Steps; -/
abbrev c_X1_steps : ByteArray := prog_3_method_2_code
def y_X1_steps : MethodName := ⟨RX1, "steps", "(LAlikeSteps$Net;)LAlikeSteps$Steps;"⟩
noncomputable def F_X1_steps (a0 : Nat) (a1 : Nat) (m : pj_M) : Option (Nat × pj_M) := ((F_X7_follow (a0 + 1) a1 m).bind fun q1 => (some ((a0 + 1), q1)))
noncomputable def W_X1_steps : List pj_V → pj_M → Option (Nat × pj_M) := fun as m => match as with
  | [.inr (.inr (t0, w0, a0)), .inr (.inr (t1, w1, a1))] => (match Nat.beq t0 0 && (Nat.beq w0 1 && (Nat.beq t1 0 && (Nat.beq w1 4))) with
    | true => F_X1_steps a0 a1 m
    | false => none)
  | _ => none
noncomputable def tb_X1_steps_0 : List (Nat × pj_T (Nat × pj_M)) := [(0, qs_lda 0 1), (1, qs_gf 1 0 4), (4, qs_lda 1 5), (5, qs_vV 7 2 W_X7_follow 8), (8, qs_lda 0 9), (9, qs_gf 1 0 12), (12, qs_aret 7)]
noncomputable abbrev tb_X1_steps : List (Nat × pj_T (Nat × pj_M)) := tb_X1_steps_0
theorem mv_X1_steps : pj_mv y_X1_steps c_X1_steps 2 (some (.object "AlikeSteps$Steps")) 1 := ⟨⟨cw_633, cw_631, cw_632, cw_86⟩, by decide +kernel, by decide⟩
set_option maxRecDepth 20000 in
theorem sd_X1_steps_0 {G : pj_E} {A : Nat → Prop} {P : pj_P} {S : pj_U} {Z : pj_Z} (C : pj_C (G, A, (c_X1_steps, y_X1_steps.cls, 2, (some (.object "AlikeSteps$Steps")), 5), P, S, Z)) : ∀ q ∈ tb_X1_steps_0, pj_S (G, A, (c_X1_steps, y_X1_steps.cls, 2, (some (.object "AlikeSteps$Steps")), 5), P, S, Z) (pj_eR 7) q.1 q.2 :=
  List.forall_mem_cons.mpr ⟨qz_aload_n C (show decode c_X1_steps 0 = .ok (.aload_n 0, 1) by decide +kernel) rfl,
  List.forall_mem_cons.mpr ⟨qz_gf (k := 0) C (show decode c_X1_steps 1 = .ok (.getfield 10, 3) by decide +kernel) vcX1 wiX1 (by decide) cw_225,
  List.forall_mem_cons.mpr ⟨qz_aload_n C (show decode c_X1_steps 4 = .ok (.aload_n 1, 1) by decide +kernel) rfl,
  List.forall_mem_cons.mpr ⟨qz_vV C (show decode c_X1_steps 5 = .ok (.invokevirtual 25, 3) by decide +kernel) ct_X7_follow mv_X7_follow cw_634 vcX7 (show 4 < 5 by omega),
  List.forall_mem_cons.mpr ⟨qz_aload_n C (show decode c_X1_steps 8 = .ok (.aload_n 0, 1) by decide +kernel) rfl,
  List.forall_mem_cons.mpr ⟨qz_gf (k := 0) C (show decode c_X1_steps 9 = .ok (.getfield 10, 3) by decide +kernel) vcX1 wiX1 (by decide) cw_225,
  List.forall_mem_cons.mpr ⟨qz_aret C (show decode c_X1_steps 12 = .ok (.areturn, 1) by decide +kernel) rfl,
  (fun q h => by cases h)⟩⟩⟩⟩⟩⟩⟩
theorem sd_X1_steps {G : pj_E} {A : Nat → Prop} {P : pj_P} {S : pj_U} {Z : pj_Z} (C : pj_C (G, A, (c_X1_steps, y_X1_steps.cls, 2, (some (.object "AlikeSteps$Steps")), 5), P, S, Z)) : ∀ q ∈ tb_X1_steps, pj_S (G, A, (c_X1_steps, y_X1_steps.cls, 2, (some (.object "AlikeSteps$Steps")), 5), P, S, Z) (pj_eR 7) q.1 q.2 := sd_X1_steps_0 C
set_option maxRecDepth 20000 in
theorem eq_X1_steps (a0 : Nat) (a1 : Nat) (m : pj_M) : pj_run tb_X1_steps [] 9 0 [some (.inr (.inr (0, 1, a0))), some (.inr (.inr (0, 4, a1)))] [] m = F_X1_steps a0 a1 m := by rfl
theorem ct_X1_steps : pj_Ct (pj_eR 7) y_X1_steps c_X1_steps 2 (some (.object "AlikeSteps$Steps")) 5 W_X1_steps := by
  refine pj_ct_of (by decide +kernel) ?_ ?_
  · intro as m r h
    unfold W_X1_steps at h
    split at h
    · simp [pj_l0]
    · cases h
  · intro G A P S Z C as m r h hR
    unfold W_X1_steps at h
    split at h
    · split at h
      · rename_i hbq
        simp only [Bool.and_eq_true, Nat.beq_eq] at hbq
        obtain ⟨rfl, rfl, rfl, rfl⟩ := hbq
        exact pj_run_ok (sd_X1_steps C) (fun q h => by cases h) 9 0 _ _ _ _ ((eq_X1_steps _ _ _).trans h) hR
      · cases h
    · cases h
/-! AlikeSteps$Parting.blockBehind(II)I -/
abbrev c_X5_blockBehind : ByteArray := prog_7_method_5_code
def y_X5_blockBehind : MethodName := ⟨RX5, "blockBehind", "(II)I"⟩
noncomputable def F_X5_blockBehind (a0 : Nat) (x1 : Int32) (x2 : Int32) (m : pj_M) : Option (Int32 × pj_M) := (if ((x1 * 10) + x2) < 0 ∨ 110 ≤ ((x1 * 10) + x2).toNatClampNeg then none else (some (m.1 (a0 + 1) ((x1 * 10) + x2).toNatClampNeg, m)))
noncomputable def W_X5_blockBehind : List pj_V → pj_M → Option (Int32 × pj_M) := fun as m => match as with
  | [.inr (.inr (t0, w0, a0)), .inl x1, .inl x2] => (match Nat.beq t0 0 && (Nat.beq w0 5) with
    | true => F_X5_blockBehind a0 x1 x2 m
    | false => none)
  | _ => none
noncomputable def tb_X5_blockBehind_0 : List (Nat × pj_T (Int32 × pj_M)) := [(0, qs_lda 0 1), (1, qs_gf 5 1 4), (4, qs_ldi 1 5), (5, qs_ci 10 7), (7, qs_b2 (fun x y => x * y) 8), (8, qs_ldi 2 9), (9, qs_b2 (fun x y => x + y) 10), (10, qs_iald 11), (11, qs_iret)]
noncomputable abbrev tb_X5_blockBehind : List (Nat × pj_T (Int32 × pj_M)) := tb_X5_blockBehind_0
theorem mv_X5_blockBehind : pj_mv y_X5_blockBehind c_X5_blockBehind 3 (some .int) 2 := ⟨⟨cw_711, cw_709, cw_710, cw_88⟩, by decide +kernel, by decide⟩
set_option maxRecDepth 20000 in
theorem sd_X5_blockBehind_0 {G : pj_E} {A : Nat → Prop} {P : pj_P} {S : pj_U} {Z : pj_Z} (C : pj_C (G, A, (c_X5_blockBehind, y_X5_blockBehind.cls, 3, (some .int), 1), P, S, Z)) : ∀ q ∈ tb_X5_blockBehind_0, pj_S (G, A, (c_X5_blockBehind, y_X5_blockBehind.cls, 3, (some .int), 1), P, S, Z) pj_eI q.1 q.2 :=
  List.forall_mem_cons.mpr ⟨qz_aload_n C (show decode c_X5_blockBehind 0 = .ok (.aload_n 0, 1) by decide +kernel) rfl,
  List.forall_mem_cons.mpr ⟨qz_gf (k := 1) C (show decode c_X5_blockBehind 1 = .ok (.getfield 9, 3) by decide +kernel) vcX5 wiX5 (by decide) cw_203,
  List.forall_mem_cons.mpr ⟨qz_iload_n C (show decode c_X5_blockBehind 4 = .ok (.iload_n 1, 1) by decide +kernel) rfl,
  List.forall_mem_cons.mpr ⟨qz_bipush C (show decode c_X5_blockBehind 5 = .ok (.bipush 10, 2) by decide +kernel) (by decide +kernel),
  List.forall_mem_cons.mpr ⟨qz_imul C (show decode c_X5_blockBehind 7 = .ok (.imul, 1) by decide +kernel),
  List.forall_mem_cons.mpr ⟨qz_iload_n C (show decode c_X5_blockBehind 8 = .ok (.iload_n 2, 1) by decide +kernel) rfl,
  List.forall_mem_cons.mpr ⟨qz_iadd C (show decode c_X5_blockBehind 9 = .ok (.iadd, 1) by decide +kernel),
  List.forall_mem_cons.mpr ⟨qz_iald C (show decode c_X5_blockBehind 10 = .ok (.iaload, 1) by decide +kernel),
  List.forall_mem_cons.mpr ⟨qz_iret C (show decode c_X5_blockBehind 11 = .ok (.ireturn, 1) by decide +kernel) rfl,
  (fun q h => by cases h)⟩⟩⟩⟩⟩⟩⟩⟩⟩
theorem sd_X5_blockBehind {G : pj_E} {A : Nat → Prop} {P : pj_P} {S : pj_U} {Z : pj_Z} (C : pj_C (G, A, (c_X5_blockBehind, y_X5_blockBehind.cls, 3, (some .int), 1), P, S, Z)) : ∀ q ∈ tb_X5_blockBehind, pj_S (G, A, (c_X5_blockBehind, y_X5_blockBehind.cls, 3, (some .int), 1), P, S, Z) pj_eI q.1 q.2 := sd_X5_blockBehind_0 C
set_option maxRecDepth 20000 in
theorem eq_X5_blockBehind (a0 : Nat) (x1 : Int32) (x2 : Int32) (m : pj_M) : pj_run tb_X5_blockBehind [] 11 0 [some (.inr (.inr (0, 5, a0))), some (.inl x1), some (.inl x2)] [] m = F_X5_blockBehind a0 x1 x2 m := by rfl
theorem ct_X5_blockBehind : pj_Ct pj_eI y_X5_blockBehind c_X5_blockBehind 3 (some .int) 1 W_X5_blockBehind := by
  refine pj_ct_of (by decide +kernel) ?_ ?_
  · intro as m r h
    unfold W_X5_blockBehind at h
    split at h
    · simp [pj_l0]
    · cases h
  · intro G A P S Z C as m r h hR
    unfold W_X5_blockBehind at h
    split at h
    · split at h
      · rename_i hbq
        simp only [Bool.and_eq_true, Nat.beq_eq] at hbq
        obtain ⟨rfl, rfl⟩ := hbq
        exact pj_run_ok (sd_X5_blockBehind C) (fun q h => by cases h) 11 0 _ _ _ _ ((eq_X5_blockBehind _ _ _ _).trans h) hR
      · cases h
    · cases h
/-! AlikeSteps$Parting.firstLike(II)I -/
abbrev c_X5_firstLike : ByteArray := prog_7_method_16_code
def y_X5_firstLike : MethodName := ⟨RX5, "firstLike", "(II)I"⟩
noncomputable def J_X5_firstLike_35 (k2 : Nat → Int32 → Int32 → Int32 → pj_M → Option (Int32 × pj_M)) (a0 : Nat) (x1 : Int32) (x2 : Int32) (x3 : Int32) (s0 : Int32) (m : pj_M) : Option (Int32 × pj_M) := (if s0 = 0 then (k2 a0 x1 x2 (x3 + 1) m) else (if x3 < 0 ∨ 10 ≤ x3.toNatClampNeg then none else (if x2 < 0 ∨ 10 ≤ x2.toNatClampNeg then none else (if (lg_cmp (m.2 (a0 + 2) x3.toNatClampNeg) (m.2 (a0 + 2) x2.toNatClampNeg)) = 0 then (some (x3, m)) else (k2 a0 x1 x2 (x3 + 1) m)))))
noncomputable def H_X5_firstLike_2 : Nat → Nat → Int32 → Int32 → Int32 → pj_M → Option (Int32 × pj_M)
  | 0, _, _, _, _, _ => none
  | n1 + 1, a0, x1, x2, x3, m => (if x3 < x2 then (if x1 = 0 then (J_X5_firstLike_35 (H_X5_firstLike_2 n1) a0 x1 x2 x3 1 m) else ((F_X5_blockBehind a0 (x1 - 1) x3 m).bind fun q1 => ((F_X5_blockBehind a0 (x1 - 1) x2 q1.2).bind fun q2 => (if q1.1 = q2.1 then (J_X5_firstLike_35 (H_X5_firstLike_2 n1) a0 x1 x2 x3 1 q2.2) else (J_X5_firstLike_35 (H_X5_firstLike_2 n1) a0 x1 x2 x3 0 q2.2))))) else (some (x2, m)))
noncomputable def F_X5_firstLike (a0 : Nat) (x1 : Int32) (x2 : Int32) (m : pj_M) : Option (Int32 × pj_M) := (H_X5_firstLike_2 pj_z a0 x1 x2 0 m)
noncomputable def W_X5_firstLike : List pj_V → pj_M → Option (Int32 × pj_M) := fun as m => match as with
  | [.inr (.inr (t0, w0, a0)), .inl x1, .inl x2] => (match Nat.beq t0 0 && (Nat.beq w0 5) with
    | true => F_X5_firstLike a0 x1 x2 m
    | false => none)
  | _ => none
noncomputable def tb_X5_firstLike_0 : List (Nat × pj_T (Int32 × pj_M)) := [(0, qs_ci 0 1), (1, qs_sti 3 2), (2, qs_ldi 3 3), (3, qs_ldi 2 4), (4, qs_icge 66 7), (7, qs_ldi 1 8), (8, qs_ifeq 30 11), (11, qs_lda 0 12), (12, qs_ldi 1 13), (13, qs_ci 1 14), (14, qs_b2 (fun x y => x - y) 15), (15, qs_ldi 3 16), (16, qs_vI 5 3 W_X5_blockBehind 19), (19, qs_lda 0 20), (20, qs_ldi 1 21), (21, qs_ci 1 22), (22, qs_b2 (fun x y => x - y) 23), (23, qs_ldi 2 24), (24, qs_vI 5 3 W_X5_blockBehind 27), (27, qs_icne 34 30), (30, qs_ci 1 31), (31, qs_go 35), (34, qs_ci 0 35), (35, qs_sti 4 37), (37, qs_ldi 4 39), (39, qs_ifeq 60 42), (42, qs_lda 0 43), (43, qs_gf 5 2 46), (46, qs_ldi 3 47), (47, qs_lald 48), (48, qs_lda 0 49), (49, qs_gf 5 2 52), (52, qs_ldi 2 53), (53, qs_lald 54), (54, qs_lcmp 55), (55, qs_ifne 60 58), (58, qs_ldi 3 59), (59, qs_iret), (60, qs_inc 3 1 63), (63, qs_go 2)]
noncomputable def tb_X5_firstLike_1 : List (Nat × pj_T (Int32 × pj_M)) := [(66, qs_ldi 2 67), (67, qs_iret)]
noncomputable def tb_X5_firstLike : List (Nat × pj_T (Int32 × pj_M)) := tb_X5_firstLike_0 ++ (tb_X5_firstLike_1)
theorem mv_X5_firstLike : pj_mv y_X5_firstLike c_X5_firstLike 5 (some .int) 2 := ⟨⟨cw_707, cw_706, cw_15, cw_88⟩, by decide +kernel, by decide⟩
set_option maxRecDepth 20000 in
theorem sd_X5_firstLike_0 {G : pj_E} {A : Nat → Prop} {P : pj_P} {S : pj_U} {Z : pj_Z} (C : pj_C (G, A, (c_X5_firstLike, y_X5_firstLike.cls, 5, (some .int), 2), P, S, Z)) : ∀ q ∈ tb_X5_firstLike_0, pj_S (G, A, (c_X5_firstLike, y_X5_firstLike.cls, 5, (some .int), 2), P, S, Z) pj_eI q.1 q.2 :=
  List.forall_mem_cons.mpr ⟨qz_iconst C (show decode c_X5_firstLike 0 = .ok (.iconst 0, 1) by decide +kernel) (by decide +kernel),
  List.forall_mem_cons.mpr ⟨qz_istore_n C (show decode c_X5_firstLike 1 = .ok (.istore_n 3, 1) by decide +kernel) rfl,
  List.forall_mem_cons.mpr ⟨qz_iload_n C (show decode c_X5_firstLike 2 = .ok (.iload_n 3, 1) by decide +kernel) rfl,
  List.forall_mem_cons.mpr ⟨qz_iload_n C (show decode c_X5_firstLike 3 = .ok (.iload_n 2, 1) by decide +kernel) rfl,
  List.forall_mem_cons.mpr ⟨qz_icge C (show decode c_X5_firstLike 4 = .ok (.if_icmp .ge 62, 3) by decide +kernel) (by decide),
  List.forall_mem_cons.mpr ⟨qz_iload_n C (show decode c_X5_firstLike 7 = .ok (.iload_n 1, 1) by decide +kernel) rfl,
  List.forall_mem_cons.mpr ⟨qz_ifeq C (show decode c_X5_firstLike 8 = .ok (.ifCond .eq 22, 3) by decide +kernel) (by decide),
  List.forall_mem_cons.mpr ⟨qz_aload_n C (show decode c_X5_firstLike 11 = .ok (.aload_n 0, 1) by decide +kernel) rfl,
  List.forall_mem_cons.mpr ⟨qz_iload_n C (show decode c_X5_firstLike 12 = .ok (.iload_n 1, 1) by decide +kernel) rfl,
  List.forall_mem_cons.mpr ⟨qz_iconst C (show decode c_X5_firstLike 13 = .ok (.iconst 1, 1) by decide +kernel) (by decide +kernel),
  List.forall_mem_cons.mpr ⟨qz_isub C (show decode c_X5_firstLike 14 = .ok (.isub, 1) by decide +kernel),
  List.forall_mem_cons.mpr ⟨qz_iload_n C (show decode c_X5_firstLike 15 = .ok (.iload_n 3, 1) by decide +kernel) rfl,
  List.forall_mem_cons.mpr ⟨qz_vI C (show decode c_X5_firstLike 16 = .ok (.invokevirtual 54, 3) by decide +kernel) ct_X5_blockBehind mv_X5_blockBehind cw_708 vcX5 (show 1 < 2 by omega),
  List.forall_mem_cons.mpr ⟨qz_aload_n C (show decode c_X5_firstLike 19 = .ok (.aload_n 0, 1) by decide +kernel) rfl,
  List.forall_mem_cons.mpr ⟨qz_iload_n C (show decode c_X5_firstLike 20 = .ok (.iload_n 1, 1) by decide +kernel) rfl,
  List.forall_mem_cons.mpr ⟨qz_iconst C (show decode c_X5_firstLike 21 = .ok (.iconst 1, 1) by decide +kernel) (by decide +kernel),
  List.forall_mem_cons.mpr ⟨qz_isub C (show decode c_X5_firstLike 22 = .ok (.isub, 1) by decide +kernel),
  List.forall_mem_cons.mpr ⟨qz_iload_n C (show decode c_X5_firstLike 23 = .ok (.iload_n 2, 1) by decide +kernel) rfl,
  List.forall_mem_cons.mpr ⟨qz_vI C (show decode c_X5_firstLike 24 = .ok (.invokevirtual 54, 3) by decide +kernel) ct_X5_blockBehind mv_X5_blockBehind cw_708 vcX5 (show 1 < 2 by omega),
  List.forall_mem_cons.mpr ⟨qz_icne C (show decode c_X5_firstLike 27 = .ok (.if_icmp .ne 7, 3) by decide +kernel) (by decide),
  List.forall_mem_cons.mpr ⟨qz_iconst C (show decode c_X5_firstLike 30 = .ok (.iconst 1, 1) by decide +kernel) (by decide +kernel),
  List.forall_mem_cons.mpr ⟨qz_goto C (show decode c_X5_firstLike 31 = .ok (.goto 4, 3) by decide +kernel) (by decide),
  List.forall_mem_cons.mpr ⟨qz_iconst C (show decode c_X5_firstLike 34 = .ok (.iconst 0, 1) by decide +kernel) (by decide +kernel),
  List.forall_mem_cons.mpr ⟨qz_istore C (show decode c_X5_firstLike 35 = .ok (.istore 4, 2) by decide +kernel),
  List.forall_mem_cons.mpr ⟨qz_iload C (show decode c_X5_firstLike 37 = .ok (.iload 4, 2) by decide +kernel),
  List.forall_mem_cons.mpr ⟨qz_ifeq C (show decode c_X5_firstLike 39 = .ok (.ifCond .eq 21, 3) by decide +kernel) (by decide),
  List.forall_mem_cons.mpr ⟨qz_aload_n C (show decode c_X5_firstLike 42 = .ok (.aload_n 0, 1) by decide +kernel) rfl,
  List.forall_mem_cons.mpr ⟨qz_gf (k := 2) C (show decode c_X5_firstLike 43 = .ok (.getfield 15, 3) by decide +kernel) vcX5 wiX5 (by decide) cw_204,
  List.forall_mem_cons.mpr ⟨qz_iload_n C (show decode c_X5_firstLike 46 = .ok (.iload_n 3, 1) by decide +kernel) rfl,
  List.forall_mem_cons.mpr ⟨qz_lald C (show decode c_X5_firstLike 47 = .ok (.laload, 1) by decide +kernel),
  List.forall_mem_cons.mpr ⟨qz_aload_n C (show decode c_X5_firstLike 48 = .ok (.aload_n 0, 1) by decide +kernel) rfl,
  List.forall_mem_cons.mpr ⟨qz_gf (k := 2) C (show decode c_X5_firstLike 49 = .ok (.getfield 15, 3) by decide +kernel) vcX5 wiX5 (by decide) cw_204,
  List.forall_mem_cons.mpr ⟨qz_iload_n C (show decode c_X5_firstLike 52 = .ok (.iload_n 2, 1) by decide +kernel) rfl,
  List.forall_mem_cons.mpr ⟨qz_lald C (show decode c_X5_firstLike 53 = .ok (.laload, 1) by decide +kernel),
  List.forall_mem_cons.mpr ⟨qz_lcmp C (show decode c_X5_firstLike 54 = .ok (.lcmp, 1) by decide +kernel),
  List.forall_mem_cons.mpr ⟨qz_ifne C (show decode c_X5_firstLike 55 = .ok (.ifCond .ne 5, 3) by decide +kernel) (by decide),
  List.forall_mem_cons.mpr ⟨qz_iload_n C (show decode c_X5_firstLike 58 = .ok (.iload_n 3, 1) by decide +kernel) rfl,
  List.forall_mem_cons.mpr ⟨qz_iret C (show decode c_X5_firstLike 59 = .ok (.ireturn, 1) by decide +kernel) rfl,
  List.forall_mem_cons.mpr ⟨qz_iinc C (show decode c_X5_firstLike 60 = .ok (.iinc 3 1, 3) by decide +kernel) (by decide +kernel),
  List.forall_mem_cons.mpr ⟨qz_goto C (show decode c_X5_firstLike 63 = .ok (.goto (-61), 3) by decide +kernel) (by decide),
  (fun q h => by cases h)⟩⟩⟩⟩⟩⟩⟩⟩⟩⟩⟩⟩⟩⟩⟩⟩⟩⟩⟩⟩⟩⟩⟩⟩⟩⟩⟩⟩⟩⟩⟩⟩⟩⟩⟩⟩⟩⟩⟩⟩
set_option maxRecDepth 20000 in
theorem sd_X5_firstLike_1 {G : pj_E} {A : Nat → Prop} {P : pj_P} {S : pj_U} {Z : pj_Z} (C : pj_C (G, A, (c_X5_firstLike, y_X5_firstLike.cls, 5, (some .int), 2), P, S, Z)) : ∀ q ∈ tb_X5_firstLike_1, pj_S (G, A, (c_X5_firstLike, y_X5_firstLike.cls, 5, (some .int), 2), P, S, Z) pj_eI q.1 q.2 :=
  List.forall_mem_cons.mpr ⟨qz_iload_n C (show decode c_X5_firstLike 66 = .ok (.iload_n 2, 1) by decide +kernel) rfl,
  List.forall_mem_cons.mpr ⟨qz_iret C (show decode c_X5_firstLike 67 = .ok (.ireturn, 1) by decide +kernel) rfl,
  (fun q h => by cases h)⟩⟩
theorem sd_X5_firstLike {G : pj_E} {A : Nat → Prop} {P : pj_P} {S : pj_U} {Z : pj_Z} (C : pj_C (G, A, (c_X5_firstLike, y_X5_firstLike.cls, 5, (some .int), 2), P, S, Z)) : ∀ q ∈ tb_X5_firstLike, pj_S (G, A, (c_X5_firstLike, y_X5_firstLike.cls, 5, (some .int), 2), P, S, Z) pj_eI q.1 q.2 := List.forall_mem_append.mpr ⟨sd_X5_firstLike_0 C, sd_X5_firstLike_1 C⟩
noncomputable def C_X5_firstLike_35 (f : Nat → Int32 → Int32 → Int32 → Int32 → pj_M → Option (Int32 × pj_M)) : pj_N (Int32 × pj_M) := fun L st m => match L, st with
  | [some (.inr (.inr (t0, w0, a0))), some (.inl x1), some (.inl x2), some (.inl x3), _], [.inl s0] => (match Nat.beq t0 0 && (Nat.beq w0 5) with
    | true => f a0 x1 x2 x3 s0 m
    | false => none)
  | _, _ => none
noncomputable def C_X5_firstLike_2 (f : Nat → Int32 → Int32 → Int32 → pj_M → Option (Int32 × pj_M)) : pj_N (Int32 × pj_M) := fun L st m => match L, st with
  | [some (.inr (.inr (t0, w0, a0))), some (.inl x1), some (.inl x2), some (.inl x3), _], [] => (match Nat.beq t0 0 && (Nat.beq w0 5) with
    | true => f a0 x1 x2 x3 m
    | false => none)
  | _, _ => none
set_option maxRecDepth 20000 in
theorem eq_X5_firstLike_35 (k2 : Nat → Int32 → Int32 → Int32 → pj_M → Option (Int32 × pj_M)) (a0 : Nat) (x1 : Int32) (x2 : Int32) (x3 : Int32) (s0 : Int32) (d4 : Option pj_V) (m : pj_M) : pj_run tb_X5_firstLike [(2, C_X5_firstLike_2 k2)] 44 35 [some (.inr (.inr (0, 5, a0))), some (.inl x1), some (.inl x2), some (.inl x3), d4] [.inl s0] m = J_X5_firstLike_35 k2 a0 x1 x2 x3 s0 m := by rfl
theorem sg_X5_firstLike_35 {G : pj_E} {A : Nat → Prop} {P : pj_P} {S : pj_U} {Z : pj_Z} (C : pj_C (G, A, (c_X5_firstLike, y_X5_firstLike.cls, 5, (some .int), 2), P, S, Z)) {k2 : Nat → Int32 → Int32 → Int32 → pj_M → Option (Int32 × pj_M)} (hk2 : pj_G (G, A, (c_X5_firstLike, y_X5_firstLike.cls, 5, (some .int), 2), P, S, Z) pj_eI 2 (C_X5_firstLike_2 k2)) : pj_G (G, A, (c_X5_firstLike, y_X5_firstLike.cls, 5, (some .int), 2), P, S, Z) pj_eI 35 (C_X5_firstLike_35 (J_X5_firstLike_35 k2)) := by
  intro L st m r h hR
  unfold C_X5_firstLike_35 at h
  split at h
  · split at h
    · rename_i hbq
      simp only [Bool.and_eq_true, Nat.beq_eq] at hbq
      obtain ⟨rfl, rfl⟩ := hbq
      exact pj_run_ok (sd_X5_firstLike C) (List.forall_mem_cons.mpr ⟨hk2, fun q h => by cases h⟩) 44 35 _ _ _ _ ((eq_X5_firstLike_35 _ _ _ _ _ _ _ _).trans h) hR
    · cases h
  · cases h
set_option maxRecDepth 20000 in
theorem eq_X5_firstLike_2 (n1 : Nat) (a0 : Nat) (x1 : Int32) (x2 : Int32) (x3 : Int32) (d4 : Option pj_V) (m : pj_M) : pj_run tb_X5_firstLike [(35, C_X5_firstLike_35 (J_X5_firstLike_35 (H_X5_firstLike_2 n1)))] 44 2 [some (.inr (.inr (0, 5, a0))), some (.inl x1), some (.inl x2), some (.inl x3), d4] [] m = H_X5_firstLike_2 (n1 + 1) a0 x1 x2 x3 m := by rfl
theorem sg_X5_firstLike_2 {G : pj_E} {A : Nat → Prop} {P : pj_P} {S : pj_U} {Z : pj_Z} (C : pj_C (G, A, (c_X5_firstLike, y_X5_firstLike.cls, 5, (some .int), 2), P, S, Z)) : ∀ n1, pj_G (G, A, (c_X5_firstLike, y_X5_firstLike.cls, 5, (some .int), 2), P, S, Z) pj_eI 2 (C_X5_firstLike_2 (H_X5_firstLike_2 n1)) := by
  intro n1
  induction n1 with
  | zero =>
    intro L st m r h hR
    unfold C_X5_firstLike_2 at h
    split at h
    · split at h
      · cases h
      · cases h
    · cases h
  | succ n1 ih1 =>
    intro L st m r h hR
    unfold C_X5_firstLike_2 at h
    split at h
    · split at h
      · rename_i hbq
        simp only [Bool.and_eq_true, Nat.beq_eq] at hbq
        obtain ⟨rfl, rfl⟩ := hbq
        exact pj_run_ok (sd_X5_firstLike C) (List.forall_mem_cons.mpr ⟨sg_X5_firstLike_35 C ih1, fun q h => by cases h⟩) 44 2 _ _ _ _ ((eq_X5_firstLike_2 _ _ _ _ _ _ _).trans h) hR
      · cases h
    · cases h
set_option maxRecDepth 20000 in
theorem eq_X5_firstLike (a0 : Nat) (x1 : Int32) (x2 : Int32) (m : pj_M) : pj_run tb_X5_firstLike [(2, C_X5_firstLike_2 (H_X5_firstLike_2  pj_z))] 44 0 [some (.inr (.inr (0, 5, a0))), some (.inl x1), some (.inl x2), none, none] [] m = F_X5_firstLike a0 x1 x2 m := by rfl
theorem ct_X5_firstLike : pj_Ct pj_eI y_X5_firstLike c_X5_firstLike 5 (some .int) 2 W_X5_firstLike := by
  refine pj_ct_of (by decide +kernel) ?_ ?_
  · intro as m r h
    unfold W_X5_firstLike at h
    split at h
    · simp [pj_l0]
    · cases h
  · intro G A P S Z C as m r h hR
    unfold W_X5_firstLike at h
    split at h
    · split at h
      · rename_i hbq
        simp only [Bool.and_eq_true, Nat.beq_eq] at hbq
        obtain ⟨rfl, rfl⟩ := hbq
        exact pj_run_ok (sd_X5_firstLike C) (List.forall_mem_cons.mpr ⟨sg_X5_firstLike_2 C  pj_z, fun q h => by cases h⟩) 44 0 _ _ _ _ ((eq_X5_firstLike _ _ _ _).trans h) hR
      · cases h
    · cases h
/-! AlikeSteps$Parting.numberBlocks(I)I -/
abbrev c_X5_numberBlocks : ByteArray := prog_7_method_15_code
def y_X5_numberBlocks : MethodName := ⟨RX5, "numberBlocks", "(I)I"⟩
noncomputable def J_X5_numberBlocks_37 (k4 : Nat → Int32 → Int32 → Int32 → pj_M → Option (Int32 × pj_M)) (a0 : Nat) (x1 : Int32) (x2 : Int32) (x3 : Int32) (s0 : Int32) (m : pj_M) : Option (Int32 × pj_M) := (if ((x1 * 10) + x3) < 0 ∨ 110 ≤ ((x1 * 10) + x3).toNatClampNeg then none else (k4 a0 x1 (if x2 < (s0 + 1) then (s0 + 1) else x2) (x3 + 1) (pj_wr m (a0 + 1) ((x1 * 10) + x3).toNatClampNeg s0)))
noncomputable def H_X5_numberBlocks_4 : Nat → Nat → Int32 → Int32 → Int32 → pj_M → Option (Int32 × pj_M)
  | 0, _, _, _, _, _ => none
  | n1 + 1, a0, x1, x2, x3, m => (if x3 < (m.1 a0 3) then ((F_X5_firstLike a0 x1 x3 m).bind fun q1 => (if q1.1 < x3 then ((F_X5_blockBehind a0 x1 q1.1 q1.2).bind fun q2 => (J_X5_numberBlocks_37 (H_X5_numberBlocks_4 n1) a0 x1 x2 x3 q2.1 q2.2)) else (J_X5_numberBlocks_37 (H_X5_numberBlocks_4 n1) a0 x1 x2 x3 x2 q1.2))) else (some (x2, m)))
noncomputable def F_X5_numberBlocks (a0 : Nat) (x1 : Int32) (m : pj_M) : Option (Int32 × pj_M) := (H_X5_numberBlocks_4 pj_z a0 x1 0 0 m)
noncomputable def W_X5_numberBlocks : List pj_V → pj_M → Option (Int32 × pj_M) := fun as m => match as with
  | [.inr (.inr (t0, w0, a0)), .inl x1] => (match Nat.beq t0 0 && (Nat.beq w0 5) with
    | true => F_X5_numberBlocks a0 x1 m
    | false => none)
  | _ => none
noncomputable def tb_X5_numberBlocks_0 : List (Nat × pj_T (Int32 × pj_M)) := [(0, qs_ci 0 1), (1, qs_sti 2 2), (2, qs_ci 0 3), (3, qs_sti 3 4), (4, qs_ldi 3 5), (5, qs_lda 0 6), (6, qs_gf 5 3 9), (9, qs_icge 67 12), (12, qs_lda 0 13), (13, qs_ldi 1 14), (14, qs_ldi 3 15), (15, qs_vI 5 3 W_X5_firstLike 18), (18, qs_sti 4 20), (20, qs_ldi 4 22), (22, qs_ldi 3 23), (23, qs_icge 36 26), (26, qs_lda 0 27), (27, qs_ldi 1 28), (28, qs_ldi 4 30), (30, qs_vI 5 3 W_X5_blockBehind 33), (33, qs_go 37), (36, qs_ldi 2 37), (37, qs_sti 5 39), (39, qs_lda 0 40), (40, qs_gf 5 1 43), (43, qs_ldi 1 44), (44, qs_ci 10 46), (46, qs_b2 (fun x y => x * y) 47), (47, qs_ldi 3 48), (48, qs_b2 (fun x y => x + y) 49), (49, qs_ldi 5 51), (51, qs_iast 52), (52, qs_ldi 2 53), (53, qs_ldi 5 55), (55, qs_ci 1 56), (56, qs_b2 (fun x y => x + y) 57), (57, qs_mmax 60), (60, qs_sti 2 61), (61, qs_inc 3 1 64), (64, qs_go 4)]
noncomputable def tb_X5_numberBlocks_1 : List (Nat × pj_T (Int32 × pj_M)) := [(67, qs_ldi 2 68), (68, qs_iret)]
noncomputable def tb_X5_numberBlocks : List (Nat × pj_T (Int32 × pj_M)) := tb_X5_numberBlocks_0 ++ (tb_X5_numberBlocks_1)
theorem mv_X5_numberBlocks : pj_mv y_X5_numberBlocks c_X5_numberBlocks 6 (some .int) 1 := ⟨⟨cw_703, cw_702, cw_14, cw_88⟩, by decide +kernel, by decide⟩
set_option maxRecDepth 20000 in
theorem sd_X5_numberBlocks_0 {G : pj_E} {A : Nat → Prop} {P : pj_P} {S : pj_U} {Z : pj_Z} (C : pj_C (G, A, (c_X5_numberBlocks, y_X5_numberBlocks.cls, 6, (some .int), 3), P, S, Z)) : ∀ q ∈ tb_X5_numberBlocks_0, pj_S (G, A, (c_X5_numberBlocks, y_X5_numberBlocks.cls, 6, (some .int), 3), P, S, Z) pj_eI q.1 q.2 :=
  List.forall_mem_cons.mpr ⟨qz_iconst C (show decode c_X5_numberBlocks 0 = .ok (.iconst 0, 1) by decide +kernel) (by decide +kernel),
  List.forall_mem_cons.mpr ⟨qz_istore_n C (show decode c_X5_numberBlocks 1 = .ok (.istore_n 2, 1) by decide +kernel) rfl,
  List.forall_mem_cons.mpr ⟨qz_iconst C (show decode c_X5_numberBlocks 2 = .ok (.iconst 0, 1) by decide +kernel) (by decide +kernel),
  List.forall_mem_cons.mpr ⟨qz_istore_n C (show decode c_X5_numberBlocks 3 = .ok (.istore_n 3, 1) by decide +kernel) rfl,
  List.forall_mem_cons.mpr ⟨qz_iload_n C (show decode c_X5_numberBlocks 4 = .ok (.iload_n 3, 1) by decide +kernel) rfl,
  List.forall_mem_cons.mpr ⟨qz_aload_n C (show decode c_X5_numberBlocks 5 = .ok (.aload_n 0, 1) by decide +kernel) rfl,
  List.forall_mem_cons.mpr ⟨qz_gf (k := 3) C (show decode c_X5_numberBlocks 6 = .ok (.getfield 19, 3) by decide +kernel) vcX5 wiX5 (by decide) cw_205,
  List.forall_mem_cons.mpr ⟨qz_icge C (show decode c_X5_numberBlocks 9 = .ok (.if_icmp .ge 58, 3) by decide +kernel) (by decide),
  List.forall_mem_cons.mpr ⟨qz_aload_n C (show decode c_X5_numberBlocks 12 = .ok (.aload_n 0, 1) by decide +kernel) rfl,
  List.forall_mem_cons.mpr ⟨qz_iload_n C (show decode c_X5_numberBlocks 13 = .ok (.iload_n 1, 1) by decide +kernel) rfl,
  List.forall_mem_cons.mpr ⟨qz_iload_n C (show decode c_X5_numberBlocks 14 = .ok (.iload_n 3, 1) by decide +kernel) rfl,
  List.forall_mem_cons.mpr ⟨qz_vI C (show decode c_X5_numberBlocks 15 = .ok (.invokevirtual 92, 3) by decide +kernel) ct_X5_firstLike mv_X5_firstLike cw_704 vcX5 (show 2 < 3 by omega),
  List.forall_mem_cons.mpr ⟨qz_istore C (show decode c_X5_numberBlocks 18 = .ok (.istore 4, 2) by decide +kernel),
  List.forall_mem_cons.mpr ⟨qz_iload C (show decode c_X5_numberBlocks 20 = .ok (.iload 4, 2) by decide +kernel),
  List.forall_mem_cons.mpr ⟨qz_iload_n C (show decode c_X5_numberBlocks 22 = .ok (.iload_n 3, 1) by decide +kernel) rfl,
  List.forall_mem_cons.mpr ⟨qz_icge C (show decode c_X5_numberBlocks 23 = .ok (.if_icmp .ge 13, 3) by decide +kernel) (by decide),
  List.forall_mem_cons.mpr ⟨qz_aload_n C (show decode c_X5_numberBlocks 26 = .ok (.aload_n 0, 1) by decide +kernel) rfl,
  List.forall_mem_cons.mpr ⟨qz_iload_n C (show decode c_X5_numberBlocks 27 = .ok (.iload_n 1, 1) by decide +kernel) rfl,
  List.forall_mem_cons.mpr ⟨qz_iload C (show decode c_X5_numberBlocks 28 = .ok (.iload 4, 2) by decide +kernel),
  List.forall_mem_cons.mpr ⟨qz_vI C (show decode c_X5_numberBlocks 30 = .ok (.invokevirtual 54, 3) by decide +kernel) ct_X5_blockBehind mv_X5_blockBehind cw_708 vcX5 (show 1 < 3 by omega),
  List.forall_mem_cons.mpr ⟨qz_goto C (show decode c_X5_numberBlocks 33 = .ok (.goto 4, 3) by decide +kernel) (by decide),
  List.forall_mem_cons.mpr ⟨qz_iload_n C (show decode c_X5_numberBlocks 36 = .ok (.iload_n 2, 1) by decide +kernel) rfl,
  List.forall_mem_cons.mpr ⟨qz_istore C (show decode c_X5_numberBlocks 37 = .ok (.istore 5, 2) by decide +kernel),
  List.forall_mem_cons.mpr ⟨qz_aload_n C (show decode c_X5_numberBlocks 39 = .ok (.aload_n 0, 1) by decide +kernel) rfl,
  List.forall_mem_cons.mpr ⟨qz_gf (k := 1) C (show decode c_X5_numberBlocks 40 = .ok (.getfield 9, 3) by decide +kernel) vcX5 wiX5 (by decide) cw_203,
  List.forall_mem_cons.mpr ⟨qz_iload_n C (show decode c_X5_numberBlocks 43 = .ok (.iload_n 1, 1) by decide +kernel) rfl,
  List.forall_mem_cons.mpr ⟨qz_bipush C (show decode c_X5_numberBlocks 44 = .ok (.bipush 10, 2) by decide +kernel) (by decide +kernel),
  List.forall_mem_cons.mpr ⟨qz_imul C (show decode c_X5_numberBlocks 46 = .ok (.imul, 1) by decide +kernel),
  List.forall_mem_cons.mpr ⟨qz_iload_n C (show decode c_X5_numberBlocks 47 = .ok (.iload_n 3, 1) by decide +kernel) rfl,
  List.forall_mem_cons.mpr ⟨qz_iadd C (show decode c_X5_numberBlocks 48 = .ok (.iadd, 1) by decide +kernel),
  List.forall_mem_cons.mpr ⟨qz_iload C (show decode c_X5_numberBlocks 49 = .ok (.iload 5, 2) by decide +kernel),
  List.forall_mem_cons.mpr ⟨qz_iast C (show decode c_X5_numberBlocks 51 = .ok (.iastore, 1) by decide +kernel),
  List.forall_mem_cons.mpr ⟨qz_iload_n C (show decode c_X5_numberBlocks 52 = .ok (.iload_n 2, 1) by decide +kernel) rfl,
  List.forall_mem_cons.mpr ⟨qz_iload C (show decode c_X5_numberBlocks 53 = .ok (.iload 5, 2) by decide +kernel),
  List.forall_mem_cons.mpr ⟨qz_iconst C (show decode c_X5_numberBlocks 55 = .ok (.iconst 1, 1) by decide +kernel) (by decide +kernel),
  List.forall_mem_cons.mpr ⟨qz_iadd C (show decode c_X5_numberBlocks 56 = .ok (.iadd, 1) by decide +kernel),
  List.forall_mem_cons.mpr ⟨qz_mmax C (show decode c_X5_numberBlocks 57 = .ok (.invokestatic 95, 3) by decide +kernel) cw_712 cw_713 cw_94 cwm_max,
  List.forall_mem_cons.mpr ⟨qz_istore_n C (show decode c_X5_numberBlocks 60 = .ok (.istore_n 2, 1) by decide +kernel) rfl,
  List.forall_mem_cons.mpr ⟨qz_iinc C (show decode c_X5_numberBlocks 61 = .ok (.iinc 3 1, 3) by decide +kernel) (by decide +kernel),
  List.forall_mem_cons.mpr ⟨qz_goto C (show decode c_X5_numberBlocks 64 = .ok (.goto (-60), 3) by decide +kernel) (by decide),
  (fun q h => by cases h)⟩⟩⟩⟩⟩⟩⟩⟩⟩⟩⟩⟩⟩⟩⟩⟩⟩⟩⟩⟩⟩⟩⟩⟩⟩⟩⟩⟩⟩⟩⟩⟩⟩⟩⟩⟩⟩⟩⟩⟩
set_option maxRecDepth 20000 in
theorem sd_X5_numberBlocks_1 {G : pj_E} {A : Nat → Prop} {P : pj_P} {S : pj_U} {Z : pj_Z} (C : pj_C (G, A, (c_X5_numberBlocks, y_X5_numberBlocks.cls, 6, (some .int), 3), P, S, Z)) : ∀ q ∈ tb_X5_numberBlocks_1, pj_S (G, A, (c_X5_numberBlocks, y_X5_numberBlocks.cls, 6, (some .int), 3), P, S, Z) pj_eI q.1 q.2 :=
  List.forall_mem_cons.mpr ⟨qz_iload_n C (show decode c_X5_numberBlocks 67 = .ok (.iload_n 2, 1) by decide +kernel) rfl,
  List.forall_mem_cons.mpr ⟨qz_iret C (show decode c_X5_numberBlocks 68 = .ok (.ireturn, 1) by decide +kernel) rfl,
  (fun q h => by cases h)⟩⟩
theorem sd_X5_numberBlocks {G : pj_E} {A : Nat → Prop} {P : pj_P} {S : pj_U} {Z : pj_Z} (C : pj_C (G, A, (c_X5_numberBlocks, y_X5_numberBlocks.cls, 6, (some .int), 3), P, S, Z)) : ∀ q ∈ tb_X5_numberBlocks, pj_S (G, A, (c_X5_numberBlocks, y_X5_numberBlocks.cls, 6, (some .int), 3), P, S, Z) pj_eI q.1 q.2 := List.forall_mem_append.mpr ⟨sd_X5_numberBlocks_0 C, sd_X5_numberBlocks_1 C⟩
noncomputable def C_X5_numberBlocks_37 (f : Nat → Int32 → Int32 → Int32 → Int32 → pj_M → Option (Int32 × pj_M)) : pj_N (Int32 × pj_M) := fun L st m => match L, st with
  | [some (.inr (.inr (t0, w0, a0))), some (.inl x1), some (.inl x2), some (.inl x3), _, _], [.inl s0] => (match Nat.beq t0 0 && (Nat.beq w0 5) with
    | true => f a0 x1 x2 x3 s0 m
    | false => none)
  | _, _ => none
noncomputable def C_X5_numberBlocks_4 (f : Nat → Int32 → Int32 → Int32 → pj_M → Option (Int32 × pj_M)) : pj_N (Int32 × pj_M) := fun L st m => match L, st with
  | [some (.inr (.inr (t0, w0, a0))), some (.inl x1), some (.inl x2), some (.inl x3), _, _], [] => (match Nat.beq t0 0 && (Nat.beq w0 5) with
    | true => f a0 x1 x2 x3 m
    | false => none)
  | _, _ => none
set_option maxRecDepth 20000 in
theorem eq_X5_numberBlocks_37 (k4 : Nat → Int32 → Int32 → Int32 → pj_M → Option (Int32 × pj_M)) (a0 : Nat) (x1 : Int32) (x2 : Int32) (x3 : Int32) (s0 : Int32) (d4 d5 : Option pj_V) (m : pj_M) : pj_run tb_X5_numberBlocks [(4, C_X5_numberBlocks_4 k4)] 44 37 [some (.inr (.inr (0, 5, a0))), some (.inl x1), some (.inl x2), some (.inl x3), d4, d5] [.inl s0] m = J_X5_numberBlocks_37 k4 a0 x1 x2 x3 s0 m := by rfl
theorem sg_X5_numberBlocks_37 {G : pj_E} {A : Nat → Prop} {P : pj_P} {S : pj_U} {Z : pj_Z} (C : pj_C (G, A, (c_X5_numberBlocks, y_X5_numberBlocks.cls, 6, (some .int), 3), P, S, Z)) {k4 : Nat → Int32 → Int32 → Int32 → pj_M → Option (Int32 × pj_M)} (hk4 : pj_G (G, A, (c_X5_numberBlocks, y_X5_numberBlocks.cls, 6, (some .int), 3), P, S, Z) pj_eI 4 (C_X5_numberBlocks_4 k4)) : pj_G (G, A, (c_X5_numberBlocks, y_X5_numberBlocks.cls, 6, (some .int), 3), P, S, Z) pj_eI 37 (C_X5_numberBlocks_37 (J_X5_numberBlocks_37 k4)) := by
  intro L st m r h hR
  unfold C_X5_numberBlocks_37 at h
  split at h
  · split at h
    · rename_i hbq
      simp only [Bool.and_eq_true, Nat.beq_eq] at hbq
      obtain ⟨rfl, rfl⟩ := hbq
      exact pj_run_ok (sd_X5_numberBlocks C) (List.forall_mem_cons.mpr ⟨hk4, fun q h => by cases h⟩) 44 37 _ _ _ _ ((eq_X5_numberBlocks_37 _ _ _ _ _ _ _ _ _).trans h) hR
    · cases h
  · cases h
set_option maxRecDepth 20000 in
theorem eq_X5_numberBlocks_4 (n1 : Nat) (a0 : Nat) (x1 : Int32) (x2 : Int32) (x3 : Int32) (d4 d5 : Option pj_V) (m : pj_M) : pj_run tb_X5_numberBlocks [(37, C_X5_numberBlocks_37 (J_X5_numberBlocks_37 (H_X5_numberBlocks_4 n1)))] 44 4 [some (.inr (.inr (0, 5, a0))), some (.inl x1), some (.inl x2), some (.inl x3), d4, d5] [] m = H_X5_numberBlocks_4 (n1 + 1) a0 x1 x2 x3 m := by rfl
theorem sg_X5_numberBlocks_4 {G : pj_E} {A : Nat → Prop} {P : pj_P} {S : pj_U} {Z : pj_Z} (C : pj_C (G, A, (c_X5_numberBlocks, y_X5_numberBlocks.cls, 6, (some .int), 3), P, S, Z)) : ∀ n1, pj_G (G, A, (c_X5_numberBlocks, y_X5_numberBlocks.cls, 6, (some .int), 3), P, S, Z) pj_eI 4 (C_X5_numberBlocks_4 (H_X5_numberBlocks_4 n1)) := by
  intro n1
  induction n1 with
  | zero =>
    intro L st m r h hR
    unfold C_X5_numberBlocks_4 at h
    split at h
    · split at h
      · cases h
      · cases h
    · cases h
  | succ n1 ih1 =>
    intro L st m r h hR
    unfold C_X5_numberBlocks_4 at h
    split at h
    · split at h
      · rename_i hbq
        simp only [Bool.and_eq_true, Nat.beq_eq] at hbq
        obtain ⟨rfl, rfl⟩ := hbq
        exact pj_run_ok (sd_X5_numberBlocks C) (List.forall_mem_cons.mpr ⟨sg_X5_numberBlocks_37 C ih1, fun q h => by cases h⟩) 44 4 _ _ _ _ ((eq_X5_numberBlocks_4 _ _ _ _ _ _ _ _).trans h) hR
      · cases h
    · cases h
set_option maxRecDepth 20000 in
theorem eq_X5_numberBlocks (a0 : Nat) (x1 : Int32) (m : pj_M) : pj_run tb_X5_numberBlocks [(4, C_X5_numberBlocks_4 (H_X5_numberBlocks_4  pj_z))] 44 0 [some (.inr (.inr (0, 5, a0))), some (.inl x1), none, none, none, none] [] m = F_X5_numberBlocks a0 x1 m := by rfl
theorem ct_X5_numberBlocks : pj_Ct pj_eI y_X5_numberBlocks c_X5_numberBlocks 6 (some .int) 3 W_X5_numberBlocks := by
  refine pj_ct_of (by decide +kernel) ?_ ?_
  · intro as m r h
    unfold W_X5_numberBlocks at h
    split at h
    · simp [pj_l0]
    · cases h
  · intro G A P S Z C as m r h hR
    unfold W_X5_numberBlocks at h
    split at h
    · split at h
      · rename_i hbq
        simp only [Bool.and_eq_true, Nat.beq_eq] at hbq
        obtain ⟨rfl, rfl⟩ := hbq
        exact pj_run_ok (sd_X5_numberBlocks C) (List.forall_mem_cons.mpr ⟨sg_X5_numberBlocks_4 C  pj_z, fun q h => by cases h⟩) 44 0 _ _ _ _ ((eq_X5_numberBlocks _ _ _).trans h) hR
      · cases h
    · cases h
/-! AlikeSteps$Parting.statesOf(II)I -/
abbrev c_X5_statesOf : ByteArray := prog_7_method_14_code
def y_X5_statesOf : MethodName := ⟨RX5, "statesOf", "(II)I"⟩
noncomputable def H_X5_statesOf_5 : Nat → Nat → Int32 → Int32 → Int32 → Int32 → pj_M → Option (Int32 × pj_M)
  | 0, _, _, _, _, _, _ => none
  | n1 + 1, a0, x1, x2, x3, x4, m => (if x4 < (m.1 a0 3) then ((F_X5_blockBehind a0 x1 x4 m).bind fun q1 => (if q1.1 = x2 then (H_X5_statesOf_5 n1 a0 x1 x2 (x3 ||| (1 <<< (x4 &&& 31))) (x4 + 1) q1.2) else (H_X5_statesOf_5 n1 a0 x1 x2 x3 (x4 + 1) q1.2))) else (some (x3, m)))
noncomputable def F_X5_statesOf (a0 : Nat) (x1 : Int32) (x2 : Int32) (m : pj_M) : Option (Int32 × pj_M) := (H_X5_statesOf_5 pj_z a0 x1 x2 0 0 m)
noncomputable def W_X5_statesOf : List pj_V → pj_M → Option (Int32 × pj_M) := fun as m => match as with
  | [.inr (.inr (t0, w0, a0)), .inl x1, .inl x2] => (match Nat.beq t0 0 && (Nat.beq w0 5) with
    | true => F_X5_statesOf a0 x1 x2 m
    | false => none)
  | _ => none
noncomputable def tb_X5_statesOf_0 : List (Nat × pj_T (Int32 × pj_M)) := [(0, qs_ci 0 1), (1, qs_sti 3 2), (2, qs_ci 0 3), (3, qs_sti 4 5), (5, qs_ldi 4 7), (7, qs_lda 0 8), (8, qs_gf 5 3 11), (11, qs_icge 38 14), (14, qs_lda 0 15), (15, qs_ldi 1 16), (16, qs_ldi 4 18), (18, qs_vI 5 3 W_X5_blockBehind 21), (21, qs_ldi 2 22), (22, qs_icne 32 25), (25, qs_ldi 3 26), (26, qs_ci 1 27), (27, qs_ldi 4 29), (29, qs_b2 (fun x y => x <<< (y &&& 31)) 30), (30, qs_b2 (fun x y => x ||| y) 31), (31, qs_sti 3 32), (32, qs_inc 4 1 35), (35, qs_go 5), (38, qs_ldi 3 39), (39, qs_iret)]
noncomputable abbrev tb_X5_statesOf : List (Nat × pj_T (Int32 × pj_M)) := tb_X5_statesOf_0
theorem mv_X5_statesOf : pj_mv y_X5_statesOf c_X5_statesOf 5 (some .int) 2 := ⟨⟨cw_726, cw_725, cw_18, cw_88⟩, by decide +kernel, by decide⟩
set_option maxRecDepth 20000 in
theorem sd_X5_statesOf_0 {G : pj_E} {A : Nat → Prop} {P : pj_P} {S : pj_U} {Z : pj_Z} (C : pj_C (G, A, (c_X5_statesOf, y_X5_statesOf.cls, 5, (some .int), 2), P, S, Z)) : ∀ q ∈ tb_X5_statesOf_0, pj_S (G, A, (c_X5_statesOf, y_X5_statesOf.cls, 5, (some .int), 2), P, S, Z) pj_eI q.1 q.2 :=
  List.forall_mem_cons.mpr ⟨qz_iconst C (show decode c_X5_statesOf 0 = .ok (.iconst 0, 1) by decide +kernel) (by decide +kernel),
  List.forall_mem_cons.mpr ⟨qz_istore_n C (show decode c_X5_statesOf 1 = .ok (.istore_n 3, 1) by decide +kernel) rfl,
  List.forall_mem_cons.mpr ⟨qz_iconst C (show decode c_X5_statesOf 2 = .ok (.iconst 0, 1) by decide +kernel) (by decide +kernel),
  List.forall_mem_cons.mpr ⟨qz_istore C (show decode c_X5_statesOf 3 = .ok (.istore 4, 2) by decide +kernel),
  List.forall_mem_cons.mpr ⟨qz_iload C (show decode c_X5_statesOf 5 = .ok (.iload 4, 2) by decide +kernel),
  List.forall_mem_cons.mpr ⟨qz_aload_n C (show decode c_X5_statesOf 7 = .ok (.aload_n 0, 1) by decide +kernel) rfl,
  List.forall_mem_cons.mpr ⟨qz_gf (k := 3) C (show decode c_X5_statesOf 8 = .ok (.getfield 19, 3) by decide +kernel) vcX5 wiX5 (by decide) cw_205,
  List.forall_mem_cons.mpr ⟨qz_icge C (show decode c_X5_statesOf 11 = .ok (.if_icmp .ge 27, 3) by decide +kernel) (by decide),
  List.forall_mem_cons.mpr ⟨qz_aload_n C (show decode c_X5_statesOf 14 = .ok (.aload_n 0, 1) by decide +kernel) rfl,
  List.forall_mem_cons.mpr ⟨qz_iload_n C (show decode c_X5_statesOf 15 = .ok (.iload_n 1, 1) by decide +kernel) rfl,
  List.forall_mem_cons.mpr ⟨qz_iload C (show decode c_X5_statesOf 16 = .ok (.iload 4, 2) by decide +kernel),
  List.forall_mem_cons.mpr ⟨qz_vI C (show decode c_X5_statesOf 18 = .ok (.invokevirtual 54, 3) by decide +kernel) ct_X5_blockBehind mv_X5_blockBehind cw_708 vcX5 (show 1 < 2 by omega),
  List.forall_mem_cons.mpr ⟨qz_iload_n C (show decode c_X5_statesOf 21 = .ok (.iload_n 2, 1) by decide +kernel) rfl,
  List.forall_mem_cons.mpr ⟨qz_icne C (show decode c_X5_statesOf 22 = .ok (.if_icmp .ne 10, 3) by decide +kernel) (by decide),
  List.forall_mem_cons.mpr ⟨qz_iload_n C (show decode c_X5_statesOf 25 = .ok (.iload_n 3, 1) by decide +kernel) rfl,
  List.forall_mem_cons.mpr ⟨qz_iconst C (show decode c_X5_statesOf 26 = .ok (.iconst 1, 1) by decide +kernel) (by decide +kernel),
  List.forall_mem_cons.mpr ⟨qz_iload C (show decode c_X5_statesOf 27 = .ok (.iload 4, 2) by decide +kernel),
  List.forall_mem_cons.mpr ⟨qz_ishl C (show decode c_X5_statesOf 29 = .ok (.ishl, 1) by decide +kernel),
  List.forall_mem_cons.mpr ⟨qz_ior C (show decode c_X5_statesOf 30 = .ok (.ior, 1) by decide +kernel),
  List.forall_mem_cons.mpr ⟨qz_istore_n C (show decode c_X5_statesOf 31 = .ok (.istore_n 3, 1) by decide +kernel) rfl,
  List.forall_mem_cons.mpr ⟨qz_iinc C (show decode c_X5_statesOf 32 = .ok (.iinc 4 1, 3) by decide +kernel) (by decide +kernel),
  List.forall_mem_cons.mpr ⟨qz_goto C (show decode c_X5_statesOf 35 = .ok (.goto (-30), 3) by decide +kernel) (by decide),
  List.forall_mem_cons.mpr ⟨qz_iload_n C (show decode c_X5_statesOf 38 = .ok (.iload_n 3, 1) by decide +kernel) rfl,
  List.forall_mem_cons.mpr ⟨qz_iret C (show decode c_X5_statesOf 39 = .ok (.ireturn, 1) by decide +kernel) rfl,
  (fun q h => by cases h)⟩⟩⟩⟩⟩⟩⟩⟩⟩⟩⟩⟩⟩⟩⟩⟩⟩⟩⟩⟩⟩⟩⟩⟩
theorem sd_X5_statesOf {G : pj_E} {A : Nat → Prop} {P : pj_P} {S : pj_U} {Z : pj_Z} (C : pj_C (G, A, (c_X5_statesOf, y_X5_statesOf.cls, 5, (some .int), 2), P, S, Z)) : ∀ q ∈ tb_X5_statesOf, pj_S (G, A, (c_X5_statesOf, y_X5_statesOf.cls, 5, (some .int), 2), P, S, Z) pj_eI q.1 q.2 := sd_X5_statesOf_0 C
noncomputable def C_X5_statesOf_5 (f : Nat → Int32 → Int32 → Int32 → Int32 → pj_M → Option (Int32 × pj_M)) : pj_N (Int32 × pj_M) := fun L st m => match L, st with
  | [some (.inr (.inr (t0, w0, a0))), some (.inl x1), some (.inl x2), some (.inl x3), some (.inl x4)], [] => (match Nat.beq t0 0 && (Nat.beq w0 5) with
    | true => f a0 x1 x2 x3 x4 m
    | false => none)
  | _, _ => none
set_option maxRecDepth 20000 in
theorem eq_X5_statesOf_5 (n1 : Nat) (a0 : Nat) (x1 : Int32) (x2 : Int32) (x3 : Int32) (x4 : Int32) (m : pj_M) : pj_run tb_X5_statesOf [(5, C_X5_statesOf_5 (H_X5_statesOf_5 n1))] 26 5 [some (.inr (.inr (0, 5, a0))), some (.inl x1), some (.inl x2), some (.inl x3), some (.inl x4)] [] m = H_X5_statesOf_5 (n1 + 1) a0 x1 x2 x3 x4 m := by rfl
theorem sg_X5_statesOf_5 {G : pj_E} {A : Nat → Prop} {P : pj_P} {S : pj_U} {Z : pj_Z} (C : pj_C (G, A, (c_X5_statesOf, y_X5_statesOf.cls, 5, (some .int), 2), P, S, Z)) : ∀ n1, pj_G (G, A, (c_X5_statesOf, y_X5_statesOf.cls, 5, (some .int), 2), P, S, Z) pj_eI 5 (C_X5_statesOf_5 (H_X5_statesOf_5 n1)) := by
  intro n1
  induction n1 with
  | zero =>
    intro L st m r h hR
    unfold C_X5_statesOf_5 at h
    split at h
    · split at h
      · cases h
      · cases h
    · cases h
  | succ n1 ih1 =>
    intro L st m r h hR
    unfold C_X5_statesOf_5 at h
    split at h
    · split at h
      · rename_i hbq
        simp only [Bool.and_eq_true, Nat.beq_eq] at hbq
        obtain ⟨rfl, rfl⟩ := hbq
        exact pj_run_ok (sd_X5_statesOf C) (List.forall_mem_cons.mpr ⟨ih1, fun q h => by cases h⟩) 26 5 _ _ _ _ ((eq_X5_statesOf_5 _ _ _ _ _ _ _).trans h) hR
      · cases h
    · cases h
set_option maxRecDepth 20000 in
theorem eq_X5_statesOf (a0 : Nat) (x1 : Int32) (x2 : Int32) (m : pj_M) : pj_run tb_X5_statesOf [(5, C_X5_statesOf_5 (H_X5_statesOf_5  pj_z))] 26 0 [some (.inr (.inr (0, 5, a0))), some (.inl x1), some (.inl x2), none, none] [] m = F_X5_statesOf a0 x1 x2 m := by rfl
theorem ct_X5_statesOf : pj_Ct pj_eI y_X5_statesOf c_X5_statesOf 5 (some .int) 2 W_X5_statesOf := by
  refine pj_ct_of (by decide +kernel) ?_ ?_
  · intro as m r h
    unfold W_X5_statesOf at h
    split at h
    · simp [pj_l0]
    · cases h
  · intro G A P S Z C as m r h hR
    unfold W_X5_statesOf at h
    split at h
    · split at h
      · rename_i hbq
        simp only [Bool.and_eq_true, Nat.beq_eq] at hbq
        obtain ⟨rfl, rfl⟩ := hbq
        exact pj_run_ok (sd_X5_statesOf C) (List.forall_mem_cons.mpr ⟨sg_X5_statesOf_5 C  pj_z, fun q h => by cases h⟩) 26 0 _ _ _ _ ((eq_X5_statesOf _ _ _ _).trans h) hR
      · cases h
    · cases h
/-! AlikeSteps$Parting.blocksOf(II)I -/
abbrev c_X5_blocksOf : ByteArray := prog_7_method_9_code
def y_X5_blocksOf : MethodName := ⟨RX5, "blocksOf", "(II)I"⟩
noncomputable def H_X5_blocksOf_5 : Nat → Nat → Int32 → Int32 → Int32 → Int32 → pj_M → Option (Int32 × pj_M)
  | 0, _, _, _, _, _, _ => none
  | n1 + 1, a0, x1, x2, x3, x4, m => (if x4 < (m.1 a0 3) then (if (x2 >>> (x4 &&& 31)) = 0 then (some (x3, m)) else (if ((x2 >>> (x4 &&& 31)) &&& 1) = 0 then (H_X5_blocksOf_5 n1 a0 x1 x2 x3 (x4 + 1) m) else ((F_X5_blockBehind a0 x1 x4 m).bind fun q1 => (H_X5_blocksOf_5 n1 a0 x1 x2 (x3 ||| (1 <<< (q1.1 &&& 31))) (x4 + 1) q1.2)))) else (some (x3, m)))
noncomputable def F_X5_blocksOf (a0 : Nat) (x1 : Int32) (x2 : Int32) (m : pj_M) : Option (Int32 × pj_M) := (H_X5_blocksOf_5 pj_z a0 x1 x2 0 0 m)
noncomputable def W_X5_blocksOf : List pj_V → pj_M → Option (Int32 × pj_M) := fun as m => match as with
  | [.inr (.inr (t0, w0, a0)), .inl x1, .inl x2] => (match Nat.beq t0 0 && (Nat.beq w0 5) with
    | true => F_X5_blocksOf a0 x1 x2 m
    | false => none)
  | _ => none
noncomputable def tb_X5_blocksOf_0 : List (Nat × pj_T (Int32 × pj_M)) := [(0, qs_ci 0 1), (1, qs_sti 3 2), (2, qs_ci 0 3), (3, qs_sti 4 5), (5, qs_ldi 4 7), (7, qs_lda 0 8), (8, qs_gf 5 3 11), (11, qs_icge 48 14), (14, qs_ldi 2 15), (15, qs_ldi 4 17), (17, qs_b2 (fun x y => x >>> (y &&& 31)) 18), (18, qs_ifeq 48 21), (21, qs_ldi 2 22), (22, qs_ldi 4 24), (24, qs_b2 (fun x y => x >>> (y &&& 31)) 25), (25, qs_ci 1 26), (26, qs_b2 (fun x y => x &&& y) 27), (27, qs_ifeq 42 30), (30, qs_ldi 3 31), (31, qs_ci 1 32), (32, qs_lda 0 33), (33, qs_ldi 1 34), (34, qs_ldi 4 36), (36, qs_vI 5 3 W_X5_blockBehind 39), (39, qs_b2 (fun x y => x <<< (y &&& 31)) 40), (40, qs_b2 (fun x y => x ||| y) 41), (41, qs_sti 3 42), (42, qs_inc 4 1 45), (45, qs_go 5), (48, qs_ldi 3 49), (49, qs_iret)]
noncomputable abbrev tb_X5_blocksOf : List (Nat × pj_T (Int32 × pj_M)) := tb_X5_blocksOf_0
theorem mv_X5_blocksOf : pj_mv y_X5_blocksOf c_X5_blocksOf 5 (some .int) 2 := ⟨⟨cw_733, cw_731, cw_732, cw_88⟩, by decide +kernel, by decide⟩
set_option maxRecDepth 20000 in
theorem sd_X5_blocksOf_0 {G : pj_E} {A : Nat → Prop} {P : pj_P} {S : pj_U} {Z : pj_Z} (C : pj_C (G, A, (c_X5_blocksOf, y_X5_blocksOf.cls, 5, (some .int), 2), P, S, Z)) : ∀ q ∈ tb_X5_blocksOf_0, pj_S (G, A, (c_X5_blocksOf, y_X5_blocksOf.cls, 5, (some .int), 2), P, S, Z) pj_eI q.1 q.2 :=
  List.forall_mem_cons.mpr ⟨qz_iconst C (show decode c_X5_blocksOf 0 = .ok (.iconst 0, 1) by decide +kernel) (by decide +kernel),
  List.forall_mem_cons.mpr ⟨qz_istore_n C (show decode c_X5_blocksOf 1 = .ok (.istore_n 3, 1) by decide +kernel) rfl,
  List.forall_mem_cons.mpr ⟨qz_iconst C (show decode c_X5_blocksOf 2 = .ok (.iconst 0, 1) by decide +kernel) (by decide +kernel),
  List.forall_mem_cons.mpr ⟨qz_istore C (show decode c_X5_blocksOf 3 = .ok (.istore 4, 2) by decide +kernel),
  List.forall_mem_cons.mpr ⟨qz_iload C (show decode c_X5_blocksOf 5 = .ok (.iload 4, 2) by decide +kernel),
  List.forall_mem_cons.mpr ⟨qz_aload_n C (show decode c_X5_blocksOf 7 = .ok (.aload_n 0, 1) by decide +kernel) rfl,
  List.forall_mem_cons.mpr ⟨qz_gf (k := 3) C (show decode c_X5_blocksOf 8 = .ok (.getfield 19, 3) by decide +kernel) vcX5 wiX5 (by decide) cw_205,
  List.forall_mem_cons.mpr ⟨qz_icge C (show decode c_X5_blocksOf 11 = .ok (.if_icmp .ge 37, 3) by decide +kernel) (by decide),
  List.forall_mem_cons.mpr ⟨qz_iload_n C (show decode c_X5_blocksOf 14 = .ok (.iload_n 2, 1) by decide +kernel) rfl,
  List.forall_mem_cons.mpr ⟨qz_iload C (show decode c_X5_blocksOf 15 = .ok (.iload 4, 2) by decide +kernel),
  List.forall_mem_cons.mpr ⟨qz_ishr C (show decode c_X5_blocksOf 17 = .ok (.ishr, 1) by decide +kernel),
  List.forall_mem_cons.mpr ⟨qz_ifeq C (show decode c_X5_blocksOf 18 = .ok (.ifCond .eq 30, 3) by decide +kernel) (by decide),
  List.forall_mem_cons.mpr ⟨qz_iload_n C (show decode c_X5_blocksOf 21 = .ok (.iload_n 2, 1) by decide +kernel) rfl,
  List.forall_mem_cons.mpr ⟨qz_iload C (show decode c_X5_blocksOf 22 = .ok (.iload 4, 2) by decide +kernel),
  List.forall_mem_cons.mpr ⟨qz_ishr C (show decode c_X5_blocksOf 24 = .ok (.ishr, 1) by decide +kernel),
  List.forall_mem_cons.mpr ⟨qz_iconst C (show decode c_X5_blocksOf 25 = .ok (.iconst 1, 1) by decide +kernel) (by decide +kernel),
  List.forall_mem_cons.mpr ⟨qz_iand C (show decode c_X5_blocksOf 26 = .ok (.iand, 1) by decide +kernel),
  List.forall_mem_cons.mpr ⟨qz_ifeq C (show decode c_X5_blocksOf 27 = .ok (.ifCond .eq 15, 3) by decide +kernel) (by decide),
  List.forall_mem_cons.mpr ⟨qz_iload_n C (show decode c_X5_blocksOf 30 = .ok (.iload_n 3, 1) by decide +kernel) rfl,
  List.forall_mem_cons.mpr ⟨qz_iconst C (show decode c_X5_blocksOf 31 = .ok (.iconst 1, 1) by decide +kernel) (by decide +kernel),
  List.forall_mem_cons.mpr ⟨qz_aload_n C (show decode c_X5_blocksOf 32 = .ok (.aload_n 0, 1) by decide +kernel) rfl,
  List.forall_mem_cons.mpr ⟨qz_iload_n C (show decode c_X5_blocksOf 33 = .ok (.iload_n 1, 1) by decide +kernel) rfl,
  List.forall_mem_cons.mpr ⟨qz_iload C (show decode c_X5_blocksOf 34 = .ok (.iload 4, 2) by decide +kernel),
  List.forall_mem_cons.mpr ⟨qz_vI C (show decode c_X5_blocksOf 36 = .ok (.invokevirtual 54, 3) by decide +kernel) ct_X5_blockBehind mv_X5_blockBehind cw_708 vcX5 (show 1 < 2 by omega),
  List.forall_mem_cons.mpr ⟨qz_ishl C (show decode c_X5_blocksOf 39 = .ok (.ishl, 1) by decide +kernel),
  List.forall_mem_cons.mpr ⟨qz_ior C (show decode c_X5_blocksOf 40 = .ok (.ior, 1) by decide +kernel),
  List.forall_mem_cons.mpr ⟨qz_istore_n C (show decode c_X5_blocksOf 41 = .ok (.istore_n 3, 1) by decide +kernel) rfl,
  List.forall_mem_cons.mpr ⟨qz_iinc C (show decode c_X5_blocksOf 42 = .ok (.iinc 4 1, 3) by decide +kernel) (by decide +kernel),
  List.forall_mem_cons.mpr ⟨qz_goto C (show decode c_X5_blocksOf 45 = .ok (.goto (-40), 3) by decide +kernel) (by decide),
  List.forall_mem_cons.mpr ⟨qz_iload_n C (show decode c_X5_blocksOf 48 = .ok (.iload_n 3, 1) by decide +kernel) rfl,
  List.forall_mem_cons.mpr ⟨qz_iret C (show decode c_X5_blocksOf 49 = .ok (.ireturn, 1) by decide +kernel) rfl,
  (fun q h => by cases h)⟩⟩⟩⟩⟩⟩⟩⟩⟩⟩⟩⟩⟩⟩⟩⟩⟩⟩⟩⟩⟩⟩⟩⟩⟩⟩⟩⟩⟩⟩⟩
theorem sd_X5_blocksOf {G : pj_E} {A : Nat → Prop} {P : pj_P} {S : pj_U} {Z : pj_Z} (C : pj_C (G, A, (c_X5_blocksOf, y_X5_blocksOf.cls, 5, (some .int), 2), P, S, Z)) : ∀ q ∈ tb_X5_blocksOf, pj_S (G, A, (c_X5_blocksOf, y_X5_blocksOf.cls, 5, (some .int), 2), P, S, Z) pj_eI q.1 q.2 := sd_X5_blocksOf_0 C
noncomputable def C_X5_blocksOf_5 (f : Nat → Int32 → Int32 → Int32 → Int32 → pj_M → Option (Int32 × pj_M)) : pj_N (Int32 × pj_M) := fun L st m => match L, st with
  | [some (.inr (.inr (t0, w0, a0))), some (.inl x1), some (.inl x2), some (.inl x3), some (.inl x4)], [] => (match Nat.beq t0 0 && (Nat.beq w0 5) with
    | true => f a0 x1 x2 x3 x4 m
    | false => none)
  | _, _ => none
set_option maxRecDepth 20000 in
theorem eq_X5_blocksOf_5 (n1 : Nat) (a0 : Nat) (x1 : Int32) (x2 : Int32) (x3 : Int32) (x4 : Int32) (m : pj_M) : pj_run tb_X5_blocksOf [(5, C_X5_blocksOf_5 (H_X5_blocksOf_5 n1))] 33 5 [some (.inr (.inr (0, 5, a0))), some (.inl x1), some (.inl x2), some (.inl x3), some (.inl x4)] [] m = H_X5_blocksOf_5 (n1 + 1) a0 x1 x2 x3 x4 m := by rfl
theorem sg_X5_blocksOf_5 {G : pj_E} {A : Nat → Prop} {P : pj_P} {S : pj_U} {Z : pj_Z} (C : pj_C (G, A, (c_X5_blocksOf, y_X5_blocksOf.cls, 5, (some .int), 2), P, S, Z)) : ∀ n1, pj_G (G, A, (c_X5_blocksOf, y_X5_blocksOf.cls, 5, (some .int), 2), P, S, Z) pj_eI 5 (C_X5_blocksOf_5 (H_X5_blocksOf_5 n1)) := by
  intro n1
  induction n1 with
  | zero =>
    intro L st m r h hR
    unfold C_X5_blocksOf_5 at h
    split at h
    · split at h
      · cases h
      · cases h
    · cases h
  | succ n1 ih1 =>
    intro L st m r h hR
    unfold C_X5_blocksOf_5 at h
    split at h
    · split at h
      · rename_i hbq
        simp only [Bool.and_eq_true, Nat.beq_eq] at hbq
        obtain ⟨rfl, rfl⟩ := hbq
        exact pj_run_ok (sd_X5_blocksOf C) (List.forall_mem_cons.mpr ⟨ih1, fun q h => by cases h⟩) 33 5 _ _ _ _ ((eq_X5_blocksOf_5 _ _ _ _ _ _ _).trans h) hR
      · cases h
    · cases h
set_option maxRecDepth 20000 in
theorem eq_X5_blocksOf (a0 : Nat) (x1 : Int32) (x2 : Int32) (m : pj_M) : pj_run tb_X5_blocksOf [(5, C_X5_blocksOf_5 (H_X5_blocksOf_5  pj_z))] 33 0 [some (.inr (.inr (0, 5, a0))), some (.inl x1), some (.inl x2), none, none] [] m = F_X5_blocksOf a0 x1 x2 m := by rfl
theorem ct_X5_blocksOf : pj_Ct pj_eI y_X5_blocksOf c_X5_blocksOf 5 (some .int) 2 W_X5_blocksOf := by
  refine pj_ct_of (by decide +kernel) ?_ ?_
  · intro as m r h
    unfold W_X5_blocksOf at h
    split at h
    · simp [pj_l0]
    · cases h
  · intro G A P S Z C as m r h hR
    unfold W_X5_blocksOf at h
    split at h
    · split at h
      · rename_i hbq
        simp only [Bool.and_eq_true, Nat.beq_eq] at hbq
        obtain ⟨rfl, rfl⟩ := hbq
        exact pj_run_ok (sd_X5_blocksOf C) (List.forall_mem_cons.mpr ⟨sg_X5_blocksOf_5 C  pj_z, fun q h => by cases h⟩) 33 0 _ _ _ _ ((eq_X5_blocksOf _ _ _ _).trans h) hR
      · cases h
    · cases h
/-! AlikeSteps$Parting.signsBy(LAlikeSteps$Steps;II)J -/
abbrev c_X5_signsBy : ByteArray := prog_7_method_13_code
def y_X5_signsBy : MethodName := ⟨RX5, "signsBy", "(LAlikeSteps$Steps;II)J"⟩
noncomputable def J_X5_signsBy_103 (a0 : Nat) (x4 : Int32) (l6 : Int64) (m : pj_M) : Option (Int64 × pj_M) := (if (m.1 a0 0) = 2 then (some (l6 &&& ((1 <<< (x4.toInt64 &&& 63)) ^^^ (-1)), m)) else (some (l6, m)))
noncomputable def J_X5_signsBy_76 (k40 : Nat → Nat → Int32 → Int32 → Int32 → Int32 → Int64 → Int32 → pj_M → Option (Int64 × pj_M)) (a0 : Nat) (a1 : Nat) (x2 : Int32) (x3 : Int32) (x4 : Int32) (x5 : Int32) (l6 : Int64) (x8 : Int32) (s0 : Int32) (m : pj_M) : Option (Int64 × pj_M) := ((F_X5_blocksOf a0 x2 s0 m).bind fun q1 => (k40 a0 a1 x2 x3 x4 x5 (l6 ||| (q1.1.toInt64 <<< ((10 * x8).toInt64 &&& 63))) (x8 + 1) q1.2))
noncomputable def H_X5_signsBy_40 : Nat → Nat → Nat → Int32 → Int32 → Int32 → Int32 → Int64 → Int32 → pj_M → Option (Int64 × pj_M)
  | 0, _, _, _, _, _, _, _, _, _ => none
  | n1 + 1, a0, a1, x2, x3, x4, x5, l6, x8, m => (if x8 < 4 then (if (m.1 a0 0) = 2 then ((F_X7_goneFrom a1 x8 x5 m).bind fun q2 => (J_X5_signsBy_76 (H_X5_signsBy_40 n1) a0 a1 x2 x3 x4 x5 l6 x8 q2.1 q2.2)) else ((F_X7_moved a1 (m.1 a0 0) x8 x3 m).bind fun q1 => (J_X5_signsBy_76 (H_X5_signsBy_40 n1) a0 a1 x2 x3 x4 x5 l6 x8 q1.1 q1.2))) else (J_X5_signsBy_103 a0 x4 l6 m))
noncomputable def F_X5_signsBy (a0 : Nat) (a1 : Nat) (x2 : Int32) (x3 : Int32) (m : pj_M) : Option (Int64 × pj_M) := ((F_X5_blockBehind a0 x2 x3 m).bind fun q1 => (if (q1.2.1 a0 0) = 2 then ((F_X5_statesOf a0 x2 q1.1 q1.2).bind fun q2 => ((F_X7_silentlyWithin a1 x3 q2.1 q2.2).bind fun q3 => (H_X5_signsBy_40 pj_z a0 a1 x2 x3 q1.1 q3.1 0 0 q3.2))) else (H_X5_signsBy_40 pj_z a0 a1 x2 x3 q1.1 0 0 0 q1.2)))
noncomputable def W_X5_signsBy : List pj_V → pj_M → Option (Int64 × pj_M) := fun as m => match as with
  | [.inr (.inr (t0, w0, a0)), .inr (.inr (t1, w1, a1)), .inl x2, .inl x3] => (match Nat.beq t0 0 && (Nat.beq w0 5 && (Nat.beq t1 0 && (Nat.beq w1 7))) with
    | true => F_X5_signsBy a0 a1 x2 x3 m
    | false => none)
  | _ => none
noncomputable def tb_X5_signsBy_0 : List (Nat × pj_T (Int64 × pj_M)) := [(0, qs_lda 0 1), (1, qs_ldi 2 2), (2, qs_ldi 3 3), (3, qs_vI 5 3 W_X5_blockBehind 6), (6, qs_sti 4 8), (8, qs_lda 0 9), (9, qs_gf 5 0 12), (12, qs_ci 2 13), (13, qs_icne 31 16), (16, qs_lda 1 17), (17, qs_ldi 3 18), (18, qs_lda 0 19), (19, qs_ldi 2 20), (20, qs_ldi 4 22), (22, qs_vI 5 3 W_X5_statesOf 25), (25, qs_vI 7 3 W_X7_silentlyWithin 28), (28, qs_go 32), (31, qs_ci 0 32), (32, qs_sti 5 34), (34, qs_cl 0 35), (35, qs_stl 6 37), (37, qs_ci 0 38), (38, qs_sti 8 40), (40, qs_ldi 8 42), (42, qs_ci 4 43), (43, qs_icge 103 46), (46, qs_lda 0 47), (47, qs_gf 5 0 50), (50, qs_ci 2 51), (51, qs_icne 65 54), (54, qs_lda 1 55), (55, qs_ldi 8 57), (57, qs_ldi 5 59), (59, qs_vI 7 3 W_X7_goneFrom 62), (62, qs_go 76), (65, qs_lda 1 66), (66, qs_lda 0 67), (67, qs_gf 5 0 70), (70, qs_ldi 8 72), (72, qs_ldi 3 73)]
noncomputable def tb_X5_signsBy_1 : List (Nat × pj_T (Int64 × pj_M)) := [(73, qs_vI 7 4 W_X7_moved 76), (76, qs_sti 9 78), (78, qs_ldl 6 80), (80, qs_lda 0 81), (81, qs_ldi 2 82), (82, qs_ldi 9 84), (84, qs_vI 5 3 W_X5_blocksOf 87), (87, qs_i2l 88), (88, qs_ci 10 90), (90, qs_ldi 8 92), (92, qs_b2 (fun x y => x * y) 93), (93, qs_lsh (fun x y => x <<< (y.toInt64 &&& 63)) 94), (94, qs_l2 (fun x y => x ||| y) 95), (95, qs_stl 6 97), (97, qs_inc 8 1 100), (100, qs_go 40), (103, qs_lda 0 104), (104, qs_gf 5 0 107), (107, qs_ci 2 108), (108, qs_icne 125 111), (111, qs_ldl 6 113), (113, qs_cl 1 114), (114, qs_ldi 4 116), (116, qs_lsh (fun x y => x <<< (y.toInt64 &&& 63)) 117), (117, qs_cl (-1) 120), (120, qs_l2 (fun x y => x ^^^ y) 121), (121, qs_l2 (fun x y => x &&& y) 122), (122, qs_go 127), (125, qs_ldl 6 127), (127, qs_lret)]
noncomputable def tb_X5_signsBy : List (Nat × pj_T (Int64 × pj_M)) := tb_X5_signsBy_0 ++ (tb_X5_signsBy_1)
theorem mv_X5_signsBy : pj_mv y_X5_signsBy c_X5_signsBy 10 (some .long) 3 := ⟨⟨cw_722, cw_721, cw_17, cw_88⟩, by decide +kernel, by decide⟩
set_option maxRecDepth 20000 in
theorem sd_X5_signsBy_0 {G : pj_E} {A : Nat → Prop} {P : pj_P} {S : pj_U} {Z : pj_Z} (C : pj_C (G, A, (c_X5_signsBy, y_X5_signsBy.cls, 10, (some .long), 3), P, S, Z)) : ∀ q ∈ tb_X5_signsBy_0, pj_S (G, A, (c_X5_signsBy, y_X5_signsBy.cls, 10, (some .long), 3), P, S, Z) pj_eL q.1 q.2 :=
  List.forall_mem_cons.mpr ⟨qz_aload_n C (show decode c_X5_signsBy 0 = .ok (.aload_n 0, 1) by decide +kernel) rfl,
  List.forall_mem_cons.mpr ⟨qz_iload_n C (show decode c_X5_signsBy 1 = .ok (.iload_n 2, 1) by decide +kernel) rfl,
  List.forall_mem_cons.mpr ⟨qz_iload_n C (show decode c_X5_signsBy 2 = .ok (.iload_n 3, 1) by decide +kernel) rfl,
  List.forall_mem_cons.mpr ⟨qz_vI C (show decode c_X5_signsBy 3 = .ok (.invokevirtual 54, 3) by decide +kernel) ct_X5_blockBehind mv_X5_blockBehind cw_708 vcX5 (show 1 < 3 by omega),
  List.forall_mem_cons.mpr ⟨qz_istore C (show decode c_X5_signsBy 6 = .ok (.istore 4, 2) by decide +kernel),
  List.forall_mem_cons.mpr ⟨qz_aload_n C (show decode c_X5_signsBy 8 = .ok (.aload_n 0, 1) by decide +kernel) rfl,
  List.forall_mem_cons.mpr ⟨qz_gf (k := 0) C (show decode c_X5_signsBy 9 = .ok (.getfield 32, 3) by decide +kernel) vcX5 wiX5 (by decide) cw_202,
  List.forall_mem_cons.mpr ⟨qz_iconst C (show decode c_X5_signsBy 12 = .ok (.iconst 2, 1) by decide +kernel) (by decide +kernel),
  List.forall_mem_cons.mpr ⟨qz_icne C (show decode c_X5_signsBy 13 = .ok (.if_icmp .ne 18, 3) by decide +kernel) (by decide),
  List.forall_mem_cons.mpr ⟨qz_aload_n C (show decode c_X5_signsBy 16 = .ok (.aload_n 1, 1) by decide +kernel) rfl,
  List.forall_mem_cons.mpr ⟨qz_iload_n C (show decode c_X5_signsBy 17 = .ok (.iload_n 3, 1) by decide +kernel) rfl,
  List.forall_mem_cons.mpr ⟨qz_aload_n C (show decode c_X5_signsBy 18 = .ok (.aload_n 0, 1) by decide +kernel) rfl,
  List.forall_mem_cons.mpr ⟨qz_iload_n C (show decode c_X5_signsBy 19 = .ok (.iload_n 2, 1) by decide +kernel) rfl,
  List.forall_mem_cons.mpr ⟨qz_iload C (show decode c_X5_signsBy 20 = .ok (.iload 4, 2) by decide +kernel),
  List.forall_mem_cons.mpr ⟨qz_vI C (show decode c_X5_signsBy 22 = .ok (.invokevirtual 59, 3) by decide +kernel) ct_X5_statesOf mv_X5_statesOf cw_723 vcX5 (show 2 < 3 by omega),
  List.forall_mem_cons.mpr ⟨qz_vI C (show decode c_X5_signsBy 25 = .ok (.invokevirtual 83, 3) by decide +kernel) ct_X7_silentlyWithin mv_X7_silentlyWithin cw_727 vcX7 (show 2 < 3 by omega),
  List.forall_mem_cons.mpr ⟨qz_goto C (show decode c_X5_signsBy 28 = .ok (.goto 4, 3) by decide +kernel) (by decide),
  List.forall_mem_cons.mpr ⟨qz_iconst C (show decode c_X5_signsBy 31 = .ok (.iconst 0, 1) by decide +kernel) (by decide +kernel),
  List.forall_mem_cons.mpr ⟨qz_istore C (show decode c_X5_signsBy 32 = .ok (.istore 5, 2) by decide +kernel),
  List.forall_mem_cons.mpr ⟨qz_lconst C (show decode c_X5_signsBy 34 = .ok (.lconst 0, 1) by decide +kernel) (by decide +kernel),
  List.forall_mem_cons.mpr ⟨qz_lstore C (show decode c_X5_signsBy 35 = .ok (.lstore 6, 2) by decide +kernel),
  List.forall_mem_cons.mpr ⟨qz_iconst C (show decode c_X5_signsBy 37 = .ok (.iconst 0, 1) by decide +kernel) (by decide +kernel),
  List.forall_mem_cons.mpr ⟨qz_istore C (show decode c_X5_signsBy 38 = .ok (.istore 8, 2) by decide +kernel),
  List.forall_mem_cons.mpr ⟨qz_iload C (show decode c_X5_signsBy 40 = .ok (.iload 8, 2) by decide +kernel),
  List.forall_mem_cons.mpr ⟨qz_iconst C (show decode c_X5_signsBy 42 = .ok (.iconst 4, 1) by decide +kernel) (by decide +kernel),
  List.forall_mem_cons.mpr ⟨qz_icge C (show decode c_X5_signsBy 43 = .ok (.if_icmp .ge 60, 3) by decide +kernel) (by decide),
  List.forall_mem_cons.mpr ⟨qz_aload_n C (show decode c_X5_signsBy 46 = .ok (.aload_n 0, 1) by decide +kernel) rfl,
  List.forall_mem_cons.mpr ⟨qz_gf (k := 0) C (show decode c_X5_signsBy 47 = .ok (.getfield 32, 3) by decide +kernel) vcX5 wiX5 (by decide) cw_202,
  List.forall_mem_cons.mpr ⟨qz_iconst C (show decode c_X5_signsBy 50 = .ok (.iconst 2, 1) by decide +kernel) (by decide +kernel),
  List.forall_mem_cons.mpr ⟨qz_icne C (show decode c_X5_signsBy 51 = .ok (.if_icmp .ne 14, 3) by decide +kernel) (by decide),
  List.forall_mem_cons.mpr ⟨qz_aload_n C (show decode c_X5_signsBy 54 = .ok (.aload_n 1, 1) by decide +kernel) rfl,
  List.forall_mem_cons.mpr ⟨qz_iload C (show decode c_X5_signsBy 55 = .ok (.iload 8, 2) by decide +kernel),
  List.forall_mem_cons.mpr ⟨qz_iload C (show decode c_X5_signsBy 57 = .ok (.iload 5, 2) by decide +kernel),
  List.forall_mem_cons.mpr ⟨qz_vI C (show decode c_X5_signsBy 59 = .ok (.invokevirtual 62, 3) by decide +kernel) ct_X7_goneFrom mv_X7_goneFrom cw_728 vcX7 (show 2 < 3 by omega),
  List.forall_mem_cons.mpr ⟨qz_goto C (show decode c_X5_signsBy 62 = .ok (.goto 14, 3) by decide +kernel) (by decide),
  List.forall_mem_cons.mpr ⟨qz_aload_n C (show decode c_X5_signsBy 65 = .ok (.aload_n 1, 1) by decide +kernel) rfl,
  List.forall_mem_cons.mpr ⟨qz_aload_n C (show decode c_X5_signsBy 66 = .ok (.aload_n 0, 1) by decide +kernel) rfl,
  List.forall_mem_cons.mpr ⟨qz_gf (k := 0) C (show decode c_X5_signsBy 67 = .ok (.getfield 32, 3) by decide +kernel) vcX5 wiX5 (by decide) cw_202,
  List.forall_mem_cons.mpr ⟨qz_iload C (show decode c_X5_signsBy 70 = .ok (.iload 8, 2) by decide +kernel),
  List.forall_mem_cons.mpr ⟨qz_iload_n C (show decode c_X5_signsBy 72 = .ok (.iload_n 3, 1) by decide +kernel) rfl,
  (fun q h => by cases h)⟩⟩⟩⟩⟩⟩⟩⟩⟩⟩⟩⟩⟩⟩⟩⟩⟩⟩⟩⟩⟩⟩⟩⟩⟩⟩⟩⟩⟩⟩⟩⟩⟩⟩⟩⟩⟩⟩⟩⟩
set_option maxRecDepth 20000 in
theorem sd_X5_signsBy_1 {G : pj_E} {A : Nat → Prop} {P : pj_P} {S : pj_U} {Z : pj_Z} (C : pj_C (G, A, (c_X5_signsBy, y_X5_signsBy.cls, 10, (some .long), 3), P, S, Z)) : ∀ q ∈ tb_X5_signsBy_1, pj_S (G, A, (c_X5_signsBy, y_X5_signsBy.cls, 10, (some .long), 3), P, S, Z) pj_eL q.1 q.2 :=
  List.forall_mem_cons.mpr ⟨qz_vI C (show decode c_X5_signsBy 73 = .ok (.invokevirtual 86, 3) by decide +kernel) ct_X7_moved mv_X7_moved cw_729 vcX7 (show 2 < 3 by omega),
  List.forall_mem_cons.mpr ⟨qz_istore C (show decode c_X5_signsBy 76 = .ok (.istore 9, 2) by decide +kernel),
  List.forall_mem_cons.mpr ⟨qz_lload C (show decode c_X5_signsBy 78 = .ok (.lload 6, 2) by decide +kernel),
  List.forall_mem_cons.mpr ⟨qz_aload_n C (show decode c_X5_signsBy 80 = .ok (.aload_n 0, 1) by decide +kernel) rfl,
  List.forall_mem_cons.mpr ⟨qz_iload_n C (show decode c_X5_signsBy 81 = .ok (.iload_n 2, 1) by decide +kernel) rfl,
  List.forall_mem_cons.mpr ⟨qz_iload C (show decode c_X5_signsBy 82 = .ok (.iload 9, 2) by decide +kernel),
  List.forall_mem_cons.mpr ⟨qz_vI C (show decode c_X5_signsBy 84 = .ok (.invokevirtual 67, 3) by decide +kernel) ct_X5_blocksOf mv_X5_blocksOf cw_730 vcX5 (show 2 < 3 by omega),
  List.forall_mem_cons.mpr ⟨qz_i2l C (show decode c_X5_signsBy 87 = .ok (.i2l, 1) by decide +kernel),
  List.forall_mem_cons.mpr ⟨qz_bipush C (show decode c_X5_signsBy 88 = .ok (.bipush 10, 2) by decide +kernel) (by decide +kernel),
  List.forall_mem_cons.mpr ⟨qz_iload C (show decode c_X5_signsBy 90 = .ok (.iload 8, 2) by decide +kernel),
  List.forall_mem_cons.mpr ⟨qz_imul C (show decode c_X5_signsBy 92 = .ok (.imul, 1) by decide +kernel),
  List.forall_mem_cons.mpr ⟨qz_lshl C (show decode c_X5_signsBy 93 = .ok (.lshl, 1) by decide +kernel),
  List.forall_mem_cons.mpr ⟨qz_lor C (show decode c_X5_signsBy 94 = .ok (.lor, 1) by decide +kernel),
  List.forall_mem_cons.mpr ⟨qz_lstore C (show decode c_X5_signsBy 95 = .ok (.lstore 6, 2) by decide +kernel),
  List.forall_mem_cons.mpr ⟨qz_iinc C (show decode c_X5_signsBy 97 = .ok (.iinc 8 1, 3) by decide +kernel) (by decide +kernel),
  List.forall_mem_cons.mpr ⟨qz_goto C (show decode c_X5_signsBy 100 = .ok (.goto (-60), 3) by decide +kernel) (by decide),
  List.forall_mem_cons.mpr ⟨qz_aload_n C (show decode c_X5_signsBy 103 = .ok (.aload_n 0, 1) by decide +kernel) rfl,
  List.forall_mem_cons.mpr ⟨qz_gf (k := 0) C (show decode c_X5_signsBy 104 = .ok (.getfield 32, 3) by decide +kernel) vcX5 wiX5 (by decide) cw_202,
  List.forall_mem_cons.mpr ⟨qz_iconst C (show decode c_X5_signsBy 107 = .ok (.iconst 2, 1) by decide +kernel) (by decide +kernel),
  List.forall_mem_cons.mpr ⟨qz_icne C (show decode c_X5_signsBy 108 = .ok (.if_icmp .ne 17, 3) by decide +kernel) (by decide),
  List.forall_mem_cons.mpr ⟨qz_lload C (show decode c_X5_signsBy 111 = .ok (.lload 6, 2) by decide +kernel),
  List.forall_mem_cons.mpr ⟨qz_lconst C (show decode c_X5_signsBy 113 = .ok (.lconst 1, 1) by decide +kernel) (by decide +kernel),
  List.forall_mem_cons.mpr ⟨qz_iload C (show decode c_X5_signsBy 114 = .ok (.iload 4, 2) by decide +kernel),
  List.forall_mem_cons.mpr ⟨qz_lshl C (show decode c_X5_signsBy 116 = .ok (.lshl, 1) by decide +kernel),
  List.forall_mem_cons.mpr ⟨qz_ldc2 C (show decode c_X5_signsBy 117 = .ok (.ldc2_w 90, 3) by decide +kernel) cw_734,
  List.forall_mem_cons.mpr ⟨qz_lxor C (show decode c_X5_signsBy 120 = .ok (.lxor, 1) by decide +kernel),
  List.forall_mem_cons.mpr ⟨qz_land C (show decode c_X5_signsBy 121 = .ok (.land, 1) by decide +kernel),
  List.forall_mem_cons.mpr ⟨qz_goto C (show decode c_X5_signsBy 122 = .ok (.goto 5, 3) by decide +kernel) (by decide),
  List.forall_mem_cons.mpr ⟨qz_lload C (show decode c_X5_signsBy 125 = .ok (.lload 6, 2) by decide +kernel),
  List.forall_mem_cons.mpr ⟨qz_lret C (show decode c_X5_signsBy 127 = .ok (.lreturn, 1) by decide +kernel) rfl,
  (fun q h => by cases h)⟩⟩⟩⟩⟩⟩⟩⟩⟩⟩⟩⟩⟩⟩⟩⟩⟩⟩⟩⟩⟩⟩⟩⟩⟩⟩⟩⟩⟩⟩
theorem sd_X5_signsBy {G : pj_E} {A : Nat → Prop} {P : pj_P} {S : pj_U} {Z : pj_Z} (C : pj_C (G, A, (c_X5_signsBy, y_X5_signsBy.cls, 10, (some .long), 3), P, S, Z)) : ∀ q ∈ tb_X5_signsBy, pj_S (G, A, (c_X5_signsBy, y_X5_signsBy.cls, 10, (some .long), 3), P, S, Z) pj_eL q.1 q.2 := List.forall_mem_append.mpr ⟨sd_X5_signsBy_0 C, sd_X5_signsBy_1 C⟩
noncomputable def C_X5_signsBy_103 (f : Nat → Int32 → Int64 → pj_M → Option (Int64 × pj_M)) : pj_N (Int64 × pj_M) := fun L st m => match L, st with
  | [some (.inr (.inr (t0, w0, a0))), _, _, _, some (.inl x4), _, some (.inr (.inl l6)), _, _, _], [] => (match Nat.beq t0 0 && (Nat.beq w0 5) with
    | true => f a0 x4 l6 m
    | false => none)
  | _, _ => none
noncomputable def C_X5_signsBy_76 (f : Nat → Nat → Int32 → Int32 → Int32 → Int32 → Int64 → Int32 → Int32 → pj_M → Option (Int64 × pj_M)) : pj_N (Int64 × pj_M) := fun L st m => match L, st with
  | [some (.inr (.inr (t0, w0, a0))), some (.inr (.inr (t1, w1, a1))), some (.inl x2), some (.inl x3), some (.inl x4), some (.inl x5), some (.inr (.inl l6)), _, some (.inl x8), _], [.inl s0] => (match Nat.beq t0 0 && (Nat.beq w0 5 && (Nat.beq t1 0 && (Nat.beq w1 7))) with
    | true => f a0 a1 x2 x3 x4 x5 l6 x8 s0 m
    | false => none)
  | _, _ => none
noncomputable def C_X5_signsBy_40 (f : Nat → Nat → Int32 → Int32 → Int32 → Int32 → Int64 → Int32 → pj_M → Option (Int64 × pj_M)) : pj_N (Int64 × pj_M) := fun L st m => match L, st with
  | [some (.inr (.inr (t0, w0, a0))), some (.inr (.inr (t1, w1, a1))), some (.inl x2), some (.inl x3), some (.inl x4), some (.inl x5), some (.inr (.inl l6)), _, some (.inl x8), _], [] => (match Nat.beq t0 0 && (Nat.beq w0 5 && (Nat.beq t1 0 && (Nat.beq w1 7))) with
    | true => f a0 a1 x2 x3 x4 x5 l6 x8 m
    | false => none)
  | _, _ => none
set_option maxRecDepth 20000 in
theorem eq_X5_signsBy_103 (a0 : Nat) (x4 : Int32) (l6 : Int64) (d1 d2 d3 d5 d7 d8 d9 : Option pj_V) (m : pj_M) : pj_run tb_X5_signsBy [] 72 103 [some (.inr (.inr (0, 5, a0))), d1, d2, d3, some (.inl x4), d5, some (.inr (.inl l6)), d7, d8, d9] [] m = J_X5_signsBy_103 a0 x4 l6 m := by rfl
theorem sg_X5_signsBy_103 {G : pj_E} {A : Nat → Prop} {P : pj_P} {S : pj_U} {Z : pj_Z} (C : pj_C (G, A, (c_X5_signsBy, y_X5_signsBy.cls, 10, (some .long), 3), P, S, Z)) : pj_G (G, A, (c_X5_signsBy, y_X5_signsBy.cls, 10, (some .long), 3), P, S, Z) pj_eL 103 (C_X5_signsBy_103 (J_X5_signsBy_103)) := by
  intro L st m r h hR
  unfold C_X5_signsBy_103 at h
  split at h
  · split at h
    · rename_i hbq
      simp only [Bool.and_eq_true, Nat.beq_eq] at hbq
      obtain ⟨rfl, rfl⟩ := hbq
      exact pj_run_ok (sd_X5_signsBy C) (fun q h => by cases h) 72 103 _ _ _ _ ((eq_X5_signsBy_103 _ _ _ _ _ _ _ _ _ _ _).trans h) hR
    · cases h
  · cases h
set_option maxRecDepth 20000 in
theorem eq_X5_signsBy_76 (k40 : Nat → Nat → Int32 → Int32 → Int32 → Int32 → Int64 → Int32 → pj_M → Option (Int64 × pj_M)) (a0 : Nat) (a1 : Nat) (x2 : Int32) (x3 : Int32) (x4 : Int32) (x5 : Int32) (l6 : Int64) (x8 : Int32) (s0 : Int32) (d7 d9 : Option pj_V) (m : pj_M) : pj_run tb_X5_signsBy [(40, C_X5_signsBy_40 k40)] 72 76 [some (.inr (.inr (0, 5, a0))), some (.inr (.inr (0, 7, a1))), some (.inl x2), some (.inl x3), some (.inl x4), some (.inl x5), some (.inr (.inl l6)), d7, some (.inl x8), d9] [.inl s0] m = J_X5_signsBy_76 k40 a0 a1 x2 x3 x4 x5 l6 x8 s0 m := by rfl
theorem sg_X5_signsBy_76 {G : pj_E} {A : Nat → Prop} {P : pj_P} {S : pj_U} {Z : pj_Z} (C : pj_C (G, A, (c_X5_signsBy, y_X5_signsBy.cls, 10, (some .long), 3), P, S, Z)) {k40 : Nat → Nat → Int32 → Int32 → Int32 → Int32 → Int64 → Int32 → pj_M → Option (Int64 × pj_M)} (hk40 : pj_G (G, A, (c_X5_signsBy, y_X5_signsBy.cls, 10, (some .long), 3), P, S, Z) pj_eL 40 (C_X5_signsBy_40 k40)) : pj_G (G, A, (c_X5_signsBy, y_X5_signsBy.cls, 10, (some .long), 3), P, S, Z) pj_eL 76 (C_X5_signsBy_76 (J_X5_signsBy_76 k40)) := by
  intro L st m r h hR
  unfold C_X5_signsBy_76 at h
  split at h
  · split at h
    · rename_i hbq
      simp only [Bool.and_eq_true, Nat.beq_eq] at hbq
      obtain ⟨rfl, rfl, rfl, rfl⟩ := hbq
      exact pj_run_ok (sd_X5_signsBy C) (List.forall_mem_cons.mpr ⟨hk40, fun q h => by cases h⟩) 72 76 _ _ _ _ ((eq_X5_signsBy_76 _ _ _ _ _ _ _ _ _ _ _ _ _).trans h) hR
    · cases h
  · cases h
set_option maxRecDepth 20000 in
theorem eq_X5_signsBy_40 (n1 : Nat) (a0 : Nat) (a1 : Nat) (x2 : Int32) (x3 : Int32) (x4 : Int32) (x5 : Int32) (l6 : Int64) (x8 : Int32) (d7 d9 : Option pj_V) (m : pj_M) : pj_run tb_X5_signsBy [(76, C_X5_signsBy_76 (J_X5_signsBy_76 (H_X5_signsBy_40 n1))), (103, C_X5_signsBy_103 (J_X5_signsBy_103 ))] 72 40 [some (.inr (.inr (0, 5, a0))), some (.inr (.inr (0, 7, a1))), some (.inl x2), some (.inl x3), some (.inl x4), some (.inl x5), some (.inr (.inl l6)), d7, some (.inl x8), d9] [] m = H_X5_signsBy_40 (n1 + 1) a0 a1 x2 x3 x4 x5 l6 x8 m := by rfl
theorem sg_X5_signsBy_40 {G : pj_E} {A : Nat → Prop} {P : pj_P} {S : pj_U} {Z : pj_Z} (C : pj_C (G, A, (c_X5_signsBy, y_X5_signsBy.cls, 10, (some .long), 3), P, S, Z)) : ∀ n1, pj_G (G, A, (c_X5_signsBy, y_X5_signsBy.cls, 10, (some .long), 3), P, S, Z) pj_eL 40 (C_X5_signsBy_40 (H_X5_signsBy_40 n1)) := by
  intro n1
  induction n1 with
  | zero =>
    intro L st m r h hR
    unfold C_X5_signsBy_40 at h
    split at h
    · split at h
      · cases h
      · cases h
    · cases h
  | succ n1 ih1 =>
    intro L st m r h hR
    unfold C_X5_signsBy_40 at h
    split at h
    · split at h
      · rename_i hbq
        simp only [Bool.and_eq_true, Nat.beq_eq] at hbq
        obtain ⟨rfl, rfl, rfl, rfl⟩ := hbq
        exact pj_run_ok (sd_X5_signsBy C) (List.forall_mem_cons.mpr ⟨sg_X5_signsBy_76 C ih1, List.forall_mem_cons.mpr ⟨sg_X5_signsBy_103 C , fun q h => by cases h⟩⟩) 72 40 _ _ _ _ ((eq_X5_signsBy_40 _ _ _ _ _ _ _ _ _ _ _ _).trans h) hR
      · cases h
    · cases h
set_option maxRecDepth 20000 in
theorem eq_X5_signsBy (a0 : Nat) (a1 : Nat) (x2 : Int32) (x3 : Int32) (m : pj_M) : pj_run tb_X5_signsBy [(40, C_X5_signsBy_40 (H_X5_signsBy_40  pj_z))] 72 0 [some (.inr (.inr (0, 5, a0))), some (.inr (.inr (0, 7, a1))), some (.inl x2), some (.inl x3), none, none, none, none, none, none] [] m = F_X5_signsBy a0 a1 x2 x3 m := by rfl
theorem ct_X5_signsBy : pj_Ct pj_eL y_X5_signsBy c_X5_signsBy 10 (some .long) 3 W_X5_signsBy := by
  refine pj_ct_of (by decide +kernel) ?_ ?_
  · intro as m r h
    unfold W_X5_signsBy at h
    split at h
    · simp [pj_l0]
    · cases h
  · intro G A P S Z C as m r h hR
    unfold W_X5_signsBy at h
    split at h
    · split at h
      · rename_i hbq
        simp only [Bool.and_eq_true, Nat.beq_eq] at hbq
        obtain ⟨rfl, rfl, rfl, rfl⟩ := hbq
        exact pj_run_ok (sd_X5_signsBy C) (List.forall_mem_cons.mpr ⟨sg_X5_signsBy_40 C  pj_z, fun q h => by cases h⟩) 72 0 _ _ _ _ ((eq_X5_signsBy _ _ _ _ _).trans h) hR
      · cases h
    · cases h
/-! AlikeSteps$Parting.partOn(LAlikeSteps$Steps;)V -/
abbrev c_X5_partOn : ByteArray := prog_7_method_12_code
def y_X5_partOn : MethodName := ⟨RX5, "partOn", "(LAlikeSteps$Steps;)V"⟩
noncomputable def J_X5_partOn_39 (k2 : Nat → Nat → Int32 → pj_M → Option (pj_M)) (a0 : Nat) (a1 : Nat) (x2 : Int32) (m : pj_M) : Option (pj_M) := ((F_X5_numberBlocks a0 x2 m).bind fun q1 => (if q1.1 = (q1.2.1 a0 5) then (some q1.2) else (k2 a0 a1 (x2 + 1) (pj_wr (pj_wr q1.2 a0 5 q1.1) a0 4 x2))))
noncomputable def H_X5_partOn_10 (k2 : Nat → Nat → Int32 → pj_M → Option (pj_M)) : Nat → Nat → Nat → Int32 → Int32 → pj_M → Option (pj_M)
  | 0, _, _, _, _, _ => none
  | n1 + 1, a0, a1, x2, x3, m => (if x3 < (m.1 a0 3) then ((F_X5_signsBy a0 a1 (x2 - 1) x3 m).bind fun q1 => (if x3 < 0 ∨ 10 ≤ x3.toNatClampNeg then none else (H_X5_partOn_10 k2 n1 a0 a1 x2 (x3 + 1) (pj_wl q1.2 (a0 + 2) x3.toNatClampNeg q1.1)))) else (J_X5_partOn_39 k2 a0 a1 x2 m))
noncomputable def H_X5_partOn_2 : Nat → Nat → Nat → Int32 → pj_M → Option (pj_M)
  | 0, _, _, _, _ => none
  | n1 + 1, a0, a1, x2, m => (if (10 : Int32) < x2 then (some m) else (H_X5_partOn_10 (H_X5_partOn_2 n1) pj_z a0 a1 x2 0 m))
noncomputable def F_X5_partOn (a0 : Nat) (a1 : Nat) (m : pj_M) : Option (pj_M) := (H_X5_partOn_2 pj_z a0 a1 1 m)
noncomputable def W_X5_partOn : List pj_V → pj_M → Option (pj_M) := fun as m => match as with
  | [.inr (.inr (t0, w0, a0)), .inr (.inr (t1, w1, a1))] => (match Nat.beq t0 0 && (Nat.beq w0 5 && (Nat.beq t1 0 && (Nat.beq w1 7))) with
    | true => F_X5_partOn a0 a1 m
    | false => none)
  | _ => none
noncomputable def tb_X5_partOn_0 : List (Nat × pj_T (pj_M)) := [(0, qs_ci 1 1), (1, qs_sti 2 2), (2, qs_ldi 2 3), (3, qs_ci 10 5), (5, qs_icgt 70 8), (8, qs_ci 0 9), (9, qs_sti 3 10), (10, qs_ldi 3 11), (11, qs_lda 0 12), (12, qs_gf 5 3 15), (15, qs_icge 39 18), (18, qs_lda 0 19), (19, qs_gf 5 2 22), (22, qs_ldi 3 23), (23, qs_lda 0 24), (24, qs_lda 1 25), (25, qs_ldi 2 26), (26, qs_ci 1 27), (27, qs_b2 (fun x y => x - y) 28), (28, qs_ldi 3 29), (29, qs_vL 5 4 W_X5_signsBy 32), (32, qs_last 33), (33, qs_inc 3 1 36), (36, qs_go 10), (39, qs_lda 0 40), (40, qs_ldi 2 41), (41, qs_vI 5 2 W_X5_numberBlocks 44), (44, qs_sti 3 45), (45, qs_ldi 3 46), (46, qs_lda 0 47), (47, qs_gf 5 5 50), (50, qs_icne 54 53), (53, qs_vret), (54, qs_lda 0 55), (55, qs_ldi 3 56), (56, qs_pf 5 5 59), (59, qs_lda 0 60), (60, qs_ldi 2 61), (61, qs_pf 5 4 64), (64, qs_inc 2 1 67)]
noncomputable def tb_X5_partOn_1 : List (Nat × pj_T (pj_M)) := [(67, qs_go 2), (70, qs_vret)]
noncomputable def tb_X5_partOn : List (Nat × pj_T (pj_M)) := tb_X5_partOn_0 ++ (tb_X5_partOn_1)
theorem mv_X5_partOn : pj_mv y_X5_partOn c_X5_partOn 4 none 1 := ⟨⟨cw_718, cw_717, cw_16, cw_88⟩, by decide +kernel, by decide⟩
set_option maxRecDepth 20000 in
theorem sd_X5_partOn_0 {G : pj_E} {A : Nat → Prop} {P : pj_P} {S : pj_U} {Z : pj_Z} (C : pj_C (G, A, (c_X5_partOn, y_X5_partOn.cls, 4, none, 4), P, S, Z)) : ∀ q ∈ tb_X5_partOn_0, pj_S (G, A, (c_X5_partOn, y_X5_partOn.cls, 4, none, 4), P, S, Z) pj_eV q.1 q.2 :=
  List.forall_mem_cons.mpr ⟨qz_iconst C (show decode c_X5_partOn 0 = .ok (.iconst 1, 1) by decide +kernel) (by decide +kernel),
  List.forall_mem_cons.mpr ⟨qz_istore_n C (show decode c_X5_partOn 1 = .ok (.istore_n 2, 1) by decide +kernel) rfl,
  List.forall_mem_cons.mpr ⟨qz_iload_n C (show decode c_X5_partOn 2 = .ok (.iload_n 2, 1) by decide +kernel) rfl,
  List.forall_mem_cons.mpr ⟨qz_bipush C (show decode c_X5_partOn 3 = .ok (.bipush 10, 2) by decide +kernel) (by decide +kernel),
  List.forall_mem_cons.mpr ⟨qz_icgt C (show decode c_X5_partOn 5 = .ok (.if_icmp .gt 65, 3) by decide +kernel) (by decide),
  List.forall_mem_cons.mpr ⟨qz_iconst C (show decode c_X5_partOn 8 = .ok (.iconst 0, 1) by decide +kernel) (by decide +kernel),
  List.forall_mem_cons.mpr ⟨qz_istore_n C (show decode c_X5_partOn 9 = .ok (.istore_n 3, 1) by decide +kernel) rfl,
  List.forall_mem_cons.mpr ⟨qz_iload_n C (show decode c_X5_partOn 10 = .ok (.iload_n 3, 1) by decide +kernel) rfl,
  List.forall_mem_cons.mpr ⟨qz_aload_n C (show decode c_X5_partOn 11 = .ok (.aload_n 0, 1) by decide +kernel) rfl,
  List.forall_mem_cons.mpr ⟨qz_gf (k := 3) C (show decode c_X5_partOn 12 = .ok (.getfield 19, 3) by decide +kernel) vcX5 wiX5 (by decide) cw_205,
  List.forall_mem_cons.mpr ⟨qz_icge C (show decode c_X5_partOn 15 = .ok (.if_icmp .ge 24, 3) by decide +kernel) (by decide),
  List.forall_mem_cons.mpr ⟨qz_aload_n C (show decode c_X5_partOn 18 = .ok (.aload_n 0, 1) by decide +kernel) rfl,
  List.forall_mem_cons.mpr ⟨qz_gf (k := 2) C (show decode c_X5_partOn 19 = .ok (.getfield 15, 3) by decide +kernel) vcX5 wiX5 (by decide) cw_204,
  List.forall_mem_cons.mpr ⟨qz_iload_n C (show decode c_X5_partOn 22 = .ok (.iload_n 3, 1) by decide +kernel) rfl,
  List.forall_mem_cons.mpr ⟨qz_aload_n C (show decode c_X5_partOn 23 = .ok (.aload_n 0, 1) by decide +kernel) rfl,
  List.forall_mem_cons.mpr ⟨qz_aload_n C (show decode c_X5_partOn 24 = .ok (.aload_n 1, 1) by decide +kernel) rfl,
  List.forall_mem_cons.mpr ⟨qz_iload_n C (show decode c_X5_partOn 25 = .ok (.iload_n 2, 1) by decide +kernel) rfl,
  List.forall_mem_cons.mpr ⟨qz_iconst C (show decode c_X5_partOn 26 = .ok (.iconst 1, 1) by decide +kernel) (by decide +kernel),
  List.forall_mem_cons.mpr ⟨qz_isub C (show decode c_X5_partOn 27 = .ok (.isub, 1) by decide +kernel),
  List.forall_mem_cons.mpr ⟨qz_iload_n C (show decode c_X5_partOn 28 = .ok (.iload_n 3, 1) by decide +kernel) rfl,
  List.forall_mem_cons.mpr ⟨qz_vL C (show decode c_X5_partOn 29 = .ok (.invokevirtual 79, 3) by decide +kernel) ct_X5_signsBy mv_X5_signsBy cw_719 vcX5 (show 3 < 4 by omega),
  List.forall_mem_cons.mpr ⟨qz_last C (show decode c_X5_partOn 32 = .ok (.lastore, 1) by decide +kernel),
  List.forall_mem_cons.mpr ⟨qz_iinc C (show decode c_X5_partOn 33 = .ok (.iinc 3 1, 3) by decide +kernel) (by decide +kernel),
  List.forall_mem_cons.mpr ⟨qz_goto C (show decode c_X5_partOn 36 = .ok (.goto (-26), 3) by decide +kernel) (by decide),
  List.forall_mem_cons.mpr ⟨qz_aload_n C (show decode c_X5_partOn 39 = .ok (.aload_n 0, 1) by decide +kernel) rfl,
  List.forall_mem_cons.mpr ⟨qz_iload_n C (show decode c_X5_partOn 40 = .ok (.iload_n 2, 1) by decide +kernel) rfl,
  List.forall_mem_cons.mpr ⟨qz_vI C (show decode c_X5_partOn 41 = .ok (.invokevirtual 46, 3) by decide +kernel) ct_X5_numberBlocks mv_X5_numberBlocks cw_700 vcX5 (show 3 < 4 by omega),
  List.forall_mem_cons.mpr ⟨qz_istore_n C (show decode c_X5_partOn 44 = .ok (.istore_n 3, 1) by decide +kernel) rfl,
  List.forall_mem_cons.mpr ⟨qz_iload_n C (show decode c_X5_partOn 45 = .ok (.iload_n 3, 1) by decide +kernel) rfl,
  List.forall_mem_cons.mpr ⟨qz_aload_n C (show decode c_X5_partOn 46 = .ok (.aload_n 0, 1) by decide +kernel) rfl,
  List.forall_mem_cons.mpr ⟨qz_gf (k := 5) C (show decode c_X5_partOn 47 = .ok (.getfield 26, 3) by decide +kernel) vcX5 wiX5 (by decide) cw_207,
  List.forall_mem_cons.mpr ⟨qz_icne C (show decode c_X5_partOn 50 = .ok (.if_icmp .ne 4, 3) by decide +kernel) (by decide),
  List.forall_mem_cons.mpr ⟨qz_vret C (show decode c_X5_partOn 53 = .ok (.return_, 1) by decide +kernel) rfl,
  List.forall_mem_cons.mpr ⟨qz_aload_n C (show decode c_X5_partOn 54 = .ok (.aload_n 0, 1) by decide +kernel) rfl,
  List.forall_mem_cons.mpr ⟨qz_iload_n C (show decode c_X5_partOn 55 = .ok (.iload_n 3, 1) by decide +kernel) rfl,
  List.forall_mem_cons.mpr ⟨qz_pf (k := 5) C (show decode c_X5_partOn 56 = .ok (.putfield 26, 3) by decide +kernel) vcX5 wiX5 tyX5_ok nmX5 (by decide) cw_207 rfl rfl,
  List.forall_mem_cons.mpr ⟨qz_aload_n C (show decode c_X5_partOn 59 = .ok (.aload_n 0, 1) by decide +kernel) rfl,
  List.forall_mem_cons.mpr ⟨qz_iload_n C (show decode c_X5_partOn 60 = .ok (.iload_n 2, 1) by decide +kernel) rfl,
  List.forall_mem_cons.mpr ⟨qz_pf (k := 4) C (show decode c_X5_partOn 61 = .ok (.putfield 23, 3) by decide +kernel) vcX5 wiX5 tyX5_ok nmX5 (by decide) cw_206 rfl rfl,
  List.forall_mem_cons.mpr ⟨qz_iinc C (show decode c_X5_partOn 64 = .ok (.iinc 2 1, 3) by decide +kernel) (by decide +kernel),
  (fun q h => by cases h)⟩⟩⟩⟩⟩⟩⟩⟩⟩⟩⟩⟩⟩⟩⟩⟩⟩⟩⟩⟩⟩⟩⟩⟩⟩⟩⟩⟩⟩⟩⟩⟩⟩⟩⟩⟩⟩⟩⟩⟩
set_option maxRecDepth 20000 in
theorem sd_X5_partOn_1 {G : pj_E} {A : Nat → Prop} {P : pj_P} {S : pj_U} {Z : pj_Z} (C : pj_C (G, A, (c_X5_partOn, y_X5_partOn.cls, 4, none, 4), P, S, Z)) : ∀ q ∈ tb_X5_partOn_1, pj_S (G, A, (c_X5_partOn, y_X5_partOn.cls, 4, none, 4), P, S, Z) pj_eV q.1 q.2 :=
  List.forall_mem_cons.mpr ⟨qz_goto C (show decode c_X5_partOn 67 = .ok (.goto (-65), 3) by decide +kernel) (by decide),
  List.forall_mem_cons.mpr ⟨qz_vret C (show decode c_X5_partOn 70 = .ok (.return_, 1) by decide +kernel) rfl,
  (fun q h => by cases h)⟩⟩
theorem sd_X5_partOn {G : pj_E} {A : Nat → Prop} {P : pj_P} {S : pj_U} {Z : pj_Z} (C : pj_C (G, A, (c_X5_partOn, y_X5_partOn.cls, 4, none, 4), P, S, Z)) : ∀ q ∈ tb_X5_partOn, pj_S (G, A, (c_X5_partOn, y_X5_partOn.cls, 4, none, 4), P, S, Z) pj_eV q.1 q.2 := List.forall_mem_append.mpr ⟨sd_X5_partOn_0 C, sd_X5_partOn_1 C⟩
noncomputable def C_X5_partOn_39 (f : Nat → Nat → Int32 → pj_M → Option (pj_M)) : pj_N (pj_M) := fun L st m => match L, st with
  | [some (.inr (.inr (t0, w0, a0))), some (.inr (.inr (t1, w1, a1))), some (.inl x2), _], [] => (match Nat.beq t0 0 && (Nat.beq w0 5 && (Nat.beq t1 0 && (Nat.beq w1 7))) with
    | true => f a0 a1 x2 m
    | false => none)
  | _, _ => none
noncomputable def C_X5_partOn_10 (f : Nat → Nat → Int32 → Int32 → pj_M → Option (pj_M)) : pj_N (pj_M) := fun L st m => match L, st with
  | [some (.inr (.inr (t0, w0, a0))), some (.inr (.inr (t1, w1, a1))), some (.inl x2), some (.inl x3)], [] => (match Nat.beq t0 0 && (Nat.beq w0 5 && (Nat.beq t1 0 && (Nat.beq w1 7))) with
    | true => f a0 a1 x2 x3 m
    | false => none)
  | _, _ => none
noncomputable def C_X5_partOn_2 (f : Nat → Nat → Int32 → pj_M → Option (pj_M)) : pj_N (pj_M) := fun L st m => match L, st with
  | [some (.inr (.inr (t0, w0, a0))), some (.inr (.inr (t1, w1, a1))), some (.inl x2), _], [] => (match Nat.beq t0 0 && (Nat.beq w0 5 && (Nat.beq t1 0 && (Nat.beq w1 7))) with
    | true => f a0 a1 x2 m
    | false => none)
  | _, _ => none
set_option maxRecDepth 20000 in
theorem eq_X5_partOn_39 (k2 : Nat → Nat → Int32 → pj_M → Option (pj_M)) (a0 : Nat) (a1 : Nat) (x2 : Int32) (d3 : Option pj_V) (m : pj_M) : pj_run tb_X5_partOn [(2, C_X5_partOn_2 k2)] 44 39 [some (.inr (.inr (0, 5, a0))), some (.inr (.inr (0, 7, a1))), some (.inl x2), d3] [] m = J_X5_partOn_39 k2 a0 a1 x2 m := by rfl
theorem sg_X5_partOn_39 {G : pj_E} {A : Nat → Prop} {P : pj_P} {S : pj_U} {Z : pj_Z} (C : pj_C (G, A, (c_X5_partOn, y_X5_partOn.cls, 4, none, 4), P, S, Z)) {k2 : Nat → Nat → Int32 → pj_M → Option (pj_M)} (hk2 : pj_G (G, A, (c_X5_partOn, y_X5_partOn.cls, 4, none, 4), P, S, Z) pj_eV 2 (C_X5_partOn_2 k2)) : pj_G (G, A, (c_X5_partOn, y_X5_partOn.cls, 4, none, 4), P, S, Z) pj_eV 39 (C_X5_partOn_39 (J_X5_partOn_39 k2)) := by
  intro L st m r h hR
  unfold C_X5_partOn_39 at h
  split at h
  · split at h
    · rename_i hbq
      simp only [Bool.and_eq_true, Nat.beq_eq] at hbq
      obtain ⟨rfl, rfl, rfl, rfl⟩ := hbq
      exact pj_run_ok (sd_X5_partOn C) (List.forall_mem_cons.mpr ⟨hk2, fun q h => by cases h⟩) 44 39 _ _ _ _ ((eq_X5_partOn_39 _ _ _ _ _ _).trans h) hR
    · cases h
  · cases h
set_option maxRecDepth 20000 in
theorem eq_X5_partOn_10 (k2 : Nat → Nat → Int32 → pj_M → Option (pj_M)) (n1 : Nat) (a0 : Nat) (a1 : Nat) (x2 : Int32) (x3 : Int32) (m : pj_M) : pj_run tb_X5_partOn [(10, C_X5_partOn_10 (H_X5_partOn_10 k2 n1)), (39, C_X5_partOn_39 (J_X5_partOn_39 k2))] 44 10 [some (.inr (.inr (0, 5, a0))), some (.inr (.inr (0, 7, a1))), some (.inl x2), some (.inl x3)] [] m = H_X5_partOn_10 k2 (n1 + 1) a0 a1 x2 x3 m := by rfl
theorem sg_X5_partOn_10 {G : pj_E} {A : Nat → Prop} {P : pj_P} {S : pj_U} {Z : pj_Z} (C : pj_C (G, A, (c_X5_partOn, y_X5_partOn.cls, 4, none, 4), P, S, Z)) {k2 : Nat → Nat → Int32 → pj_M → Option (pj_M)} (hk2 : pj_G (G, A, (c_X5_partOn, y_X5_partOn.cls, 4, none, 4), P, S, Z) pj_eV 2 (C_X5_partOn_2 k2)) : ∀ n1, pj_G (G, A, (c_X5_partOn, y_X5_partOn.cls, 4, none, 4), P, S, Z) pj_eV 10 (C_X5_partOn_10 (H_X5_partOn_10 k2 n1)) := by
  intro n1
  induction n1 with
  | zero =>
    intro L st m r h hR
    unfold C_X5_partOn_10 at h
    split at h
    · split at h
      · cases h
      · cases h
    · cases h
  | succ n1 ih1 =>
    intro L st m r h hR
    unfold C_X5_partOn_10 at h
    split at h
    · split at h
      · rename_i hbq
        simp only [Bool.and_eq_true, Nat.beq_eq] at hbq
        obtain ⟨rfl, rfl, rfl, rfl⟩ := hbq
        exact pj_run_ok (sd_X5_partOn C) (List.forall_mem_cons.mpr ⟨ih1, List.forall_mem_cons.mpr ⟨sg_X5_partOn_39 C hk2, fun q h => by cases h⟩⟩) 44 10 _ _ _ _ ((eq_X5_partOn_10 _ _ _ _ _ _ _).trans h) hR
      · cases h
    · cases h
set_option maxRecDepth 20000 in
theorem eq_X5_partOn_2 (n1 : Nat) (a0 : Nat) (a1 : Nat) (x2 : Int32) (d3 : Option pj_V) (m : pj_M) : pj_run tb_X5_partOn [(10, C_X5_partOn_10 (H_X5_partOn_10 (H_X5_partOn_2 n1) pj_z))] 44 2 [some (.inr (.inr (0, 5, a0))), some (.inr (.inr (0, 7, a1))), some (.inl x2), d3] [] m = H_X5_partOn_2 (n1 + 1) a0 a1 x2 m := by rfl
theorem sg_X5_partOn_2 {G : pj_E} {A : Nat → Prop} {P : pj_P} {S : pj_U} {Z : pj_Z} (C : pj_C (G, A, (c_X5_partOn, y_X5_partOn.cls, 4, none, 4), P, S, Z)) : ∀ n1, pj_G (G, A, (c_X5_partOn, y_X5_partOn.cls, 4, none, 4), P, S, Z) pj_eV 2 (C_X5_partOn_2 (H_X5_partOn_2 n1)) := by
  intro n1
  induction n1 with
  | zero =>
    intro L st m r h hR
    unfold C_X5_partOn_2 at h
    split at h
    · split at h
      · cases h
      · cases h
    · cases h
  | succ n1 ih1 =>
    intro L st m r h hR
    unfold C_X5_partOn_2 at h
    split at h
    · split at h
      · rename_i hbq
        simp only [Bool.and_eq_true, Nat.beq_eq] at hbq
        obtain ⟨rfl, rfl, rfl, rfl⟩ := hbq
        exact pj_run_ok (sd_X5_partOn C) (List.forall_mem_cons.mpr ⟨sg_X5_partOn_10 C ih1 pj_z, fun q h => by cases h⟩) 44 2 _ _ _ _ ((eq_X5_partOn_2 _ _ _ _ _ _).trans h) hR
      · cases h
    · cases h
set_option maxRecDepth 20000 in
theorem eq_X5_partOn (a0 : Nat) (a1 : Nat) (m : pj_M) : pj_run tb_X5_partOn [(2, C_X5_partOn_2 (H_X5_partOn_2  pj_z))] 44 0 [some (.inr (.inr (0, 5, a0))), some (.inr (.inr (0, 7, a1))), none, none] [] m = F_X5_partOn a0 a1 m := by rfl
theorem ct_X5_partOn : pj_Ct pj_eV y_X5_partOn c_X5_partOn 4 none 4 W_X5_partOn := by
  refine pj_ct_of (by decide +kernel) ?_ ?_
  · intro as m r h
    unfold W_X5_partOn at h
    split at h
    · simp [pj_l0]
    · cases h
  · intro G A P S Z C as m r h hR
    unfold W_X5_partOn at h
    split at h
    · split at h
      · rename_i hbq
        simp only [Bool.and_eq_true, Nat.beq_eq] at hbq
        obtain ⟨rfl, rfl, rfl, rfl⟩ := hbq
        exact pj_run_ok (sd_X5_partOn C) (List.forall_mem_cons.mpr ⟨sg_X5_partOn_2 C  pj_z, fun q h => by cases h⟩) 44 0 _ _ _ _ ((eq_X5_partOn _ _ _).trans h) hR
      · cases h
    · cases h
/-! AlikeSteps$Parting.follow(LAlikeSteps$Net;LAlikeSteps$Steps;)V -/
abbrev c_X5_follow : ByteArray := prog_7_method_2_code
def y_X5_follow : MethodName := ⟨RX5, "follow", "(LAlikeSteps$Net;LAlikeSteps$Steps;)V"⟩
noncomputable def J_X5_follow_70 (a0 : Nat) (a2 : Nat) (m : pj_M) : Option (pj_M) := ((F_X5_numberBlocks a0 0 m).bind fun q1 => (if ((pj_wr q1.2 a0 5 q1.1).1 a0 0) < 3 then ((F_X5_partOn a0 a2 (pj_wr q1.2 a0 5 q1.1)).bind fun q2 => (some q2)) else (some (pj_wr q1.2 a0 5 q1.1))))
noncomputable def H_X5_follow_41 : Nat → Nat → Nat → Int32 → Int32 → pj_M → Option (pj_M)
  | 0, _, _, _, _, _ => none
  | n1 + 1, a0, a2, x3, x4, m => (if x4 < (m.1 a0 3) then (if x4 < 0 ∨ 10 ≤ x4.toNatClampNeg then none else (H_X5_follow_41 n1 a0 a2 x3 (x4 + 1) (pj_wl m (a0 + 2) x4.toNatClampNeg (((x3 >>> (x4 &&& 31)) &&& 1).toInt64)))) else (J_X5_follow_70 a0 a2 m))
noncomputable def F_X5_follow (a0 : Nat) (a1 : Nat) (a2 : Nat) (m : pj_M) : Option (pj_M) := ((F_X4_version a1 m).bind fun q1 => (if (m.1 a0 6) = q1.1 then (some q1.2) else ((F_X4_version a1 q1.2).bind fun q2 => ((F_X4_states a1 (pj_wr q2.2 a0 6 q2.1)).bind fun q3 => ((F_X4_marked a1 (pj_wr (pj_wr q3.2 a0 3 q3.1) a0 4 0)).bind fun q4 => (H_X5_follow_41 pj_z a0 a2 q4.1 0 q4.2))))))
noncomputable def W_X5_follow : List pj_V → pj_M → Option (pj_M) := fun as m => match as with
  | [.inr (.inr (t0, w0, a0)), .inr (.inr (t1, w1, a1)), .inr (.inr (t2, w2, a2))] => (match Nat.beq t0 0 && (Nat.beq w0 5 && (Nat.beq t1 0 && (Nat.beq w1 4 && (Nat.beq t2 0 && (Nat.beq w2 7))))) with
    | true => F_X5_follow a0 a1 a2 m
    | false => none)
  | _ => none
noncomputable def tb_X5_follow_0 : List (Nat × pj_T (pj_M)) := [(0, qs_lda 0 1), (1, qs_gf 5 6 4), (4, qs_lda 1 5), (5, qs_vI 4 1 W_X4_version 8), (8, qs_icne 12 11), (11, qs_vret), (12, qs_lda 0 13), (13, qs_lda 1 14), (14, qs_vI 4 1 W_X4_version 17), (17, qs_pf 5 6 20), (20, qs_lda 0 21), (21, qs_lda 1 22), (22, qs_vI 4 1 W_X4_states 25), (25, qs_pf 5 3 28), (28, qs_lda 0 29), (29, qs_ci 0 30), (30, qs_pf 5 4 33), (33, qs_lda 1 34), (34, qs_vI 4 1 W_X4_marked 37), (37, qs_sti 3 38), (38, qs_ci 0 39), (39, qs_sti 4 41), (41, qs_ldi 4 43), (43, qs_lda 0 44), (44, qs_gf 5 3 47), (47, qs_icge 70 50), (50, qs_lda 0 51), (51, qs_gf 5 2 54), (54, qs_ldi 4 56), (56, qs_ldi 3 57), (57, qs_ldi 4 59), (59, qs_b2 (fun x y => x >>> (y &&& 31)) 60), (60, qs_ci 1 61), (61, qs_b2 (fun x y => x &&& y) 62), (62, qs_i2l 63), (63, qs_last 64), (64, qs_inc 4 1 67), (67, qs_go 41), (70, qs_lda 0 71), (71, qs_lda 0 72)]
noncomputable def tb_X5_follow_1 : List (Nat × pj_T (pj_M)) := [(72, qs_ci 0 73), (73, qs_vI 5 2 W_X5_numberBlocks 76), (76, qs_pf 5 5 79), (79, qs_lda 0 80), (80, qs_gf 5 0 83), (83, qs_ci 3 84), (84, qs_icge 92 87), (87, qs_lda 0 88), (88, qs_lda 2 89), (89, qs_vV 5 2 W_X5_partOn 92), (92, qs_vret)]
noncomputable def tb_X5_follow : List (Nat × pj_T (pj_M)) := tb_X5_follow_0 ++ (tb_X5_follow_1)
theorem mv_X5_follow : pj_mv y_X5_follow c_X5_follow 5 none 2 := ⟨⟨cw_693, cw_691, cw_692, cw_88⟩, by decide +kernel, by decide⟩
set_option maxRecDepth 20000 in
theorem sd_X5_follow_0 {G : pj_E} {A : Nat → Prop} {P : pj_P} {S : pj_U} {Z : pj_Z} (C : pj_C (G, A, (c_X5_follow, y_X5_follow.cls, 5, none, 5), P, S, Z)) : ∀ q ∈ tb_X5_follow_0, pj_S (G, A, (c_X5_follow, y_X5_follow.cls, 5, none, 5), P, S, Z) pj_eV q.1 q.2 :=
  List.forall_mem_cons.mpr ⟨qz_aload_n C (show decode c_X5_follow 0 = .ok (.aload_n 0, 1) by decide +kernel) rfl,
  List.forall_mem_cons.mpr ⟨qz_gf (k := 6) C (show decode c_X5_follow 1 = .ok (.getfield 29, 3) by decide +kernel) vcX5 wiX5 (by decide) cw_208,
  List.forall_mem_cons.mpr ⟨qz_aload_n C (show decode c_X5_follow 4 = .ok (.aload_n 1, 1) by decide +kernel) rfl,
  List.forall_mem_cons.mpr ⟨qz_vI C (show decode c_X5_follow 5 = .ok (.invokevirtual 35, 3) by decide +kernel) ct_X4_version mv_X4_version cw_694 vcX4 (show 1 < 5 by omega),
  List.forall_mem_cons.mpr ⟨qz_icne C (show decode c_X5_follow 8 = .ok (.if_icmp .ne 4, 3) by decide +kernel) (by decide),
  List.forall_mem_cons.mpr ⟨qz_vret C (show decode c_X5_follow 11 = .ok (.return_, 1) by decide +kernel) rfl,
  List.forall_mem_cons.mpr ⟨qz_aload_n C (show decode c_X5_follow 12 = .ok (.aload_n 0, 1) by decide +kernel) rfl,
  List.forall_mem_cons.mpr ⟨qz_aload_n C (show decode c_X5_follow 13 = .ok (.aload_n 1, 1) by decide +kernel) rfl,
  List.forall_mem_cons.mpr ⟨qz_vI C (show decode c_X5_follow 14 = .ok (.invokevirtual 35, 3) by decide +kernel) ct_X4_version mv_X4_version cw_694 vcX4 (show 1 < 5 by omega),
  List.forall_mem_cons.mpr ⟨qz_pf (k := 6) C (show decode c_X5_follow 17 = .ok (.putfield 29, 3) by decide +kernel) vcX5 wiX5 tyX5_ok nmX5 (by decide) cw_208 rfl rfl,
  List.forall_mem_cons.mpr ⟨qz_aload_n C (show decode c_X5_follow 20 = .ok (.aload_n 0, 1) by decide +kernel) rfl,
  List.forall_mem_cons.mpr ⟨qz_aload_n C (show decode c_X5_follow 21 = .ok (.aload_n 1, 1) by decide +kernel) rfl,
  List.forall_mem_cons.mpr ⟨qz_vI C (show decode c_X5_follow 22 = .ok (.invokevirtual 41, 3) by decide +kernel) ct_X4_states mv_X4_states cw_695 vcX4 (show 1 < 5 by omega),
  List.forall_mem_cons.mpr ⟨qz_pf (k := 3) C (show decode c_X5_follow 25 = .ok (.putfield 19, 3) by decide +kernel) vcX5 wiX5 tyX5_ok nmX5 (by decide) cw_205 rfl rfl,
  List.forall_mem_cons.mpr ⟨qz_aload_n C (show decode c_X5_follow 28 = .ok (.aload_n 0, 1) by decide +kernel) rfl,
  List.forall_mem_cons.mpr ⟨qz_iconst C (show decode c_X5_follow 29 = .ok (.iconst 0, 1) by decide +kernel) (by decide +kernel),
  List.forall_mem_cons.mpr ⟨qz_pf (k := 4) C (show decode c_X5_follow 30 = .ok (.putfield 23, 3) by decide +kernel) vcX5 wiX5 tyX5_ok nmX5 (by decide) cw_206 rfl rfl,
  List.forall_mem_cons.mpr ⟨qz_aload_n C (show decode c_X5_follow 33 = .ok (.aload_n 1, 1) by decide +kernel) rfl,
  List.forall_mem_cons.mpr ⟨qz_vI C (show decode c_X5_follow 34 = .ok (.invokevirtual 43, 3) by decide +kernel) ct_X4_marked mv_X4_marked cw_696 vcX4 (show 1 < 5 by omega),
  List.forall_mem_cons.mpr ⟨qz_istore_n C (show decode c_X5_follow 37 = .ok (.istore_n 3, 1) by decide +kernel) rfl,
  List.forall_mem_cons.mpr ⟨qz_iconst C (show decode c_X5_follow 38 = .ok (.iconst 0, 1) by decide +kernel) (by decide +kernel),
  List.forall_mem_cons.mpr ⟨qz_istore C (show decode c_X5_follow 39 = .ok (.istore 4, 2) by decide +kernel),
  List.forall_mem_cons.mpr ⟨qz_iload C (show decode c_X5_follow 41 = .ok (.iload 4, 2) by decide +kernel),
  List.forall_mem_cons.mpr ⟨qz_aload_n C (show decode c_X5_follow 43 = .ok (.aload_n 0, 1) by decide +kernel) rfl,
  List.forall_mem_cons.mpr ⟨qz_gf (k := 3) C (show decode c_X5_follow 44 = .ok (.getfield 19, 3) by decide +kernel) vcX5 wiX5 (by decide) cw_205,
  List.forall_mem_cons.mpr ⟨qz_icge C (show decode c_X5_follow 47 = .ok (.if_icmp .ge 23, 3) by decide +kernel) (by decide),
  List.forall_mem_cons.mpr ⟨qz_aload_n C (show decode c_X5_follow 50 = .ok (.aload_n 0, 1) by decide +kernel) rfl,
  List.forall_mem_cons.mpr ⟨qz_gf (k := 2) C (show decode c_X5_follow 51 = .ok (.getfield 15, 3) by decide +kernel) vcX5 wiX5 (by decide) cw_204,
  List.forall_mem_cons.mpr ⟨qz_iload C (show decode c_X5_follow 54 = .ok (.iload 4, 2) by decide +kernel),
  List.forall_mem_cons.mpr ⟨qz_iload_n C (show decode c_X5_follow 56 = .ok (.iload_n 3, 1) by decide +kernel) rfl,
  List.forall_mem_cons.mpr ⟨qz_iload C (show decode c_X5_follow 57 = .ok (.iload 4, 2) by decide +kernel),
  List.forall_mem_cons.mpr ⟨qz_ishr C (show decode c_X5_follow 59 = .ok (.ishr, 1) by decide +kernel),
  List.forall_mem_cons.mpr ⟨qz_iconst C (show decode c_X5_follow 60 = .ok (.iconst 1, 1) by decide +kernel) (by decide +kernel),
  List.forall_mem_cons.mpr ⟨qz_iand C (show decode c_X5_follow 61 = .ok (.iand, 1) by decide +kernel),
  List.forall_mem_cons.mpr ⟨qz_i2l C (show decode c_X5_follow 62 = .ok (.i2l, 1) by decide +kernel),
  List.forall_mem_cons.mpr ⟨qz_last C (show decode c_X5_follow 63 = .ok (.lastore, 1) by decide +kernel),
  List.forall_mem_cons.mpr ⟨qz_iinc C (show decode c_X5_follow 64 = .ok (.iinc 4 1, 3) by decide +kernel) (by decide +kernel),
  List.forall_mem_cons.mpr ⟨qz_goto C (show decode c_X5_follow 67 = .ok (.goto (-26), 3) by decide +kernel) (by decide),
  List.forall_mem_cons.mpr ⟨qz_aload_n C (show decode c_X5_follow 70 = .ok (.aload_n 0, 1) by decide +kernel) rfl,
  List.forall_mem_cons.mpr ⟨qz_aload_n C (show decode c_X5_follow 71 = .ok (.aload_n 0, 1) by decide +kernel) rfl,
  (fun q h => by cases h)⟩⟩⟩⟩⟩⟩⟩⟩⟩⟩⟩⟩⟩⟩⟩⟩⟩⟩⟩⟩⟩⟩⟩⟩⟩⟩⟩⟩⟩⟩⟩⟩⟩⟩⟩⟩⟩⟩⟩⟩
set_option maxRecDepth 20000 in
theorem sd_X5_follow_1 {G : pj_E} {A : Nat → Prop} {P : pj_P} {S : pj_U} {Z : pj_Z} (C : pj_C (G, A, (c_X5_follow, y_X5_follow.cls, 5, none, 5), P, S, Z)) : ∀ q ∈ tb_X5_follow_1, pj_S (G, A, (c_X5_follow, y_X5_follow.cls, 5, none, 5), P, S, Z) pj_eV q.1 q.2 :=
  List.forall_mem_cons.mpr ⟨qz_iconst C (show decode c_X5_follow 72 = .ok (.iconst 0, 1) by decide +kernel) (by decide +kernel),
  List.forall_mem_cons.mpr ⟨qz_vI C (show decode c_X5_follow 73 = .ok (.invokevirtual 46, 3) by decide +kernel) ct_X5_numberBlocks mv_X5_numberBlocks cw_700 vcX5 (show 3 < 5 by omega),
  List.forall_mem_cons.mpr ⟨qz_pf (k := 5) C (show decode c_X5_follow 76 = .ok (.putfield 26, 3) by decide +kernel) vcX5 wiX5 tyX5_ok nmX5 (by decide) cw_207 rfl rfl,
  List.forall_mem_cons.mpr ⟨qz_aload_n C (show decode c_X5_follow 79 = .ok (.aload_n 0, 1) by decide +kernel) rfl,
  List.forall_mem_cons.mpr ⟨qz_gf (k := 0) C (show decode c_X5_follow 80 = .ok (.getfield 32, 3) by decide +kernel) vcX5 wiX5 (by decide) cw_202,
  List.forall_mem_cons.mpr ⟨qz_iconst C (show decode c_X5_follow 83 = .ok (.iconst 3, 1) by decide +kernel) (by decide +kernel),
  List.forall_mem_cons.mpr ⟨qz_icge C (show decode c_X5_follow 84 = .ok (.if_icmp .ge 8, 3) by decide +kernel) (by decide),
  List.forall_mem_cons.mpr ⟨qz_aload_n C (show decode c_X5_follow 87 = .ok (.aload_n 0, 1) by decide +kernel) rfl,
  List.forall_mem_cons.mpr ⟨qz_aload_n C (show decode c_X5_follow 88 = .ok (.aload_n 2, 1) by decide +kernel) rfl,
  List.forall_mem_cons.mpr ⟨qz_vV C (show decode c_X5_follow 89 = .ok (.invokevirtual 50, 3) by decide +kernel) ct_X5_partOn mv_X5_partOn cw_715 vcX5 (show 4 < 5 by omega),
  List.forall_mem_cons.mpr ⟨qz_vret C (show decode c_X5_follow 92 = .ok (.return_, 1) by decide +kernel) rfl,
  (fun q h => by cases h)⟩⟩⟩⟩⟩⟩⟩⟩⟩⟩⟩
theorem sd_X5_follow {G : pj_E} {A : Nat → Prop} {P : pj_P} {S : pj_U} {Z : pj_Z} (C : pj_C (G, A, (c_X5_follow, y_X5_follow.cls, 5, none, 5), P, S, Z)) : ∀ q ∈ tb_X5_follow, pj_S (G, A, (c_X5_follow, y_X5_follow.cls, 5, none, 5), P, S, Z) pj_eV q.1 q.2 := List.forall_mem_append.mpr ⟨sd_X5_follow_0 C, sd_X5_follow_1 C⟩
noncomputable def C_X5_follow_70 (f : Nat → Nat → pj_M → Option (pj_M)) : pj_N (pj_M) := fun L st m => match L, st with
  | [some (.inr (.inr (t0, w0, a0))), _, some (.inr (.inr (t2, w2, a2))), _, _], [] => (match Nat.beq t0 0 && (Nat.beq w0 5 && (Nat.beq t2 0 && (Nat.beq w2 7))) with
    | true => f a0 a2 m
    | false => none)
  | _, _ => none
noncomputable def C_X5_follow_41 (f : Nat → Nat → Int32 → Int32 → pj_M → Option (pj_M)) : pj_N (pj_M) := fun L st m => match L, st with
  | [some (.inr (.inr (t0, w0, a0))), _, some (.inr (.inr (t2, w2, a2))), some (.inl x3), some (.inl x4)], [] => (match Nat.beq t0 0 && (Nat.beq w0 5 && (Nat.beq t2 0 && (Nat.beq w2 7))) with
    | true => f a0 a2 x3 x4 m
    | false => none)
  | _, _ => none
set_option maxRecDepth 20000 in
theorem eq_X5_follow_70 (a0 : Nat) (a2 : Nat) (d1 d3 d4 : Option pj_V) (m : pj_M) : pj_run tb_X5_follow [] 53 70 [some (.inr (.inr (0, 5, a0))), d1, some (.inr (.inr (0, 7, a2))), d3, d4] [] m = J_X5_follow_70 a0 a2 m := by rfl
theorem sg_X5_follow_70 {G : pj_E} {A : Nat → Prop} {P : pj_P} {S : pj_U} {Z : pj_Z} (C : pj_C (G, A, (c_X5_follow, y_X5_follow.cls, 5, none, 5), P, S, Z)) : pj_G (G, A, (c_X5_follow, y_X5_follow.cls, 5, none, 5), P, S, Z) pj_eV 70 (C_X5_follow_70 (J_X5_follow_70)) := by
  intro L st m r h hR
  unfold C_X5_follow_70 at h
  split at h
  · split at h
    · rename_i hbq
      simp only [Bool.and_eq_true, Nat.beq_eq] at hbq
      obtain ⟨rfl, rfl, rfl, rfl⟩ := hbq
      exact pj_run_ok (sd_X5_follow C) (fun q h => by cases h) 53 70 _ _ _ _ ((eq_X5_follow_70 _ _ _ _ _ _).trans h) hR
    · cases h
  · cases h
set_option maxRecDepth 20000 in
theorem eq_X5_follow_41 (n1 : Nat) (a0 : Nat) (a2 : Nat) (x3 : Int32) (x4 : Int32) (d1 : Option pj_V) (m : pj_M) : pj_run tb_X5_follow [(41, C_X5_follow_41 (H_X5_follow_41 n1)), (70, C_X5_follow_70 (J_X5_follow_70 ))] 53 41 [some (.inr (.inr (0, 5, a0))), d1, some (.inr (.inr (0, 7, a2))), some (.inl x3), some (.inl x4)] [] m = H_X5_follow_41 (n1 + 1) a0 a2 x3 x4 m := by rfl
theorem sg_X5_follow_41 {G : pj_E} {A : Nat → Prop} {P : pj_P} {S : pj_U} {Z : pj_Z} (C : pj_C (G, A, (c_X5_follow, y_X5_follow.cls, 5, none, 5), P, S, Z)) : ∀ n1, pj_G (G, A, (c_X5_follow, y_X5_follow.cls, 5, none, 5), P, S, Z) pj_eV 41 (C_X5_follow_41 (H_X5_follow_41 n1)) := by
  intro n1
  induction n1 with
  | zero =>
    intro L st m r h hR
    unfold C_X5_follow_41 at h
    split at h
    · split at h
      · cases h
      · cases h
    · cases h
  | succ n1 ih1 =>
    intro L st m r h hR
    unfold C_X5_follow_41 at h
    split at h
    · split at h
      · rename_i hbq
        simp only [Bool.and_eq_true, Nat.beq_eq] at hbq
        obtain ⟨rfl, rfl, rfl, rfl⟩ := hbq
        exact pj_run_ok (sd_X5_follow C) (List.forall_mem_cons.mpr ⟨ih1, List.forall_mem_cons.mpr ⟨sg_X5_follow_70 C , fun q h => by cases h⟩⟩) 53 41 _ _ _ _ ((eq_X5_follow_41 _ _ _ _ _ _ _).trans h) hR
      · cases h
    · cases h
set_option maxRecDepth 20000 in
theorem eq_X5_follow (a0 : Nat) (a1 : Nat) (a2 : Nat) (m : pj_M) : pj_run tb_X5_follow [(41, C_X5_follow_41 (H_X5_follow_41  pj_z))] 53 0 [some (.inr (.inr (0, 5, a0))), some (.inr (.inr (0, 4, a1))), some (.inr (.inr (0, 7, a2))), none, none] [] m = F_X5_follow a0 a1 a2 m := by rfl
theorem ct_X5_follow : pj_Ct pj_eV y_X5_follow c_X5_follow 5 none 5 W_X5_follow := by
  refine pj_ct_of (by decide +kernel) ?_ ?_
  · intro as m r h
    unfold W_X5_follow at h
    split at h
    · simp [pj_l0]
    · cases h
  · intro G A P S Z C as m r h hR
    unfold W_X5_follow at h
    split at h
    · split at h
      · rename_i hbq
        simp only [Bool.and_eq_true, Nat.beq_eq] at hbq
        obtain ⟨rfl, rfl, rfl, rfl, rfl, rfl⟩ := hbq
        exact pj_run_ok (sd_X5_follow C) (List.forall_mem_cons.mpr ⟨sg_X5_follow_41 C  pj_z, fun q h => by cases h⟩) 53 0 _ _ _ _ ((eq_X5_follow _ _ _ _).trans h) hR
      · cases h
    · cases h
/-! AlikeSteps$Alike.parting(LAlikeSteps$Net;I)LAlikeSteps$Parting; -/
abbrev c_X1_parting : ByteArray := prog_3_method_3_code
def y_X1_parting : MethodName := ⟨RX1, "parting", "(LAlikeSteps$Net;I)LAlikeSteps$Parting;"⟩
noncomputable def F_X1_parting (a0 : Nat) (a1 : Nat) (x2 : Int32) (m : pj_M) : Option (Nat × pj_M) := ((F_X7_follow (a0 + 1) a1 m).bind fun q1 => (if x2 < 0 ∨ 4 ≤ x2.toNatClampNeg then none else ((F_X5_follow (((a0 + 4) + 1) + 3 * x2.toNatClampNeg) a1 (a0 + 1) q1).bind fun q2 => (if x2 < 0 ∨ 4 ≤ x2.toNatClampNeg then none else (some ((((a0 + 4) + 1) + 3 * x2.toNatClampNeg), q2))))))
noncomputable def W_X1_parting : List pj_V → pj_M → Option (Nat × pj_M) := fun as m => match as with
  | [.inr (.inr (t0, w0, a0)), .inr (.inr (t1, w1, a1)), .inl x2] => (match Nat.beq t0 0 && (Nat.beq w0 1 && (Nat.beq t1 0 && (Nat.beq w1 4))) with
    | true => F_X1_parting a0 a1 x2 m
    | false => none)
  | _ => none
noncomputable def tb_X1_parting_0 : List (Nat × pj_T (Nat × pj_M)) := [(0, qs_lda 0 1), (1, qs_gf 1 0 4), (4, qs_lda 1 5), (5, qs_vV 7 2 W_X7_follow 8), (8, qs_lda 0 9), (9, qs_gf 1 1 12), (12, qs_ldi 2 13), (13, qs_aald 14), (14, qs_lda 1 15), (15, qs_lda 0 16), (16, qs_gf 1 0 19), (19, qs_vV 5 3 W_X5_follow 22), (22, qs_lda 0 23), (23, qs_gf 1 1 26), (26, qs_ldi 2 27), (27, qs_aald 28), (28, qs_aret 5)]
noncomputable abbrev tb_X1_parting : List (Nat × pj_T (Nat × pj_M)) := tb_X1_parting_0
theorem mv_X1_parting : pj_mv y_X1_parting c_X1_parting 3 (some (.object "AlikeSteps$Parting")) 2 := ⟨⟨cw_689, cw_687, cw_688, cw_86⟩, by decide +kernel, by decide⟩
set_option maxRecDepth 20000 in
theorem sd_X1_parting_0 {G : pj_E} {A : Nat → Prop} {P : pj_P} {S : pj_U} {Z : pj_Z} (C : pj_C (G, A, (c_X1_parting, y_X1_parting.cls, 3, (some (.object "AlikeSteps$Parting")), 6), P, S, Z)) : ∀ q ∈ tb_X1_parting_0, pj_S (G, A, (c_X1_parting, y_X1_parting.cls, 3, (some (.object "AlikeSteps$Parting")), 6), P, S, Z) (pj_eR 5) q.1 q.2 :=
  List.forall_mem_cons.mpr ⟨qz_aload_n C (show decode c_X1_parting 0 = .ok (.aload_n 0, 1) by decide +kernel) rfl,
  List.forall_mem_cons.mpr ⟨qz_gf (k := 0) C (show decode c_X1_parting 1 = .ok (.getfield 10, 3) by decide +kernel) vcX1 wiX1 (by decide) cw_225,
  List.forall_mem_cons.mpr ⟨qz_aload_n C (show decode c_X1_parting 4 = .ok (.aload_n 1, 1) by decide +kernel) rfl,
  List.forall_mem_cons.mpr ⟨qz_vV C (show decode c_X1_parting 5 = .ok (.invokevirtual 25, 3) by decide +kernel) ct_X7_follow mv_X7_follow cw_634 vcX7 (show 4 < 6 by omega),
  List.forall_mem_cons.mpr ⟨qz_aload_n C (show decode c_X1_parting 8 = .ok (.aload_n 0, 1) by decide +kernel) rfl,
  List.forall_mem_cons.mpr ⟨qz_gf (k := 1) C (show decode c_X1_parting 9 = .ok (.getfield 18, 3) by decide +kernel) vcX1 wiX1 (by decide) cw_226,
  List.forall_mem_cons.mpr ⟨qz_iload_n C (show decode c_X1_parting 12 = .ok (.iload_n 2, 1) by decide +kernel) rfl,
  List.forall_mem_cons.mpr ⟨qz_aald C (show decode c_X1_parting 13 = .ok (.aaload, 1) by decide +kernel),
  List.forall_mem_cons.mpr ⟨qz_aload_n C (show decode c_X1_parting 14 = .ok (.aload_n 1, 1) by decide +kernel) rfl,
  List.forall_mem_cons.mpr ⟨qz_aload_n C (show decode c_X1_parting 15 = .ok (.aload_n 0, 1) by decide +kernel) rfl,
  List.forall_mem_cons.mpr ⟨qz_gf (k := 0) C (show decode c_X1_parting 16 = .ok (.getfield 10, 3) by decide +kernel) vcX1 wiX1 (by decide) cw_225,
  List.forall_mem_cons.mpr ⟨qz_vV C (show decode c_X1_parting 19 = .ok (.invokevirtual 29, 3) by decide +kernel) ct_X5_follow mv_X5_follow cw_690 vcX5 (show 5 < 6 by omega),
  List.forall_mem_cons.mpr ⟨qz_aload_n C (show decode c_X1_parting 22 = .ok (.aload_n 0, 1) by decide +kernel) rfl,
  List.forall_mem_cons.mpr ⟨qz_gf (k := 1) C (show decode c_X1_parting 23 = .ok (.getfield 18, 3) by decide +kernel) vcX1 wiX1 (by decide) cw_226,
  List.forall_mem_cons.mpr ⟨qz_iload_n C (show decode c_X1_parting 26 = .ok (.iload_n 2, 1) by decide +kernel) rfl,
  List.forall_mem_cons.mpr ⟨qz_aald C (show decode c_X1_parting 27 = .ok (.aaload, 1) by decide +kernel),
  List.forall_mem_cons.mpr ⟨qz_aret C (show decode c_X1_parting 28 = .ok (.areturn, 1) by decide +kernel) rfl,
  (fun q h => by cases h)⟩⟩⟩⟩⟩⟩⟩⟩⟩⟩⟩⟩⟩⟩⟩⟩⟩
theorem sd_X1_parting {G : pj_E} {A : Nat → Prop} {P : pj_P} {S : pj_U} {Z : pj_Z} (C : pj_C (G, A, (c_X1_parting, y_X1_parting.cls, 3, (some (.object "AlikeSteps$Parting")), 6), P, S, Z)) : ∀ q ∈ tb_X1_parting, pj_S (G, A, (c_X1_parting, y_X1_parting.cls, 3, (some (.object "AlikeSteps$Parting")), 6), P, S, Z) (pj_eR 5) q.1 q.2 := sd_X1_parting_0 C
set_option maxRecDepth 20000 in
theorem eq_X1_parting (a0 : Nat) (a1 : Nat) (x2 : Int32) (m : pj_M) : pj_run tb_X1_parting [] 19 0 [some (.inr (.inr (0, 1, a0))), some (.inr (.inr (0, 4, a1))), some (.inl x2)] [] m = F_X1_parting a0 a1 x2 m := by rfl
theorem ct_X1_parting : pj_Ct (pj_eR 5) y_X1_parting c_X1_parting 3 (some (.object "AlikeSteps$Parting")) 6 W_X1_parting := by
  refine pj_ct_of (by decide +kernel) ?_ ?_
  · intro as m r h
    unfold W_X1_parting at h
    split at h
    · simp [pj_l0]
    · cases h
  · intro G A P S Z C as m r h hR
    unfold W_X1_parting at h
    split at h
    · split at h
      · rename_i hbq
        simp only [Bool.and_eq_true, Nat.beq_eq] at hbq
        obtain ⟨rfl, rfl, rfl, rfl⟩ := hbq
        exact pj_run_ok (sd_X1_parting C) (fun q h => by cases h) 19 0 _ _ _ _ ((eq_X1_parting _ _ _ _).trans h) hR
      · cases h
    · cases h
/-! AlikeSteps$Parting.size()I -/
abbrev c_X5_size : ByteArray := prog_7_method_3_code
def y_X5_size : MethodName := ⟨RX5, "size", "()I"⟩
noncomputable def F_X5_size (a0 : Nat) (m : pj_M) : Option (Int32 × pj_M) := (some (m.1 a0 5, m))
noncomputable def W_X5_size : List pj_V → pj_M → Option (Int32 × pj_M) := fun as m => match as with
  | [.inr (.inr (t0, w0, a0))] => (match Nat.beq t0 0 && (Nat.beq w0 5) with
    | true => F_X5_size a0 m
    | false => none)
  | _ => none
noncomputable def tb_X5_size_0 : List (Nat × pj_T (Int32 × pj_M)) := [(0, qs_lda 0 1), (1, qs_gf 5 5 4), (4, qs_iret)]
noncomputable abbrev tb_X5_size : List (Nat × pj_T (Int32 × pj_M)) := tb_X5_size_0
theorem mv_X5_size : pj_mv y_X5_size c_X5_size 1 (some .int) 0 := ⟨⟨cw_746, cw_744, cw_745, cw_88⟩, by decide +kernel, by decide⟩
set_option maxRecDepth 20000 in
theorem sd_X5_size_0 {G : pj_E} {A : Nat → Prop} {P : pj_P} {S : pj_U} {Z : pj_Z} (C : pj_C (G, A, (c_X5_size, y_X5_size.cls, 1, (some .int), 1), P, S, Z)) : ∀ q ∈ tb_X5_size_0, pj_S (G, A, (c_X5_size, y_X5_size.cls, 1, (some .int), 1), P, S, Z) pj_eI q.1 q.2 :=
  List.forall_mem_cons.mpr ⟨qz_aload_n C (show decode c_X5_size 0 = .ok (.aload_n 0, 1) by decide +kernel) rfl,
  List.forall_mem_cons.mpr ⟨qz_gf (k := 5) C (show decode c_X5_size 1 = .ok (.getfield 26, 3) by decide +kernel) vcX5 wiX5 (by decide) cw_207,
  List.forall_mem_cons.mpr ⟨qz_iret C (show decode c_X5_size 4 = .ok (.ireturn, 1) by decide +kernel) rfl,
  (fun q h => by cases h)⟩⟩⟩
theorem sd_X5_size {G : pj_E} {A : Nat → Prop} {P : pj_P} {S : pj_U} {Z : pj_Z} (C : pj_C (G, A, (c_X5_size, y_X5_size.cls, 1, (some .int), 1), P, S, Z)) : ∀ q ∈ tb_X5_size, pj_S (G, A, (c_X5_size, y_X5_size.cls, 1, (some .int), 1), P, S, Z) pj_eI q.1 q.2 := sd_X5_size_0 C
set_option maxRecDepth 20000 in
theorem eq_X5_size (a0 : Nat) (m : pj_M) : pj_run tb_X5_size [] 5 0 [some (.inr (.inr (0, 5, a0)))] [] m = F_X5_size a0 m := by rfl
theorem ct_X5_size : pj_Ct pj_eI y_X5_size c_X5_size 1 (some .int) 1 W_X5_size := by
  refine pj_ct_of (by decide +kernel) ?_ ?_
  · intro as m r h
    unfold W_X5_size at h
    split at h
    · simp [pj_l0]
    · cases h
  · intro G A P S Z C as m r h hR
    unfold W_X5_size at h
    split at h
    · split at h
      · rename_i hbq
        simp only [Bool.and_eq_true, Nat.beq_eq] at hbq
        obtain ⟨rfl, rfl⟩ := hbq
        exact pj_run_ok (sd_X5_size C) (fun q h => by cases h) 5 0 _ _ _ _ ((eq_X5_size _ _).trans h) hR
      · cases h
    · cases h
/-! AlikeSteps$Parting.rounds()I -/
abbrev c_X5_rounds : ByteArray := prog_7_method_4_code
def y_X5_rounds : MethodName := ⟨RX5, "rounds", "()I"⟩
noncomputable def F_X5_rounds (a0 : Nat) (m : pj_M) : Option (Int32 × pj_M) := (some (m.1 a0 4, m))
noncomputable def W_X5_rounds : List pj_V → pj_M → Option (Int32 × pj_M) := fun as m => match as with
  | [.inr (.inr (t0, w0, a0))] => (match Nat.beq t0 0 && (Nat.beq w0 5) with
    | true => F_X5_rounds a0 m
    | false => none)
  | _ => none
noncomputable def tb_X5_rounds_0 : List (Nat × pj_T (Int32 × pj_M)) := [(0, qs_lda 0 1), (1, qs_gf 5 4 4), (4, qs_iret)]
noncomputable abbrev tb_X5_rounds : List (Nat × pj_T (Int32 × pj_M)) := tb_X5_rounds_0
theorem mv_X5_rounds : pj_mv y_X5_rounds c_X5_rounds 1 (some .int) 0 := ⟨⟨cw_750, cw_748, cw_749, cw_88⟩, by decide +kernel, by decide⟩
set_option maxRecDepth 20000 in
theorem sd_X5_rounds_0 {G : pj_E} {A : Nat → Prop} {P : pj_P} {S : pj_U} {Z : pj_Z} (C : pj_C (G, A, (c_X5_rounds, y_X5_rounds.cls, 1, (some .int), 1), P, S, Z)) : ∀ q ∈ tb_X5_rounds_0, pj_S (G, A, (c_X5_rounds, y_X5_rounds.cls, 1, (some .int), 1), P, S, Z) pj_eI q.1 q.2 :=
  List.forall_mem_cons.mpr ⟨qz_aload_n C (show decode c_X5_rounds 0 = .ok (.aload_n 0, 1) by decide +kernel) rfl,
  List.forall_mem_cons.mpr ⟨qz_gf (k := 4) C (show decode c_X5_rounds 1 = .ok (.getfield 23, 3) by decide +kernel) vcX5 wiX5 (by decide) cw_206,
  List.forall_mem_cons.mpr ⟨qz_iret C (show decode c_X5_rounds 4 = .ok (.ireturn, 1) by decide +kernel) rfl,
  (fun q h => by cases h)⟩⟩⟩
theorem sd_X5_rounds {G : pj_E} {A : Nat → Prop} {P : pj_P} {S : pj_U} {Z : pj_Z} (C : pj_C (G, A, (c_X5_rounds, y_X5_rounds.cls, 1, (some .int), 1), P, S, Z)) : ∀ q ∈ tb_X5_rounds, pj_S (G, A, (c_X5_rounds, y_X5_rounds.cls, 1, (some .int), 1), P, S, Z) pj_eI q.1 q.2 := sd_X5_rounds_0 C
set_option maxRecDepth 20000 in
theorem eq_X5_rounds (a0 : Nat) (m : pj_M) : pj_run tb_X5_rounds [] 5 0 [some (.inr (.inr (0, 5, a0)))] [] m = F_X5_rounds a0 m := by rfl
theorem ct_X5_rounds : pj_Ct pj_eI y_X5_rounds c_X5_rounds 1 (some .int) 1 W_X5_rounds := by
  refine pj_ct_of (by decide +kernel) ?_ ?_
  · intro as m r h
    unfold W_X5_rounds at h
    split at h
    · simp [pj_l0]
    · cases h
  · intro G A P S Z C as m r h hR
    unfold W_X5_rounds at h
    split at h
    · split at h
      · rename_i hbq
        simp only [Bool.and_eq_true, Nat.beq_eq] at hbq
        obtain ⟨rfl, rfl⟩ := hbq
        exact pj_run_ok (sd_X5_rounds C) (fun q h => by cases h) 5 0 _ _ _ _ ((eq_X5_rounds _ _).trans h) hR
      · cases h
    · cases h
/-! AlikeSteps$Parting.lastBlock(I)I -/
abbrev c_X5_lastBlock : ByteArray := prog_7_method_6_code
def y_X5_lastBlock : MethodName := ⟨RX5, "lastBlock", "(I)I"⟩
noncomputable def F_X5_lastBlock (a0 : Nat) (x1 : Int32) (m : pj_M) : Option (Int32 × pj_M) := ((F_X5_blockBehind a0 (m.1 a0 4) x1 m).bind fun q1 => (some (q1.1, q1.2)))
noncomputable def W_X5_lastBlock : List pj_V → pj_M → Option (Int32 × pj_M) := fun as m => match as with
  | [.inr (.inr (t0, w0, a0)), .inl x1] => (match Nat.beq t0 0 && (Nat.beq w0 5) with
    | true => F_X5_lastBlock a0 x1 m
    | false => none)
  | _ => none
noncomputable def tb_X5_lastBlock_0 : List (Nat × pj_T (Int32 × pj_M)) := [(0, qs_lda 0 1), (1, qs_lda 0 2), (2, qs_gf 5 4 5), (5, qs_ldi 1 6), (6, qs_vI 5 3 W_X5_blockBehind 9), (9, qs_iret)]
noncomputable abbrev tb_X5_lastBlock : List (Nat × pj_T (Int32 × pj_M)) := tb_X5_lastBlock_0
theorem mv_X5_lastBlock : pj_mv y_X5_lastBlock c_X5_lastBlock 2 (some .int) 1 := ⟨⟨cw_738, cw_736, cw_737, cw_88⟩, by decide +kernel, by decide⟩
set_option maxRecDepth 20000 in
theorem sd_X5_lastBlock_0 {G : pj_E} {A : Nat → Prop} {P : pj_P} {S : pj_U} {Z : pj_Z} (C : pj_C (G, A, (c_X5_lastBlock, y_X5_lastBlock.cls, 2, (some .int), 2), P, S, Z)) : ∀ q ∈ tb_X5_lastBlock_0, pj_S (G, A, (c_X5_lastBlock, y_X5_lastBlock.cls, 2, (some .int), 2), P, S, Z) pj_eI q.1 q.2 :=
  List.forall_mem_cons.mpr ⟨qz_aload_n C (show decode c_X5_lastBlock 0 = .ok (.aload_n 0, 1) by decide +kernel) rfl,
  List.forall_mem_cons.mpr ⟨qz_aload_n C (show decode c_X5_lastBlock 1 = .ok (.aload_n 0, 1) by decide +kernel) rfl,
  List.forall_mem_cons.mpr ⟨qz_gf (k := 4) C (show decode c_X5_lastBlock 2 = .ok (.getfield 23, 3) by decide +kernel) vcX5 wiX5 (by decide) cw_206,
  List.forall_mem_cons.mpr ⟨qz_iload_n C (show decode c_X5_lastBlock 5 = .ok (.iload_n 1, 1) by decide +kernel) rfl,
  List.forall_mem_cons.mpr ⟨qz_vI C (show decode c_X5_lastBlock 6 = .ok (.invokevirtual 54, 3) by decide +kernel) ct_X5_blockBehind mv_X5_blockBehind cw_708 vcX5 (show 1 < 2 by omega),
  List.forall_mem_cons.mpr ⟨qz_iret C (show decode c_X5_lastBlock 9 = .ok (.ireturn, 1) by decide +kernel) rfl,
  (fun q h => by cases h)⟩⟩⟩⟩⟩⟩
theorem sd_X5_lastBlock {G : pj_E} {A : Nat → Prop} {P : pj_P} {S : pj_U} {Z : pj_Z} (C : pj_C (G, A, (c_X5_lastBlock, y_X5_lastBlock.cls, 2, (some .int), 2), P, S, Z)) : ∀ q ∈ tb_X5_lastBlock, pj_S (G, A, (c_X5_lastBlock, y_X5_lastBlock.cls, 2, (some .int), 2), P, S, Z) pj_eI q.1 q.2 := sd_X5_lastBlock_0 C
set_option maxRecDepth 20000 in
theorem eq_X5_lastBlock (a0 : Nat) (x1 : Int32) (m : pj_M) : pj_run tb_X5_lastBlock [] 8 0 [some (.inr (.inr (0, 5, a0))), some (.inl x1)] [] m = F_X5_lastBlock a0 x1 m := by rfl
theorem ct_X5_lastBlock : pj_Ct pj_eI y_X5_lastBlock c_X5_lastBlock 2 (some .int) 2 W_X5_lastBlock := by
  refine pj_ct_of (by decide +kernel) ?_ ?_
  · intro as m r h
    unfold W_X5_lastBlock at h
    split at h
    · simp [pj_l0]
    · cases h
  · intro G A P S Z C as m r h hR
    unfold W_X5_lastBlock at h
    split at h
    · split at h
      · rename_i hbq
        simp only [Bool.and_eq_true, Nat.beq_eq] at hbq
        obtain ⟨rfl, rfl⟩ := hbq
        exact pj_run_ok (sd_X5_lastBlock C) (fun q h => by cases h) 8 0 _ _ _ _ ((eq_X5_lastBlock _ _ _).trans h) hR
      · cases h
    · cases h
/-! AlikeSteps$Parting.lastSigns(I)J -/
abbrev c_X5_lastSigns : ByteArray := prog_7_method_7_code
def y_X5_lastSigns : MethodName := ⟨RX5, "lastSigns", "(I)J"⟩
noncomputable def F_X5_lastSigns (a0 : Nat) (x1 : Int32) (m : pj_M) : Option (Int64 × pj_M) := (if x1 < 0 ∨ 10 ≤ x1.toNatClampNeg then none else (some (m.2 (a0 + 2) x1.toNatClampNeg, m)))
noncomputable def W_X5_lastSigns : List pj_V → pj_M → Option (Int64 × pj_M) := fun as m => match as with
  | [.inr (.inr (t0, w0, a0)), .inl x1] => (match Nat.beq t0 0 && (Nat.beq w0 5) with
    | true => F_X5_lastSigns a0 x1 m
    | false => none)
  | _ => none
noncomputable def tb_X5_lastSigns_0 : List (Nat × pj_T (Int64 × pj_M)) := [(0, qs_lda 0 1), (1, qs_gf 5 2 4), (4, qs_ldi 1 5), (5, qs_lald 6), (6, qs_lret)]
noncomputable abbrev tb_X5_lastSigns : List (Nat × pj_T (Int64 × pj_M)) := tb_X5_lastSigns_0
theorem mv_X5_lastSigns : pj_mv y_X5_lastSigns c_X5_lastSigns 2 (some .long) 1 := ⟨⟨cw_767, cw_765, cw_766, cw_88⟩, by decide +kernel, by decide⟩
set_option maxRecDepth 20000 in
theorem sd_X5_lastSigns_0 {G : pj_E} {A : Nat → Prop} {P : pj_P} {S : pj_U} {Z : pj_Z} (C : pj_C (G, A, (c_X5_lastSigns, y_X5_lastSigns.cls, 2, (some .long), 1), P, S, Z)) : ∀ q ∈ tb_X5_lastSigns_0, pj_S (G, A, (c_X5_lastSigns, y_X5_lastSigns.cls, 2, (some .long), 1), P, S, Z) pj_eL q.1 q.2 :=
  List.forall_mem_cons.mpr ⟨qz_aload_n C (show decode c_X5_lastSigns 0 = .ok (.aload_n 0, 1) by decide +kernel) rfl,
  List.forall_mem_cons.mpr ⟨qz_gf (k := 2) C (show decode c_X5_lastSigns 1 = .ok (.getfield 15, 3) by decide +kernel) vcX5 wiX5 (by decide) cw_204,
  List.forall_mem_cons.mpr ⟨qz_iload_n C (show decode c_X5_lastSigns 4 = .ok (.iload_n 1, 1) by decide +kernel) rfl,
  List.forall_mem_cons.mpr ⟨qz_lald C (show decode c_X5_lastSigns 5 = .ok (.laload, 1) by decide +kernel),
  List.forall_mem_cons.mpr ⟨qz_lret C (show decode c_X5_lastSigns 6 = .ok (.lreturn, 1) by decide +kernel) rfl,
  (fun q h => by cases h)⟩⟩⟩⟩⟩
theorem sd_X5_lastSigns {G : pj_E} {A : Nat → Prop} {P : pj_P} {S : pj_U} {Z : pj_Z} (C : pj_C (G, A, (c_X5_lastSigns, y_X5_lastSigns.cls, 2, (some .long), 1), P, S, Z)) : ∀ q ∈ tb_X5_lastSigns, pj_S (G, A, (c_X5_lastSigns, y_X5_lastSigns.cls, 2, (some .long), 1), P, S, Z) pj_eL q.1 q.2 := sd_X5_lastSigns_0 C
set_option maxRecDepth 20000 in
theorem eq_X5_lastSigns (a0 : Nat) (x1 : Int32) (m : pj_M) : pj_run tb_X5_lastSigns [] 7 0 [some (.inr (.inr (0, 5, a0))), some (.inl x1)] [] m = F_X5_lastSigns a0 x1 m := by rfl
theorem ct_X5_lastSigns : pj_Ct pj_eL y_X5_lastSigns c_X5_lastSigns 2 (some .long) 1 W_X5_lastSigns := by
  refine pj_ct_of (by decide +kernel) ?_ ?_
  · intro as m r h
    unfold W_X5_lastSigns at h
    split at h
    · simp [pj_l0]
    · cases h
  · intro G A P S Z C as m r h hR
    unfold W_X5_lastSigns at h
    split at h
    · split at h
      · rename_i hbq
        simp only [Bool.and_eq_true, Nat.beq_eq] at hbq
        obtain ⟨rfl, rfl⟩ := hbq
        exact pj_run_ok (sd_X5_lastSigns C) (fun q h => by cases h) 7 0 _ _ _ _ ((eq_X5_lastSigns _ _ _).trans h) hR
      · cases h
    · cases h
/-! AlikeSteps$Parting.roundOf(II)I -/
abbrev c_X5_roundOf : ByteArray := prog_7_method_8_code
def y_X5_roundOf : MethodName := ⟨RX5, "roundOf", "(II)I"⟩
noncomputable def H_X5_roundOf_2 : Nat → Nat → Int32 → Int32 → Int32 → pj_M → Option (Int32 × pj_M)
  | 0, _, _, _, _, _ => none
  | n1 + 1, a0, x1, x2, x3, m => (if (m.1 a0 4) < x3 then (some ((-1000000), m)) else ((F_X5_blockBehind a0 x3 x1 m).bind fun q1 => ((F_X5_blockBehind a0 x3 x2 q1.2).bind fun q2 => (if q1.1 = q2.1 then (H_X5_roundOf_2 n1 a0 x1 x2 (x3 + 1) q2.2) else (some (x3, q2.2))))))
noncomputable def F_X5_roundOf (a0 : Nat) (x1 : Int32) (x2 : Int32) (m : pj_M) : Option (Int32 × pj_M) := (H_X5_roundOf_2 pj_z a0 x1 x2 0 m)
noncomputable def W_X5_roundOf : List pj_V → pj_M → Option (Int32 × pj_M) := fun as m => match as with
  | [.inr (.inr (t0, w0, a0)), .inl x1, .inl x2] => (match Nat.beq t0 0 && (Nat.beq w0 5) with
    | true => F_X5_roundOf a0 x1 x2 m
    | false => none)
  | _ => none
noncomputable def tb_X5_roundOf_0 : List (Nat × pj_T (Int32 × pj_M)) := [(0, qs_ci 0 1), (1, qs_sti 3 2), (2, qs_ldi 3 3), (3, qs_lda 0 4), (4, qs_gf 5 4 7), (7, qs_icgt 33 10), (10, qs_lda 0 11), (11, qs_ldi 3 12), (12, qs_ldi 1 13), (13, qs_vI 5 3 W_X5_blockBehind 16), (16, qs_lda 0 17), (17, qs_ldi 3 18), (18, qs_ldi 2 19), (19, qs_vI 5 3 W_X5_blockBehind 22), (22, qs_iceq 27 25), (25, qs_ldi 3 26), (26, qs_iret), (27, qs_inc 3 1 30), (30, qs_go 2), (33, qs_ci (-1000000) 35), (35, qs_iret)]
noncomputable abbrev tb_X5_roundOf : List (Nat × pj_T (Int32 × pj_M)) := tb_X5_roundOf_0
theorem mv_X5_roundOf : pj_mv y_X5_roundOf c_X5_roundOf 4 (some .int) 2 := ⟨⟨cw_775, cw_773, cw_774, cw_88⟩, by decide +kernel, by decide⟩
set_option maxRecDepth 20000 in
theorem sd_X5_roundOf_0 {G : pj_E} {A : Nat → Prop} {P : pj_P} {S : pj_U} {Z : pj_Z} (C : pj_C (G, A, (c_X5_roundOf, y_X5_roundOf.cls, 4, (some .int), 2), P, S, Z)) : ∀ q ∈ tb_X5_roundOf_0, pj_S (G, A, (c_X5_roundOf, y_X5_roundOf.cls, 4, (some .int), 2), P, S, Z) pj_eI q.1 q.2 :=
  List.forall_mem_cons.mpr ⟨qz_iconst C (show decode c_X5_roundOf 0 = .ok (.iconst 0, 1) by decide +kernel) (by decide +kernel),
  List.forall_mem_cons.mpr ⟨qz_istore_n C (show decode c_X5_roundOf 1 = .ok (.istore_n 3, 1) by decide +kernel) rfl,
  List.forall_mem_cons.mpr ⟨qz_iload_n C (show decode c_X5_roundOf 2 = .ok (.iload_n 3, 1) by decide +kernel) rfl,
  List.forall_mem_cons.mpr ⟨qz_aload_n C (show decode c_X5_roundOf 3 = .ok (.aload_n 0, 1) by decide +kernel) rfl,
  List.forall_mem_cons.mpr ⟨qz_gf (k := 4) C (show decode c_X5_roundOf 4 = .ok (.getfield 23, 3) by decide +kernel) vcX5 wiX5 (by decide) cw_206,
  List.forall_mem_cons.mpr ⟨qz_icgt C (show decode c_X5_roundOf 7 = .ok (.if_icmp .gt 26, 3) by decide +kernel) (by decide),
  List.forall_mem_cons.mpr ⟨qz_aload_n C (show decode c_X5_roundOf 10 = .ok (.aload_n 0, 1) by decide +kernel) rfl,
  List.forall_mem_cons.mpr ⟨qz_iload_n C (show decode c_X5_roundOf 11 = .ok (.iload_n 3, 1) by decide +kernel) rfl,
  List.forall_mem_cons.mpr ⟨qz_iload_n C (show decode c_X5_roundOf 12 = .ok (.iload_n 1, 1) by decide +kernel) rfl,
  List.forall_mem_cons.mpr ⟨qz_vI C (show decode c_X5_roundOf 13 = .ok (.invokevirtual 54, 3) by decide +kernel) ct_X5_blockBehind mv_X5_blockBehind cw_708 vcX5 (show 1 < 2 by omega),
  List.forall_mem_cons.mpr ⟨qz_aload_n C (show decode c_X5_roundOf 16 = .ok (.aload_n 0, 1) by decide +kernel) rfl,
  List.forall_mem_cons.mpr ⟨qz_iload_n C (show decode c_X5_roundOf 17 = .ok (.iload_n 3, 1) by decide +kernel) rfl,
  List.forall_mem_cons.mpr ⟨qz_iload_n C (show decode c_X5_roundOf 18 = .ok (.iload_n 2, 1) by decide +kernel) rfl,
  List.forall_mem_cons.mpr ⟨qz_vI C (show decode c_X5_roundOf 19 = .ok (.invokevirtual 54, 3) by decide +kernel) ct_X5_blockBehind mv_X5_blockBehind cw_708 vcX5 (show 1 < 2 by omega),
  List.forall_mem_cons.mpr ⟨qz_iceq C (show decode c_X5_roundOf 22 = .ok (.if_icmp .eq 5, 3) by decide +kernel) (by decide),
  List.forall_mem_cons.mpr ⟨qz_iload_n C (show decode c_X5_roundOf 25 = .ok (.iload_n 3, 1) by decide +kernel) rfl,
  List.forall_mem_cons.mpr ⟨qz_iret C (show decode c_X5_roundOf 26 = .ok (.ireturn, 1) by decide +kernel) rfl,
  List.forall_mem_cons.mpr ⟨qz_iinc C (show decode c_X5_roundOf 27 = .ok (.iinc 3 1, 3) by decide +kernel) (by decide +kernel),
  List.forall_mem_cons.mpr ⟨qz_goto C (show decode c_X5_roundOf 30 = .ok (.goto (-28), 3) by decide +kernel) (by decide),
  List.forall_mem_cons.mpr ⟨qz_ldc C (show decode c_X5_roundOf 33 = .ok (.ldc 58, 2) by decide +kernel) cw_776,
  List.forall_mem_cons.mpr ⟨qz_iret C (show decode c_X5_roundOf 35 = .ok (.ireturn, 1) by decide +kernel) rfl,
  (fun q h => by cases h)⟩⟩⟩⟩⟩⟩⟩⟩⟩⟩⟩⟩⟩⟩⟩⟩⟩⟩⟩⟩⟩
theorem sd_X5_roundOf {G : pj_E} {A : Nat → Prop} {P : pj_P} {S : pj_U} {Z : pj_Z} (C : pj_C (G, A, (c_X5_roundOf, y_X5_roundOf.cls, 4, (some .int), 2), P, S, Z)) : ∀ q ∈ tb_X5_roundOf, pj_S (G, A, (c_X5_roundOf, y_X5_roundOf.cls, 4, (some .int), 2), P, S, Z) pj_eI q.1 q.2 := sd_X5_roundOf_0 C
noncomputable def C_X5_roundOf_2 (f : Nat → Int32 → Int32 → Int32 → pj_M → Option (Int32 × pj_M)) : pj_N (Int32 × pj_M) := fun L st m => match L, st with
  | [some (.inr (.inr (t0, w0, a0))), some (.inl x1), some (.inl x2), some (.inl x3)], [] => (match Nat.beq t0 0 && (Nat.beq w0 5) with
    | true => f a0 x1 x2 x3 m
    | false => none)
  | _, _ => none
set_option maxRecDepth 20000 in
theorem eq_X5_roundOf_2 (n1 : Nat) (a0 : Nat) (x1 : Int32) (x2 : Int32) (x3 : Int32) (m : pj_M) : pj_run tb_X5_roundOf [(2, C_X5_roundOf_2 (H_X5_roundOf_2 n1))] 23 2 [some (.inr (.inr (0, 5, a0))), some (.inl x1), some (.inl x2), some (.inl x3)] [] m = H_X5_roundOf_2 (n1 + 1) a0 x1 x2 x3 m := by rfl
theorem sg_X5_roundOf_2 {G : pj_E} {A : Nat → Prop} {P : pj_P} {S : pj_U} {Z : pj_Z} (C : pj_C (G, A, (c_X5_roundOf, y_X5_roundOf.cls, 4, (some .int), 2), P, S, Z)) : ∀ n1, pj_G (G, A, (c_X5_roundOf, y_X5_roundOf.cls, 4, (some .int), 2), P, S, Z) pj_eI 2 (C_X5_roundOf_2 (H_X5_roundOf_2 n1)) := by
  intro n1
  induction n1 with
  | zero =>
    intro L st m r h hR
    unfold C_X5_roundOf_2 at h
    split at h
    · split at h
      · cases h
      · cases h
    · cases h
  | succ n1 ih1 =>
    intro L st m r h hR
    unfold C_X5_roundOf_2 at h
    split at h
    · split at h
      · rename_i hbq
        simp only [Bool.and_eq_true, Nat.beq_eq] at hbq
        obtain ⟨rfl, rfl⟩ := hbq
        exact pj_run_ok (sd_X5_roundOf C) (List.forall_mem_cons.mpr ⟨ih1, fun q h => by cases h⟩) 23 2 _ _ _ _ ((eq_X5_roundOf_2 _ _ _ _ _ _).trans h) hR
      · cases h
    · cases h
set_option maxRecDepth 20000 in
theorem eq_X5_roundOf (a0 : Nat) (x1 : Int32) (x2 : Int32) (m : pj_M) : pj_run tb_X5_roundOf [(2, C_X5_roundOf_2 (H_X5_roundOf_2  pj_z))] 23 0 [some (.inr (.inr (0, 5, a0))), some (.inl x1), some (.inl x2), none] [] m = F_X5_roundOf a0 x1 x2 m := by rfl
theorem ct_X5_roundOf : pj_Ct pj_eI y_X5_roundOf c_X5_roundOf 4 (some .int) 2 W_X5_roundOf := by
  refine pj_ct_of (by decide +kernel) ?_ ?_
  · intro as m r h
    unfold W_X5_roundOf at h
    split at h
    · simp [pj_l0]
    · cases h
  · intro G A P S Z C as m r h hR
    unfold W_X5_roundOf at h
    split at h
    · split at h
      · rename_i hbq
        simp only [Bool.and_eq_true, Nat.beq_eq] at hbq
        obtain ⟨rfl, rfl⟩ := hbq
        exact pj_run_ok (sd_X5_roundOf C) (List.forall_mem_cons.mpr ⟨sg_X5_roundOf_2 C  pj_z, fun q h => by cases h⟩) 23 0 _ _ _ _ ((eq_X5_roundOf _ _ _ _).trans h) hR
      · cases h
    · cases h
/-! AlikeSteps$Parting.smallOf(LAlikeSteps$Steps;II)I -/
abbrev c_X5_smallOf : ByteArray := prog_7_method_10_code
def y_X5_smallOf : MethodName := ⟨RX5, "smallOf", "(LAlikeSteps$Steps;II)I"⟩
noncomputable def F_X5_smallOf (a0 : Nat) (a1 : Nat) (x2 : Int32) (x3 : Int32) (m : pj_M) : Option (Int32 × pj_M) := ((F_X5_statesOf a0 (m.1 a0 4) x2 m).bind fun q1 => ((F_X7_goneFrom a1 x3 q1.1 q1.2).bind fun q2 => ((F_X5_blocksOf a0 (q2.2.1 a0 4) q2.1 q2.2).bind fun q3 => (if (0 : Int32) < (q3.2.1 a0 0) then (if x3 = 0 then (some (q3.1 &&& ((1 <<< (x2 &&& 31)) ^^^ (-1)), q3.2)) else (some (q3.1, q3.2))) else (some (q3.1, q3.2))))))
noncomputable def W_X5_smallOf : List pj_V → pj_M → Option (Int32 × pj_M) := fun as m => match as with
  | [.inr (.inr (t0, w0, a0)), .inr (.inr (t1, w1, a1)), .inl x2, .inl x3] => (match Nat.beq t0 0 && (Nat.beq w0 5 && (Nat.beq t1 0 && (Nat.beq w1 7))) with
    | true => F_X5_smallOf a0 a1 x2 x3 m
    | false => none)
  | _ => none
noncomputable def tb_X5_smallOf_0 : List (Nat × pj_T (Int32 × pj_M)) := [(0, qs_lda 1 1), (1, qs_ldi 3 2), (2, qs_lda 0 3), (3, qs_lda 0 4), (4, qs_gf 5 4 7), (7, qs_ldi 2 8), (8, qs_vI 5 3 W_X5_statesOf 11), (11, qs_vI 7 3 W_X7_goneFrom 14), (14, qs_sti 4 16), (16, qs_lda 0 17), (17, qs_lda 0 18), (18, qs_gf 5 4 21), (21, qs_ldi 4 23), (23, qs_vI 5 3 W_X5_blocksOf 26), (26, qs_sti 5 28), (28, qs_lda 0 29), (29, qs_gf 5 0 32), (32, qs_ifle 50 35), (35, qs_ldi 3 36), (36, qs_ifne 50 39), (39, qs_ldi 5 41), (41, qs_ci 1 42), (42, qs_ldi 2 43), (43, qs_b2 (fun x y => x <<< (y &&& 31)) 44), (44, qs_ci (-1) 45), (45, qs_b2 (fun x y => x ^^^ y) 46), (46, qs_b2 (fun x y => x &&& y) 47), (47, qs_go 52), (50, qs_ldi 5 52), (52, qs_iret)]
noncomputable abbrev tb_X5_smallOf : List (Nat × pj_T (Int32 × pj_M)) := tb_X5_smallOf_0
theorem mv_X5_smallOf : pj_mv y_X5_smallOf c_X5_smallOf 6 (some .int) 3 := ⟨⟨cw_888, cw_886, cw_887, cw_88⟩, by decide +kernel, by decide⟩
set_option maxRecDepth 20000 in
theorem sd_X5_smallOf_0 {G : pj_E} {A : Nat → Prop} {P : pj_P} {S : pj_U} {Z : pj_Z} (C : pj_C (G, A, (c_X5_smallOf, y_X5_smallOf.cls, 6, (some .int), 3), P, S, Z)) : ∀ q ∈ tb_X5_smallOf_0, pj_S (G, A, (c_X5_smallOf, y_X5_smallOf.cls, 6, (some .int), 3), P, S, Z) pj_eI q.1 q.2 :=
  List.forall_mem_cons.mpr ⟨qz_aload_n C (show decode c_X5_smallOf 0 = .ok (.aload_n 1, 1) by decide +kernel) rfl,
  List.forall_mem_cons.mpr ⟨qz_iload_n C (show decode c_X5_smallOf 1 = .ok (.iload_n 3, 1) by decide +kernel) rfl,
  List.forall_mem_cons.mpr ⟨qz_aload_n C (show decode c_X5_smallOf 2 = .ok (.aload_n 0, 1) by decide +kernel) rfl,
  List.forall_mem_cons.mpr ⟨qz_aload_n C (show decode c_X5_smallOf 3 = .ok (.aload_n 0, 1) by decide +kernel) rfl,
  List.forall_mem_cons.mpr ⟨qz_gf (k := 4) C (show decode c_X5_smallOf 4 = .ok (.getfield 23, 3) by decide +kernel) vcX5 wiX5 (by decide) cw_206,
  List.forall_mem_cons.mpr ⟨qz_iload_n C (show decode c_X5_smallOf 7 = .ok (.iload_n 2, 1) by decide +kernel) rfl,
  List.forall_mem_cons.mpr ⟨qz_vI C (show decode c_X5_smallOf 8 = .ok (.invokevirtual 59, 3) by decide +kernel) ct_X5_statesOf mv_X5_statesOf cw_723 vcX5 (show 2 < 3 by omega),
  List.forall_mem_cons.mpr ⟨qz_vI C (show decode c_X5_smallOf 11 = .ok (.invokevirtual 62, 3) by decide +kernel) ct_X7_goneFrom mv_X7_goneFrom cw_728 vcX7 (show 2 < 3 by omega),
  List.forall_mem_cons.mpr ⟨qz_istore C (show decode c_X5_smallOf 14 = .ok (.istore 4, 2) by decide +kernel),
  List.forall_mem_cons.mpr ⟨qz_aload_n C (show decode c_X5_smallOf 16 = .ok (.aload_n 0, 1) by decide +kernel) rfl,
  List.forall_mem_cons.mpr ⟨qz_aload_n C (show decode c_X5_smallOf 17 = .ok (.aload_n 0, 1) by decide +kernel) rfl,
  List.forall_mem_cons.mpr ⟨qz_gf (k := 4) C (show decode c_X5_smallOf 18 = .ok (.getfield 23, 3) by decide +kernel) vcX5 wiX5 (by decide) cw_206,
  List.forall_mem_cons.mpr ⟨qz_iload C (show decode c_X5_smallOf 21 = .ok (.iload 4, 2) by decide +kernel),
  List.forall_mem_cons.mpr ⟨qz_vI C (show decode c_X5_smallOf 23 = .ok (.invokevirtual 67, 3) by decide +kernel) ct_X5_blocksOf mv_X5_blocksOf cw_730 vcX5 (show 2 < 3 by omega),
  List.forall_mem_cons.mpr ⟨qz_istore C (show decode c_X5_smallOf 26 = .ok (.istore 5, 2) by decide +kernel),
  List.forall_mem_cons.mpr ⟨qz_aload_n C (show decode c_X5_smallOf 28 = .ok (.aload_n 0, 1) by decide +kernel) rfl,
  List.forall_mem_cons.mpr ⟨qz_gf (k := 0) C (show decode c_X5_smallOf 29 = .ok (.getfield 32, 3) by decide +kernel) vcX5 wiX5 (by decide) cw_202,
  List.forall_mem_cons.mpr ⟨qz_ifle C (show decode c_X5_smallOf 32 = .ok (.ifCond .le 18, 3) by decide +kernel) (by decide),
  List.forall_mem_cons.mpr ⟨qz_iload_n C (show decode c_X5_smallOf 35 = .ok (.iload_n 3, 1) by decide +kernel) rfl,
  List.forall_mem_cons.mpr ⟨qz_ifne C (show decode c_X5_smallOf 36 = .ok (.ifCond .ne 14, 3) by decide +kernel) (by decide),
  List.forall_mem_cons.mpr ⟨qz_iload C (show decode c_X5_smallOf 39 = .ok (.iload 5, 2) by decide +kernel),
  List.forall_mem_cons.mpr ⟨qz_iconst C (show decode c_X5_smallOf 41 = .ok (.iconst 1, 1) by decide +kernel) (by decide +kernel),
  List.forall_mem_cons.mpr ⟨qz_iload_n C (show decode c_X5_smallOf 42 = .ok (.iload_n 2, 1) by decide +kernel) rfl,
  List.forall_mem_cons.mpr ⟨qz_ishl C (show decode c_X5_smallOf 43 = .ok (.ishl, 1) by decide +kernel),
  List.forall_mem_cons.mpr ⟨qz_iconst C (show decode c_X5_smallOf 44 = .ok (.iconst (-1), 1) by decide +kernel) (by decide +kernel),
  List.forall_mem_cons.mpr ⟨qz_ixor C (show decode c_X5_smallOf 45 = .ok (.ixor, 1) by decide +kernel),
  List.forall_mem_cons.mpr ⟨qz_iand C (show decode c_X5_smallOf 46 = .ok (.iand, 1) by decide +kernel),
  List.forall_mem_cons.mpr ⟨qz_goto C (show decode c_X5_smallOf 47 = .ok (.goto 5, 3) by decide +kernel) (by decide),
  List.forall_mem_cons.mpr ⟨qz_iload C (show decode c_X5_smallOf 50 = .ok (.iload 5, 2) by decide +kernel),
  List.forall_mem_cons.mpr ⟨qz_iret C (show decode c_X5_smallOf 52 = .ok (.ireturn, 1) by decide +kernel) rfl,
  (fun q h => by cases h)⟩⟩⟩⟩⟩⟩⟩⟩⟩⟩⟩⟩⟩⟩⟩⟩⟩⟩⟩⟩⟩⟩⟩⟩⟩⟩⟩⟩⟩⟩
theorem sd_X5_smallOf {G : pj_E} {A : Nat → Prop} {P : pj_P} {S : pj_U} {Z : pj_Z} (C : pj_C (G, A, (c_X5_smallOf, y_X5_smallOf.cls, 6, (some .int), 3), P, S, Z)) : ∀ q ∈ tb_X5_smallOf, pj_S (G, A, (c_X5_smallOf, y_X5_smallOf.cls, 6, (some .int), 3), P, S, Z) pj_eI q.1 q.2 := sd_X5_smallOf_0 C
set_option maxRecDepth 20000 in
theorem eq_X5_smallOf (a0 : Nat) (a1 : Nat) (x2 : Int32) (x3 : Int32) (m : pj_M) : pj_run tb_X5_smallOf [] 32 0 [some (.inr (.inr (0, 5, a0))), some (.inr (.inr (0, 7, a1))), some (.inl x2), some (.inl x3), none, none] [] m = F_X5_smallOf a0 a1 x2 x3 m := by rfl
theorem ct_X5_smallOf : pj_Ct pj_eI y_X5_smallOf c_X5_smallOf 6 (some .int) 3 W_X5_smallOf := by
  refine pj_ct_of (by decide +kernel) ?_ ?_
  · intro as m r h
    unfold W_X5_smallOf at h
    split at h
    · simp [pj_l0]
    · cases h
  · intro G A P S Z C as m r h hR
    unfold W_X5_smallOf at h
    split at h
    · split at h
      · rename_i hbq
        simp only [Bool.and_eq_true, Nat.beq_eq] at hbq
        obtain ⟨rfl, rfl, rfl, rfl⟩ := hbq
        exact pj_run_ok (sd_X5_smallOf C) (fun q h => by cases h) 32 0 _ _ _ _ ((eq_X5_smallOf _ _ _ _ _).trans h) hR
      · cases h
    · cases h
/-! AlikeSteps$Parting.smallArcs(LAlikeSteps$Steps;)I -/
abbrev c_X5_smallArcs : ByteArray := prog_7_method_11_code
def y_X5_smallArcs : MethodName := ⟨RX5, "smallArcs", "(LAlikeSteps$Steps;)I"⟩
noncomputable def H_X5_smallArcs_15 (k4 : Nat → Nat → Int32 → Int32 → pj_M → Option (Int32 × pj_M)) : Nat → Nat → Nat → Int32 → Int32 → Int32 → pj_M → Option (Int32 × pj_M)
  | 0, _, _, _, _, _, _ => none
  | n1 + 1, a0, a1, x2, x3, x4, m => (if x4 < 4 then ((F_X5_smallOf a0 a1 x3 x4 m).bind fun q1 => ((F_J6_bitCount_0f7a4 q1.1 q1.2).bind fun q2 => (H_X5_smallArcs_15 k4 n1 a0 a1 (x2 + q2.1) x3 (x4 + 1) q2.2))) else (k4 a0 a1 x2 (x3 + 1) m))
noncomputable def H_X5_smallArcs_4 : Nat → Nat → Nat → Int32 → Int32 → pj_M → Option (Int32 × pj_M)
  | 0, _, _, _, _, _ => none
  | n1 + 1, a0, a1, x2, x3, m => (if x3 < (m.1 a0 5) then (H_X5_smallArcs_15 (H_X5_smallArcs_4 n1) pj_z a0 a1 x2 x3 0 m) else (some (x2, m)))
noncomputable def F_X5_smallArcs (a0 : Nat) (a1 : Nat) (m : pj_M) : Option (Int32 × pj_M) := (H_X5_smallArcs_4 pj_z a0 a1 0 0 m)
noncomputable def W_X5_smallArcs : List pj_V → pj_M → Option (Int32 × pj_M) := fun as m => match as with
  | [.inr (.inr (t0, w0, a0)), .inr (.inr (t1, w1, a1))] => (match Nat.beq t0 0 && (Nat.beq w0 5 && (Nat.beq t1 0 && (Nat.beq w1 7))) with
    | true => F_X5_smallArcs a0 a1 m
    | false => none)
  | _ => none
noncomputable def tb_X5_smallArcs_0 : List (Nat × pj_T (Int32 × pj_M)) := [(0, qs_ci 0 1), (1, qs_sti 2 2), (2, qs_ci 0 3), (3, qs_sti 3 4), (4, qs_ldi 3 5), (5, qs_lda 0 6), (6, qs_gf 5 5 9), (9, qs_icge 47 12), (12, qs_ci 0 13), (13, qs_sti 4 15), (15, qs_ldi 4 17), (17, qs_ci 4 18), (18, qs_icge 41 21), (21, qs_ldi 2 22), (22, qs_lda 0 23), (23, qs_lda 1 24), (24, qs_ldi 3 25), (25, qs_ldi 4 27), (27, qs_vI 5 4 W_X5_smallOf 30), (30, qs_sI 1 W_J6_bitCount_0f7a4 33), (33, qs_b2 (fun x y => x + y) 34), (34, qs_sti 2 35), (35, qs_inc 4 1 38), (38, qs_go 15), (41, qs_inc 3 1 44), (44, qs_go 4), (47, qs_ldi 2 48), (48, qs_iret)]
noncomputable abbrev tb_X5_smallArcs : List (Nat × pj_T (Int32 × pj_M)) := tb_X5_smallArcs_0
theorem mv_X5_smallArcs : pj_mv y_X5_smallArcs c_X5_smallArcs 5 (some .int) 1 := ⟨⟨cw_896, cw_894, cw_895, cw_88⟩, by decide +kernel, by decide⟩
set_option maxRecDepth 20000 in
theorem sd_X5_smallArcs_0 {G : pj_E} {A : Nat → Prop} {P : pj_P} {S : pj_U} {Z : pj_Z} (C : pj_C (G, A, (c_X5_smallArcs, y_X5_smallArcs.cls, 5, (some .int), 4), P, S, Z)) : ∀ q ∈ tb_X5_smallArcs_0, pj_S (G, A, (c_X5_smallArcs, y_X5_smallArcs.cls, 5, (some .int), 4), P, S, Z) pj_eI q.1 q.2 :=
  List.forall_mem_cons.mpr ⟨qz_iconst C (show decode c_X5_smallArcs 0 = .ok (.iconst 0, 1) by decide +kernel) (by decide +kernel),
  List.forall_mem_cons.mpr ⟨qz_istore_n C (show decode c_X5_smallArcs 1 = .ok (.istore_n 2, 1) by decide +kernel) rfl,
  List.forall_mem_cons.mpr ⟨qz_iconst C (show decode c_X5_smallArcs 2 = .ok (.iconst 0, 1) by decide +kernel) (by decide +kernel),
  List.forall_mem_cons.mpr ⟨qz_istore_n C (show decode c_X5_smallArcs 3 = .ok (.istore_n 3, 1) by decide +kernel) rfl,
  List.forall_mem_cons.mpr ⟨qz_iload_n C (show decode c_X5_smallArcs 4 = .ok (.iload_n 3, 1) by decide +kernel) rfl,
  List.forall_mem_cons.mpr ⟨qz_aload_n C (show decode c_X5_smallArcs 5 = .ok (.aload_n 0, 1) by decide +kernel) rfl,
  List.forall_mem_cons.mpr ⟨qz_gf (k := 5) C (show decode c_X5_smallArcs 6 = .ok (.getfield 26, 3) by decide +kernel) vcX5 wiX5 (by decide) cw_207,
  List.forall_mem_cons.mpr ⟨qz_icge C (show decode c_X5_smallArcs 9 = .ok (.if_icmp .ge 38, 3) by decide +kernel) (by decide),
  List.forall_mem_cons.mpr ⟨qz_iconst C (show decode c_X5_smallArcs 12 = .ok (.iconst 0, 1) by decide +kernel) (by decide +kernel),
  List.forall_mem_cons.mpr ⟨qz_istore C (show decode c_X5_smallArcs 13 = .ok (.istore 4, 2) by decide +kernel),
  List.forall_mem_cons.mpr ⟨qz_iload C (show decode c_X5_smallArcs 15 = .ok (.iload 4, 2) by decide +kernel),
  List.forall_mem_cons.mpr ⟨qz_iconst C (show decode c_X5_smallArcs 17 = .ok (.iconst 4, 1) by decide +kernel) (by decide +kernel),
  List.forall_mem_cons.mpr ⟨qz_icge C (show decode c_X5_smallArcs 18 = .ok (.if_icmp .ge 23, 3) by decide +kernel) (by decide),
  List.forall_mem_cons.mpr ⟨qz_iload_n C (show decode c_X5_smallArcs 21 = .ok (.iload_n 2, 1) by decide +kernel) rfl,
  List.forall_mem_cons.mpr ⟨qz_aload_n C (show decode c_X5_smallArcs 22 = .ok (.aload_n 0, 1) by decide +kernel) rfl,
  List.forall_mem_cons.mpr ⟨qz_aload_n C (show decode c_X5_smallArcs 23 = .ok (.aload_n 1, 1) by decide +kernel) rfl,
  List.forall_mem_cons.mpr ⟨qz_iload_n C (show decode c_X5_smallArcs 24 = .ok (.iload_n 3, 1) by decide +kernel) rfl,
  List.forall_mem_cons.mpr ⟨qz_iload C (show decode c_X5_smallArcs 25 = .ok (.iload 4, 2) by decide +kernel),
  List.forall_mem_cons.mpr ⟨qz_vI C (show decode c_X5_smallArcs 27 = .ok (.invokevirtual 70, 3) by decide +kernel) ct_X5_smallOf mv_X5_smallOf cw_897 vcX5 (show 3 < 4 by omega),
  List.forall_mem_cons.mpr ⟨qz_sI C (show decode c_X5_smallArcs 30 = .ok (.invokestatic 74, 3) by decide +kernel) ct_J6_bitCount_0f7a4 mv_J6_bitCount_0f7a4 (Or.inl cw_898) (show 1 < 4 by omega),
  List.forall_mem_cons.mpr ⟨qz_iadd C (show decode c_X5_smallArcs 33 = .ok (.iadd, 1) by decide +kernel),
  List.forall_mem_cons.mpr ⟨qz_istore_n C (show decode c_X5_smallArcs 34 = .ok (.istore_n 2, 1) by decide +kernel) rfl,
  List.forall_mem_cons.mpr ⟨qz_iinc C (show decode c_X5_smallArcs 35 = .ok (.iinc 4 1, 3) by decide +kernel) (by decide +kernel),
  List.forall_mem_cons.mpr ⟨qz_goto C (show decode c_X5_smallArcs 38 = .ok (.goto (-23), 3) by decide +kernel) (by decide),
  List.forall_mem_cons.mpr ⟨qz_iinc C (show decode c_X5_smallArcs 41 = .ok (.iinc 3 1, 3) by decide +kernel) (by decide +kernel),
  List.forall_mem_cons.mpr ⟨qz_goto C (show decode c_X5_smallArcs 44 = .ok (.goto (-40), 3) by decide +kernel) (by decide),
  List.forall_mem_cons.mpr ⟨qz_iload_n C (show decode c_X5_smallArcs 47 = .ok (.iload_n 2, 1) by decide +kernel) rfl,
  List.forall_mem_cons.mpr ⟨qz_iret C (show decode c_X5_smallArcs 48 = .ok (.ireturn, 1) by decide +kernel) rfl,
  (fun q h => by cases h)⟩⟩⟩⟩⟩⟩⟩⟩⟩⟩⟩⟩⟩⟩⟩⟩⟩⟩⟩⟩⟩⟩⟩⟩⟩⟩⟩⟩
theorem sd_X5_smallArcs {G : pj_E} {A : Nat → Prop} {P : pj_P} {S : pj_U} {Z : pj_Z} (C : pj_C (G, A, (c_X5_smallArcs, y_X5_smallArcs.cls, 5, (some .int), 4), P, S, Z)) : ∀ q ∈ tb_X5_smallArcs, pj_S (G, A, (c_X5_smallArcs, y_X5_smallArcs.cls, 5, (some .int), 4), P, S, Z) pj_eI q.1 q.2 := sd_X5_smallArcs_0 C
noncomputable def C_X5_smallArcs_15 (f : Nat → Nat → Int32 → Int32 → Int32 → pj_M → Option (Int32 × pj_M)) : pj_N (Int32 × pj_M) := fun L st m => match L, st with
  | [some (.inr (.inr (t0, w0, a0))), some (.inr (.inr (t1, w1, a1))), some (.inl x2), some (.inl x3), some (.inl x4)], [] => (match Nat.beq t0 0 && (Nat.beq w0 5 && (Nat.beq t1 0 && (Nat.beq w1 7))) with
    | true => f a0 a1 x2 x3 x4 m
    | false => none)
  | _, _ => none
noncomputable def C_X5_smallArcs_4 (f : Nat → Nat → Int32 → Int32 → pj_M → Option (Int32 × pj_M)) : pj_N (Int32 × pj_M) := fun L st m => match L, st with
  | [some (.inr (.inr (t0, w0, a0))), some (.inr (.inr (t1, w1, a1))), some (.inl x2), some (.inl x3), _], [] => (match Nat.beq t0 0 && (Nat.beq w0 5 && (Nat.beq t1 0 && (Nat.beq w1 7))) with
    | true => f a0 a1 x2 x3 m
    | false => none)
  | _, _ => none
set_option maxRecDepth 20000 in
theorem eq_X5_smallArcs_15 (k4 : Nat → Nat → Int32 → Int32 → pj_M → Option (Int32 × pj_M)) (n1 : Nat) (a0 : Nat) (a1 : Nat) (x2 : Int32) (x3 : Int32) (x4 : Int32) (m : pj_M) : pj_run tb_X5_smallArcs [(4, C_X5_smallArcs_4 k4), (15, C_X5_smallArcs_15 (H_X5_smallArcs_15 k4 n1))] 30 15 [some (.inr (.inr (0, 5, a0))), some (.inr (.inr (0, 7, a1))), some (.inl x2), some (.inl x3), some (.inl x4)] [] m = H_X5_smallArcs_15 k4 (n1 + 1) a0 a1 x2 x3 x4 m := by rfl
theorem sg_X5_smallArcs_15 {G : pj_E} {A : Nat → Prop} {P : pj_P} {S : pj_U} {Z : pj_Z} (C : pj_C (G, A, (c_X5_smallArcs, y_X5_smallArcs.cls, 5, (some .int), 4), P, S, Z)) {k4 : Nat → Nat → Int32 → Int32 → pj_M → Option (Int32 × pj_M)} (hk4 : pj_G (G, A, (c_X5_smallArcs, y_X5_smallArcs.cls, 5, (some .int), 4), P, S, Z) pj_eI 4 (C_X5_smallArcs_4 k4)) : ∀ n1, pj_G (G, A, (c_X5_smallArcs, y_X5_smallArcs.cls, 5, (some .int), 4), P, S, Z) pj_eI 15 (C_X5_smallArcs_15 (H_X5_smallArcs_15 k4 n1)) := by
  intro n1
  induction n1 with
  | zero =>
    intro L st m r h hR
    unfold C_X5_smallArcs_15 at h
    split at h
    · split at h
      · cases h
      · cases h
    · cases h
  | succ n1 ih1 =>
    intro L st m r h hR
    unfold C_X5_smallArcs_15 at h
    split at h
    · split at h
      · rename_i hbq
        simp only [Bool.and_eq_true, Nat.beq_eq] at hbq
        obtain ⟨rfl, rfl, rfl, rfl⟩ := hbq
        exact pj_run_ok (sd_X5_smallArcs C) (List.forall_mem_cons.mpr ⟨hk4, List.forall_mem_cons.mpr ⟨ih1, fun q h => by cases h⟩⟩) 30 15 _ _ _ _ ((eq_X5_smallArcs_15 _ _ _ _ _ _ _ _).trans h) hR
      · cases h
    · cases h
set_option maxRecDepth 20000 in
theorem eq_X5_smallArcs_4 (n1 : Nat) (a0 : Nat) (a1 : Nat) (x2 : Int32) (x3 : Int32) (d4 : Option pj_V) (m : pj_M) : pj_run tb_X5_smallArcs [(15, C_X5_smallArcs_15 (H_X5_smallArcs_15 (H_X5_smallArcs_4 n1) pj_z))] 30 4 [some (.inr (.inr (0, 5, a0))), some (.inr (.inr (0, 7, a1))), some (.inl x2), some (.inl x3), d4] [] m = H_X5_smallArcs_4 (n1 + 1) a0 a1 x2 x3 m := by rfl
theorem sg_X5_smallArcs_4 {G : pj_E} {A : Nat → Prop} {P : pj_P} {S : pj_U} {Z : pj_Z} (C : pj_C (G, A, (c_X5_smallArcs, y_X5_smallArcs.cls, 5, (some .int), 4), P, S, Z)) : ∀ n1, pj_G (G, A, (c_X5_smallArcs, y_X5_smallArcs.cls, 5, (some .int), 4), P, S, Z) pj_eI 4 (C_X5_smallArcs_4 (H_X5_smallArcs_4 n1)) := by
  intro n1
  induction n1 with
  | zero =>
    intro L st m r h hR
    unfold C_X5_smallArcs_4 at h
    split at h
    · split at h
      · cases h
      · cases h
    · cases h
  | succ n1 ih1 =>
    intro L st m r h hR
    unfold C_X5_smallArcs_4 at h
    split at h
    · split at h
      · rename_i hbq
        simp only [Bool.and_eq_true, Nat.beq_eq] at hbq
        obtain ⟨rfl, rfl, rfl, rfl⟩ := hbq
        exact pj_run_ok (sd_X5_smallArcs C) (List.forall_mem_cons.mpr ⟨sg_X5_smallArcs_15 C ih1 pj_z, fun q h => by cases h⟩) 30 4 _ _ _ _ ((eq_X5_smallArcs_4 _ _ _ _ _ _ _).trans h) hR
      · cases h
    · cases h
set_option maxRecDepth 20000 in
theorem eq_X5_smallArcs (a0 : Nat) (a1 : Nat) (m : pj_M) : pj_run tb_X5_smallArcs [(4, C_X5_smallArcs_4 (H_X5_smallArcs_4  pj_z))] 30 0 [some (.inr (.inr (0, 5, a0))), some (.inr (.inr (0, 7, a1))), none, none, none] [] m = F_X5_smallArcs a0 a1 m := by rfl
theorem ct_X5_smallArcs : pj_Ct pj_eI y_X5_smallArcs c_X5_smallArcs 5 (some .int) 4 W_X5_smallArcs := by
  refine pj_ct_of (by decide +kernel) ?_ ?_
  · intro as m r h
    unfold W_X5_smallArcs at h
    split at h
    · simp [pj_l0]
    · cases h
  · intro G A P S Z C as m r h hR
    unfold W_X5_smallArcs at h
    split at h
    · split at h
      · rename_i hbq
        simp only [Bool.and_eq_true, Nat.beq_eq] at hbq
        obtain ⟨rfl, rfl, rfl, rfl⟩ := hbq
        exact pj_run_ok (sd_X5_smallArcs C) (List.forall_mem_cons.mpr ⟨sg_X5_smallArcs_4 C  pj_z, fun q h => by cases h⟩) 30 0 _ _ _ _ ((eq_X5_smallArcs _ _ _).trans h) hR
      · cases h
    · cases h
