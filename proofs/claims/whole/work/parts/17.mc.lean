/-! AlikeStepsModel.sums(III)V -/
abbrev c_X11_sums : ByteArray := prog_13_method_64_code
def y_X11_sums : MethodName := ⟨RX11, "sums", "(III)V"⟩
noncomputable def J_X11_sums_128 (x4 : Int32) (x6 : Int32) (x7 : Int32) (m : pj_M) : Option (pj_M) := (if x4 < 0 ∨ 100 ≤ x4.toNatClampNeg then none else (if x4 < 0 ∨ 100 ≤ x4.toNatClampNeg then none else (some (pj_wr (pj_wr m 88 x4.toNatClampNeg x6) 89 x4.toNatClampNeg (x7 + 1)))))
noncomputable def J_X11_sums_94 (k32 : Int32 → Int32 → Int32 → Int32 → Int32 → pj_M → Option (pj_M)) (x4 : Int32) (x5 : Int32) (x7 : Int32) (x8 : Int32) (x9 : Int32) (s0 : Int32) (m : pj_M) : Option (pj_M) := (if x9 < 0 ∨ 100 ≤ x9.toNatClampNeg then none else (if x7 < (m.1 89 x9.toNatClampNeg) then (if x9 < 0 ∨ 100 ≤ x9.toNatClampNeg then none else (k32 x4 x5 s0 (m.1 89 x9.toNatClampNeg) (x8 + 1) m)) else (k32 x4 x5 s0 x7 (x8 + 1) m)))
noncomputable def H_X11_sums_32 : Nat → Int32 → Int32 → Int32 → Int32 → Int32 → pj_M → Option (pj_M)
  | 0, _, _, _, _, _, _ => none
  | n1 + 1, x4, x5, x6, x7, x8, m => ((F_X11_states m).bind fun q1 => (if x8 < q1.1 then ((F_X11_has x5 x8 q1.2).bind fun q2 => (if q2.1 = 0 then (H_X11_sums_32 n1 x4 x5 x6 x7 (x8 + 1) q2.2) else (if x4 < 0 ∨ 100 ≤ x4.toNatClampNeg then none else (if ((10 * (q2.2.1 91 x4.toNatClampNeg)) + x8) < 0 ∨ 100 ≤ ((10 * (q2.2.1 91 x4.toNatClampNeg)) + x8).toNatClampNeg then none else (if (9999 : Int32) < (x6 + (q2.2.1 88 ((10 * (q2.2.1 91 x4.toNatClampNeg)) + x8).toNatClampNeg)) then (J_X11_sums_94 (H_X11_sums_32 n1) x4 x5 x7 x8 ((10 * (q2.2.1 91 x4.toNatClampNeg)) + x8) 10000 q2.2) else (J_X11_sums_94 (H_X11_sums_32 n1) x4 x5 x7 x8 ((10 * (q2.2.1 91 x4.toNatClampNeg)) + x8) (x6 + (q2.2.1 88 ((10 * (q2.2.1 91 x4.toNatClampNeg)) + x8).toNatClampNeg)) q2.2)))))) else (J_X11_sums_128 x4 x6 x7 q1.2)))
noncomputable def F_X11_sums (x1 : Int32) (x2 : Int32) (x3 : Int32) (m : pj_M) : Option (pj_M) := (if ((10 * x2) + x3) < 0 ∨ 100 ≤ ((10 * x2) + x3).toNatClampNeg then none else ((F_X11_moving x1 x3 (m.1 90 ((10 * x2) + x3).toNatClampNeg) m).bind fun q1 => (H_X11_sums_32 pj_z ((10 * x2) + x3) q1.1 2 0 0 q1.2)))
noncomputable def W_X11_sums : List pj_V → pj_M → Option (pj_M) := fun as m => match as with
  | [.inr (.inr (t0, w0, a0)), .inl x1, .inl x2, .inl x3] => (match Nat.beq t0 0 && (Nat.beq w0 11 && (Nat.beq a0 72)) with
    | true => F_X11_sums x1 x2 x3 m
    | false => none)
  | _ => none
noncomputable def tb_X11_sums_0 : List (Nat × pj_T (pj_M)) := [(0, qs_ci 10 2), (2, qs_ldi 2 3), (3, qs_b2 (fun x y => x * y) 4), (4, qs_ldi 3 5), (5, qs_b2 (fun x y => x + y) 6), (6, qs_sti 4 8), (8, qs_lda 0 9), (9, qs_ldi 1 10), (10, qs_ldi 3 11), (11, qs_lda 0 12), (12, qs_gf 11 27 15), (15, qs_ldi 4 17), (17, qs_iald 18), (18, qs_vI 11 4 W_X11_moving 21), (21, qs_sti 5 23), (23, qs_ci 2 24), (24, qs_sti 6 26), (26, qs_ci 0 27), (27, qs_sti 7 29), (29, qs_ci 0 30), (30, qs_sti 8 32), (32, qs_ldi 8 34), (34, qs_lda 0 35), (35, qs_vI 11 1 W_X11_states 38), (38, qs_icge 128 41), (41, qs_ldi 5 43), (43, qs_ldi 8 45), (45, qs_sI 2 W_X11_has 48), (48, qs_ifeq 122 51), (51, qs_ci 10 53), (53, qs_lda 0 54), (54, qs_gf 11 28 57), (57, qs_ldi 4 59), (59, qs_iald 60), (60, qs_b2 (fun x y => x * y) 61), (61, qs_ldi 8 63), (63, qs_b2 (fun x y => x + y) 64), (64, qs_sti 9 66), (66, qs_ldi 6 68), (68, qs_lda 0 69)]
noncomputable def tb_X11_sums_1 : List (Nat × pj_T (pj_M)) := [(69, qs_gf 11 25 72), (72, qs_ldi 9 74), (74, qs_iald 75), (75, qs_b2 (fun x y => x + y) 76), (76, qs_sti 6 78), (78, qs_ldi 6 80), (80, qs_ci 9999 83), (83, qs_icle 92 86), (86, qs_ci 10000 89), (89, qs_go 94), (92, qs_ldi 6 94), (94, qs_sti 6 96), (96, qs_lda 0 97), (97, qs_gf 11 26 100), (100, qs_ldi 9 102), (102, qs_iald 103), (103, qs_ldi 7 105), (105, qs_icle 118 108), (108, qs_lda 0 109), (109, qs_gf 11 26 112), (112, qs_ldi 9 114), (114, qs_iald 115), (115, qs_go 120), (118, qs_ldi 7 120), (120, qs_sti 7 122), (122, qs_inc 8 1 125), (125, qs_go 32), (128, qs_lda 0 129), (129, qs_gf 11 25 132), (132, qs_ldi 4 134), (134, qs_ldi 6 136), (136, qs_iast 137), (137, qs_lda 0 138), (138, qs_gf 11 26 141), (141, qs_ldi 4 143), (143, qs_ldi 7 145), (145, qs_ci 1 146), (146, qs_b2 (fun x y => x + y) 147), (147, qs_iast 148), (148, qs_vret)]
noncomputable def tb_X11_sums : List (Nat × pj_T (pj_M)) := tb_X11_sums_0 ++ (tb_X11_sums_1)
theorem mv_X11_sums : pj_mv y_X11_sums c_X11_sums 10 none 3 := ⟨⟨cw_1373, cw_1372, cw_67, cw_92⟩, by decide +kernel, by decide⟩
set_option maxRecDepth 20000 in
theorem sd_X11_sums_0 {G : pj_E} {A : Nat → Prop} {P : pj_P} {S : pj_U} {Z : pj_Z} (C : pj_C (G, A, (c_X11_sums, y_X11_sums.cls, 10, none, 4), P, S, Z)) : ∀ q ∈ tb_X11_sums_0, pj_S (G, A, (c_X11_sums, y_X11_sums.cls, 10, none, 4), P, S, Z) pj_eV q.1 q.2 :=
  List.forall_mem_cons.mpr ⟨qz_bipush C (show decode c_X11_sums 0 = .ok (.bipush 10, 2) by decide +kernel) (by decide +kernel),
  List.forall_mem_cons.mpr ⟨qz_iload_n C (show decode c_X11_sums 2 = .ok (.iload_n 2, 1) by decide +kernel) rfl,
  List.forall_mem_cons.mpr ⟨qz_imul C (show decode c_X11_sums 3 = .ok (.imul, 1) by decide +kernel),
  List.forall_mem_cons.mpr ⟨qz_iload_n C (show decode c_X11_sums 4 = .ok (.iload_n 3, 1) by decide +kernel) rfl,
  List.forall_mem_cons.mpr ⟨qz_iadd C (show decode c_X11_sums 5 = .ok (.iadd, 1) by decide +kernel),
  List.forall_mem_cons.mpr ⟨qz_istore C (show decode c_X11_sums 6 = .ok (.istore 4, 2) by decide +kernel),
  List.forall_mem_cons.mpr ⟨qz_aload_n C (show decode c_X11_sums 8 = .ok (.aload_n 0, 1) by decide +kernel) rfl,
  List.forall_mem_cons.mpr ⟨qz_iload_n C (show decode c_X11_sums 9 = .ok (.iload_n 1, 1) by decide +kernel) rfl,
  List.forall_mem_cons.mpr ⟨qz_iload_n C (show decode c_X11_sums 10 = .ok (.iload_n 3, 1) by decide +kernel) rfl,
  List.forall_mem_cons.mpr ⟨qz_aload_n C (show decode c_X11_sums 11 = .ok (.aload_n 0, 1) by decide +kernel) rfl,
  List.forall_mem_cons.mpr ⟨qz_gf (k := 27) C (show decode c_X11_sums 12 = .ok (.getfield 63, 3) by decide +kernel) vcX11 wiX11 (by decide) cw_1045,
  List.forall_mem_cons.mpr ⟨qz_iload C (show decode c_X11_sums 15 = .ok (.iload 4, 2) by decide +kernel),
  List.forall_mem_cons.mpr ⟨qz_iald C (show decode c_X11_sums 17 = .ok (.iaload, 1) by decide +kernel),
  List.forall_mem_cons.mpr ⟨qz_vI C (show decode c_X11_sums 18 = .ok (.invokevirtual 200, 3) by decide +kernel) ct_X11_moving mv_X11_moving cw_1284 vcX11 (show 3 < 4 by omega),
  List.forall_mem_cons.mpr ⟨qz_istore C (show decode c_X11_sums 21 = .ok (.istore 5, 2) by decide +kernel),
  List.forall_mem_cons.mpr ⟨qz_iconst C (show decode c_X11_sums 23 = .ok (.iconst 2, 1) by decide +kernel) (by decide +kernel),
  List.forall_mem_cons.mpr ⟨qz_istore C (show decode c_X11_sums 24 = .ok (.istore 6, 2) by decide +kernel),
  List.forall_mem_cons.mpr ⟨qz_iconst C (show decode c_X11_sums 26 = .ok (.iconst 0, 1) by decide +kernel) (by decide +kernel),
  List.forall_mem_cons.mpr ⟨qz_istore C (show decode c_X11_sums 27 = .ok (.istore 7, 2) by decide +kernel),
  List.forall_mem_cons.mpr ⟨qz_iconst C (show decode c_X11_sums 29 = .ok (.iconst 0, 1) by decide +kernel) (by decide +kernel),
  List.forall_mem_cons.mpr ⟨qz_istore C (show decode c_X11_sums 30 = .ok (.istore 8, 2) by decide +kernel),
  List.forall_mem_cons.mpr ⟨qz_iload C (show decode c_X11_sums 32 = .ok (.iload 8, 2) by decide +kernel),
  List.forall_mem_cons.mpr ⟨qz_aload_n C (show decode c_X11_sums 34 = .ok (.aload_n 0, 1) by decide +kernel) rfl,
  List.forall_mem_cons.mpr ⟨qz_vI C (show decode c_X11_sums 35 = .ok (.invokevirtual 177, 3) by decide +kernel) ct_X11_states mv_X11_states cw_1269 vcX11 (show 1 < 4 by omega),
  List.forall_mem_cons.mpr ⟨qz_icge C (show decode c_X11_sums 38 = .ok (.if_icmp .ge 90, 3) by decide +kernel) (by decide),
  List.forall_mem_cons.mpr ⟨qz_iload C (show decode c_X11_sums 41 = .ok (.iload 5, 2) by decide +kernel),
  List.forall_mem_cons.mpr ⟨qz_iload C (show decode c_X11_sums 43 = .ok (.iload 8, 2) by decide +kernel),
  List.forall_mem_cons.mpr ⟨qz_sI C (show decode c_X11_sums 45 = .ok (.invokestatic 187, 3) by decide +kernel) ct_X11_has mv_X11_has (Or.inl cw_1281) (show 1 < 4 by omega),
  List.forall_mem_cons.mpr ⟨qz_ifeq C (show decode c_X11_sums 48 = .ok (.ifCond .eq 74, 3) by decide +kernel) (by decide),
  List.forall_mem_cons.mpr ⟨qz_bipush C (show decode c_X11_sums 51 = .ok (.bipush 10, 2) by decide +kernel) (by decide +kernel),
  List.forall_mem_cons.mpr ⟨qz_aload_n C (show decode c_X11_sums 53 = .ok (.aload_n 0, 1) by decide +kernel) rfl,
  List.forall_mem_cons.mpr ⟨qz_gf (k := 28) C (show decode c_X11_sums 54 = .ok (.getfield 66, 3) by decide +kernel) vcX11 wiX11 (by decide) cw_1046,
  List.forall_mem_cons.mpr ⟨qz_iload C (show decode c_X11_sums 57 = .ok (.iload 4, 2) by decide +kernel),
  List.forall_mem_cons.mpr ⟨qz_iald C (show decode c_X11_sums 59 = .ok (.iaload, 1) by decide +kernel),
  List.forall_mem_cons.mpr ⟨qz_imul C (show decode c_X11_sums 60 = .ok (.imul, 1) by decide +kernel),
  List.forall_mem_cons.mpr ⟨qz_iload C (show decode c_X11_sums 61 = .ok (.iload 8, 2) by decide +kernel),
  List.forall_mem_cons.mpr ⟨qz_iadd C (show decode c_X11_sums 63 = .ok (.iadd, 1) by decide +kernel),
  List.forall_mem_cons.mpr ⟨qz_istore C (show decode c_X11_sums 64 = .ok (.istore 9, 2) by decide +kernel),
  List.forall_mem_cons.mpr ⟨qz_iload C (show decode c_X11_sums 66 = .ok (.iload 6, 2) by decide +kernel),
  List.forall_mem_cons.mpr ⟨qz_aload_n C (show decode c_X11_sums 68 = .ok (.aload_n 0, 1) by decide +kernel) rfl,
  (fun q h => by cases h)⟩⟩⟩⟩⟩⟩⟩⟩⟩⟩⟩⟩⟩⟩⟩⟩⟩⟩⟩⟩⟩⟩⟩⟩⟩⟩⟩⟩⟩⟩⟩⟩⟩⟩⟩⟩⟩⟩⟩⟩
set_option maxRecDepth 20000 in
theorem sd_X11_sums_1 {G : pj_E} {A : Nat → Prop} {P : pj_P} {S : pj_U} {Z : pj_Z} (C : pj_C (G, A, (c_X11_sums, y_X11_sums.cls, 10, none, 4), P, S, Z)) : ∀ q ∈ tb_X11_sums_1, pj_S (G, A, (c_X11_sums, y_X11_sums.cls, 10, none, 4), P, S, Z) pj_eV q.1 q.2 :=
  List.forall_mem_cons.mpr ⟨qz_gf (k := 25) C (show decode c_X11_sums 69 = .ok (.getfield 57, 3) by decide +kernel) vcX11 wiX11 (by decide) cw_1043,
  List.forall_mem_cons.mpr ⟨qz_iload C (show decode c_X11_sums 72 = .ok (.iload 9, 2) by decide +kernel),
  List.forall_mem_cons.mpr ⟨qz_iald C (show decode c_X11_sums 74 = .ok (.iaload, 1) by decide +kernel),
  List.forall_mem_cons.mpr ⟨qz_iadd C (show decode c_X11_sums 75 = .ok (.iadd, 1) by decide +kernel),
  List.forall_mem_cons.mpr ⟨qz_istore C (show decode c_X11_sums 76 = .ok (.istore 6, 2) by decide +kernel),
  List.forall_mem_cons.mpr ⟨qz_iload C (show decode c_X11_sums 78 = .ok (.iload 6, 2) by decide +kernel),
  List.forall_mem_cons.mpr ⟨qz_sipush C (show decode c_X11_sums 80 = .ok (.sipush 9999, 3) by decide +kernel) (by decide +kernel),
  List.forall_mem_cons.mpr ⟨qz_icle C (show decode c_X11_sums 83 = .ok (.if_icmp .le 9, 3) by decide +kernel) (by decide),
  List.forall_mem_cons.mpr ⟨qz_sipush C (show decode c_X11_sums 86 = .ok (.sipush 10000, 3) by decide +kernel) (by decide +kernel),
  List.forall_mem_cons.mpr ⟨qz_goto C (show decode c_X11_sums 89 = .ok (.goto 5, 3) by decide +kernel) (by decide),
  List.forall_mem_cons.mpr ⟨qz_iload C (show decode c_X11_sums 92 = .ok (.iload 6, 2) by decide +kernel),
  List.forall_mem_cons.mpr ⟨qz_istore C (show decode c_X11_sums 94 = .ok (.istore 6, 2) by decide +kernel),
  List.forall_mem_cons.mpr ⟨qz_aload_n C (show decode c_X11_sums 96 = .ok (.aload_n 0, 1) by decide +kernel) rfl,
  List.forall_mem_cons.mpr ⟨qz_gf (k := 26) C (show decode c_X11_sums 97 = .ok (.getfield 60, 3) by decide +kernel) vcX11 wiX11 (by decide) cw_1044,
  List.forall_mem_cons.mpr ⟨qz_iload C (show decode c_X11_sums 100 = .ok (.iload 9, 2) by decide +kernel),
  List.forall_mem_cons.mpr ⟨qz_iald C (show decode c_X11_sums 102 = .ok (.iaload, 1) by decide +kernel),
  List.forall_mem_cons.mpr ⟨qz_iload C (show decode c_X11_sums 103 = .ok (.iload 7, 2) by decide +kernel),
  List.forall_mem_cons.mpr ⟨qz_icle C (show decode c_X11_sums 105 = .ok (.if_icmp .le 13, 3) by decide +kernel) (by decide),
  List.forall_mem_cons.mpr ⟨qz_aload_n C (show decode c_X11_sums 108 = .ok (.aload_n 0, 1) by decide +kernel) rfl,
  List.forall_mem_cons.mpr ⟨qz_gf (k := 26) C (show decode c_X11_sums 109 = .ok (.getfield 60, 3) by decide +kernel) vcX11 wiX11 (by decide) cw_1044,
  List.forall_mem_cons.mpr ⟨qz_iload C (show decode c_X11_sums 112 = .ok (.iload 9, 2) by decide +kernel),
  List.forall_mem_cons.mpr ⟨qz_iald C (show decode c_X11_sums 114 = .ok (.iaload, 1) by decide +kernel),
  List.forall_mem_cons.mpr ⟨qz_goto C (show decode c_X11_sums 115 = .ok (.goto 5, 3) by decide +kernel) (by decide),
  List.forall_mem_cons.mpr ⟨qz_iload C (show decode c_X11_sums 118 = .ok (.iload 7, 2) by decide +kernel),
  List.forall_mem_cons.mpr ⟨qz_istore C (show decode c_X11_sums 120 = .ok (.istore 7, 2) by decide +kernel),
  List.forall_mem_cons.mpr ⟨qz_iinc C (show decode c_X11_sums 122 = .ok (.iinc 8 1, 3) by decide +kernel) (by decide +kernel),
  List.forall_mem_cons.mpr ⟨qz_goto C (show decode c_X11_sums 125 = .ok (.goto (-93), 3) by decide +kernel) (by decide),
  List.forall_mem_cons.mpr ⟨qz_aload_n C (show decode c_X11_sums 128 = .ok (.aload_n 0, 1) by decide +kernel) rfl,
  List.forall_mem_cons.mpr ⟨qz_gf (k := 25) C (show decode c_X11_sums 129 = .ok (.getfield 57, 3) by decide +kernel) vcX11 wiX11 (by decide) cw_1043,
  List.forall_mem_cons.mpr ⟨qz_iload C (show decode c_X11_sums 132 = .ok (.iload 4, 2) by decide +kernel),
  List.forall_mem_cons.mpr ⟨qz_iload C (show decode c_X11_sums 134 = .ok (.iload 6, 2) by decide +kernel),
  List.forall_mem_cons.mpr ⟨qz_iast C (show decode c_X11_sums 136 = .ok (.iastore, 1) by decide +kernel),
  List.forall_mem_cons.mpr ⟨qz_aload_n C (show decode c_X11_sums 137 = .ok (.aload_n 0, 1) by decide +kernel) rfl,
  List.forall_mem_cons.mpr ⟨qz_gf (k := 26) C (show decode c_X11_sums 138 = .ok (.getfield 60, 3) by decide +kernel) vcX11 wiX11 (by decide) cw_1044,
  List.forall_mem_cons.mpr ⟨qz_iload C (show decode c_X11_sums 141 = .ok (.iload 4, 2) by decide +kernel),
  List.forall_mem_cons.mpr ⟨qz_iload C (show decode c_X11_sums 143 = .ok (.iload 7, 2) by decide +kernel),
  List.forall_mem_cons.mpr ⟨qz_iconst C (show decode c_X11_sums 145 = .ok (.iconst 1, 1) by decide +kernel) (by decide +kernel),
  List.forall_mem_cons.mpr ⟨qz_iadd C (show decode c_X11_sums 146 = .ok (.iadd, 1) by decide +kernel),
  List.forall_mem_cons.mpr ⟨qz_iast C (show decode c_X11_sums 147 = .ok (.iastore, 1) by decide +kernel),
  List.forall_mem_cons.mpr ⟨qz_vret C (show decode c_X11_sums 148 = .ok (.return_, 1) by decide +kernel) rfl,
  (fun q h => by cases h)⟩⟩⟩⟩⟩⟩⟩⟩⟩⟩⟩⟩⟩⟩⟩⟩⟩⟩⟩⟩⟩⟩⟩⟩⟩⟩⟩⟩⟩⟩⟩⟩⟩⟩⟩⟩⟩⟩⟩⟩
theorem sd_X11_sums {G : pj_E} {A : Nat → Prop} {P : pj_P} {S : pj_U} {Z : pj_Z} (C : pj_C (G, A, (c_X11_sums, y_X11_sums.cls, 10, none, 4), P, S, Z)) : ∀ q ∈ tb_X11_sums, pj_S (G, A, (c_X11_sums, y_X11_sums.cls, 10, none, 4), P, S, Z) pj_eV q.1 q.2 := List.forall_mem_append.mpr ⟨sd_X11_sums_0 C, sd_X11_sums_1 C⟩
noncomputable def C_X11_sums_128 (f : Int32 → Int32 → Int32 → pj_M → Option (pj_M)) : pj_N (pj_M) := fun L st m => match L, st with
  | [some (.inr (.inr (t0, w0, a0))), _, _, _, some (.inl x4), _, some (.inl x6), some (.inl x7), _, _], [] => (match Nat.beq t0 0 && (Nat.beq w0 11 && (Nat.beq a0 72)) with
    | true => f x4 x6 x7 m
    | false => none)
  | _, _ => none
noncomputable def C_X11_sums_94 (f : Int32 → Int32 → Int32 → Int32 → Int32 → Int32 → pj_M → Option (pj_M)) : pj_N (pj_M) := fun L st m => match L, st with
  | [some (.inr (.inr (t0, w0, a0))), _, _, _, some (.inl x4), some (.inl x5), _, some (.inl x7), some (.inl x8), some (.inl x9)], [.inl s0] => (match Nat.beq t0 0 && (Nat.beq w0 11 && (Nat.beq a0 72)) with
    | true => f x4 x5 x7 x8 x9 s0 m
    | false => none)
  | _, _ => none
noncomputable def C_X11_sums_32 (f : Int32 → Int32 → Int32 → Int32 → Int32 → pj_M → Option (pj_M)) : pj_N (pj_M) := fun L st m => match L, st with
  | [some (.inr (.inr (t0, w0, a0))), _, _, _, some (.inl x4), some (.inl x5), some (.inl x6), some (.inl x7), some (.inl x8), _], [] => (match Nat.beq t0 0 && (Nat.beq w0 11 && (Nat.beq a0 72)) with
    | true => f x4 x5 x6 x7 x8 m
    | false => none)
  | _, _ => none
set_option maxRecDepth 20000 in
theorem eq_X11_sums_128 (x4 : Int32) (x6 : Int32) (x7 : Int32) (d1 d2 d3 d5 d8 d9 : Option pj_V) (m : pj_M) : pj_run tb_X11_sums [] 82 128 [some (.inr (.inr (0, 11, 72))), d1, d2, d3, some (.inl x4), d5, some (.inl x6), some (.inl x7), d8, d9] [] m = J_X11_sums_128 x4 x6 x7 m := by rfl
theorem sg_X11_sums_128 {G : pj_E} {A : Nat → Prop} {P : pj_P} {S : pj_U} {Z : pj_Z} (C : pj_C (G, A, (c_X11_sums, y_X11_sums.cls, 10, none, 4), P, S, Z)) : pj_G (G, A, (c_X11_sums, y_X11_sums.cls, 10, none, 4), P, S, Z) pj_eV 128 (C_X11_sums_128 (J_X11_sums_128)) := by
  intro L st m r h hR
  unfold C_X11_sums_128 at h
  split at h
  · split at h
    · rename_i hbq
      simp only [Bool.and_eq_true, Nat.beq_eq] at hbq
      obtain ⟨rfl, rfl, rfl⟩ := hbq
      exact pj_run_ok (sd_X11_sums C) (fun q h => by cases h) 82 128 _ _ _ _ ((eq_X11_sums_128 _ _ _ _ _ _ _ _ _ _).trans h) hR
    · cases h
  · cases h
set_option maxRecDepth 20000 in
theorem eq_X11_sums_94 (k32 : Int32 → Int32 → Int32 → Int32 → Int32 → pj_M → Option (pj_M)) (x4 : Int32) (x5 : Int32) (x7 : Int32) (x8 : Int32) (x9 : Int32) (s0 : Int32) (d1 d2 d3 d6 : Option pj_V) (m : pj_M) : pj_run tb_X11_sums [(32, C_X11_sums_32 k32)] 82 94 [some (.inr (.inr (0, 11, 72))), d1, d2, d3, some (.inl x4), some (.inl x5), d6, some (.inl x7), some (.inl x8), some (.inl x9)] [.inl s0] m = J_X11_sums_94 k32 x4 x5 x7 x8 x9 s0 m := by rfl
theorem sg_X11_sums_94 {G : pj_E} {A : Nat → Prop} {P : pj_P} {S : pj_U} {Z : pj_Z} (C : pj_C (G, A, (c_X11_sums, y_X11_sums.cls, 10, none, 4), P, S, Z)) {k32 : Int32 → Int32 → Int32 → Int32 → Int32 → pj_M → Option (pj_M)} (hk32 : pj_G (G, A, (c_X11_sums, y_X11_sums.cls, 10, none, 4), P, S, Z) pj_eV 32 (C_X11_sums_32 k32)) : pj_G (G, A, (c_X11_sums, y_X11_sums.cls, 10, none, 4), P, S, Z) pj_eV 94 (C_X11_sums_94 (J_X11_sums_94 k32)) := by
  intro L st m r h hR
  unfold C_X11_sums_94 at h
  split at h
  · split at h
    · rename_i hbq
      simp only [Bool.and_eq_true, Nat.beq_eq] at hbq
      obtain ⟨rfl, rfl, rfl⟩ := hbq
      exact pj_run_ok (sd_X11_sums C) (List.forall_mem_cons.mpr ⟨hk32, fun q h => by cases h⟩) 82 94 _ _ _ _ ((eq_X11_sums_94 _ _ _ _ _ _ _ _ _ _ _ _).trans h) hR
    · cases h
  · cases h
set_option maxRecDepth 20000 in
theorem eq_X11_sums_32 (n1 : Nat) (x4 : Int32) (x5 : Int32) (x6 : Int32) (x7 : Int32) (x8 : Int32) (d1 d2 d3 d9 : Option pj_V) (m : pj_M) : pj_run tb_X11_sums [(32, C_X11_sums_32 (H_X11_sums_32 n1)), (94, C_X11_sums_94 (J_X11_sums_94 (H_X11_sums_32 n1))), (128, C_X11_sums_128 (J_X11_sums_128 ))] 82 32 [some (.inr (.inr (0, 11, 72))), d1, d2, d3, some (.inl x4), some (.inl x5), some (.inl x6), some (.inl x7), some (.inl x8), d9] [] m = H_X11_sums_32 (n1 + 1) x4 x5 x6 x7 x8 m := by rfl
theorem sg_X11_sums_32 {G : pj_E} {A : Nat → Prop} {P : pj_P} {S : pj_U} {Z : pj_Z} (C : pj_C (G, A, (c_X11_sums, y_X11_sums.cls, 10, none, 4), P, S, Z)) : ∀ n1, pj_G (G, A, (c_X11_sums, y_X11_sums.cls, 10, none, 4), P, S, Z) pj_eV 32 (C_X11_sums_32 (H_X11_sums_32 n1)) := by
  intro n1
  induction n1 with
  | zero =>
    intro L st m r h hR
    unfold C_X11_sums_32 at h
    split at h
    · split at h
      · cases h
      · cases h
    · cases h
  | succ n1 ih1 =>
    intro L st m r h hR
    unfold C_X11_sums_32 at h
    split at h
    · split at h
      · rename_i hbq
        simp only [Bool.and_eq_true, Nat.beq_eq] at hbq
        obtain ⟨rfl, rfl, rfl⟩ := hbq
        exact pj_run_ok (sd_X11_sums C) (List.forall_mem_cons.mpr ⟨ih1, List.forall_mem_cons.mpr ⟨sg_X11_sums_94 C ih1, List.forall_mem_cons.mpr ⟨sg_X11_sums_128 C , fun q h => by cases h⟩⟩⟩) 82 32 _ _ _ _ ((eq_X11_sums_32 _ _ _ _ _ _ _ _ _ _ _).trans h) hR
      · cases h
    · cases h
set_option maxRecDepth 20000 in
theorem eq_X11_sums (x1 : Int32) (x2 : Int32) (x3 : Int32) (m : pj_M) : pj_run tb_X11_sums [(32, C_X11_sums_32 (H_X11_sums_32  pj_z))] 82 0 [some (.inr (.inr (0, 11, 72))), some (.inl x1), some (.inl x2), some (.inl x3), none, none, none, none, none, none] [] m = F_X11_sums x1 x2 x3 m := by rfl
theorem ct_X11_sums : pj_Ct pj_eV y_X11_sums c_X11_sums 10 none 4 W_X11_sums := by
  refine pj_ct_of (by decide +kernel) ?_ ?_
  · intro as m r h
    unfold W_X11_sums at h
    split at h
    · simp [pj_l0]
    · cases h
  · intro G A P S Z C as m r h hR
    unfold W_X11_sums at h
    split at h
    · split at h
      · rename_i hbq
        simp only [Bool.and_eq_true, Nat.beq_eq] at hbq
        obtain ⟨rfl, rfl, rfl⟩ := hbq
        exact pj_run_ok (sd_X11_sums C) (List.forall_mem_cons.mpr ⟨sg_X11_sums_32 C  pj_z, fun q h => by cases h⟩) 82 0 _ _ _ _ ((eq_X11_sums _ _ _ _).trans h) hR
      · cases h
    · cases h
/-! AlikeStepsModel.tellsAll(I)V -/
abbrev c_X11_tellsAll : ByteArray := prog_13_method_65_code
def y_X11_tellsAll : MethodName := ⟨RX11, "tellsAll", "(I)V"⟩
noncomputable def H_X11_tellsAll_130 (k2 : Int32 → Int32 → pj_M → Option (pj_M)) : Nat → Int32 → Int32 → Int32 → pj_M → Option (pj_M)
  | 0, _, _, _, _ => none
  | n1 + 1, x1, x2, x3, m => (if x3 < 100 then (if (10 : Int32) = 0 then none else (if (10 : Int32) = 0 then none else (if (0 : Int32) < x2 then ((F_X11_states m).bind fun q1 => (if (x3 / 10) < q1.1 then ((F_X11_states q1.2).bind fun q2 => (if (x3 - x3 / 10 * 10) < q2.1 then ((F_X11_partedIn (x3 / 10) (x3 - x3 / 10 * 10) q2.2).bind fun q3 => (if q3.1 = x2 then (if x3 < 0 ∨ 100 ≤ x3.toNatClampNeg then none else (if (q3.2.1 90 x3.toNatClampNeg) = (-1000000) then (if ((10 * (x3 - x3 / 10 * 10)) + (x3 / 10)) < 0 ∨ 100 ≤ ((10 * (x3 - x3 / 10 * 10)) + (x3 / 10)).toNatClampNeg then none else (if (9998 : Int32) < (q3.2.1 88 ((10 * (x3 - x3 / 10 * 10)) + (x3 / 10)).toNatClampNeg) then (if x3 < 0 ∨ 100 ≤ x3.toNatClampNeg then none else (if ((10 * (x3 - x3 / 10 * 10)) + (x3 / 10)) < 0 ∨ 100 ≤ ((10 * (x3 - x3 / 10 * 10)) + (x3 / 10)).toNatClampNeg then none else (if x3 < 0 ∨ 100 ≤ x3.toNatClampNeg then none else (H_X11_tellsAll_130 k2 n1 x1 x2 (x3 + 1) (pj_wr (pj_wr q3.2 88 x3.toNatClampNeg 10000) 89 x3.toNatClampNeg ((pj_wr q3.2 88 x3.toNatClampNeg 10000).1 89 ((10 * (x3 - x3 / 10 * 10)) + (x3 / 10)).toNatClampNeg)))))) else (if ((10 * (x3 - x3 / 10 * 10)) + (x3 / 10)) < 0 ∨ 100 ≤ ((10 * (x3 - x3 / 10 * 10)) + (x3 / 10)).toNatClampNeg then none else (if x3 < 0 ∨ 100 ≤ x3.toNatClampNeg then none else (if ((10 * (x3 - x3 / 10 * 10)) + (x3 / 10)) < 0 ∨ 100 ≤ ((10 * (x3 - x3 / 10 * 10)) + (x3 / 10)).toNatClampNeg then none else (if x3 < 0 ∨ 100 ≤ x3.toNatClampNeg then none else (H_X11_tellsAll_130 k2 n1 x1 x2 (x3 + 1) (pj_wr (pj_wr q3.2 88 x3.toNatClampNeg ((q3.2.1 88 ((10 * (x3 - x3 / 10 * 10)) + (x3 / 10)).toNatClampNeg) + 1)) 89 x3.toNatClampNeg ((pj_wr q3.2 88 x3.toNatClampNeg ((q3.2.1 88 ((10 * (x3 - x3 / 10 * 10)) + (x3 / 10)).toNatClampNeg) + 1)).1 89 ((10 * (x3 - x3 / 10 * 10)) + (x3 / 10)).toNatClampNeg))))))))) else (H_X11_tellsAll_130 k2 n1 x1 x2 (x3 + 1) q3.2))) else (H_X11_tellsAll_130 k2 n1 x1 x2 (x3 + 1) q3.2))) else (H_X11_tellsAll_130 k2 n1 x1 x2 (x3 + 1) q2.2))) else (H_X11_tellsAll_130 k2 n1 x1 x2 (x3 + 1) q1.2))) else (H_X11_tellsAll_130 k2 n1 x1 x2 (x3 + 1) m)))) else (k2 x1 (x2 + 1) m))
noncomputable def H_X11_tellsAll_23 (k2 : Int32 → Int32 → pj_M → Option (pj_M)) (k12 : Int32 → Int32 → Int32 → pj_M → Option (pj_M)) : Nat → Int32 → Int32 → Int32 → Int32 → pj_M → Option (pj_M)
  | 0, _, _, _, _, _ => none
  | n1 + 1, x1, x2, x3, x4, m => ((F_X11_states m).bind fun q1 => (if x4 < q1.1 then ((F_X11_partedIn x3 x4 q1.2).bind fun q2 => (if q2.1 = x2 then (if x2 = 0 then ((F_X11_isMarked x3 q2.2).bind fun q5 => (if q5.1 = 0 then (if ((10 * x3) + x4) < 0 ∨ 100 ≤ ((10 * x3) + x4).toNatClampNeg then none else (if ((10 * x3) + x4) < 0 ∨ 100 ≤ ((10 * x3) + x4).toNatClampNeg then none else (H_X11_tellsAll_23 k2 k12 n1 x1 x2 x3 (x4 + 1) (pj_wr (pj_wr q5.2 88 ((10 * x3) + x4).toNatClampNeg 2) 89 ((10 * x3) + x4).toNatClampNeg 0)))) else (if ((10 * x3) + x4) < 0 ∨ 100 ≤ ((10 * x3) + x4).toNatClampNeg then none else (if ((10 * x3) + x4) < 0 ∨ 100 ≤ ((10 * x3) + x4).toNatClampNeg then none else (H_X11_tellsAll_23 k2 k12 n1 x1 x2 x3 (x4 + 1) (pj_wr (pj_wr q5.2 88 ((10 * x3) + x4).toNatClampNeg 1) 89 ((10 * x3) + x4).toNatClampNeg 0)))))) else ((F_X11_opens x1 x3 x4 x2 q2.2).bind fun q3 => (if ((10 * x3) + x4) < 0 ∨ 100 ≤ ((10 * x3) + x4).toNatClampNeg then none else (if (q3.1 90 ((10 * x3) + x4).toNatClampNeg) = (-1000000) then (H_X11_tellsAll_23 k2 k12 n1 x1 x2 x3 (x4 + 1) q3) else ((F_X11_sums x1 x3 x4 q3).bind fun q4 => (H_X11_tellsAll_23 k2 k12 n1 x1 x2 x3 (x4 + 1) q4)))))) else (H_X11_tellsAll_23 k2 k12 n1 x1 x2 x3 (x4 + 1) q2.2))) else (k12 x1 x2 (x3 + 1) q1.2)))
noncomputable def H_X11_tellsAll_12 (k2 : Int32 → Int32 → pj_M → Option (pj_M)) : Nat → Int32 → Int32 → Int32 → pj_M → Option (pj_M)
  | 0, _, _, _, _ => none
  | n1 + 1, x1, x2, x3, m => ((F_X11_states m).bind fun q1 => (if x3 < q1.1 then (H_X11_tellsAll_23 k2 (H_X11_tellsAll_12 k2 n1) pj_z x1 x2 x3 0 q1.2) else (H_X11_tellsAll_130 k2 pj_z x1 x2 0 q1.2)))
noncomputable def H_X11_tellsAll_2 : Nat → Int32 → Int32 → pj_M → Option (pj_M)
  | 0, _, _, _ => none
  | n1 + 1, x1, x2, m => (if (m.1 72 23) < x2 then (some m) else (H_X11_tellsAll_12 (H_X11_tellsAll_2 n1) pj_z x1 x2 0 m))
noncomputable def F_X11_tellsAll (x1 : Int32) (m : pj_M) : Option (pj_M) := (H_X11_tellsAll_2 pj_z x1 0 m)
noncomputable def W_X11_tellsAll : List pj_V → pj_M → Option (pj_M) := fun as m => match as with
  | [.inr (.inr (t0, w0, a0)), .inl x1] => (match Nat.beq t0 0 && (Nat.beq w0 11 && (Nat.beq a0 72)) with
    | true => F_X11_tellsAll x1 m
    | false => none)
  | _ => none
noncomputable def tb_X11_tellsAll_0 : List (Nat × pj_T (pj_M)) := [(0, qs_ci 0 1), (1, qs_sti 2 2), (2, qs_ldi 2 3), (3, qs_lda 0 4), (4, qs_gf 11 23 7), (7, qs_icgt 262 10), (10, qs_ci 0 11), (11, qs_sti 3 12), (12, qs_ldi 3 13), (13, qs_lda 0 14), (14, qs_vI 11 1 W_X11_states 17), (17, qs_icge 128 20), (20, qs_ci 0 21), (21, qs_sti 4 23), (23, qs_ldi 4 25), (25, qs_lda 0 26), (26, qs_vI 11 1 W_X11_states 29), (29, qs_icge 122 32), (32, qs_lda 0 33), (33, qs_ldi 3 34), (34, qs_ldi 4 36), (36, qs_vI 11 3 W_X11_partedIn 39), (39, qs_ldi 2 40), (40, qs_icne 116 43), (43, qs_ci 10 45), (45, qs_ldi 3 46), (46, qs_b2 (fun x y => x * y) 47), (47, qs_ldi 4 49), (49, qs_b2 (fun x y => x + y) 50), (50, qs_sti 5 52), (52, qs_ldi 2 53), (53, qs_ifne 87 56), (56, qs_lda 0 57), (57, qs_gf 11 25 60), (60, qs_ldi 5 62), (62, qs_lda 0 63), (63, qs_ldi 3 64), (64, qs_vI 11 2 W_X11_isMarked 67), (67, qs_ifeq 74 70), (70, qs_ci 1 71)]
noncomputable def tb_X11_tellsAll_1 : List (Nat × pj_T (pj_M)) := [(71, qs_go 75), (74, qs_ci 2 75), (75, qs_iast 76), (76, qs_lda 0 77), (77, qs_gf 11 26 80), (80, qs_ldi 5 82), (82, qs_ci 0 83), (83, qs_iast 84), (84, qs_go 116), (87, qs_lda 0 88), (88, qs_ldi 1 89), (89, qs_ldi 3 90), (90, qs_ldi 4 92), (92, qs_ldi 2 93), (93, qs_vV 11 5 W_X11_opens 96), (96, qs_lda 0 97), (97, qs_gf 11 27 100), (100, qs_ldi 5 102), (102, qs_iald 103), (103, qs_ci (-1000000) 105), (105, qs_iceq 116 108), (108, qs_lda 0 109), (109, qs_ldi 1 110), (110, qs_ldi 3 111), (111, qs_ldi 4 113), (113, qs_vV 11 4 W_X11_sums 116), (116, qs_inc 4 1 119), (119, qs_go 23), (122, qs_inc 3 1 125), (125, qs_go 12), (128, qs_ci 0 129), (129, qs_sti 3 130), (130, qs_ldi 3 131), (131, qs_ci 100 133), (133, qs_icge 256 136), (136, qs_ldi 3 137), (137, qs_ci 10 139), (139, qs_d2 (fun x y => x / y) 140), (140, qs_sti 4 142), (142, qs_ldi 3 143)]
noncomputable def tb_X11_tellsAll_2 : List (Nat × pj_T (pj_M)) := [(143, qs_ci 10 145), (145, qs_d2 (fun x y => x - x / y * y) 146), (146, qs_sti 5 148), (148, qs_ldi 2 149), (149, qs_ifle 250 152), (152, qs_ldi 4 154), (154, qs_lda 0 155), (155, qs_vI 11 1 W_X11_states 158), (158, qs_icge 250 161), (161, qs_ldi 5 163), (163, qs_lda 0 164), (164, qs_vI 11 1 W_X11_states 167), (167, qs_icge 250 170), (170, qs_lda 0 171), (171, qs_ldi 4 173), (173, qs_ldi 5 175), (175, qs_vI 11 3 W_X11_partedIn 178), (178, qs_ldi 2 179), (179, qs_icne 250 182), (182, qs_lda 0 183), (183, qs_gf 11 27 186), (186, qs_ldi 3 187), (187, qs_iald 188), (188, qs_ci (-1000000) 190), (190, qs_icne 250 193), (193, qs_ci 10 195), (195, qs_ldi 5 197), (197, qs_b2 (fun x y => x * y) 198), (198, qs_ldi 4 200), (200, qs_b2 (fun x y => x + y) 201), (201, qs_sti 6 203), (203, qs_lda 0 204), (204, qs_gf 11 25 207), (207, qs_ldi 3 208), (208, qs_lda 0 209), (209, qs_gf 11 25 212), (212, qs_ldi 6 214), (214, qs_iald 215), (215, qs_ci 9998 218), (218, qs_icle 227 221)]
noncomputable def tb_X11_tellsAll_3 : List (Nat × pj_T (pj_M)) := [(221, qs_ci 10000 224), (224, qs_go 236), (227, qs_lda 0 228), (228, qs_gf 11 25 231), (231, qs_ldi 6 233), (233, qs_iald 234), (234, qs_ci 1 235), (235, qs_b2 (fun x y => x + y) 236), (236, qs_iast 237), (237, qs_lda 0 238), (238, qs_gf 11 26 241), (241, qs_ldi 3 242), (242, qs_lda 0 243), (243, qs_gf 11 26 246), (246, qs_ldi 6 248), (248, qs_iald 249), (249, qs_iast 250), (250, qs_inc 3 1 253), (253, qs_go 130), (256, qs_inc 2 1 259), (259, qs_go 2), (262, qs_vret)]
noncomputable def tb_X11_tellsAll : List (Nat × pj_T (pj_M)) := tb_X11_tellsAll_0 ++ (tb_X11_tellsAll_1 ++ (tb_X11_tellsAll_2 ++ (tb_X11_tellsAll_3)))
theorem mv_X11_tellsAll : pj_mv y_X11_tellsAll c_X11_tellsAll 7 none 1 := ⟨⟨cw_1365, cw_1364, cw_65, cw_92⟩, by decide +kernel, by decide⟩
set_option maxRecDepth 20000 in
theorem sd_X11_tellsAll_0 {G : pj_E} {A : Nat → Prop} {P : pj_P} {S : pj_U} {Z : pj_Z} (C : pj_C (G, A, (c_X11_tellsAll, y_X11_tellsAll.cls, 7, none, 5), P, S, Z)) : ∀ q ∈ tb_X11_tellsAll_0, pj_S (G, A, (c_X11_tellsAll, y_X11_tellsAll.cls, 7, none, 5), P, S, Z) pj_eV q.1 q.2 :=
  List.forall_mem_cons.mpr ⟨qz_iconst C (show decode c_X11_tellsAll 0 = .ok (.iconst 0, 1) by decide +kernel) (by decide +kernel),
  List.forall_mem_cons.mpr ⟨qz_istore_n C (show decode c_X11_tellsAll 1 = .ok (.istore_n 2, 1) by decide +kernel) rfl,
  List.forall_mem_cons.mpr ⟨qz_iload_n C (show decode c_X11_tellsAll 2 = .ok (.iload_n 2, 1) by decide +kernel) rfl,
  List.forall_mem_cons.mpr ⟨qz_aload_n C (show decode c_X11_tellsAll 3 = .ok (.aload_n 0, 1) by decide +kernel) rfl,
  List.forall_mem_cons.mpr ⟨qz_gf (k := 23) C (show decode c_X11_tellsAll 4 = .ok (.getfield 216, 3) by decide +kernel) vcX11 wiX11 (by decide) cw_1041,
  List.forall_mem_cons.mpr ⟨qz_icgt C (show decode c_X11_tellsAll 7 = .ok (.if_icmp .gt 255, 3) by decide +kernel) (by decide),
  List.forall_mem_cons.mpr ⟨qz_iconst C (show decode c_X11_tellsAll 10 = .ok (.iconst 0, 1) by decide +kernel) (by decide +kernel),
  List.forall_mem_cons.mpr ⟨qz_istore_n C (show decode c_X11_tellsAll 11 = .ok (.istore_n 3, 1) by decide +kernel) rfl,
  List.forall_mem_cons.mpr ⟨qz_iload_n C (show decode c_X11_tellsAll 12 = .ok (.iload_n 3, 1) by decide +kernel) rfl,
  List.forall_mem_cons.mpr ⟨qz_aload_n C (show decode c_X11_tellsAll 13 = .ok (.aload_n 0, 1) by decide +kernel) rfl,
  List.forall_mem_cons.mpr ⟨qz_vI C (show decode c_X11_tellsAll 14 = .ok (.invokevirtual 177, 3) by decide +kernel) ct_X11_states mv_X11_states cw_1269 vcX11 (show 1 < 5 by omega),
  List.forall_mem_cons.mpr ⟨qz_icge C (show decode c_X11_tellsAll 17 = .ok (.if_icmp .ge 111, 3) by decide +kernel) (by decide),
  List.forall_mem_cons.mpr ⟨qz_iconst C (show decode c_X11_tellsAll 20 = .ok (.iconst 0, 1) by decide +kernel) (by decide +kernel),
  List.forall_mem_cons.mpr ⟨qz_istore C (show decode c_X11_tellsAll 21 = .ok (.istore 4, 2) by decide +kernel),
  List.forall_mem_cons.mpr ⟨qz_iload C (show decode c_X11_tellsAll 23 = .ok (.iload 4, 2) by decide +kernel),
  List.forall_mem_cons.mpr ⟨qz_aload_n C (show decode c_X11_tellsAll 25 = .ok (.aload_n 0, 1) by decide +kernel) rfl,
  List.forall_mem_cons.mpr ⟨qz_vI C (show decode c_X11_tellsAll 26 = .ok (.invokevirtual 177, 3) by decide +kernel) ct_X11_states mv_X11_states cw_1269 vcX11 (show 1 < 5 by omega),
  List.forall_mem_cons.mpr ⟨qz_icge C (show decode c_X11_tellsAll 29 = .ok (.if_icmp .ge 93, 3) by decide +kernel) (by decide),
  List.forall_mem_cons.mpr ⟨qz_aload_n C (show decode c_X11_tellsAll 32 = .ok (.aload_n 0, 1) by decide +kernel) rfl,
  List.forall_mem_cons.mpr ⟨qz_iload_n C (show decode c_X11_tellsAll 33 = .ok (.iload_n 3, 1) by decide +kernel) rfl,
  List.forall_mem_cons.mpr ⟨qz_iload C (show decode c_X11_tellsAll 34 = .ok (.iload 4, 2) by decide +kernel),
  List.forall_mem_cons.mpr ⟨qz_vI C (show decode c_X11_tellsAll 36 = .ok (.invokevirtual 250, 3) by decide +kernel) ct_X11_partedIn mv_X11_partedIn cw_1350 vcX11 (show 2 < 5 by omega),
  List.forall_mem_cons.mpr ⟨qz_iload_n C (show decode c_X11_tellsAll 39 = .ok (.iload_n 2, 1) by decide +kernel) rfl,
  List.forall_mem_cons.mpr ⟨qz_icne C (show decode c_X11_tellsAll 40 = .ok (.if_icmp .ne 76, 3) by decide +kernel) (by decide),
  List.forall_mem_cons.mpr ⟨qz_bipush C (show decode c_X11_tellsAll 43 = .ok (.bipush 10, 2) by decide +kernel) (by decide +kernel),
  List.forall_mem_cons.mpr ⟨qz_iload_n C (show decode c_X11_tellsAll 45 = .ok (.iload_n 3, 1) by decide +kernel) rfl,
  List.forall_mem_cons.mpr ⟨qz_imul C (show decode c_X11_tellsAll 46 = .ok (.imul, 1) by decide +kernel),
  List.forall_mem_cons.mpr ⟨qz_iload C (show decode c_X11_tellsAll 47 = .ok (.iload 4, 2) by decide +kernel),
  List.forall_mem_cons.mpr ⟨qz_iadd C (show decode c_X11_tellsAll 49 = .ok (.iadd, 1) by decide +kernel),
  List.forall_mem_cons.mpr ⟨qz_istore C (show decode c_X11_tellsAll 50 = .ok (.istore 5, 2) by decide +kernel),
  List.forall_mem_cons.mpr ⟨qz_iload_n C (show decode c_X11_tellsAll 52 = .ok (.iload_n 2, 1) by decide +kernel) rfl,
  List.forall_mem_cons.mpr ⟨qz_ifne C (show decode c_X11_tellsAll 53 = .ok (.ifCond .ne 34, 3) by decide +kernel) (by decide),
  List.forall_mem_cons.mpr ⟨qz_aload_n C (show decode c_X11_tellsAll 56 = .ok (.aload_n 0, 1) by decide +kernel) rfl,
  List.forall_mem_cons.mpr ⟨qz_gf (k := 25) C (show decode c_X11_tellsAll 57 = .ok (.getfield 57, 3) by decide +kernel) vcX11 wiX11 (by decide) cw_1043,
  List.forall_mem_cons.mpr ⟨qz_iload C (show decode c_X11_tellsAll 60 = .ok (.iload 5, 2) by decide +kernel),
  List.forall_mem_cons.mpr ⟨qz_aload_n C (show decode c_X11_tellsAll 62 = .ok (.aload_n 0, 1) by decide +kernel) rfl,
  List.forall_mem_cons.mpr ⟨qz_iload_n C (show decode c_X11_tellsAll 63 = .ok (.iload_n 3, 1) by decide +kernel) rfl,
  List.forall_mem_cons.mpr ⟨qz_vI C (show decode c_X11_tellsAll 64 = .ok (.invokevirtual 210, 3) by decide +kernel) ct_X11_isMarked mv_X11_isMarked cw_1304 vcX11 (show 1 < 5 by omega),
  List.forall_mem_cons.mpr ⟨qz_ifeq C (show decode c_X11_tellsAll 67 = .ok (.ifCond .eq 7, 3) by decide +kernel) (by decide),
  List.forall_mem_cons.mpr ⟨qz_iconst C (show decode c_X11_tellsAll 70 = .ok (.iconst 1, 1) by decide +kernel) (by decide +kernel),
  (fun q h => by cases h)⟩⟩⟩⟩⟩⟩⟩⟩⟩⟩⟩⟩⟩⟩⟩⟩⟩⟩⟩⟩⟩⟩⟩⟩⟩⟩⟩⟩⟩⟩⟩⟩⟩⟩⟩⟩⟩⟩⟩⟩
set_option maxRecDepth 20000 in
theorem sd_X11_tellsAll_1 {G : pj_E} {A : Nat → Prop} {P : pj_P} {S : pj_U} {Z : pj_Z} (C : pj_C (G, A, (c_X11_tellsAll, y_X11_tellsAll.cls, 7, none, 5), P, S, Z)) : ∀ q ∈ tb_X11_tellsAll_1, pj_S (G, A, (c_X11_tellsAll, y_X11_tellsAll.cls, 7, none, 5), P, S, Z) pj_eV q.1 q.2 :=
  List.forall_mem_cons.mpr ⟨qz_goto C (show decode c_X11_tellsAll 71 = .ok (.goto 4, 3) by decide +kernel) (by decide),
  List.forall_mem_cons.mpr ⟨qz_iconst C (show decode c_X11_tellsAll 74 = .ok (.iconst 2, 1) by decide +kernel) (by decide +kernel),
  List.forall_mem_cons.mpr ⟨qz_iast C (show decode c_X11_tellsAll 75 = .ok (.iastore, 1) by decide +kernel),
  List.forall_mem_cons.mpr ⟨qz_aload_n C (show decode c_X11_tellsAll 76 = .ok (.aload_n 0, 1) by decide +kernel) rfl,
  List.forall_mem_cons.mpr ⟨qz_gf (k := 26) C (show decode c_X11_tellsAll 77 = .ok (.getfield 60, 3) by decide +kernel) vcX11 wiX11 (by decide) cw_1044,
  List.forall_mem_cons.mpr ⟨qz_iload C (show decode c_X11_tellsAll 80 = .ok (.iload 5, 2) by decide +kernel),
  List.forall_mem_cons.mpr ⟨qz_iconst C (show decode c_X11_tellsAll 82 = .ok (.iconst 0, 1) by decide +kernel) (by decide +kernel),
  List.forall_mem_cons.mpr ⟨qz_iast C (show decode c_X11_tellsAll 83 = .ok (.iastore, 1) by decide +kernel),
  List.forall_mem_cons.mpr ⟨qz_goto C (show decode c_X11_tellsAll 84 = .ok (.goto 32, 3) by decide +kernel) (by decide),
  List.forall_mem_cons.mpr ⟨qz_aload_n C (show decode c_X11_tellsAll 87 = .ok (.aload_n 0, 1) by decide +kernel) rfl,
  List.forall_mem_cons.mpr ⟨qz_iload_n C (show decode c_X11_tellsAll 88 = .ok (.iload_n 1, 1) by decide +kernel) rfl,
  List.forall_mem_cons.mpr ⟨qz_iload_n C (show decode c_X11_tellsAll 89 = .ok (.iload_n 3, 1) by decide +kernel) rfl,
  List.forall_mem_cons.mpr ⟨qz_iload C (show decode c_X11_tellsAll 90 = .ok (.iload 4, 2) by decide +kernel),
  List.forall_mem_cons.mpr ⟨qz_iload_n C (show decode c_X11_tellsAll 92 = .ok (.iload_n 2, 1) by decide +kernel) rfl,
  List.forall_mem_cons.mpr ⟨qz_vV C (show decode c_X11_tellsAll 93 = .ok (.invokevirtual 253, 3) by decide +kernel) ct_X11_opens mv_X11_opens cw_1366 vcX11 (show 4 < 5 by omega),
  List.forall_mem_cons.mpr ⟨qz_aload_n C (show decode c_X11_tellsAll 96 = .ok (.aload_n 0, 1) by decide +kernel) rfl,
  List.forall_mem_cons.mpr ⟨qz_gf (k := 27) C (show decode c_X11_tellsAll 97 = .ok (.getfield 63, 3) by decide +kernel) vcX11 wiX11 (by decide) cw_1045,
  List.forall_mem_cons.mpr ⟨qz_iload C (show decode c_X11_tellsAll 100 = .ok (.iload 5, 2) by decide +kernel),
  List.forall_mem_cons.mpr ⟨qz_iald C (show decode c_X11_tellsAll 102 = .ok (.iaload, 1) by decide +kernel),
  List.forall_mem_cons.mpr ⟨qz_ldc C (show decode c_X11_tellsAll 103 = .ok (.ldc 78, 2) by decide +kernel) cw_1017,
  List.forall_mem_cons.mpr ⟨qz_iceq C (show decode c_X11_tellsAll 105 = .ok (.if_icmp .eq 11, 3) by decide +kernel) (by decide),
  List.forall_mem_cons.mpr ⟨qz_aload_n C (show decode c_X11_tellsAll 108 = .ok (.aload_n 0, 1) by decide +kernel) rfl,
  List.forall_mem_cons.mpr ⟨qz_iload_n C (show decode c_X11_tellsAll 109 = .ok (.iload_n 1, 1) by decide +kernel) rfl,
  List.forall_mem_cons.mpr ⟨qz_iload_n C (show decode c_X11_tellsAll 110 = .ok (.iload_n 3, 1) by decide +kernel) rfl,
  List.forall_mem_cons.mpr ⟨qz_iload C (show decode c_X11_tellsAll 111 = .ok (.iload 4, 2) by decide +kernel),
  List.forall_mem_cons.mpr ⟨qz_vV C (show decode c_X11_tellsAll 113 = .ok (.invokevirtual 257, 3) by decide +kernel) ct_X11_sums mv_X11_sums cw_1370 vcX11 (show 4 < 5 by omega),
  List.forall_mem_cons.mpr ⟨qz_iinc C (show decode c_X11_tellsAll 116 = .ok (.iinc 4 1, 3) by decide +kernel) (by decide +kernel),
  List.forall_mem_cons.mpr ⟨qz_goto C (show decode c_X11_tellsAll 119 = .ok (.goto (-96), 3) by decide +kernel) (by decide),
  List.forall_mem_cons.mpr ⟨qz_iinc C (show decode c_X11_tellsAll 122 = .ok (.iinc 3 1, 3) by decide +kernel) (by decide +kernel),
  List.forall_mem_cons.mpr ⟨qz_goto C (show decode c_X11_tellsAll 125 = .ok (.goto (-113), 3) by decide +kernel) (by decide),
  List.forall_mem_cons.mpr ⟨qz_iconst C (show decode c_X11_tellsAll 128 = .ok (.iconst 0, 1) by decide +kernel) (by decide +kernel),
  List.forall_mem_cons.mpr ⟨qz_istore_n C (show decode c_X11_tellsAll 129 = .ok (.istore_n 3, 1) by decide +kernel) rfl,
  List.forall_mem_cons.mpr ⟨qz_iload_n C (show decode c_X11_tellsAll 130 = .ok (.iload_n 3, 1) by decide +kernel) rfl,
  List.forall_mem_cons.mpr ⟨qz_bipush C (show decode c_X11_tellsAll 131 = .ok (.bipush 100, 2) by decide +kernel) (by decide +kernel),
  List.forall_mem_cons.mpr ⟨qz_icge C (show decode c_X11_tellsAll 133 = .ok (.if_icmp .ge 123, 3) by decide +kernel) (by decide),
  List.forall_mem_cons.mpr ⟨qz_iload_n C (show decode c_X11_tellsAll 136 = .ok (.iload_n 3, 1) by decide +kernel) rfl,
  List.forall_mem_cons.mpr ⟨qz_bipush C (show decode c_X11_tellsAll 137 = .ok (.bipush 10, 2) by decide +kernel) (by decide +kernel),
  List.forall_mem_cons.mpr ⟨qz_idiv C (show decode c_X11_tellsAll 139 = .ok (.idiv, 1) by decide +kernel),
  List.forall_mem_cons.mpr ⟨qz_istore C (show decode c_X11_tellsAll 140 = .ok (.istore 4, 2) by decide +kernel),
  List.forall_mem_cons.mpr ⟨qz_iload_n C (show decode c_X11_tellsAll 142 = .ok (.iload_n 3, 1) by decide +kernel) rfl,
  (fun q h => by cases h)⟩⟩⟩⟩⟩⟩⟩⟩⟩⟩⟩⟩⟩⟩⟩⟩⟩⟩⟩⟩⟩⟩⟩⟩⟩⟩⟩⟩⟩⟩⟩⟩⟩⟩⟩⟩⟩⟩⟩⟩
set_option maxRecDepth 20000 in
theorem sd_X11_tellsAll_2 {G : pj_E} {A : Nat → Prop} {P : pj_P} {S : pj_U} {Z : pj_Z} (C : pj_C (G, A, (c_X11_tellsAll, y_X11_tellsAll.cls, 7, none, 5), P, S, Z)) : ∀ q ∈ tb_X11_tellsAll_2, pj_S (G, A, (c_X11_tellsAll, y_X11_tellsAll.cls, 7, none, 5), P, S, Z) pj_eV q.1 q.2 :=
  List.forall_mem_cons.mpr ⟨qz_bipush C (show decode c_X11_tellsAll 143 = .ok (.bipush 10, 2) by decide +kernel) (by decide +kernel),
  List.forall_mem_cons.mpr ⟨qz_irem C (show decode c_X11_tellsAll 145 = .ok (.irem, 1) by decide +kernel),
  List.forall_mem_cons.mpr ⟨qz_istore C (show decode c_X11_tellsAll 146 = .ok (.istore 5, 2) by decide +kernel),
  List.forall_mem_cons.mpr ⟨qz_iload_n C (show decode c_X11_tellsAll 148 = .ok (.iload_n 2, 1) by decide +kernel) rfl,
  List.forall_mem_cons.mpr ⟨qz_ifle C (show decode c_X11_tellsAll 149 = .ok (.ifCond .le 101, 3) by decide +kernel) (by decide),
  List.forall_mem_cons.mpr ⟨qz_iload C (show decode c_X11_tellsAll 152 = .ok (.iload 4, 2) by decide +kernel),
  List.forall_mem_cons.mpr ⟨qz_aload_n C (show decode c_X11_tellsAll 154 = .ok (.aload_n 0, 1) by decide +kernel) rfl,
  List.forall_mem_cons.mpr ⟨qz_vI C (show decode c_X11_tellsAll 155 = .ok (.invokevirtual 177, 3) by decide +kernel) ct_X11_states mv_X11_states cw_1269 vcX11 (show 1 < 5 by omega),
  List.forall_mem_cons.mpr ⟨qz_icge C (show decode c_X11_tellsAll 158 = .ok (.if_icmp .ge 92, 3) by decide +kernel) (by decide),
  List.forall_mem_cons.mpr ⟨qz_iload C (show decode c_X11_tellsAll 161 = .ok (.iload 5, 2) by decide +kernel),
  List.forall_mem_cons.mpr ⟨qz_aload_n C (show decode c_X11_tellsAll 163 = .ok (.aload_n 0, 1) by decide +kernel) rfl,
  List.forall_mem_cons.mpr ⟨qz_vI C (show decode c_X11_tellsAll 164 = .ok (.invokevirtual 177, 3) by decide +kernel) ct_X11_states mv_X11_states cw_1269 vcX11 (show 1 < 5 by omega),
  List.forall_mem_cons.mpr ⟨qz_icge C (show decode c_X11_tellsAll 167 = .ok (.if_icmp .ge 83, 3) by decide +kernel) (by decide),
  List.forall_mem_cons.mpr ⟨qz_aload_n C (show decode c_X11_tellsAll 170 = .ok (.aload_n 0, 1) by decide +kernel) rfl,
  List.forall_mem_cons.mpr ⟨qz_iload C (show decode c_X11_tellsAll 171 = .ok (.iload 4, 2) by decide +kernel),
  List.forall_mem_cons.mpr ⟨qz_iload C (show decode c_X11_tellsAll 173 = .ok (.iload 5, 2) by decide +kernel),
  List.forall_mem_cons.mpr ⟨qz_vI C (show decode c_X11_tellsAll 175 = .ok (.invokevirtual 250, 3) by decide +kernel) ct_X11_partedIn mv_X11_partedIn cw_1350 vcX11 (show 2 < 5 by omega),
  List.forall_mem_cons.mpr ⟨qz_iload_n C (show decode c_X11_tellsAll 178 = .ok (.iload_n 2, 1) by decide +kernel) rfl,
  List.forall_mem_cons.mpr ⟨qz_icne C (show decode c_X11_tellsAll 179 = .ok (.if_icmp .ne 71, 3) by decide +kernel) (by decide),
  List.forall_mem_cons.mpr ⟨qz_aload_n C (show decode c_X11_tellsAll 182 = .ok (.aload_n 0, 1) by decide +kernel) rfl,
  List.forall_mem_cons.mpr ⟨qz_gf (k := 27) C (show decode c_X11_tellsAll 183 = .ok (.getfield 63, 3) by decide +kernel) vcX11 wiX11 (by decide) cw_1045,
  List.forall_mem_cons.mpr ⟨qz_iload_n C (show decode c_X11_tellsAll 186 = .ok (.iload_n 3, 1) by decide +kernel) rfl,
  List.forall_mem_cons.mpr ⟨qz_iald C (show decode c_X11_tellsAll 187 = .ok (.iaload, 1) by decide +kernel),
  List.forall_mem_cons.mpr ⟨qz_ldc C (show decode c_X11_tellsAll 188 = .ok (.ldc 78, 2) by decide +kernel) cw_1017,
  List.forall_mem_cons.mpr ⟨qz_icne C (show decode c_X11_tellsAll 190 = .ok (.if_icmp .ne 60, 3) by decide +kernel) (by decide),
  List.forall_mem_cons.mpr ⟨qz_bipush C (show decode c_X11_tellsAll 193 = .ok (.bipush 10, 2) by decide +kernel) (by decide +kernel),
  List.forall_mem_cons.mpr ⟨qz_iload C (show decode c_X11_tellsAll 195 = .ok (.iload 5, 2) by decide +kernel),
  List.forall_mem_cons.mpr ⟨qz_imul C (show decode c_X11_tellsAll 197 = .ok (.imul, 1) by decide +kernel),
  List.forall_mem_cons.mpr ⟨qz_iload C (show decode c_X11_tellsAll 198 = .ok (.iload 4, 2) by decide +kernel),
  List.forall_mem_cons.mpr ⟨qz_iadd C (show decode c_X11_tellsAll 200 = .ok (.iadd, 1) by decide +kernel),
  List.forall_mem_cons.mpr ⟨qz_istore C (show decode c_X11_tellsAll 201 = .ok (.istore 6, 2) by decide +kernel),
  List.forall_mem_cons.mpr ⟨qz_aload_n C (show decode c_X11_tellsAll 203 = .ok (.aload_n 0, 1) by decide +kernel) rfl,
  List.forall_mem_cons.mpr ⟨qz_gf (k := 25) C (show decode c_X11_tellsAll 204 = .ok (.getfield 57, 3) by decide +kernel) vcX11 wiX11 (by decide) cw_1043,
  List.forall_mem_cons.mpr ⟨qz_iload_n C (show decode c_X11_tellsAll 207 = .ok (.iload_n 3, 1) by decide +kernel) rfl,
  List.forall_mem_cons.mpr ⟨qz_aload_n C (show decode c_X11_tellsAll 208 = .ok (.aload_n 0, 1) by decide +kernel) rfl,
  List.forall_mem_cons.mpr ⟨qz_gf (k := 25) C (show decode c_X11_tellsAll 209 = .ok (.getfield 57, 3) by decide +kernel) vcX11 wiX11 (by decide) cw_1043,
  List.forall_mem_cons.mpr ⟨qz_iload C (show decode c_X11_tellsAll 212 = .ok (.iload 6, 2) by decide +kernel),
  List.forall_mem_cons.mpr ⟨qz_iald C (show decode c_X11_tellsAll 214 = .ok (.iaload, 1) by decide +kernel),
  List.forall_mem_cons.mpr ⟨qz_sipush C (show decode c_X11_tellsAll 215 = .ok (.sipush 9998, 3) by decide +kernel) (by decide +kernel),
  List.forall_mem_cons.mpr ⟨qz_icle C (show decode c_X11_tellsAll 218 = .ok (.if_icmp .le 9, 3) by decide +kernel) (by decide),
  (fun q h => by cases h)⟩⟩⟩⟩⟩⟩⟩⟩⟩⟩⟩⟩⟩⟩⟩⟩⟩⟩⟩⟩⟩⟩⟩⟩⟩⟩⟩⟩⟩⟩⟩⟩⟩⟩⟩⟩⟩⟩⟩⟩
set_option maxRecDepth 20000 in
theorem sd_X11_tellsAll_3 {G : pj_E} {A : Nat → Prop} {P : pj_P} {S : pj_U} {Z : pj_Z} (C : pj_C (G, A, (c_X11_tellsAll, y_X11_tellsAll.cls, 7, none, 5), P, S, Z)) : ∀ q ∈ tb_X11_tellsAll_3, pj_S (G, A, (c_X11_tellsAll, y_X11_tellsAll.cls, 7, none, 5), P, S, Z) pj_eV q.1 q.2 :=
  List.forall_mem_cons.mpr ⟨qz_sipush C (show decode c_X11_tellsAll 221 = .ok (.sipush 10000, 3) by decide +kernel) (by decide +kernel),
  List.forall_mem_cons.mpr ⟨qz_goto C (show decode c_X11_tellsAll 224 = .ok (.goto 12, 3) by decide +kernel) (by decide),
  List.forall_mem_cons.mpr ⟨qz_aload_n C (show decode c_X11_tellsAll 227 = .ok (.aload_n 0, 1) by decide +kernel) rfl,
  List.forall_mem_cons.mpr ⟨qz_gf (k := 25) C (show decode c_X11_tellsAll 228 = .ok (.getfield 57, 3) by decide +kernel) vcX11 wiX11 (by decide) cw_1043,
  List.forall_mem_cons.mpr ⟨qz_iload C (show decode c_X11_tellsAll 231 = .ok (.iload 6, 2) by decide +kernel),
  List.forall_mem_cons.mpr ⟨qz_iald C (show decode c_X11_tellsAll 233 = .ok (.iaload, 1) by decide +kernel),
  List.forall_mem_cons.mpr ⟨qz_iconst C (show decode c_X11_tellsAll 234 = .ok (.iconst 1, 1) by decide +kernel) (by decide +kernel),
  List.forall_mem_cons.mpr ⟨qz_iadd C (show decode c_X11_tellsAll 235 = .ok (.iadd, 1) by decide +kernel),
  List.forall_mem_cons.mpr ⟨qz_iast C (show decode c_X11_tellsAll 236 = .ok (.iastore, 1) by decide +kernel),
  List.forall_mem_cons.mpr ⟨qz_aload_n C (show decode c_X11_tellsAll 237 = .ok (.aload_n 0, 1) by decide +kernel) rfl,
  List.forall_mem_cons.mpr ⟨qz_gf (k := 26) C (show decode c_X11_tellsAll 238 = .ok (.getfield 60, 3) by decide +kernel) vcX11 wiX11 (by decide) cw_1044,
  List.forall_mem_cons.mpr ⟨qz_iload_n C (show decode c_X11_tellsAll 241 = .ok (.iload_n 3, 1) by decide +kernel) rfl,
  List.forall_mem_cons.mpr ⟨qz_aload_n C (show decode c_X11_tellsAll 242 = .ok (.aload_n 0, 1) by decide +kernel) rfl,
  List.forall_mem_cons.mpr ⟨qz_gf (k := 26) C (show decode c_X11_tellsAll 243 = .ok (.getfield 60, 3) by decide +kernel) vcX11 wiX11 (by decide) cw_1044,
  List.forall_mem_cons.mpr ⟨qz_iload C (show decode c_X11_tellsAll 246 = .ok (.iload 6, 2) by decide +kernel),
  List.forall_mem_cons.mpr ⟨qz_iald C (show decode c_X11_tellsAll 248 = .ok (.iaload, 1) by decide +kernel),
  List.forall_mem_cons.mpr ⟨qz_iast C (show decode c_X11_tellsAll 249 = .ok (.iastore, 1) by decide +kernel),
  List.forall_mem_cons.mpr ⟨qz_iinc C (show decode c_X11_tellsAll 250 = .ok (.iinc 3 1, 3) by decide +kernel) (by decide +kernel),
  List.forall_mem_cons.mpr ⟨qz_goto C (show decode c_X11_tellsAll 253 = .ok (.goto (-123), 3) by decide +kernel) (by decide),
  List.forall_mem_cons.mpr ⟨qz_iinc C (show decode c_X11_tellsAll 256 = .ok (.iinc 2 1, 3) by decide +kernel) (by decide +kernel),
  List.forall_mem_cons.mpr ⟨qz_goto C (show decode c_X11_tellsAll 259 = .ok (.goto (-257), 3) by decide +kernel) (by decide),
  List.forall_mem_cons.mpr ⟨qz_vret C (show decode c_X11_tellsAll 262 = .ok (.return_, 1) by decide +kernel) rfl,
  (fun q h => by cases h)⟩⟩⟩⟩⟩⟩⟩⟩⟩⟩⟩⟩⟩⟩⟩⟩⟩⟩⟩⟩⟩⟩
theorem sd_X11_tellsAll {G : pj_E} {A : Nat → Prop} {P : pj_P} {S : pj_U} {Z : pj_Z} (C : pj_C (G, A, (c_X11_tellsAll, y_X11_tellsAll.cls, 7, none, 5), P, S, Z)) : ∀ q ∈ tb_X11_tellsAll, pj_S (G, A, (c_X11_tellsAll, y_X11_tellsAll.cls, 7, none, 5), P, S, Z) pj_eV q.1 q.2 := List.forall_mem_append.mpr ⟨sd_X11_tellsAll_0 C, List.forall_mem_append.mpr ⟨sd_X11_tellsAll_1 C, List.forall_mem_append.mpr ⟨sd_X11_tellsAll_2 C, sd_X11_tellsAll_3 C⟩⟩⟩
noncomputable def C_X11_tellsAll_130 (f : Int32 → Int32 → Int32 → pj_M → Option (pj_M)) : pj_N (pj_M) := fun L st m => match L, st with
  | [some (.inr (.inr (t0, w0, a0))), some (.inl x1), some (.inl x2), some (.inl x3), _, _, _], [] => (match Nat.beq t0 0 && (Nat.beq w0 11 && (Nat.beq a0 72)) with
    | true => f x1 x2 x3 m
    | false => none)
  | _, _ => none
noncomputable def C_X11_tellsAll_23 (f : Int32 → Int32 → Int32 → Int32 → pj_M → Option (pj_M)) : pj_N (pj_M) := fun L st m => match L, st with
  | [some (.inr (.inr (t0, w0, a0))), some (.inl x1), some (.inl x2), some (.inl x3), some (.inl x4), _, _], [] => (match Nat.beq t0 0 && (Nat.beq w0 11 && (Nat.beq a0 72)) with
    | true => f x1 x2 x3 x4 m
    | false => none)
  | _, _ => none
noncomputable def C_X11_tellsAll_12 (f : Int32 → Int32 → Int32 → pj_M → Option (pj_M)) : pj_N (pj_M) := fun L st m => match L, st with
  | [some (.inr (.inr (t0, w0, a0))), some (.inl x1), some (.inl x2), some (.inl x3), _, _, _], [] => (match Nat.beq t0 0 && (Nat.beq w0 11 && (Nat.beq a0 72)) with
    | true => f x1 x2 x3 m
    | false => none)
  | _, _ => none
noncomputable def C_X11_tellsAll_2 (f : Int32 → Int32 → pj_M → Option (pj_M)) : pj_N (pj_M) := fun L st m => match L, st with
  | [some (.inr (.inr (t0, w0, a0))), some (.inl x1), some (.inl x2), _, _, _, _], [] => (match Nat.beq t0 0 && (Nat.beq w0 11 && (Nat.beq a0 72)) with
    | true => f x1 x2 m
    | false => none)
  | _, _ => none
set_option maxRecDepth 20000 in
theorem eq_X11_tellsAll_130 (k2 : Int32 → Int32 → pj_M → Option (pj_M)) (n1 : Nat) (x1 : Int32) (x2 : Int32) (x3 : Int32) (d4 d5 d6 : Option pj_V) (m : pj_M) : pj_run tb_X11_tellsAll [(2, C_X11_tellsAll_2 k2), (130, C_X11_tellsAll_130 (H_X11_tellsAll_130 k2 n1))] 144 130 [some (.inr (.inr (0, 11, 72))), some (.inl x1), some (.inl x2), some (.inl x3), d4, d5, d6] [] m = H_X11_tellsAll_130 k2 (n1 + 1) x1 x2 x3 m := by rfl
theorem sg_X11_tellsAll_130 {G : pj_E} {A : Nat → Prop} {P : pj_P} {S : pj_U} {Z : pj_Z} (C : pj_C (G, A, (c_X11_tellsAll, y_X11_tellsAll.cls, 7, none, 5), P, S, Z)) {k2 : Int32 → Int32 → pj_M → Option (pj_M)} (hk2 : pj_G (G, A, (c_X11_tellsAll, y_X11_tellsAll.cls, 7, none, 5), P, S, Z) pj_eV 2 (C_X11_tellsAll_2 k2)) : ∀ n1, pj_G (G, A, (c_X11_tellsAll, y_X11_tellsAll.cls, 7, none, 5), P, S, Z) pj_eV 130 (C_X11_tellsAll_130 (H_X11_tellsAll_130 k2 n1)) := by
  intro n1
  induction n1 with
  | zero =>
    intro L st m r h hR
    unfold C_X11_tellsAll_130 at h
    split at h
    · split at h
      · cases h
      · cases h
    · cases h
  | succ n1 ih1 =>
    intro L st m r h hR
    unfold C_X11_tellsAll_130 at h
    split at h
    · split at h
      · rename_i hbq
        simp only [Bool.and_eq_true, Nat.beq_eq] at hbq
        obtain ⟨rfl, rfl, rfl⟩ := hbq
        exact pj_run_ok (sd_X11_tellsAll C) (List.forall_mem_cons.mpr ⟨hk2, List.forall_mem_cons.mpr ⟨ih1, fun q h => by cases h⟩⟩) 144 130 _ _ _ _ ((eq_X11_tellsAll_130 _ _ _ _ _ _ _ _ _).trans h) hR
      · cases h
    · cases h
set_option maxRecDepth 20000 in
theorem eq_X11_tellsAll_23 (k2 : Int32 → Int32 → pj_M → Option (pj_M)) (k12 : Int32 → Int32 → Int32 → pj_M → Option (pj_M)) (n1 : Nat) (x1 : Int32) (x2 : Int32) (x3 : Int32) (x4 : Int32) (d5 d6 : Option pj_V) (m : pj_M) : pj_run tb_X11_tellsAll [(12, C_X11_tellsAll_12 k12), (23, C_X11_tellsAll_23 (H_X11_tellsAll_23 k2 k12 n1))] 144 23 [some (.inr (.inr (0, 11, 72))), some (.inl x1), some (.inl x2), some (.inl x3), some (.inl x4), d5, d6] [] m = H_X11_tellsAll_23 k2 k12 (n1 + 1) x1 x2 x3 x4 m := by rfl
theorem sg_X11_tellsAll_23 {G : pj_E} {A : Nat → Prop} {P : pj_P} {S : pj_U} {Z : pj_Z} (C : pj_C (G, A, (c_X11_tellsAll, y_X11_tellsAll.cls, 7, none, 5), P, S, Z)) {k2 : Int32 → Int32 → pj_M → Option (pj_M)} (hk2 : pj_G (G, A, (c_X11_tellsAll, y_X11_tellsAll.cls, 7, none, 5), P, S, Z) pj_eV 2 (C_X11_tellsAll_2 k2)) {k12 : Int32 → Int32 → Int32 → pj_M → Option (pj_M)} (hk12 : pj_G (G, A, (c_X11_tellsAll, y_X11_tellsAll.cls, 7, none, 5), P, S, Z) pj_eV 12 (C_X11_tellsAll_12 k12)) : ∀ n1, pj_G (G, A, (c_X11_tellsAll, y_X11_tellsAll.cls, 7, none, 5), P, S, Z) pj_eV 23 (C_X11_tellsAll_23 (H_X11_tellsAll_23 k2 k12 n1)) := by
  intro n1
  induction n1 with
  | zero =>
    intro L st m r h hR
    unfold C_X11_tellsAll_23 at h
    split at h
    · split at h
      · cases h
      · cases h
    · cases h
  | succ n1 ih1 =>
    intro L st m r h hR
    unfold C_X11_tellsAll_23 at h
    split at h
    · split at h
      · rename_i hbq
        simp only [Bool.and_eq_true, Nat.beq_eq] at hbq
        obtain ⟨rfl, rfl, rfl⟩ := hbq
        exact pj_run_ok (sd_X11_tellsAll C) (List.forall_mem_cons.mpr ⟨hk12, List.forall_mem_cons.mpr ⟨ih1, fun q h => by cases h⟩⟩) 144 23 _ _ _ _ ((eq_X11_tellsAll_23 _ _ _ _ _ _ _ _ _ _).trans h) hR
      · cases h
    · cases h
set_option maxRecDepth 20000 in
theorem eq_X11_tellsAll_12 (k2 : Int32 → Int32 → pj_M → Option (pj_M)) (n1 : Nat) (x1 : Int32) (x2 : Int32) (x3 : Int32) (d4 d5 d6 : Option pj_V) (m : pj_M) : pj_run tb_X11_tellsAll [(23, C_X11_tellsAll_23 (H_X11_tellsAll_23 k2 (H_X11_tellsAll_12 k2 n1) pj_z)), (130, C_X11_tellsAll_130 (H_X11_tellsAll_130 k2 pj_z))] 144 12 [some (.inr (.inr (0, 11, 72))), some (.inl x1), some (.inl x2), some (.inl x3), d4, d5, d6] [] m = H_X11_tellsAll_12 k2 (n1 + 1) x1 x2 x3 m := by rfl
theorem sg_X11_tellsAll_12 {G : pj_E} {A : Nat → Prop} {P : pj_P} {S : pj_U} {Z : pj_Z} (C : pj_C (G, A, (c_X11_tellsAll, y_X11_tellsAll.cls, 7, none, 5), P, S, Z)) {k2 : Int32 → Int32 → pj_M → Option (pj_M)} (hk2 : pj_G (G, A, (c_X11_tellsAll, y_X11_tellsAll.cls, 7, none, 5), P, S, Z) pj_eV 2 (C_X11_tellsAll_2 k2)) : ∀ n1, pj_G (G, A, (c_X11_tellsAll, y_X11_tellsAll.cls, 7, none, 5), P, S, Z) pj_eV 12 (C_X11_tellsAll_12 (H_X11_tellsAll_12 k2 n1)) := by
  intro n1
  induction n1 with
  | zero =>
    intro L st m r h hR
    unfold C_X11_tellsAll_12 at h
    split at h
    · split at h
      · cases h
      · cases h
    · cases h
  | succ n1 ih1 =>
    intro L st m r h hR
    unfold C_X11_tellsAll_12 at h
    split at h
    · split at h
      · rename_i hbq
        simp only [Bool.and_eq_true, Nat.beq_eq] at hbq
        obtain ⟨rfl, rfl, rfl⟩ := hbq
        exact pj_run_ok (sd_X11_tellsAll C) (List.forall_mem_cons.mpr ⟨sg_X11_tellsAll_23 C hk2 ih1 pj_z, List.forall_mem_cons.mpr ⟨sg_X11_tellsAll_130 C hk2 pj_z, fun q h => by cases h⟩⟩) 144 12 _ _ _ _ ((eq_X11_tellsAll_12 _ _ _ _ _ _ _ _ _).trans h) hR
      · cases h
    · cases h
set_option maxRecDepth 20000 in
theorem eq_X11_tellsAll_2 (n1 : Nat) (x1 : Int32) (x2 : Int32) (d3 d4 d5 d6 : Option pj_V) (m : pj_M) : pj_run tb_X11_tellsAll [(12, C_X11_tellsAll_12 (H_X11_tellsAll_12 (H_X11_tellsAll_2 n1) pj_z))] 144 2 [some (.inr (.inr (0, 11, 72))), some (.inl x1), some (.inl x2), d3, d4, d5, d6] [] m = H_X11_tellsAll_2 (n1 + 1) x1 x2 m := by rfl
theorem sg_X11_tellsAll_2 {G : pj_E} {A : Nat → Prop} {P : pj_P} {S : pj_U} {Z : pj_Z} (C : pj_C (G, A, (c_X11_tellsAll, y_X11_tellsAll.cls, 7, none, 5), P, S, Z)) : ∀ n1, pj_G (G, A, (c_X11_tellsAll, y_X11_tellsAll.cls, 7, none, 5), P, S, Z) pj_eV 2 (C_X11_tellsAll_2 (H_X11_tellsAll_2 n1)) := by
  intro n1
  induction n1 with
  | zero =>
    intro L st m r h hR
    unfold C_X11_tellsAll_2 at h
    split at h
    · split at h
      · cases h
      · cases h
    · cases h
  | succ n1 ih1 =>
    intro L st m r h hR
    unfold C_X11_tellsAll_2 at h
    split at h
    · split at h
      · rename_i hbq
        simp only [Bool.and_eq_true, Nat.beq_eq] at hbq
        obtain ⟨rfl, rfl, rfl⟩ := hbq
        exact pj_run_ok (sd_X11_tellsAll C) (List.forall_mem_cons.mpr ⟨sg_X11_tellsAll_12 C ih1 pj_z, fun q h => by cases h⟩) 144 2 _ _ _ _ ((eq_X11_tellsAll_2 _ _ _ _ _ _ _ _).trans h) hR
      · cases h
    · cases h
set_option maxRecDepth 20000 in
theorem eq_X11_tellsAll (x1 : Int32) (m : pj_M) : pj_run tb_X11_tellsAll [(2, C_X11_tellsAll_2 (H_X11_tellsAll_2  pj_z))] 144 0 [some (.inr (.inr (0, 11, 72))), some (.inl x1), none, none, none, none, none] [] m = F_X11_tellsAll x1 m := by rfl
theorem ct_X11_tellsAll : pj_Ct pj_eV y_X11_tellsAll c_X11_tellsAll 7 none 5 W_X11_tellsAll := by
  refine pj_ct_of (by decide +kernel) ?_ ?_
  · intro as m r h
    unfold W_X11_tellsAll at h
    split at h
    · simp [pj_l0]
    · cases h
  · intro G A P S Z C as m r h hR
    unfold W_X11_tellsAll at h
    split at h
    · split at h
      · rename_i hbq
        simp only [Bool.and_eq_true, Nat.beq_eq] at hbq
        obtain ⟨rfl, rfl, rfl⟩ := hbq
        exact pj_run_ok (sd_X11_tellsAll C) (List.forall_mem_cons.mpr ⟨sg_X11_tellsAll_2 C  pj_z, fun q h => by cases h⟩) 144 0 _ _ _ _ ((eq_X11_tellsAll _ _).trans h) hR
      · cases h
    · cases h
/-! AlikeStepsModel.codeAt(IIII)I -/
abbrev c_X11_codeAt : ByteArray := prog_13_method_66_code
def y_X11_codeAt : MethodName := ⟨RX11, "codeAt", "(IIII)I"⟩
noncomputable def J_X11_codeAt_218 (k10 : Int32 → Int32 → Int32 → Int32 → pj_M → Option (Int32 × pj_M)) (x1 : Int32) (x7 : Int32) (x8 : Int32) (x10 : Int32) (m : pj_M) : Option (Int32 × pj_M) := (if x8 < 0 ∨ 100 ≤ x8.toNatClampNeg then none else (k10 x1 (m.1 91 x8.toNatClampNeg) x10 x7 m))
noncomputable def J_X11_codeAt_175 (k10 : Int32 → Int32 → Int32 → Int32 → pj_M → Option (Int32 × pj_M)) (k142 : Int32 → Int32 → Int32 → Int32 → Int32 → pj_M → Option (Int32 × pj_M)) (x1 : Int32) (x7 : Int32) (x8 : Int32) (x9 : Int32) (x10 : Int32) (m : pj_M) : Option (Int32 × pj_M) := ((F_X11_has x9 x10 m).bind fun q1 => (if q1.1 = 0 then (k142 x1 (x7 - 0) x8 x9 (x10 + 1) q1.2) else (if x8 < 0 ∨ 100 ≤ x8.toNatClampNeg then none else (if ((10 * (q1.2.1 91 x8.toNatClampNeg)) + x10) < 0 ∨ 100 ≤ ((10 * (q1.2.1 91 x8.toNatClampNeg)) + x10).toNatClampNeg then none else (k142 x1 (x7 - (q1.2.1 88 ((10 * (q1.2.1 91 x8.toNatClampNeg)) + x10).toNatClampNeg)) x8 x9 (x10 + 1) q1.2)))))
noncomputable def H_X11_codeAt_142 (k10 : Int32 → Int32 → Int32 → Int32 → pj_M → Option (Int32 × pj_M)) : Nat → Int32 → Int32 → Int32 → Int32 → Int32 → pj_M → Option (Int32 × pj_M)
  | 0, _, _, _, _, _, _ => none
  | n1 + 1, x1, x7, x8, x9, x10, m => ((F_X11_has x9 x10 m).bind fun q1 => (if q1.1 = 0 then (J_X11_codeAt_175 k10 (H_X11_codeAt_142 k10 n1) x1 x7 x8 x9 x10 q1.2) else (if x8 < 0 ∨ 100 ≤ x8.toNatClampNeg then none else (if ((10 * (q1.2.1 91 x8.toNatClampNeg)) + x10) < 0 ∨ 100 ≤ ((10 * (q1.2.1 91 x8.toNatClampNeg)) + x10).toNatClampNeg then none else (if x7 < (q1.2.1 88 ((10 * (q1.2.1 91 x8.toNatClampNeg)) + x10).toNatClampNeg) then (J_X11_codeAt_218 k10 x1 x7 x8 x10 q1.2) else (J_X11_codeAt_175 k10 (H_X11_codeAt_142 k10 n1) x1 x7 x8 x9 x10 q1.2))))))
noncomputable def J_X11_codeAt_127 (x9 : Int32) (m : pj_M) : Option (Int32 × pj_M) := ((F_X11_sizeOf x9 m).bind fun q1 => (some (10 + q1.1, q1.2)))
noncomputable def J_X11_codeAt_113 (x8 : Int32) (m : pj_M) : Option (Int32 × pj_M) := (if x8 < 0 ∨ 100 ≤ x8.toNatClampNeg then none else (some (m.1 90 x8.toNatClampNeg, m)))
noncomputable def J_X11_codeAt_31 (x5 : Int32) (x7 : Int32) (m : pj_M) : Option (Int32 × pj_M) := ((F_X11_isMarked x5 m).bind fun q1 => (if q1.1 = 0 then (if x7 = 1 then (some (30, q1.2)) else (some (20, q1.2))) else (some (30, q1.2))))
noncomputable def H_X11_codeAt_10 : Nat → Int32 → Int32 → Int32 → Int32 → pj_M → Option (Int32 × pj_M)
  | 0, _, _, _, _, _ => none
  | n1 + 1, x1, x5, x6, x7, m => ((F_X11_partedIn x5 x6 m).bind fun q1 => (if q1.1 = 0 then (J_X11_codeAt_31 x5 x7 q1.2) else (if ((10 * x5) + x6) < 0 ∨ 100 ≤ ((10 * x5) + x6).toNatClampNeg then none else (if (q1.2.1 90 ((10 * x5) + x6).toNatClampNeg) = (-1000000) then (if x7 = 0 then (some (20, q1.2)) else (H_X11_codeAt_10 n1 x1 x6 x5 (x7 - 1) q1.2)) else (if ((10 * x5) + x6) < 0 ∨ 100 ≤ ((10 * x5) + x6).toNatClampNeg then none else ((F_X11_moving x1 x6 (q1.2.1 90 ((10 * x5) + x6).toNatClampNeg) q1.2).bind fun q2 => (if x7 = 0 then (J_X11_codeAt_113 ((10 * x5) + x6) q2.2) else (if x7 = 1 then (J_X11_codeAt_127 q2.1 q2.2) else (H_X11_codeAt_142 (H_X11_codeAt_10 n1) pj_z x1 (x7 - 2) ((10 * x5) + x6) q2.1 0 q2.2)))))))))
noncomputable def F_X11_codeAt (x1 : Int32) (x2 : Int32) (x3 : Int32) (x4 : Int32) (m : pj_M) : Option (Int32 × pj_M) := (H_X11_codeAt_10 pj_z x1 x2 x3 x4 m)
noncomputable def W_X11_codeAt : List pj_V → pj_M → Option (Int32 × pj_M) := fun as m => match as with
  | [.inr (.inr (t0, w0, a0)), .inl x1, .inl x2, .inl x3, .inl x4] => (match Nat.beq t0 0 && (Nat.beq w0 11 && (Nat.beq a0 72)) with
    | true => F_X11_codeAt x1 x2 x3 x4 m
    | false => none)
  | _ => none
noncomputable def tb_X11_codeAt_0 : List (Nat × pj_T (Int32 × pj_M)) := [(0, qs_ldi 2 1), (1, qs_sti 5 3), (3, qs_ldi 3 4), (4, qs_sti 6 6), (6, qs_ldi 4 8), (8, qs_sti 7 10), (10, qs_ci 10 12), (12, qs_ldi 5 14), (14, qs_b2 (fun x y => x * y) 15), (15, qs_ldi 6 17), (17, qs_b2 (fun x y => x + y) 18), (18, qs_sti 8 20), (20, qs_lda 0 21), (21, qs_ldi 5 23), (23, qs_ldi 6 25), (25, qs_vI 11 3 W_X11_partedIn 28), (28, qs_ifne 54 31), (31, qs_lda 0 32), (32, qs_ldi 5 34), (34, qs_vI 11 2 W_X11_isMarked 37), (37, qs_ifne 46 40), (40, qs_ldi 7 42), (42, qs_ci 1 43), (43, qs_icne 51 46), (46, qs_ci 30 48), (48, qs_go 53), (51, qs_ci 20 53), (53, qs_iret), (54, qs_lda 0 55), (55, qs_gf 11 27 58), (58, qs_ldi 8 60), (60, qs_iald 61), (61, qs_ci (-1000000) 63), (63, qs_icne 92 66), (66, qs_ldi 7 68), (68, qs_ifne 74 71), (71, qs_ci 20 73), (73, qs_iret), (74, qs_dec 7 1 77), (77, qs_ldi 5 79)]
noncomputable def tb_X11_codeAt_1 : List (Nat × pj_T (Int32 × pj_M)) := [(79, qs_sti 9 81), (81, qs_ldi 6 83), (83, qs_sti 5 85), (85, qs_ldi 9 87), (87, qs_sti 6 89), (89, qs_go 231), (92, qs_lda 0 93), (93, qs_ldi 1 94), (94, qs_ldi 6 96), (96, qs_lda 0 97), (97, qs_gf 11 27 100), (100, qs_ldi 8 102), (102, qs_iald 103), (103, qs_vI 11 4 W_X11_moving 106), (106, qs_sti 9 108), (108, qs_ldi 7 110), (110, qs_ifne 121 113), (113, qs_lda 0 114), (114, qs_gf 11 27 117), (117, qs_ldi 8 119), (119, qs_iald 120), (120, qs_iret), (121, qs_ldi 7 123), (123, qs_ci 1 124), (124, qs_icne 136 127), (127, qs_ci 10 129), (129, qs_ldi 9 131), (131, qs_sI 1 W_X11_sizeOf 134), (134, qs_b2 (fun x y => x + y) 135), (135, qs_iret), (136, qs_dec 7 2 139), (139, qs_ci 0 140), (140, qs_sti 10 142), (142, qs_ldi 9 144), (144, qs_ldi 10 146), (146, qs_sI 2 W_X11_has 149), (149, qs_ifeq 175 152), (152, qs_ldi 7 154), (154, qs_lda 0 155), (155, qs_gf 11 25 158)]
noncomputable def tb_X11_codeAt_2 : List (Nat × pj_T (Int32 × pj_M)) := [(158, qs_ci 10 160), (160, qs_lda 0 161), (161, qs_gf 11 28 164), (164, qs_ldi 8 166), (166, qs_iald 167), (167, qs_b2 (fun x y => x * y) 168), (168, qs_ldi 10 170), (170, qs_b2 (fun x y => x + y) 171), (171, qs_iald 172), (172, qs_iclt 218 175), (175, qs_ldi 7 177), (177, qs_ldi 9 179), (179, qs_ldi 10 181), (181, qs_sI 2 W_X11_has 184), (184, qs_ifeq 208 187), (187, qs_lda 0 188), (188, qs_gf 11 25 191), (191, qs_ci 10 193), (193, qs_lda 0 194), (194, qs_gf 11 28 197), (197, qs_ldi 8 199), (199, qs_iald 200), (200, qs_b2 (fun x y => x * y) 201), (201, qs_ldi 10 203), (203, qs_b2 (fun x y => x + y) 204), (204, qs_iald 205), (205, qs_go 209), (208, qs_ci 0 209), (209, qs_b2 (fun x y => x - y) 210), (210, qs_sti 7 212), (212, qs_inc 10 1 215), (215, qs_go 142), (218, qs_lda 0 219), (219, qs_gf 11 28 222), (222, qs_ldi 8 224), (224, qs_iald 225), (225, qs_sti 5 227), (227, qs_ldi 10 229), (229, qs_sti 6 231), (231, qs_go 10)]
noncomputable def tb_X11_codeAt : List (Nat × pj_T (Int32 × pj_M)) := tb_X11_codeAt_0 ++ (tb_X11_codeAt_1 ++ (tb_X11_codeAt_2))
theorem mv_X11_codeAt : pj_mv y_X11_codeAt c_X11_codeAt 11 (some .int) 4 := ⟨⟨cw_1377, cw_1376, cw_68, cw_92⟩, by decide +kernel, by decide⟩
set_option maxRecDepth 20000 in
theorem sd_X11_codeAt_0 {G : pj_E} {A : Nat → Prop} {P : pj_P} {S : pj_U} {Z : pj_Z} (C : pj_C (G, A, (c_X11_codeAt, y_X11_codeAt.cls, 11, (some .int), 4), P, S, Z)) : ∀ q ∈ tb_X11_codeAt_0, pj_S (G, A, (c_X11_codeAt, y_X11_codeAt.cls, 11, (some .int), 4), P, S, Z) pj_eI q.1 q.2 :=
  List.forall_mem_cons.mpr ⟨qz_iload_n C (show decode c_X11_codeAt 0 = .ok (.iload_n 2, 1) by decide +kernel) rfl,
  List.forall_mem_cons.mpr ⟨qz_istore C (show decode c_X11_codeAt 1 = .ok (.istore 5, 2) by decide +kernel),
  List.forall_mem_cons.mpr ⟨qz_iload_n C (show decode c_X11_codeAt 3 = .ok (.iload_n 3, 1) by decide +kernel) rfl,
  List.forall_mem_cons.mpr ⟨qz_istore C (show decode c_X11_codeAt 4 = .ok (.istore 6, 2) by decide +kernel),
  List.forall_mem_cons.mpr ⟨qz_iload C (show decode c_X11_codeAt 6 = .ok (.iload 4, 2) by decide +kernel),
  List.forall_mem_cons.mpr ⟨qz_istore C (show decode c_X11_codeAt 8 = .ok (.istore 7, 2) by decide +kernel),
  List.forall_mem_cons.mpr ⟨qz_bipush C (show decode c_X11_codeAt 10 = .ok (.bipush 10, 2) by decide +kernel) (by decide +kernel),
  List.forall_mem_cons.mpr ⟨qz_iload C (show decode c_X11_codeAt 12 = .ok (.iload 5, 2) by decide +kernel),
  List.forall_mem_cons.mpr ⟨qz_imul C (show decode c_X11_codeAt 14 = .ok (.imul, 1) by decide +kernel),
  List.forall_mem_cons.mpr ⟨qz_iload C (show decode c_X11_codeAt 15 = .ok (.iload 6, 2) by decide +kernel),
  List.forall_mem_cons.mpr ⟨qz_iadd C (show decode c_X11_codeAt 17 = .ok (.iadd, 1) by decide +kernel),
  List.forall_mem_cons.mpr ⟨qz_istore C (show decode c_X11_codeAt 18 = .ok (.istore 8, 2) by decide +kernel),
  List.forall_mem_cons.mpr ⟨qz_aload_n C (show decode c_X11_codeAt 20 = .ok (.aload_n 0, 1) by decide +kernel) rfl,
  List.forall_mem_cons.mpr ⟨qz_iload C (show decode c_X11_codeAt 21 = .ok (.iload 5, 2) by decide +kernel),
  List.forall_mem_cons.mpr ⟨qz_iload C (show decode c_X11_codeAt 23 = .ok (.iload 6, 2) by decide +kernel),
  List.forall_mem_cons.mpr ⟨qz_vI C (show decode c_X11_codeAt 25 = .ok (.invokevirtual 250, 3) by decide +kernel) ct_X11_partedIn mv_X11_partedIn cw_1350 vcX11 (show 2 < 4 by omega),
  List.forall_mem_cons.mpr ⟨qz_ifne C (show decode c_X11_codeAt 28 = .ok (.ifCond .ne 26, 3) by decide +kernel) (by decide),
  List.forall_mem_cons.mpr ⟨qz_aload_n C (show decode c_X11_codeAt 31 = .ok (.aload_n 0, 1) by decide +kernel) rfl,
  List.forall_mem_cons.mpr ⟨qz_iload C (show decode c_X11_codeAt 32 = .ok (.iload 5, 2) by decide +kernel),
  List.forall_mem_cons.mpr ⟨qz_vI C (show decode c_X11_codeAt 34 = .ok (.invokevirtual 210, 3) by decide +kernel) ct_X11_isMarked mv_X11_isMarked cw_1304 vcX11 (show 1 < 4 by omega),
  List.forall_mem_cons.mpr ⟨qz_ifne C (show decode c_X11_codeAt 37 = .ok (.ifCond .ne 9, 3) by decide +kernel) (by decide),
  List.forall_mem_cons.mpr ⟨qz_iload C (show decode c_X11_codeAt 40 = .ok (.iload 7, 2) by decide +kernel),
  List.forall_mem_cons.mpr ⟨qz_iconst C (show decode c_X11_codeAt 42 = .ok (.iconst 1, 1) by decide +kernel) (by decide +kernel),
  List.forall_mem_cons.mpr ⟨qz_icne C (show decode c_X11_codeAt 43 = .ok (.if_icmp .ne 8, 3) by decide +kernel) (by decide),
  List.forall_mem_cons.mpr ⟨qz_bipush C (show decode c_X11_codeAt 46 = .ok (.bipush 30, 2) by decide +kernel) (by decide +kernel),
  List.forall_mem_cons.mpr ⟨qz_goto C (show decode c_X11_codeAt 48 = .ok (.goto 5, 3) by decide +kernel) (by decide),
  List.forall_mem_cons.mpr ⟨qz_bipush C (show decode c_X11_codeAt 51 = .ok (.bipush 20, 2) by decide +kernel) (by decide +kernel),
  List.forall_mem_cons.mpr ⟨qz_iret C (show decode c_X11_codeAt 53 = .ok (.ireturn, 1) by decide +kernel) rfl,
  List.forall_mem_cons.mpr ⟨qz_aload_n C (show decode c_X11_codeAt 54 = .ok (.aload_n 0, 1) by decide +kernel) rfl,
  List.forall_mem_cons.mpr ⟨qz_gf (k := 27) C (show decode c_X11_codeAt 55 = .ok (.getfield 63, 3) by decide +kernel) vcX11 wiX11 (by decide) cw_1045,
  List.forall_mem_cons.mpr ⟨qz_iload C (show decode c_X11_codeAt 58 = .ok (.iload 8, 2) by decide +kernel),
  List.forall_mem_cons.mpr ⟨qz_iald C (show decode c_X11_codeAt 60 = .ok (.iaload, 1) by decide +kernel),
  List.forall_mem_cons.mpr ⟨qz_ldc C (show decode c_X11_codeAt 61 = .ok (.ldc 78, 2) by decide +kernel) cw_1017,
  List.forall_mem_cons.mpr ⟨qz_icne C (show decode c_X11_codeAt 63 = .ok (.if_icmp .ne 29, 3) by decide +kernel) (by decide),
  List.forall_mem_cons.mpr ⟨qz_iload C (show decode c_X11_codeAt 66 = .ok (.iload 7, 2) by decide +kernel),
  List.forall_mem_cons.mpr ⟨qz_ifne C (show decode c_X11_codeAt 68 = .ok (.ifCond .ne 6, 3) by decide +kernel) (by decide),
  List.forall_mem_cons.mpr ⟨qz_bipush C (show decode c_X11_codeAt 71 = .ok (.bipush 20, 2) by decide +kernel) (by decide +kernel),
  List.forall_mem_cons.mpr ⟨qz_iret C (show decode c_X11_codeAt 73 = .ok (.ireturn, 1) by decide +kernel) rfl,
  List.forall_mem_cons.mpr ⟨qz_idec C (show decode c_X11_codeAt 74 = .ok (.iinc 7 (-1), 3) by decide +kernel) (by decide +kernel),
  List.forall_mem_cons.mpr ⟨qz_iload C (show decode c_X11_codeAt 77 = .ok (.iload 5, 2) by decide +kernel),
  (fun q h => by cases h)⟩⟩⟩⟩⟩⟩⟩⟩⟩⟩⟩⟩⟩⟩⟩⟩⟩⟩⟩⟩⟩⟩⟩⟩⟩⟩⟩⟩⟩⟩⟩⟩⟩⟩⟩⟩⟩⟩⟩⟩
set_option maxRecDepth 20000 in
theorem sd_X11_codeAt_1 {G : pj_E} {A : Nat → Prop} {P : pj_P} {S : pj_U} {Z : pj_Z} (C : pj_C (G, A, (c_X11_codeAt, y_X11_codeAt.cls, 11, (some .int), 4), P, S, Z)) : ∀ q ∈ tb_X11_codeAt_1, pj_S (G, A, (c_X11_codeAt, y_X11_codeAt.cls, 11, (some .int), 4), P, S, Z) pj_eI q.1 q.2 :=
  List.forall_mem_cons.mpr ⟨qz_istore C (show decode c_X11_codeAt 79 = .ok (.istore 9, 2) by decide +kernel),
  List.forall_mem_cons.mpr ⟨qz_iload C (show decode c_X11_codeAt 81 = .ok (.iload 6, 2) by decide +kernel),
  List.forall_mem_cons.mpr ⟨qz_istore C (show decode c_X11_codeAt 83 = .ok (.istore 5, 2) by decide +kernel),
  List.forall_mem_cons.mpr ⟨qz_iload C (show decode c_X11_codeAt 85 = .ok (.iload 9, 2) by decide +kernel),
  List.forall_mem_cons.mpr ⟨qz_istore C (show decode c_X11_codeAt 87 = .ok (.istore 6, 2) by decide +kernel),
  List.forall_mem_cons.mpr ⟨qz_goto C (show decode c_X11_codeAt 89 = .ok (.goto 142, 3) by decide +kernel) (by decide),
  List.forall_mem_cons.mpr ⟨qz_aload_n C (show decode c_X11_codeAt 92 = .ok (.aload_n 0, 1) by decide +kernel) rfl,
  List.forall_mem_cons.mpr ⟨qz_iload_n C (show decode c_X11_codeAt 93 = .ok (.iload_n 1, 1) by decide +kernel) rfl,
  List.forall_mem_cons.mpr ⟨qz_iload C (show decode c_X11_codeAt 94 = .ok (.iload 6, 2) by decide +kernel),
  List.forall_mem_cons.mpr ⟨qz_aload_n C (show decode c_X11_codeAt 96 = .ok (.aload_n 0, 1) by decide +kernel) rfl,
  List.forall_mem_cons.mpr ⟨qz_gf (k := 27) C (show decode c_X11_codeAt 97 = .ok (.getfield 63, 3) by decide +kernel) vcX11 wiX11 (by decide) cw_1045,
  List.forall_mem_cons.mpr ⟨qz_iload C (show decode c_X11_codeAt 100 = .ok (.iload 8, 2) by decide +kernel),
  List.forall_mem_cons.mpr ⟨qz_iald C (show decode c_X11_codeAt 102 = .ok (.iaload, 1) by decide +kernel),
  List.forall_mem_cons.mpr ⟨qz_vI C (show decode c_X11_codeAt 103 = .ok (.invokevirtual 200, 3) by decide +kernel) ct_X11_moving mv_X11_moving cw_1284 vcX11 (show 3 < 4 by omega),
  List.forall_mem_cons.mpr ⟨qz_istore C (show decode c_X11_codeAt 106 = .ok (.istore 9, 2) by decide +kernel),
  List.forall_mem_cons.mpr ⟨qz_iload C (show decode c_X11_codeAt 108 = .ok (.iload 7, 2) by decide +kernel),
  List.forall_mem_cons.mpr ⟨qz_ifne C (show decode c_X11_codeAt 110 = .ok (.ifCond .ne 11, 3) by decide +kernel) (by decide),
  List.forall_mem_cons.mpr ⟨qz_aload_n C (show decode c_X11_codeAt 113 = .ok (.aload_n 0, 1) by decide +kernel) rfl,
  List.forall_mem_cons.mpr ⟨qz_gf (k := 27) C (show decode c_X11_codeAt 114 = .ok (.getfield 63, 3) by decide +kernel) vcX11 wiX11 (by decide) cw_1045,
  List.forall_mem_cons.mpr ⟨qz_iload C (show decode c_X11_codeAt 117 = .ok (.iload 8, 2) by decide +kernel),
  List.forall_mem_cons.mpr ⟨qz_iald C (show decode c_X11_codeAt 119 = .ok (.iaload, 1) by decide +kernel),
  List.forall_mem_cons.mpr ⟨qz_iret C (show decode c_X11_codeAt 120 = .ok (.ireturn, 1) by decide +kernel) rfl,
  List.forall_mem_cons.mpr ⟨qz_iload C (show decode c_X11_codeAt 121 = .ok (.iload 7, 2) by decide +kernel),
  List.forall_mem_cons.mpr ⟨qz_iconst C (show decode c_X11_codeAt 123 = .ok (.iconst 1, 1) by decide +kernel) (by decide +kernel),
  List.forall_mem_cons.mpr ⟨qz_icne C (show decode c_X11_codeAt 124 = .ok (.if_icmp .ne 12, 3) by decide +kernel) (by decide),
  List.forall_mem_cons.mpr ⟨qz_bipush C (show decode c_X11_codeAt 127 = .ok (.bipush 10, 2) by decide +kernel) (by decide +kernel),
  List.forall_mem_cons.mpr ⟨qz_iload C (show decode c_X11_codeAt 129 = .ok (.iload 9, 2) by decide +kernel),
  List.forall_mem_cons.mpr ⟨qz_sI C (show decode c_X11_codeAt 131 = .ok (.invokestatic 260, 3) by decide +kernel) ct_X11_sizeOf mv_X11_sizeOf (Or.inl cw_1378) (show 1 < 4 by omega),
  List.forall_mem_cons.mpr ⟨qz_iadd C (show decode c_X11_codeAt 134 = .ok (.iadd, 1) by decide +kernel),
  List.forall_mem_cons.mpr ⟨qz_iret C (show decode c_X11_codeAt 135 = .ok (.ireturn, 1) by decide +kernel) rfl,
  List.forall_mem_cons.mpr ⟨qz_idec C (show decode c_X11_codeAt 136 = .ok (.iinc 7 (-2), 3) by decide +kernel) (by decide +kernel),
  List.forall_mem_cons.mpr ⟨qz_iconst C (show decode c_X11_codeAt 139 = .ok (.iconst 0, 1) by decide +kernel) (by decide +kernel),
  List.forall_mem_cons.mpr ⟨qz_istore C (show decode c_X11_codeAt 140 = .ok (.istore 10, 2) by decide +kernel),
  List.forall_mem_cons.mpr ⟨qz_iload C (show decode c_X11_codeAt 142 = .ok (.iload 9, 2) by decide +kernel),
  List.forall_mem_cons.mpr ⟨qz_iload C (show decode c_X11_codeAt 144 = .ok (.iload 10, 2) by decide +kernel),
  List.forall_mem_cons.mpr ⟨qz_sI C (show decode c_X11_codeAt 146 = .ok (.invokestatic 187, 3) by decide +kernel) ct_X11_has mv_X11_has (Or.inl cw_1281) (show 1 < 4 by omega),
  List.forall_mem_cons.mpr ⟨qz_ifeq C (show decode c_X11_codeAt 149 = .ok (.ifCond .eq 26, 3) by decide +kernel) (by decide),
  List.forall_mem_cons.mpr ⟨qz_iload C (show decode c_X11_codeAt 152 = .ok (.iload 7, 2) by decide +kernel),
  List.forall_mem_cons.mpr ⟨qz_aload_n C (show decode c_X11_codeAt 154 = .ok (.aload_n 0, 1) by decide +kernel) rfl,
  List.forall_mem_cons.mpr ⟨qz_gf (k := 25) C (show decode c_X11_codeAt 155 = .ok (.getfield 57, 3) by decide +kernel) vcX11 wiX11 (by decide) cw_1043,
  (fun q h => by cases h)⟩⟩⟩⟩⟩⟩⟩⟩⟩⟩⟩⟩⟩⟩⟩⟩⟩⟩⟩⟩⟩⟩⟩⟩⟩⟩⟩⟩⟩⟩⟩⟩⟩⟩⟩⟩⟩⟩⟩⟩
set_option maxRecDepth 20000 in
theorem sd_X11_codeAt_2 {G : pj_E} {A : Nat → Prop} {P : pj_P} {S : pj_U} {Z : pj_Z} (C : pj_C (G, A, (c_X11_codeAt, y_X11_codeAt.cls, 11, (some .int), 4), P, S, Z)) : ∀ q ∈ tb_X11_codeAt_2, pj_S (G, A, (c_X11_codeAt, y_X11_codeAt.cls, 11, (some .int), 4), P, S, Z) pj_eI q.1 q.2 :=
  List.forall_mem_cons.mpr ⟨qz_bipush C (show decode c_X11_codeAt 158 = .ok (.bipush 10, 2) by decide +kernel) (by decide +kernel),
  List.forall_mem_cons.mpr ⟨qz_aload_n C (show decode c_X11_codeAt 160 = .ok (.aload_n 0, 1) by decide +kernel) rfl,
  List.forall_mem_cons.mpr ⟨qz_gf (k := 28) C (show decode c_X11_codeAt 161 = .ok (.getfield 66, 3) by decide +kernel) vcX11 wiX11 (by decide) cw_1046,
  List.forall_mem_cons.mpr ⟨qz_iload C (show decode c_X11_codeAt 164 = .ok (.iload 8, 2) by decide +kernel),
  List.forall_mem_cons.mpr ⟨qz_iald C (show decode c_X11_codeAt 166 = .ok (.iaload, 1) by decide +kernel),
  List.forall_mem_cons.mpr ⟨qz_imul C (show decode c_X11_codeAt 167 = .ok (.imul, 1) by decide +kernel),
  List.forall_mem_cons.mpr ⟨qz_iload C (show decode c_X11_codeAt 168 = .ok (.iload 10, 2) by decide +kernel),
  List.forall_mem_cons.mpr ⟨qz_iadd C (show decode c_X11_codeAt 170 = .ok (.iadd, 1) by decide +kernel),
  List.forall_mem_cons.mpr ⟨qz_iald C (show decode c_X11_codeAt 171 = .ok (.iaload, 1) by decide +kernel),
  List.forall_mem_cons.mpr ⟨qz_iclt C (show decode c_X11_codeAt 172 = .ok (.if_icmp .lt 46, 3) by decide +kernel) (by decide),
  List.forall_mem_cons.mpr ⟨qz_iload C (show decode c_X11_codeAt 175 = .ok (.iload 7, 2) by decide +kernel),
  List.forall_mem_cons.mpr ⟨qz_iload C (show decode c_X11_codeAt 177 = .ok (.iload 9, 2) by decide +kernel),
  List.forall_mem_cons.mpr ⟨qz_iload C (show decode c_X11_codeAt 179 = .ok (.iload 10, 2) by decide +kernel),
  List.forall_mem_cons.mpr ⟨qz_sI C (show decode c_X11_codeAt 181 = .ok (.invokestatic 187, 3) by decide +kernel) ct_X11_has mv_X11_has (Or.inl cw_1281) (show 1 < 4 by omega),
  List.forall_mem_cons.mpr ⟨qz_ifeq C (show decode c_X11_codeAt 184 = .ok (.ifCond .eq 24, 3) by decide +kernel) (by decide),
  List.forall_mem_cons.mpr ⟨qz_aload_n C (show decode c_X11_codeAt 187 = .ok (.aload_n 0, 1) by decide +kernel) rfl,
  List.forall_mem_cons.mpr ⟨qz_gf (k := 25) C (show decode c_X11_codeAt 188 = .ok (.getfield 57, 3) by decide +kernel) vcX11 wiX11 (by decide) cw_1043,
  List.forall_mem_cons.mpr ⟨qz_bipush C (show decode c_X11_codeAt 191 = .ok (.bipush 10, 2) by decide +kernel) (by decide +kernel),
  List.forall_mem_cons.mpr ⟨qz_aload_n C (show decode c_X11_codeAt 193 = .ok (.aload_n 0, 1) by decide +kernel) rfl,
  List.forall_mem_cons.mpr ⟨qz_gf (k := 28) C (show decode c_X11_codeAt 194 = .ok (.getfield 66, 3) by decide +kernel) vcX11 wiX11 (by decide) cw_1046,
  List.forall_mem_cons.mpr ⟨qz_iload C (show decode c_X11_codeAt 197 = .ok (.iload 8, 2) by decide +kernel),
  List.forall_mem_cons.mpr ⟨qz_iald C (show decode c_X11_codeAt 199 = .ok (.iaload, 1) by decide +kernel),
  List.forall_mem_cons.mpr ⟨qz_imul C (show decode c_X11_codeAt 200 = .ok (.imul, 1) by decide +kernel),
  List.forall_mem_cons.mpr ⟨qz_iload C (show decode c_X11_codeAt 201 = .ok (.iload 10, 2) by decide +kernel),
  List.forall_mem_cons.mpr ⟨qz_iadd C (show decode c_X11_codeAt 203 = .ok (.iadd, 1) by decide +kernel),
  List.forall_mem_cons.mpr ⟨qz_iald C (show decode c_X11_codeAt 204 = .ok (.iaload, 1) by decide +kernel),
  List.forall_mem_cons.mpr ⟨qz_goto C (show decode c_X11_codeAt 205 = .ok (.goto 4, 3) by decide +kernel) (by decide),
  List.forall_mem_cons.mpr ⟨qz_iconst C (show decode c_X11_codeAt 208 = .ok (.iconst 0, 1) by decide +kernel) (by decide +kernel),
  List.forall_mem_cons.mpr ⟨qz_isub C (show decode c_X11_codeAt 209 = .ok (.isub, 1) by decide +kernel),
  List.forall_mem_cons.mpr ⟨qz_istore C (show decode c_X11_codeAt 210 = .ok (.istore 7, 2) by decide +kernel),
  List.forall_mem_cons.mpr ⟨qz_iinc C (show decode c_X11_codeAt 212 = .ok (.iinc 10 1, 3) by decide +kernel) (by decide +kernel),
  List.forall_mem_cons.mpr ⟨qz_goto C (show decode c_X11_codeAt 215 = .ok (.goto (-73), 3) by decide +kernel) (by decide),
  List.forall_mem_cons.mpr ⟨qz_aload_n C (show decode c_X11_codeAt 218 = .ok (.aload_n 0, 1) by decide +kernel) rfl,
  List.forall_mem_cons.mpr ⟨qz_gf (k := 28) C (show decode c_X11_codeAt 219 = .ok (.getfield 66, 3) by decide +kernel) vcX11 wiX11 (by decide) cw_1046,
  List.forall_mem_cons.mpr ⟨qz_iload C (show decode c_X11_codeAt 222 = .ok (.iload 8, 2) by decide +kernel),
  List.forall_mem_cons.mpr ⟨qz_iald C (show decode c_X11_codeAt 224 = .ok (.iaload, 1) by decide +kernel),
  List.forall_mem_cons.mpr ⟨qz_istore C (show decode c_X11_codeAt 225 = .ok (.istore 5, 2) by decide +kernel),
  List.forall_mem_cons.mpr ⟨qz_iload C (show decode c_X11_codeAt 227 = .ok (.iload 10, 2) by decide +kernel),
  List.forall_mem_cons.mpr ⟨qz_istore C (show decode c_X11_codeAt 229 = .ok (.istore 6, 2) by decide +kernel),
  List.forall_mem_cons.mpr ⟨qz_goto C (show decode c_X11_codeAt 231 = .ok (.goto (-221), 3) by decide +kernel) (by decide),
  (fun q h => by cases h)⟩⟩⟩⟩⟩⟩⟩⟩⟩⟩⟩⟩⟩⟩⟩⟩⟩⟩⟩⟩⟩⟩⟩⟩⟩⟩⟩⟩⟩⟩⟩⟩⟩⟩⟩⟩⟩⟩⟩⟩
theorem sd_X11_codeAt {G : pj_E} {A : Nat → Prop} {P : pj_P} {S : pj_U} {Z : pj_Z} (C : pj_C (G, A, (c_X11_codeAt, y_X11_codeAt.cls, 11, (some .int), 4), P, S, Z)) : ∀ q ∈ tb_X11_codeAt, pj_S (G, A, (c_X11_codeAt, y_X11_codeAt.cls, 11, (some .int), 4), P, S, Z) pj_eI q.1 q.2 := List.forall_mem_append.mpr ⟨sd_X11_codeAt_0 C, List.forall_mem_append.mpr ⟨sd_X11_codeAt_1 C, sd_X11_codeAt_2 C⟩⟩
noncomputable def C_X11_codeAt_218 (f : Int32 → Int32 → Int32 → Int32 → pj_M → Option (Int32 × pj_M)) : pj_N (Int32 × pj_M) := fun L st m => match L, st with
  | [some (.inr (.inr (t0, w0, a0))), some (.inl x1), _, _, _, _, _, some (.inl x7), some (.inl x8), _, some (.inl x10)], [] => (match Nat.beq t0 0 && (Nat.beq w0 11 && (Nat.beq a0 72)) with
    | true => f x1 x7 x8 x10 m
    | false => none)
  | _, _ => none
noncomputable def C_X11_codeAt_175 (f : Int32 → Int32 → Int32 → Int32 → Int32 → pj_M → Option (Int32 × pj_M)) : pj_N (Int32 × pj_M) := fun L st m => match L, st with
  | [some (.inr (.inr (t0, w0, a0))), some (.inl x1), _, _, _, _, _, some (.inl x7), some (.inl x8), some (.inl x9), some (.inl x10)], [] => (match Nat.beq t0 0 && (Nat.beq w0 11 && (Nat.beq a0 72)) with
    | true => f x1 x7 x8 x9 x10 m
    | false => none)
  | _, _ => none
noncomputable def C_X11_codeAt_142 (f : Int32 → Int32 → Int32 → Int32 → Int32 → pj_M → Option (Int32 × pj_M)) : pj_N (Int32 × pj_M) := fun L st m => match L, st with
  | [some (.inr (.inr (t0, w0, a0))), some (.inl x1), _, _, _, _, _, some (.inl x7), some (.inl x8), some (.inl x9), some (.inl x10)], [] => (match Nat.beq t0 0 && (Nat.beq w0 11 && (Nat.beq a0 72)) with
    | true => f x1 x7 x8 x9 x10 m
    | false => none)
  | _, _ => none
noncomputable def C_X11_codeAt_127 (f : Int32 → pj_M → Option (Int32 × pj_M)) : pj_N (Int32 × pj_M) := fun L st m => match L, st with
  | [_, _, _, _, _, _, _, _, _, some (.inl x9), _], [] => f x9 m
  | _, _ => none
noncomputable def C_X11_codeAt_113 (f : Int32 → pj_M → Option (Int32 × pj_M)) : pj_N (Int32 × pj_M) := fun L st m => match L, st with
  | [some (.inr (.inr (t0, w0, a0))), _, _, _, _, _, _, _, some (.inl x8), _, _], [] => (match Nat.beq t0 0 && (Nat.beq w0 11 && (Nat.beq a0 72)) with
    | true => f x8 m
    | false => none)
  | _, _ => none
noncomputable def C_X11_codeAt_31 (f : Int32 → Int32 → pj_M → Option (Int32 × pj_M)) : pj_N (Int32 × pj_M) := fun L st m => match L, st with
  | [some (.inr (.inr (t0, w0, a0))), _, _, _, _, some (.inl x5), _, some (.inl x7), _, _, _], [] => (match Nat.beq t0 0 && (Nat.beq w0 11 && (Nat.beq a0 72)) with
    | true => f x5 x7 m
    | false => none)
  | _, _ => none
noncomputable def C_X11_codeAt_10 (f : Int32 → Int32 → Int32 → Int32 → pj_M → Option (Int32 × pj_M)) : pj_N (Int32 × pj_M) := fun L st m => match L, st with
  | [some (.inr (.inr (t0, w0, a0))), some (.inl x1), _, _, _, some (.inl x5), some (.inl x6), some (.inl x7), _, _, _], [] => (match Nat.beq t0 0 && (Nat.beq w0 11 && (Nat.beq a0 72)) with
    | true => f x1 x5 x6 x7 m
    | false => none)
  | _, _ => none
set_option maxRecDepth 20000 in
theorem eq_X11_codeAt_218 (k10 : Int32 → Int32 → Int32 → Int32 → pj_M → Option (Int32 × pj_M)) (x1 : Int32) (x7 : Int32) (x8 : Int32) (x10 : Int32) (d2 d3 d4 d5 d6 d9 : Option pj_V) (m : pj_M) : pj_run tb_X11_codeAt [(10, C_X11_codeAt_10 k10)] 122 218 [some (.inr (.inr (0, 11, 72))), some (.inl x1), d2, d3, d4, d5, d6, some (.inl x7), some (.inl x8), d9, some (.inl x10)] [] m = J_X11_codeAt_218 k10 x1 x7 x8 x10 m := by rfl
theorem sg_X11_codeAt_218 {G : pj_E} {A : Nat → Prop} {P : pj_P} {S : pj_U} {Z : pj_Z} (C : pj_C (G, A, (c_X11_codeAt, y_X11_codeAt.cls, 11, (some .int), 4), P, S, Z)) {k10 : Int32 → Int32 → Int32 → Int32 → pj_M → Option (Int32 × pj_M)} (hk10 : pj_G (G, A, (c_X11_codeAt, y_X11_codeAt.cls, 11, (some .int), 4), P, S, Z) pj_eI 10 (C_X11_codeAt_10 k10)) : pj_G (G, A, (c_X11_codeAt, y_X11_codeAt.cls, 11, (some .int), 4), P, S, Z) pj_eI 218 (C_X11_codeAt_218 (J_X11_codeAt_218 k10)) := by
  intro L st m r h hR
  unfold C_X11_codeAt_218 at h
  split at h
  · split at h
    · rename_i hbq
      simp only [Bool.and_eq_true, Nat.beq_eq] at hbq
      obtain ⟨rfl, rfl, rfl⟩ := hbq
      exact pj_run_ok (sd_X11_codeAt C) (List.forall_mem_cons.mpr ⟨hk10, fun q h => by cases h⟩) 122 218 _ _ _ _ ((eq_X11_codeAt_218 _ _ _ _ _ _ _ _ _ _ _ _).trans h) hR
    · cases h
  · cases h
set_option maxRecDepth 20000 in
theorem eq_X11_codeAt_175 (k10 : Int32 → Int32 → Int32 → Int32 → pj_M → Option (Int32 × pj_M)) (k142 : Int32 → Int32 → Int32 → Int32 → Int32 → pj_M → Option (Int32 × pj_M)) (x1 : Int32) (x7 : Int32) (x8 : Int32) (x9 : Int32) (x10 : Int32) (d2 d3 d4 d5 d6 : Option pj_V) (m : pj_M) : pj_run tb_X11_codeAt [(142, C_X11_codeAt_142 k142)] 122 175 [some (.inr (.inr (0, 11, 72))), some (.inl x1), d2, d3, d4, d5, d6, some (.inl x7), some (.inl x8), some (.inl x9), some (.inl x10)] [] m = J_X11_codeAt_175 k10 k142 x1 x7 x8 x9 x10 m := by rfl
theorem sg_X11_codeAt_175 {G : pj_E} {A : Nat → Prop} {P : pj_P} {S : pj_U} {Z : pj_Z} (C : pj_C (G, A, (c_X11_codeAt, y_X11_codeAt.cls, 11, (some .int), 4), P, S, Z)) {k10 : Int32 → Int32 → Int32 → Int32 → pj_M → Option (Int32 × pj_M)} (hk10 : pj_G (G, A, (c_X11_codeAt, y_X11_codeAt.cls, 11, (some .int), 4), P, S, Z) pj_eI 10 (C_X11_codeAt_10 k10)) {k142 : Int32 → Int32 → Int32 → Int32 → Int32 → pj_M → Option (Int32 × pj_M)} (hk142 : pj_G (G, A, (c_X11_codeAt, y_X11_codeAt.cls, 11, (some .int), 4), P, S, Z) pj_eI 142 (C_X11_codeAt_142 k142)) : pj_G (G, A, (c_X11_codeAt, y_X11_codeAt.cls, 11, (some .int), 4), P, S, Z) pj_eI 175 (C_X11_codeAt_175 (J_X11_codeAt_175 k10 k142)) := by
  intro L st m r h hR
  unfold C_X11_codeAt_175 at h
  split at h
  · split at h
    · rename_i hbq
      simp only [Bool.and_eq_true, Nat.beq_eq] at hbq
      obtain ⟨rfl, rfl, rfl⟩ := hbq
      exact pj_run_ok (sd_X11_codeAt C) (List.forall_mem_cons.mpr ⟨hk142, fun q h => by cases h⟩) 122 175 _ _ _ _ ((eq_X11_codeAt_175 _ _ _ _ _ _ _ _ _ _ _ _ _).trans h) hR
    · cases h
  · cases h
set_option maxRecDepth 20000 in
theorem eq_X11_codeAt_142 (k10 : Int32 → Int32 → Int32 → Int32 → pj_M → Option (Int32 × pj_M)) (n1 : Nat) (x1 : Int32) (x7 : Int32) (x8 : Int32) (x9 : Int32) (x10 : Int32) (d2 d3 d4 d5 d6 : Option pj_V) (m : pj_M) : pj_run tb_X11_codeAt [(175, C_X11_codeAt_175 (J_X11_codeAt_175 k10 (H_X11_codeAt_142 k10 n1))), (218, C_X11_codeAt_218 (J_X11_codeAt_218 k10))] 122 142 [some (.inr (.inr (0, 11, 72))), some (.inl x1), d2, d3, d4, d5, d6, some (.inl x7), some (.inl x8), some (.inl x9), some (.inl x10)] [] m = H_X11_codeAt_142 k10 (n1 + 1) x1 x7 x8 x9 x10 m := by rfl
theorem sg_X11_codeAt_142 {G : pj_E} {A : Nat → Prop} {P : pj_P} {S : pj_U} {Z : pj_Z} (C : pj_C (G, A, (c_X11_codeAt, y_X11_codeAt.cls, 11, (some .int), 4), P, S, Z)) {k10 : Int32 → Int32 → Int32 → Int32 → pj_M → Option (Int32 × pj_M)} (hk10 : pj_G (G, A, (c_X11_codeAt, y_X11_codeAt.cls, 11, (some .int), 4), P, S, Z) pj_eI 10 (C_X11_codeAt_10 k10)) : ∀ n1, pj_G (G, A, (c_X11_codeAt, y_X11_codeAt.cls, 11, (some .int), 4), P, S, Z) pj_eI 142 (C_X11_codeAt_142 (H_X11_codeAt_142 k10 n1)) := by
  intro n1
  induction n1 with
  | zero =>
    intro L st m r h hR
    unfold C_X11_codeAt_142 at h
    split at h
    · split at h
      · cases h
      · cases h
    · cases h
  | succ n1 ih1 =>
    intro L st m r h hR
    unfold C_X11_codeAt_142 at h
    split at h
    · split at h
      · rename_i hbq
        simp only [Bool.and_eq_true, Nat.beq_eq] at hbq
        obtain ⟨rfl, rfl, rfl⟩ := hbq
        exact pj_run_ok (sd_X11_codeAt C) (List.forall_mem_cons.mpr ⟨sg_X11_codeAt_175 C hk10 ih1, List.forall_mem_cons.mpr ⟨sg_X11_codeAt_218 C hk10, fun q h => by cases h⟩⟩) 122 142 _ _ _ _ ((eq_X11_codeAt_142 _ _ _ _ _ _ _ _ _ _ _ _ _).trans h) hR
      · cases h
    · cases h
set_option maxRecDepth 20000 in
theorem eq_X11_codeAt_127 (x9 : Int32) (d0 d1 d2 d3 d4 d5 d6 d7 d8 d10 : Option pj_V) (m : pj_M) : pj_run tb_X11_codeAt [] 122 127 [d0, d1, d2, d3, d4, d5, d6, d7, d8, some (.inl x9), d10] [] m = J_X11_codeAt_127 x9 m := by rfl
theorem sg_X11_codeAt_127 {G : pj_E} {A : Nat → Prop} {P : pj_P} {S : pj_U} {Z : pj_Z} (C : pj_C (G, A, (c_X11_codeAt, y_X11_codeAt.cls, 11, (some .int), 4), P, S, Z)) : pj_G (G, A, (c_X11_codeAt, y_X11_codeAt.cls, 11, (some .int), 4), P, S, Z) pj_eI 127 (C_X11_codeAt_127 (J_X11_codeAt_127)) := by
  intro L st m r h hR
  unfold C_X11_codeAt_127 at h
  split at h
  · exact pj_run_ok (sd_X11_codeAt C) (fun q h => by cases h) 122 127 _ _ _ _ ((eq_X11_codeAt_127 _ _ _ _ _ _ _ _ _ _ _ _).trans h) hR
  · cases h
set_option maxRecDepth 20000 in
theorem eq_X11_codeAt_113 (x8 : Int32) (d1 d2 d3 d4 d5 d6 d7 d9 d10 : Option pj_V) (m : pj_M) : pj_run tb_X11_codeAt [] 122 113 [some (.inr (.inr (0, 11, 72))), d1, d2, d3, d4, d5, d6, d7, some (.inl x8), d9, d10] [] m = J_X11_codeAt_113 x8 m := by rfl
theorem sg_X11_codeAt_113 {G : pj_E} {A : Nat → Prop} {P : pj_P} {S : pj_U} {Z : pj_Z} (C : pj_C (G, A, (c_X11_codeAt, y_X11_codeAt.cls, 11, (some .int), 4), P, S, Z)) : pj_G (G, A, (c_X11_codeAt, y_X11_codeAt.cls, 11, (some .int), 4), P, S, Z) pj_eI 113 (C_X11_codeAt_113 (J_X11_codeAt_113)) := by
  intro L st m r h hR
  unfold C_X11_codeAt_113 at h
  split at h
  · split at h
    · rename_i hbq
      simp only [Bool.and_eq_true, Nat.beq_eq] at hbq
      obtain ⟨rfl, rfl, rfl⟩ := hbq
      exact pj_run_ok (sd_X11_codeAt C) (fun q h => by cases h) 122 113 _ _ _ _ ((eq_X11_codeAt_113 _ _ _ _ _ _ _ _ _ _ _).trans h) hR
    · cases h
  · cases h
set_option maxRecDepth 20000 in
theorem eq_X11_codeAt_31 (x5 : Int32) (x7 : Int32) (d1 d2 d3 d4 d6 d8 d9 d10 : Option pj_V) (m : pj_M) : pj_run tb_X11_codeAt [] 122 31 [some (.inr (.inr (0, 11, 72))), d1, d2, d3, d4, some (.inl x5), d6, some (.inl x7), d8, d9, d10] [] m = J_X11_codeAt_31 x5 x7 m := by rfl
theorem sg_X11_codeAt_31 {G : pj_E} {A : Nat → Prop} {P : pj_P} {S : pj_U} {Z : pj_Z} (C : pj_C (G, A, (c_X11_codeAt, y_X11_codeAt.cls, 11, (some .int), 4), P, S, Z)) : pj_G (G, A, (c_X11_codeAt, y_X11_codeAt.cls, 11, (some .int), 4), P, S, Z) pj_eI 31 (C_X11_codeAt_31 (J_X11_codeAt_31)) := by
  intro L st m r h hR
  unfold C_X11_codeAt_31 at h
  split at h
  · split at h
    · rename_i hbq
      simp only [Bool.and_eq_true, Nat.beq_eq] at hbq
      obtain ⟨rfl, rfl, rfl⟩ := hbq
      exact pj_run_ok (sd_X11_codeAt C) (fun q h => by cases h) 122 31 _ _ _ _ ((eq_X11_codeAt_31 _ _ _ _ _ _ _ _ _ _ _).trans h) hR
    · cases h
  · cases h
set_option maxRecDepth 20000 in
theorem eq_X11_codeAt_10 (n1 : Nat) (x1 : Int32) (x5 : Int32) (x6 : Int32) (x7 : Int32) (d2 d3 d4 d8 d9 d10 : Option pj_V) (m : pj_M) : pj_run tb_X11_codeAt [(10, C_X11_codeAt_10 (H_X11_codeAt_10 n1)), (31, C_X11_codeAt_31 (J_X11_codeAt_31 )), (113, C_X11_codeAt_113 (J_X11_codeAt_113 )), (127, C_X11_codeAt_127 (J_X11_codeAt_127 )), (142, C_X11_codeAt_142 (H_X11_codeAt_142 (H_X11_codeAt_10 n1) pj_z))] 122 10 [some (.inr (.inr (0, 11, 72))), some (.inl x1), d2, d3, d4, some (.inl x5), some (.inl x6), some (.inl x7), d8, d9, d10] [] m = H_X11_codeAt_10 (n1 + 1) x1 x5 x6 x7 m := by rfl
theorem sg_X11_codeAt_10 {G : pj_E} {A : Nat → Prop} {P : pj_P} {S : pj_U} {Z : pj_Z} (C : pj_C (G, A, (c_X11_codeAt, y_X11_codeAt.cls, 11, (some .int), 4), P, S, Z)) : ∀ n1, pj_G (G, A, (c_X11_codeAt, y_X11_codeAt.cls, 11, (some .int), 4), P, S, Z) pj_eI 10 (C_X11_codeAt_10 (H_X11_codeAt_10 n1)) := by
  intro n1
  induction n1 with
  | zero =>
    intro L st m r h hR
    unfold C_X11_codeAt_10 at h
    split at h
    · split at h
      · cases h
      · cases h
    · cases h
  | succ n1 ih1 =>
    intro L st m r h hR
    unfold C_X11_codeAt_10 at h
    split at h
    · split at h
      · rename_i hbq
        simp only [Bool.and_eq_true, Nat.beq_eq] at hbq
        obtain ⟨rfl, rfl, rfl⟩ := hbq
        exact pj_run_ok (sd_X11_codeAt C) (List.forall_mem_cons.mpr ⟨ih1, List.forall_mem_cons.mpr ⟨sg_X11_codeAt_31 C , List.forall_mem_cons.mpr ⟨sg_X11_codeAt_113 C , List.forall_mem_cons.mpr ⟨sg_X11_codeAt_127 C , List.forall_mem_cons.mpr ⟨sg_X11_codeAt_142 C ih1 pj_z, fun q h => by cases h⟩⟩⟩⟩⟩) 122 10 _ _ _ _ ((eq_X11_codeAt_10 _ _ _ _ _ _ _ _ _ _ _ _).trans h) hR
      · cases h
    · cases h
set_option maxRecDepth 20000 in
theorem eq_X11_codeAt (x1 : Int32) (x2 : Int32) (x3 : Int32) (x4 : Int32) (m : pj_M) : pj_run tb_X11_codeAt [(10, C_X11_codeAt_10 (H_X11_codeAt_10  pj_z))] 122 0 [some (.inr (.inr (0, 11, 72))), some (.inl x1), some (.inl x2), some (.inl x3), some (.inl x4), none, none, none, none, none, none] [] m = F_X11_codeAt x1 x2 x3 x4 m := by rfl
theorem ct_X11_codeAt : pj_Ct pj_eI y_X11_codeAt c_X11_codeAt 11 (some .int) 4 W_X11_codeAt := by
  refine pj_ct_of (by decide +kernel) ?_ ?_
  · intro as m r h
    unfold W_X11_codeAt at h
    split at h
    · simp [pj_l0]
    · cases h
  · intro G A P S Z C as m r h hR
    unfold W_X11_codeAt at h
    split at h
    · split at h
      · rename_i hbq
        simp only [Bool.and_eq_true, Nat.beq_eq] at hbq
        obtain ⟨rfl, rfl, rfl⟩ := hbq
        exact pj_run_ok (sd_X11_codeAt C) (List.forall_mem_cons.mpr ⟨sg_X11_codeAt_10 C  pj_z, fun q h => by cases h⟩) 122 0 _ _ _ _ ((eq_X11_codeAt _ _ _ _ _).trans h) hR
      · cases h
    · cases h
/-! AlikeStepsModel.isAsked(III)Z -/
abbrev c_X11_isAsked : ByteArray := prog_13_method_67_code
def y_X11_isAsked : MethodName := ⟨RX11, "isAsked", "(III)Z"⟩
noncomputable def F_X11_isAsked (x1 : Int32) (x2 : Int32) (x3 : Int32) (m : pj_M) : Option (Int32 × pj_M) := ((F_X11_in x1 0 1 m).bind fun q1 => (if q1.1 = 0 then (some (0, q1.2)) else ((F_X11_isState x2 q1.2).bind fun q2 => (if q2.1 = 0 then (some (0, q2.2)) else ((F_X11_isState x3 q2.2).bind fun q3 => (if q3.1 = 0 then (some (0, q3.2)) else (some (1, q3.2))))))))
noncomputable def W_X11_isAsked : List pj_V → pj_M → Option (Int32 × pj_M) := fun as m => match as with
  | [.inr (.inr (t0, w0, a0)), .inl x1, .inl x2, .inl x3] => (match Nat.beq t0 0 && (Nat.beq w0 11 && (Nat.beq a0 72)) with
    | true => F_X11_isAsked x1 x2 x3 m
    | false => none)
  | _ => none
noncomputable def tb_X11_isAsked_0 : List (Nat × pj_T (Int32 × pj_M)) := [(0, qs_ldi 1 1), (1, qs_ci 0 2), (2, qs_ci 1 3), (3, qs_sI 3 W_X11_in 6), (6, qs_ifeq 29 9), (9, qs_lda 0 10), (10, qs_ldi 2 11), (11, qs_vI 11 2 W_X11_isState 14), (14, qs_ifeq 29 17), (17, qs_lda 0 18), (18, qs_ldi 3 19), (19, qs_vI 11 2 W_X11_isState 22), (22, qs_ifeq 29 25), (25, qs_ci 1 26), (26, qs_go 30), (29, qs_ci 0 30), (30, qs_zret)]
noncomputable abbrev tb_X11_isAsked : List (Nat × pj_T (Int32 × pj_M)) := tb_X11_isAsked_0
theorem mv_X11_isAsked : pj_mv y_X11_isAsked c_X11_isAsked 4 (some .boolean) 3 := ⟨⟨cw_1361, cw_1360, cw_64, cw_92⟩, by decide +kernel, by decide⟩
set_option maxRecDepth 20000 in
theorem sd_X11_isAsked_0 {G : pj_E} {A : Nat → Prop} {P : pj_P} {S : pj_U} {Z : pj_Z} (C : pj_C (G, A, (c_X11_isAsked, y_X11_isAsked.cls, 4, (some .boolean), 3), P, S, Z)) : ∀ q ∈ tb_X11_isAsked_0, pj_S (G, A, (c_X11_isAsked, y_X11_isAsked.cls, 4, (some .boolean), 3), P, S, Z) pj_eI q.1 q.2 :=
  List.forall_mem_cons.mpr ⟨qz_iload_n C (show decode c_X11_isAsked 0 = .ok (.iload_n 1, 1) by decide +kernel) rfl,
  List.forall_mem_cons.mpr ⟨qz_iconst C (show decode c_X11_isAsked 1 = .ok (.iconst 0, 1) by decide +kernel) (by decide +kernel),
  List.forall_mem_cons.mpr ⟨qz_iconst C (show decode c_X11_isAsked 2 = .ok (.iconst 1, 1) by decide +kernel) (by decide +kernel),
  List.forall_mem_cons.mpr ⟨qz_sI C (show decode c_X11_isAsked 3 = .ok (.invokestatic 84, 3) by decide +kernel) ct_X11_in mv_X11_in (Or.inl cw_1126) (show 1 < 3 by omega),
  List.forall_mem_cons.mpr ⟨qz_ifeq C (show decode c_X11_isAsked 6 = .ok (.ifCond .eq 23, 3) by decide +kernel) (by decide),
  List.forall_mem_cons.mpr ⟨qz_aload_n C (show decode c_X11_isAsked 9 = .ok (.aload_n 0, 1) by decide +kernel) rfl,
  List.forall_mem_cons.mpr ⟨qz_iload_n C (show decode c_X11_isAsked 10 = .ok (.iload_n 2, 1) by decide +kernel) rfl,
  List.forall_mem_cons.mpr ⟨qz_vI C (show decode c_X11_isAsked 11 = .ok (.invokevirtual 225, 3) by decide +kernel) ct_X11_isState mv_X11_isState cw_1224 vcX11 (show 2 < 3 by omega),
  List.forall_mem_cons.mpr ⟨qz_ifeq C (show decode c_X11_isAsked 14 = .ok (.ifCond .eq 15, 3) by decide +kernel) (by decide),
  List.forall_mem_cons.mpr ⟨qz_aload_n C (show decode c_X11_isAsked 17 = .ok (.aload_n 0, 1) by decide +kernel) rfl,
  List.forall_mem_cons.mpr ⟨qz_iload_n C (show decode c_X11_isAsked 18 = .ok (.iload_n 3, 1) by decide +kernel) rfl,
  List.forall_mem_cons.mpr ⟨qz_vI C (show decode c_X11_isAsked 19 = .ok (.invokevirtual 225, 3) by decide +kernel) ct_X11_isState mv_X11_isState cw_1224 vcX11 (show 2 < 3 by omega),
  List.forall_mem_cons.mpr ⟨qz_ifeq C (show decode c_X11_isAsked 22 = .ok (.ifCond .eq 7, 3) by decide +kernel) (by decide),
  List.forall_mem_cons.mpr ⟨qz_iconst C (show decode c_X11_isAsked 25 = .ok (.iconst 1, 1) by decide +kernel) (by decide +kernel),
  List.forall_mem_cons.mpr ⟨qz_goto C (show decode c_X11_isAsked 26 = .ok (.goto 4, 3) by decide +kernel) (by decide),
  List.forall_mem_cons.mpr ⟨qz_iconst C (show decode c_X11_isAsked 29 = .ok (.iconst 0, 1) by decide +kernel) (by decide +kernel),
  List.forall_mem_cons.mpr ⟨qz_zret C (show decode c_X11_isAsked 30 = .ok (.ireturn, 1) by decide +kernel) rfl,
  (fun q h => by cases h)⟩⟩⟩⟩⟩⟩⟩⟩⟩⟩⟩⟩⟩⟩⟩⟩⟩
theorem sd_X11_isAsked {G : pj_E} {A : Nat → Prop} {P : pj_P} {S : pj_U} {Z : pj_Z} (C : pj_C (G, A, (c_X11_isAsked, y_X11_isAsked.cls, 4, (some .boolean), 3), P, S, Z)) : ∀ q ∈ tb_X11_isAsked, pj_S (G, A, (c_X11_isAsked, y_X11_isAsked.cls, 4, (some .boolean), 3), P, S, Z) pj_eI q.1 q.2 := sd_X11_isAsked_0 C
set_option maxRecDepth 20000 in
theorem eq_X11_isAsked (x1 : Int32) (x2 : Int32) (x3 : Int32) (m : pj_M) : pj_run tb_X11_isAsked [] 19 0 [some (.inr (.inr (0, 11, 72))), some (.inl x1), some (.inl x2), some (.inl x3)] [] m = F_X11_isAsked x1 x2 x3 m := by rfl
theorem ct_X11_isAsked : pj_Ct pj_eI y_X11_isAsked c_X11_isAsked 4 (some .boolean) 3 W_X11_isAsked := by
  refine pj_ct_of (by decide +kernel) ?_ ?_
  · intro as m r h
    unfold W_X11_isAsked at h
    split at h
    · simp [pj_l0]
    · cases h
  · intro G A P S Z C as m r h hR
    unfold W_X11_isAsked at h
    split at h
    · split at h
      · rename_i hbq
        simp only [Bool.and_eq_true, Nat.beq_eq] at hbq
        obtain ⟨rfl, rfl, rfl⟩ := hbq
        exact pj_run_ok (sd_X11_isAsked C) (fun q h => by cases h) 19 0 _ _ _ _ ((eq_X11_isAsked _ _ _ _).trans h) hR
      · cases h
    · cases h
/-! AlikeStepsModel.tells(IIII)I -/
abbrev c_X11_tells : ByteArray := prog_13_method_68_code
def y_X11_tells : MethodName := ⟨RX11, "tells", "(IIII)I"⟩
noncomputable def F_X11_tells (x1 : Int32) (x2 : Int32) (x3 : Int32) (x4 : Int32) (m : pj_M) : Option (Int32 × pj_M) := ((F_X11_isAsked x1 x2 x3 m).bind fun q1 => (if q1.1 = 0 then (some ((-1000001), q1.2)) else ((F_X11_in x4 (-1) 9998 q1.2).bind fun q2 => (if q2.1 = 0 then (some ((-1000001), q2.2)) else ((F_X11_looks 72 78 0 q2.2).bind fun q3 => ((F_X11_partsBy x1 q3).bind fun q4 => ((F_X11_partedIn x2 x3 q4.2).bind fun q5 => (if q5.1 = (-1000000) then (some ((-1000000), q5.2)) else ((F_X11_tellsAll x1 q5.2).bind fun q6 => (if ((10 * x2) + x3) < 0 ∨ 100 ≤ ((10 * x2) + x3).toNatClampNeg then none else (if x4 = (-1) then (if (9999 : Int32) < (q6.1 88 ((10 * x2) + x3).toNatClampNeg) then (some (9999, q6)) else (some (q6.1 88 ((10 * x2) + x3).toNatClampNeg, q6))) else (if x4 < (q6.1 88 ((10 * x2) + x3).toNatClampNeg) then ((F_X11_codeAt x1 x2 x3 x4 q6).bind fun q7 => (some (q7.1, q7.2))) else (some ((-1000000), q6))))))))))))))
noncomputable def W_X11_tells : List pj_V → pj_M → Option (Int32 × pj_M) := fun as m => match as with
  | [.inr (.inr (t0, w0, a0)), .inl x1, .inl x2, .inl x3, .inl x4] => (match Nat.beq t0 0 && (Nat.beq w0 11 && (Nat.beq a0 72)) with
    | true => F_X11_tells x1 x2 x3 x4 m
    | false => none)
  | _ => none
noncomputable def tb_X11_tells_0 : List (Nat × pj_T (Int32 × pj_M)) := [(0, qs_lda 0 1), (1, qs_ldi 1 2), (2, qs_ldi 2 3), (3, qs_ldi 3 4), (4, qs_vI 11 4 W_X11_isAsked 7), (7, qs_ifeq 22 10), (10, qs_ldi 4 12), (12, qs_ci (-1) 13), (13, qs_ci 9998 16), (16, qs_sI 3 W_X11_in 19), (19, qs_ifne 25 22), (22, qs_ci (-1000001) 24), (24, qs_iret), (25, qs_lda 0 26), (26, qs_lda 0 27), (27, qs_gf 11 13 30), (30, qs_ci 0 31), (31, qs_vV 11 3 W_X11_looks 34), (34, qs_lda 0 35), (35, qs_ldi 1 36), (36, qs_vI 11 2 W_X11_partsBy 39), (39, qs_pop 40), (40, qs_lda 0 41), (41, qs_ldi 2 42), (42, qs_ldi 3 43), (43, qs_vI 11 3 W_X11_partedIn 46), (46, qs_ci (-1000000) 48), (48, qs_icne 54 51), (51, qs_ci (-1000000) 53), (53, qs_iret), (54, qs_lda 0 55), (55, qs_ldi 1 56), (56, qs_vV 11 2 W_X11_tellsAll 59), (59, qs_lda 0 60), (60, qs_gf 11 25 63), (63, qs_ci 10 65), (65, qs_ldi 2 66), (66, qs_b2 (fun x y => x * y) 67), (67, qs_ldi 3 68), (68, qs_b2 (fun x y => x + y) 69)]
noncomputable def tb_X11_tells_1 : List (Nat × pj_T (Int32 × pj_M)) := [(69, qs_iald 70), (70, qs_sti 5 72), (72, qs_ldi 4 74), (74, qs_ci (-1) 75), (75, qs_icne 95 78), (78, qs_ldi 5 80), (80, qs_ci 9999 83), (83, qs_icle 92 86), (86, qs_ci 9999 89), (89, qs_go 94), (92, qs_ldi 5 94), (94, qs_iret), (95, qs_ldi 4 97), (97, qs_ldi 5 99), (99, qs_icge 114 102), (102, qs_lda 0 103), (103, qs_ldi 1 104), (104, qs_ldi 2 105), (105, qs_ldi 3 106), (106, qs_ldi 4 108), (108, qs_vI 11 5 W_X11_codeAt 111), (111, qs_go 116), (114, qs_ci (-1000000) 116), (116, qs_iret)]
noncomputable def tb_X11_tells : List (Nat × pj_T (Int32 × pj_M)) := tb_X11_tells_0 ++ (tb_X11_tells_1)
theorem mv_X11_tells : pj_mv y_X11_tells c_X11_tells 6 (some .int) 4 := ⟨⟨cw_1357, cw_1355, cw_1356, cw_92⟩, by decide +kernel, by decide⟩
set_option maxRecDepth 20000 in
theorem sd_X11_tells_0 {G : pj_E} {A : Nat → Prop} {P : pj_P} {S : pj_U} {Z : pj_Z} (C : pj_C (G, A, (c_X11_tells, y_X11_tells.cls, 6, (some .int), 6), P, S, Z)) : ∀ q ∈ tb_X11_tells_0, pj_S (G, A, (c_X11_tells, y_X11_tells.cls, 6, (some .int), 6), P, S, Z) pj_eI q.1 q.2 :=
  List.forall_mem_cons.mpr ⟨qz_aload_n C (show decode c_X11_tells 0 = .ok (.aload_n 0, 1) by decide +kernel) rfl,
  List.forall_mem_cons.mpr ⟨qz_iload_n C (show decode c_X11_tells 1 = .ok (.iload_n 1, 1) by decide +kernel) rfl,
  List.forall_mem_cons.mpr ⟨qz_iload_n C (show decode c_X11_tells 2 = .ok (.iload_n 2, 1) by decide +kernel) rfl,
  List.forall_mem_cons.mpr ⟨qz_iload_n C (show decode c_X11_tells 3 = .ok (.iload_n 3, 1) by decide +kernel) rfl,
  List.forall_mem_cons.mpr ⟨qz_vI C (show decode c_X11_tells 4 = .ok (.invokevirtual 263, 3) by decide +kernel) ct_X11_isAsked mv_X11_isAsked cw_1358 vcX11 (show 3 < 6 by omega),
  List.forall_mem_cons.mpr ⟨qz_ifeq C (show decode c_X11_tells 7 = .ok (.ifCond .eq 15, 3) by decide +kernel) (by decide),
  List.forall_mem_cons.mpr ⟨qz_iload C (show decode c_X11_tells 10 = .ok (.iload 4, 2) by decide +kernel),
  List.forall_mem_cons.mpr ⟨qz_iconst C (show decode c_X11_tells 12 = .ok (.iconst (-1), 1) by decide +kernel) (by decide +kernel),
  List.forall_mem_cons.mpr ⟨qz_sipush C (show decode c_X11_tells 13 = .ok (.sipush 9998, 3) by decide +kernel) (by decide +kernel),
  List.forall_mem_cons.mpr ⟨qz_sI C (show decode c_X11_tells 16 = .ok (.invokestatic 84, 3) by decide +kernel) ct_X11_in mv_X11_in (Or.inl cw_1126) (show 1 < 6 by omega),
  List.forall_mem_cons.mpr ⟨qz_ifne C (show decode c_X11_tells 19 = .ok (.ifCond .ne 6, 3) by decide +kernel) (by decide),
  List.forall_mem_cons.mpr ⟨qz_ldc C (show decode c_X11_tells 22 = .ok (.ldc 92, 2) by decide +kernel) cw_1129,
  List.forall_mem_cons.mpr ⟨qz_iret C (show decode c_X11_tells 24 = .ok (.ireturn, 1) by decide +kernel) rfl,
  List.forall_mem_cons.mpr ⟨qz_aload_n C (show decode c_X11_tells 25 = .ok (.aload_n 0, 1) by decide +kernel) rfl,
  List.forall_mem_cons.mpr ⟨qz_aload_n C (show decode c_X11_tells 26 = .ok (.aload_n 0, 1) by decide +kernel) rfl,
  List.forall_mem_cons.mpr ⟨qz_gf (k := 13) C (show decode c_X11_tells 27 = .ok (.getfield 25, 3) by decide +kernel) vcX11 wiX11 (by decide) cw_1031,
  List.forall_mem_cons.mpr ⟨qz_iconst C (show decode c_X11_tells 30 = .ok (.iconst 0, 1) by decide +kernel) (by decide +kernel),
  List.forall_mem_cons.mpr ⟨qz_vV C (show decode c_X11_tells 31 = .ok (.invokevirtual 235, 3) by decide +kernel) ct_X11_looks mv_X11_looks cw_1261 vcX11 (show 4 < 6 by omega),
  List.forall_mem_cons.mpr ⟨qz_aload_n C (show decode c_X11_tells 34 = .ok (.aload_n 0, 1) by decide +kernel) rfl,
  List.forall_mem_cons.mpr ⟨qz_iload_n C (show decode c_X11_tells 35 = .ok (.iload_n 1, 1) by decide +kernel) rfl,
  List.forall_mem_cons.mpr ⟨qz_vI C (show decode c_X11_tells 36 = .ok (.invokevirtual 239, 3) by decide +kernel) ct_X11_partsBy mv_X11_partsBy cw_1300 vcX11 (show 5 < 6 by omega),
  List.forall_mem_cons.mpr ⟨qz_pop C (show decode c_X11_tells 39 = .ok (.pop, 1) by decide +kernel),
  List.forall_mem_cons.mpr ⟨qz_aload_n C (show decode c_X11_tells 40 = .ok (.aload_n 0, 1) by decide +kernel) rfl,
  List.forall_mem_cons.mpr ⟨qz_iload_n C (show decode c_X11_tells 41 = .ok (.iload_n 2, 1) by decide +kernel) rfl,
  List.forall_mem_cons.mpr ⟨qz_iload_n C (show decode c_X11_tells 42 = .ok (.iload_n 3, 1) by decide +kernel) rfl,
  List.forall_mem_cons.mpr ⟨qz_vI C (show decode c_X11_tells 43 = .ok (.invokevirtual 250, 3) by decide +kernel) ct_X11_partedIn mv_X11_partedIn cw_1350 vcX11 (show 2 < 6 by omega),
  List.forall_mem_cons.mpr ⟨qz_ldc C (show decode c_X11_tells 46 = .ok (.ldc 78, 2) by decide +kernel) cw_1017,
  List.forall_mem_cons.mpr ⟨qz_icne C (show decode c_X11_tells 48 = .ok (.if_icmp .ne 6, 3) by decide +kernel) (by decide),
  List.forall_mem_cons.mpr ⟨qz_ldc C (show decode c_X11_tells 51 = .ok (.ldc 78, 2) by decide +kernel) cw_1017,
  List.forall_mem_cons.mpr ⟨qz_iret C (show decode c_X11_tells 53 = .ok (.ireturn, 1) by decide +kernel) rfl,
  List.forall_mem_cons.mpr ⟨qz_aload_n C (show decode c_X11_tells 54 = .ok (.aload_n 0, 1) by decide +kernel) rfl,
  List.forall_mem_cons.mpr ⟨qz_iload_n C (show decode c_X11_tells 55 = .ok (.iload_n 1, 1) by decide +kernel) rfl,
  List.forall_mem_cons.mpr ⟨qz_vV C (show decode c_X11_tells 56 = .ok (.invokevirtual 266, 3) by decide +kernel) ct_X11_tellsAll mv_X11_tellsAll cw_1362 vcX11 (show 5 < 6 by omega),
  List.forall_mem_cons.mpr ⟨qz_aload_n C (show decode c_X11_tells 59 = .ok (.aload_n 0, 1) by decide +kernel) rfl,
  List.forall_mem_cons.mpr ⟨qz_gf (k := 25) C (show decode c_X11_tells 60 = .ok (.getfield 57, 3) by decide +kernel) vcX11 wiX11 (by decide) cw_1043,
  List.forall_mem_cons.mpr ⟨qz_bipush C (show decode c_X11_tells 63 = .ok (.bipush 10, 2) by decide +kernel) (by decide +kernel),
  List.forall_mem_cons.mpr ⟨qz_iload_n C (show decode c_X11_tells 65 = .ok (.iload_n 2, 1) by decide +kernel) rfl,
  List.forall_mem_cons.mpr ⟨qz_imul C (show decode c_X11_tells 66 = .ok (.imul, 1) by decide +kernel),
  List.forall_mem_cons.mpr ⟨qz_iload_n C (show decode c_X11_tells 67 = .ok (.iload_n 3, 1) by decide +kernel) rfl,
  List.forall_mem_cons.mpr ⟨qz_iadd C (show decode c_X11_tells 68 = .ok (.iadd, 1) by decide +kernel),
  (fun q h => by cases h)⟩⟩⟩⟩⟩⟩⟩⟩⟩⟩⟩⟩⟩⟩⟩⟩⟩⟩⟩⟩⟩⟩⟩⟩⟩⟩⟩⟩⟩⟩⟩⟩⟩⟩⟩⟩⟩⟩⟩⟩
set_option maxRecDepth 20000 in
theorem sd_X11_tells_1 {G : pj_E} {A : Nat → Prop} {P : pj_P} {S : pj_U} {Z : pj_Z} (C : pj_C (G, A, (c_X11_tells, y_X11_tells.cls, 6, (some .int), 6), P, S, Z)) : ∀ q ∈ tb_X11_tells_1, pj_S (G, A, (c_X11_tells, y_X11_tells.cls, 6, (some .int), 6), P, S, Z) pj_eI q.1 q.2 :=
  List.forall_mem_cons.mpr ⟨qz_iald C (show decode c_X11_tells 69 = .ok (.iaload, 1) by decide +kernel),
  List.forall_mem_cons.mpr ⟨qz_istore C (show decode c_X11_tells 70 = .ok (.istore 5, 2) by decide +kernel),
  List.forall_mem_cons.mpr ⟨qz_iload C (show decode c_X11_tells 72 = .ok (.iload 4, 2) by decide +kernel),
  List.forall_mem_cons.mpr ⟨qz_iconst C (show decode c_X11_tells 74 = .ok (.iconst (-1), 1) by decide +kernel) (by decide +kernel),
  List.forall_mem_cons.mpr ⟨qz_icne C (show decode c_X11_tells 75 = .ok (.if_icmp .ne 20, 3) by decide +kernel) (by decide),
  List.forall_mem_cons.mpr ⟨qz_iload C (show decode c_X11_tells 78 = .ok (.iload 5, 2) by decide +kernel),
  List.forall_mem_cons.mpr ⟨qz_sipush C (show decode c_X11_tells 80 = .ok (.sipush 9999, 3) by decide +kernel) (by decide +kernel),
  List.forall_mem_cons.mpr ⟨qz_icle C (show decode c_X11_tells 83 = .ok (.if_icmp .le 9, 3) by decide +kernel) (by decide),
  List.forall_mem_cons.mpr ⟨qz_sipush C (show decode c_X11_tells 86 = .ok (.sipush 9999, 3) by decide +kernel) (by decide +kernel),
  List.forall_mem_cons.mpr ⟨qz_goto C (show decode c_X11_tells 89 = .ok (.goto 5, 3) by decide +kernel) (by decide),
  List.forall_mem_cons.mpr ⟨qz_iload C (show decode c_X11_tells 92 = .ok (.iload 5, 2) by decide +kernel),
  List.forall_mem_cons.mpr ⟨qz_iret C (show decode c_X11_tells 94 = .ok (.ireturn, 1) by decide +kernel) rfl,
  List.forall_mem_cons.mpr ⟨qz_iload C (show decode c_X11_tells 95 = .ok (.iload 4, 2) by decide +kernel),
  List.forall_mem_cons.mpr ⟨qz_iload C (show decode c_X11_tells 97 = .ok (.iload 5, 2) by decide +kernel),
  List.forall_mem_cons.mpr ⟨qz_icge C (show decode c_X11_tells 99 = .ok (.if_icmp .ge 15, 3) by decide +kernel) (by decide),
  List.forall_mem_cons.mpr ⟨qz_aload_n C (show decode c_X11_tells 102 = .ok (.aload_n 0, 1) by decide +kernel) rfl,
  List.forall_mem_cons.mpr ⟨qz_iload_n C (show decode c_X11_tells 103 = .ok (.iload_n 1, 1) by decide +kernel) rfl,
  List.forall_mem_cons.mpr ⟨qz_iload_n C (show decode c_X11_tells 104 = .ok (.iload_n 2, 1) by decide +kernel) rfl,
  List.forall_mem_cons.mpr ⟨qz_iload_n C (show decode c_X11_tells 105 = .ok (.iload_n 3, 1) by decide +kernel) rfl,
  List.forall_mem_cons.mpr ⟨qz_iload C (show decode c_X11_tells 106 = .ok (.iload 4, 2) by decide +kernel),
  List.forall_mem_cons.mpr ⟨qz_vI C (show decode c_X11_tells 108 = .ok (.invokevirtual 270, 3) by decide +kernel) ct_X11_codeAt mv_X11_codeAt cw_1374 vcX11 (show 4 < 6 by omega),
  List.forall_mem_cons.mpr ⟨qz_goto C (show decode c_X11_tells 111 = .ok (.goto 5, 3) by decide +kernel) (by decide),
  List.forall_mem_cons.mpr ⟨qz_ldc C (show decode c_X11_tells 114 = .ok (.ldc 78, 2) by decide +kernel) cw_1017,
  List.forall_mem_cons.mpr ⟨qz_iret C (show decode c_X11_tells 116 = .ok (.ireturn, 1) by decide +kernel) rfl,
  (fun q h => by cases h)⟩⟩⟩⟩⟩⟩⟩⟩⟩⟩⟩⟩⟩⟩⟩⟩⟩⟩⟩⟩⟩⟩⟩⟩
theorem sd_X11_tells {G : pj_E} {A : Nat → Prop} {P : pj_P} {S : pj_U} {Z : pj_Z} (C : pj_C (G, A, (c_X11_tells, y_X11_tells.cls, 6, (some .int), 6), P, S, Z)) : ∀ q ∈ tb_X11_tells, pj_S (G, A, (c_X11_tells, y_X11_tells.cls, 6, (some .int), 6), P, S, Z) pj_eI q.1 q.2 := List.forall_mem_append.mpr ⟨sd_X11_tells_0 C, sd_X11_tells_1 C⟩
set_option maxRecDepth 20000 in
theorem eq_X11_tells (x1 : Int32) (x2 : Int32) (x3 : Int32) (x4 : Int32) (m : pj_M) : pj_run tb_X11_tells [] 66 0 [some (.inr (.inr (0, 11, 72))), some (.inl x1), some (.inl x2), some (.inl x3), some (.inl x4), none] [] m = F_X11_tells x1 x2 x3 x4 m := by rfl
theorem ct_X11_tells : pj_Ct pj_eI y_X11_tells c_X11_tells 6 (some .int) 6 W_X11_tells := by
  refine pj_ct_of (by decide +kernel) ?_ ?_
  · intro as m r h
    unfold W_X11_tells at h
    split at h
    · simp [pj_l0]
    · cases h
  · intro G A P S Z C as m r h hR
    unfold W_X11_tells at h
    split at h
    · split at h
      · rename_i hbq
        simp only [Bool.and_eq_true, Nat.beq_eq] at hbq
        obtain ⟨rfl, rfl, rfl⟩ := hbq
        exact pj_run_ok (sd_X11_tells C) (fun q h => by cases h) 66 0 _ _ _ _ ((eq_X11_tells _ _ _ _ _).trans h) hR
      · cases h
    · cases h
/-! AlikeStepsModel.depth(III)I -/
abbrev c_X11_depth : ByteArray := prog_13_method_69_code
def y_X11_depth : MethodName := ⟨RX11, "depth", "(III)I"⟩
noncomputable def F_X11_depth (x1 : Int32) (x2 : Int32) (x3 : Int32) (m : pj_M) : Option (Int32 × pj_M) := ((F_X11_isAsked x1 x2 x3 m).bind fun q1 => (if q1.1 = 0 then (some ((-1000001), q1.2)) else ((F_X11_looks 72 78 0 q1.2).bind fun q2 => ((F_X11_partsBy x1 q2).bind fun q3 => ((F_X11_partedIn x2 x3 q3.2).bind fun q4 => (if q4.1 = (-1000000) then (some ((-1000000), q4.2)) else ((F_X11_tellsAll x1 q4.2).bind fun q5 => (if ((10 * x2) + x3) < 0 ∨ 100 ≤ ((10 * x2) + x3).toNatClampNeg then none else (some (q5.1 89 ((10 * x2) + x3).toNatClampNeg, q5))))))))))
noncomputable def W_X11_depth : List pj_V → pj_M → Option (Int32 × pj_M) := fun as m => match as with
  | [.inr (.inr (t0, w0, a0)), .inl x1, .inl x2, .inl x3] => (match Nat.beq t0 0 && (Nat.beq w0 11 && (Nat.beq a0 72)) with
    | true => F_X11_depth x1 x2 x3 m
    | false => none)
  | _ => none
noncomputable def tb_X11_depth_0 : List (Nat × pj_T (Int32 × pj_M)) := [(0, qs_lda 0 1), (1, qs_ldi 1 2), (2, qs_ldi 2 3), (3, qs_ldi 3 4), (4, qs_vI 11 4 W_X11_isAsked 7), (7, qs_ifne 13 10), (10, qs_ci (-1000001) 12), (12, qs_iret), (13, qs_lda 0 14), (14, qs_lda 0 15), (15, qs_gf 11 13 18), (18, qs_ci 0 19), (19, qs_vV 11 3 W_X11_looks 22), (22, qs_lda 0 23), (23, qs_ldi 1 24), (24, qs_vI 11 2 W_X11_partsBy 27), (27, qs_pop 28), (28, qs_lda 0 29), (29, qs_ldi 2 30), (30, qs_ldi 3 31), (31, qs_vI 11 3 W_X11_partedIn 34), (34, qs_ci (-1000000) 36), (36, qs_icne 42 39), (39, qs_ci (-1000000) 41), (41, qs_iret), (42, qs_lda 0 43), (43, qs_ldi 1 44), (44, qs_vV 11 2 W_X11_tellsAll 47), (47, qs_lda 0 48), (48, qs_gf 11 26 51), (51, qs_ci 10 53), (53, qs_ldi 2 54), (54, qs_b2 (fun x y => x * y) 55), (55, qs_ldi 3 56), (56, qs_b2 (fun x y => x + y) 57), (57, qs_iald 58), (58, qs_iret)]
noncomputable abbrev tb_X11_depth : List (Nat × pj_T (Int32 × pj_M)) := tb_X11_depth_0
theorem mv_X11_depth : pj_mv y_X11_depth c_X11_depth 4 (some .int) 3 := ⟨⟨cw_1384, cw_1382, cw_1383, cw_92⟩, by decide +kernel, by decide⟩
set_option maxRecDepth 20000 in
theorem sd_X11_depth_0 {G : pj_E} {A : Nat → Prop} {P : pj_P} {S : pj_U} {Z : pj_Z} (C : pj_C (G, A, (c_X11_depth, y_X11_depth.cls, 4, (some .int), 6), P, S, Z)) : ∀ q ∈ tb_X11_depth_0, pj_S (G, A, (c_X11_depth, y_X11_depth.cls, 4, (some .int), 6), P, S, Z) pj_eI q.1 q.2 :=
  List.forall_mem_cons.mpr ⟨qz_aload_n C (show decode c_X11_depth 0 = .ok (.aload_n 0, 1) by decide +kernel) rfl,
  List.forall_mem_cons.mpr ⟨qz_iload_n C (show decode c_X11_depth 1 = .ok (.iload_n 1, 1) by decide +kernel) rfl,
  List.forall_mem_cons.mpr ⟨qz_iload_n C (show decode c_X11_depth 2 = .ok (.iload_n 2, 1) by decide +kernel) rfl,
  List.forall_mem_cons.mpr ⟨qz_iload_n C (show decode c_X11_depth 3 = .ok (.iload_n 3, 1) by decide +kernel) rfl,
  List.forall_mem_cons.mpr ⟨qz_vI C (show decode c_X11_depth 4 = .ok (.invokevirtual 263, 3) by decide +kernel) ct_X11_isAsked mv_X11_isAsked cw_1358 vcX11 (show 3 < 6 by omega),
  List.forall_mem_cons.mpr ⟨qz_ifne C (show decode c_X11_depth 7 = .ok (.ifCond .ne 6, 3) by decide +kernel) (by decide),
  List.forall_mem_cons.mpr ⟨qz_ldc C (show decode c_X11_depth 10 = .ok (.ldc 92, 2) by decide +kernel) cw_1129,
  List.forall_mem_cons.mpr ⟨qz_iret C (show decode c_X11_depth 12 = .ok (.ireturn, 1) by decide +kernel) rfl,
  List.forall_mem_cons.mpr ⟨qz_aload_n C (show decode c_X11_depth 13 = .ok (.aload_n 0, 1) by decide +kernel) rfl,
  List.forall_mem_cons.mpr ⟨qz_aload_n C (show decode c_X11_depth 14 = .ok (.aload_n 0, 1) by decide +kernel) rfl,
  List.forall_mem_cons.mpr ⟨qz_gf (k := 13) C (show decode c_X11_depth 15 = .ok (.getfield 25, 3) by decide +kernel) vcX11 wiX11 (by decide) cw_1031,
  List.forall_mem_cons.mpr ⟨qz_iconst C (show decode c_X11_depth 18 = .ok (.iconst 0, 1) by decide +kernel) (by decide +kernel),
  List.forall_mem_cons.mpr ⟨qz_vV C (show decode c_X11_depth 19 = .ok (.invokevirtual 235, 3) by decide +kernel) ct_X11_looks mv_X11_looks cw_1261 vcX11 (show 4 < 6 by omega),
  List.forall_mem_cons.mpr ⟨qz_aload_n C (show decode c_X11_depth 22 = .ok (.aload_n 0, 1) by decide +kernel) rfl,
  List.forall_mem_cons.mpr ⟨qz_iload_n C (show decode c_X11_depth 23 = .ok (.iload_n 1, 1) by decide +kernel) rfl,
  List.forall_mem_cons.mpr ⟨qz_vI C (show decode c_X11_depth 24 = .ok (.invokevirtual 239, 3) by decide +kernel) ct_X11_partsBy mv_X11_partsBy cw_1300 vcX11 (show 5 < 6 by omega),
  List.forall_mem_cons.mpr ⟨qz_pop C (show decode c_X11_depth 27 = .ok (.pop, 1) by decide +kernel),
  List.forall_mem_cons.mpr ⟨qz_aload_n C (show decode c_X11_depth 28 = .ok (.aload_n 0, 1) by decide +kernel) rfl,
  List.forall_mem_cons.mpr ⟨qz_iload_n C (show decode c_X11_depth 29 = .ok (.iload_n 2, 1) by decide +kernel) rfl,
  List.forall_mem_cons.mpr ⟨qz_iload_n C (show decode c_X11_depth 30 = .ok (.iload_n 3, 1) by decide +kernel) rfl,
  List.forall_mem_cons.mpr ⟨qz_vI C (show decode c_X11_depth 31 = .ok (.invokevirtual 250, 3) by decide +kernel) ct_X11_partedIn mv_X11_partedIn cw_1350 vcX11 (show 2 < 6 by omega),
  List.forall_mem_cons.mpr ⟨qz_ldc C (show decode c_X11_depth 34 = .ok (.ldc 78, 2) by decide +kernel) cw_1017,
  List.forall_mem_cons.mpr ⟨qz_icne C (show decode c_X11_depth 36 = .ok (.if_icmp .ne 6, 3) by decide +kernel) (by decide),
  List.forall_mem_cons.mpr ⟨qz_ldc C (show decode c_X11_depth 39 = .ok (.ldc 78, 2) by decide +kernel) cw_1017,
  List.forall_mem_cons.mpr ⟨qz_iret C (show decode c_X11_depth 41 = .ok (.ireturn, 1) by decide +kernel) rfl,
  List.forall_mem_cons.mpr ⟨qz_aload_n C (show decode c_X11_depth 42 = .ok (.aload_n 0, 1) by decide +kernel) rfl,
  List.forall_mem_cons.mpr ⟨qz_iload_n C (show decode c_X11_depth 43 = .ok (.iload_n 1, 1) by decide +kernel) rfl,
  List.forall_mem_cons.mpr ⟨qz_vV C (show decode c_X11_depth 44 = .ok (.invokevirtual 266, 3) by decide +kernel) ct_X11_tellsAll mv_X11_tellsAll cw_1362 vcX11 (show 5 < 6 by omega),
  List.forall_mem_cons.mpr ⟨qz_aload_n C (show decode c_X11_depth 47 = .ok (.aload_n 0, 1) by decide +kernel) rfl,
  List.forall_mem_cons.mpr ⟨qz_gf (k := 26) C (show decode c_X11_depth 48 = .ok (.getfield 60, 3) by decide +kernel) vcX11 wiX11 (by decide) cw_1044,
  List.forall_mem_cons.mpr ⟨qz_bipush C (show decode c_X11_depth 51 = .ok (.bipush 10, 2) by decide +kernel) (by decide +kernel),
  List.forall_mem_cons.mpr ⟨qz_iload_n C (show decode c_X11_depth 53 = .ok (.iload_n 2, 1) by decide +kernel) rfl,
  List.forall_mem_cons.mpr ⟨qz_imul C (show decode c_X11_depth 54 = .ok (.imul, 1) by decide +kernel),
  List.forall_mem_cons.mpr ⟨qz_iload_n C (show decode c_X11_depth 55 = .ok (.iload_n 3, 1) by decide +kernel) rfl,
  List.forall_mem_cons.mpr ⟨qz_iadd C (show decode c_X11_depth 56 = .ok (.iadd, 1) by decide +kernel),
  List.forall_mem_cons.mpr ⟨qz_iald C (show decode c_X11_depth 57 = .ok (.iaload, 1) by decide +kernel),
  List.forall_mem_cons.mpr ⟨qz_iret C (show decode c_X11_depth 58 = .ok (.ireturn, 1) by decide +kernel) rfl,
  (fun q h => by cases h)⟩⟩⟩⟩⟩⟩⟩⟩⟩⟩⟩⟩⟩⟩⟩⟩⟩⟩⟩⟩⟩⟩⟩⟩⟩⟩⟩⟩⟩⟩⟩⟩⟩⟩⟩⟩⟩
theorem sd_X11_depth {G : pj_E} {A : Nat → Prop} {P : pj_P} {S : pj_U} {Z : pj_Z} (C : pj_C (G, A, (c_X11_depth, y_X11_depth.cls, 4, (some .int), 6), P, S, Z)) : ∀ q ∈ tb_X11_depth, pj_S (G, A, (c_X11_depth, y_X11_depth.cls, 4, (some .int), 6), P, S, Z) pj_eI q.1 q.2 := sd_X11_depth_0 C
set_option maxRecDepth 20000 in
theorem eq_X11_depth (x1 : Int32) (x2 : Int32) (x3 : Int32) (m : pj_M) : pj_run tb_X11_depth [] 39 0 [some (.inr (.inr (0, 11, 72))), some (.inl x1), some (.inl x2), some (.inl x3)] [] m = F_X11_depth x1 x2 x3 m := by rfl
theorem ct_X11_depth : pj_Ct pj_eI y_X11_depth c_X11_depth 4 (some .int) 6 W_X11_depth := by
  refine pj_ct_of (by decide +kernel) ?_ ?_
  · intro as m r h
    unfold W_X11_depth at h
    split at h
    · simp [pj_l0]
    · cases h
  · intro G A P S Z C as m r h hR
    unfold W_X11_depth at h
    split at h
    · split at h
      · rename_i hbq
        simp only [Bool.and_eq_true, Nat.beq_eq] at hbq
        obtain ⟨rfl, rfl, rfl⟩ := hbq
        exact pj_run_ok (sd_X11_depth C) (fun q h => by cases h) 39 0 _ _ _ _ ((eq_X11_depth _ _ _ _).trans h) hR
      · cases h
    · cases h
/-! AlikeStepsModel.movingInto(III)I -/
abbrev c_X11_movingInto : ByteArray := prog_13_method_70_code
def y_X11_movingInto : MethodName := ⟨RX11, "movingInto", "(III)I"⟩
noncomputable def H_X11_movingInto_6 : Nat → Int32 → Int32 → Int32 → Int32 → Int32 → pj_M → Option (Int32 × pj_M)
  | 0, _, _, _, _, _, _ => none
  | n1 + 1, x1, x2, x3, x4, x5, m => ((F_X11_states m).bind fun q1 => (if x5 < q1.1 then ((F_X11_moving x1 x5 x2 q1.2).bind fun q2 => (if (q2.1 &&& x3) = 0 then (H_X11_movingInto_6 n1 x1 x2 x3 (x4 ||| 0) (x5 + 1) q2.2) else (H_X11_movingInto_6 n1 x1 x2 x3 (x4 ||| (1 <<< (x5 &&& 31))) (x5 + 1) q2.2))) else (some (x4, q1.2))))
noncomputable def F_X11_movingInto (x1 : Int32) (x2 : Int32) (x3 : Int32) (m : pj_M) : Option (Int32 × pj_M) := (H_X11_movingInto_6 pj_z x1 x2 x3 0 0 m)
noncomputable def W_X11_movingInto : List pj_V → pj_M → Option (Int32 × pj_M) := fun as m => match as with
  | [.inr (.inr (t0, w0, a0)), .inl x1, .inl x2, .inl x3] => (match Nat.beq t0 0 && (Nat.beq w0 11 && (Nat.beq a0 72)) with
    | true => F_X11_movingInto x1 x2 x3 m
    | false => none)
  | _ => none
noncomputable def tb_X11_movingInto_0 : List (Nat × pj_T (Int32 × pj_M)) := [(0, qs_ci 0 1), (1, qs_sti 4 3), (3, qs_ci 0 4), (4, qs_sti 5 6), (6, qs_ldi 5 8), (8, qs_lda 0 9), (9, qs_vI 11 1 W_X11_states 12), (12, qs_icge 47 15), (15, qs_ldi 4 17), (17, qs_lda 0 18), (18, qs_ldi 1 19), (19, qs_ldi 5 21), (21, qs_ldi 2 22), (22, qs_vI 11 4 W_X11_moving 25), (25, qs_ldi 3 26), (26, qs_b2 (fun x y => x &&& y) 27), (27, qs_ifeq 37 30), (30, qs_ci 1 31), (31, qs_ldi 5 33), (33, qs_b2 (fun x y => x <<< (y &&& 31)) 34), (34, qs_go 38), (37, qs_ci 0 38), (38, qs_b2 (fun x y => x ||| y) 39), (39, qs_sti 4 41), (41, qs_inc 5 1 44), (44, qs_go 6), (47, qs_ldi 4 49), (49, qs_iret)]
noncomputable abbrev tb_X11_movingInto : List (Nat × pj_T (Int32 × pj_M)) := tb_X11_movingInto_0
theorem mv_X11_movingInto : pj_mv y_X11_movingInto c_X11_movingInto 6 (some .int) 3 := ⟨⟨cw_1392, cw_1391, cw_69, cw_92⟩, by decide +kernel, by decide⟩
set_option maxRecDepth 20000 in
theorem sd_X11_movingInto_0 {G : pj_E} {A : Nat → Prop} {P : pj_P} {S : pj_U} {Z : pj_Z} (C : pj_C (G, A, (c_X11_movingInto, y_X11_movingInto.cls, 6, (some .int), 4), P, S, Z)) : ∀ q ∈ tb_X11_movingInto_0, pj_S (G, A, (c_X11_movingInto, y_X11_movingInto.cls, 6, (some .int), 4), P, S, Z) pj_eI q.1 q.2 :=
  List.forall_mem_cons.mpr ⟨qz_iconst C (show decode c_X11_movingInto 0 = .ok (.iconst 0, 1) by decide +kernel) (by decide +kernel),
  List.forall_mem_cons.mpr ⟨qz_istore C (show decode c_X11_movingInto 1 = .ok (.istore 4, 2) by decide +kernel),
  List.forall_mem_cons.mpr ⟨qz_iconst C (show decode c_X11_movingInto 3 = .ok (.iconst 0, 1) by decide +kernel) (by decide +kernel),
  List.forall_mem_cons.mpr ⟨qz_istore C (show decode c_X11_movingInto 4 = .ok (.istore 5, 2) by decide +kernel),
  List.forall_mem_cons.mpr ⟨qz_iload C (show decode c_X11_movingInto 6 = .ok (.iload 5, 2) by decide +kernel),
  List.forall_mem_cons.mpr ⟨qz_aload_n C (show decode c_X11_movingInto 8 = .ok (.aload_n 0, 1) by decide +kernel) rfl,
  List.forall_mem_cons.mpr ⟨qz_vI C (show decode c_X11_movingInto 9 = .ok (.invokevirtual 177, 3) by decide +kernel) ct_X11_states mv_X11_states cw_1269 vcX11 (show 1 < 4 by omega),
  List.forall_mem_cons.mpr ⟨qz_icge C (show decode c_X11_movingInto 12 = .ok (.if_icmp .ge 35, 3) by decide +kernel) (by decide),
  List.forall_mem_cons.mpr ⟨qz_iload C (show decode c_X11_movingInto 15 = .ok (.iload 4, 2) by decide +kernel),
  List.forall_mem_cons.mpr ⟨qz_aload_n C (show decode c_X11_movingInto 17 = .ok (.aload_n 0, 1) by decide +kernel) rfl,
  List.forall_mem_cons.mpr ⟨qz_iload_n C (show decode c_X11_movingInto 18 = .ok (.iload_n 1, 1) by decide +kernel) rfl,
  List.forall_mem_cons.mpr ⟨qz_iload C (show decode c_X11_movingInto 19 = .ok (.iload 5, 2) by decide +kernel),
  List.forall_mem_cons.mpr ⟨qz_iload_n C (show decode c_X11_movingInto 21 = .ok (.iload_n 2, 1) by decide +kernel) rfl,
  List.forall_mem_cons.mpr ⟨qz_vI C (show decode c_X11_movingInto 22 = .ok (.invokevirtual 200, 3) by decide +kernel) ct_X11_moving mv_X11_moving cw_1284 vcX11 (show 3 < 4 by omega),
  List.forall_mem_cons.mpr ⟨qz_iload_n C (show decode c_X11_movingInto 25 = .ok (.iload_n 3, 1) by decide +kernel) rfl,
  List.forall_mem_cons.mpr ⟨qz_iand C (show decode c_X11_movingInto 26 = .ok (.iand, 1) by decide +kernel),
  List.forall_mem_cons.mpr ⟨qz_ifeq C (show decode c_X11_movingInto 27 = .ok (.ifCond .eq 10, 3) by decide +kernel) (by decide),
  List.forall_mem_cons.mpr ⟨qz_iconst C (show decode c_X11_movingInto 30 = .ok (.iconst 1, 1) by decide +kernel) (by decide +kernel),
  List.forall_mem_cons.mpr ⟨qz_iload C (show decode c_X11_movingInto 31 = .ok (.iload 5, 2) by decide +kernel),
  List.forall_mem_cons.mpr ⟨qz_ishl C (show decode c_X11_movingInto 33 = .ok (.ishl, 1) by decide +kernel),
  List.forall_mem_cons.mpr ⟨qz_goto C (show decode c_X11_movingInto 34 = .ok (.goto 4, 3) by decide +kernel) (by decide),
  List.forall_mem_cons.mpr ⟨qz_iconst C (show decode c_X11_movingInto 37 = .ok (.iconst 0, 1) by decide +kernel) (by decide +kernel),
  List.forall_mem_cons.mpr ⟨qz_ior C (show decode c_X11_movingInto 38 = .ok (.ior, 1) by decide +kernel),
  List.forall_mem_cons.mpr ⟨qz_istore C (show decode c_X11_movingInto 39 = .ok (.istore 4, 2) by decide +kernel),
  List.forall_mem_cons.mpr ⟨qz_iinc C (show decode c_X11_movingInto 41 = .ok (.iinc 5 1, 3) by decide +kernel) (by decide +kernel),
  List.forall_mem_cons.mpr ⟨qz_goto C (show decode c_X11_movingInto 44 = .ok (.goto (-38), 3) by decide +kernel) (by decide),
  List.forall_mem_cons.mpr ⟨qz_iload C (show decode c_X11_movingInto 47 = .ok (.iload 4, 2) by decide +kernel),
  List.forall_mem_cons.mpr ⟨qz_iret C (show decode c_X11_movingInto 49 = .ok (.ireturn, 1) by decide +kernel) rfl,
  (fun q h => by cases h)⟩⟩⟩⟩⟩⟩⟩⟩⟩⟩⟩⟩⟩⟩⟩⟩⟩⟩⟩⟩⟩⟩⟩⟩⟩⟩⟩⟩
theorem sd_X11_movingInto {G : pj_E} {A : Nat → Prop} {P : pj_P} {S : pj_U} {Z : pj_Z} (C : pj_C (G, A, (c_X11_movingInto, y_X11_movingInto.cls, 6, (some .int), 4), P, S, Z)) : ∀ q ∈ tb_X11_movingInto, pj_S (G, A, (c_X11_movingInto, y_X11_movingInto.cls, 6, (some .int), 4), P, S, Z) pj_eI q.1 q.2 := sd_X11_movingInto_0 C
noncomputable def C_X11_movingInto_6 (f : Int32 → Int32 → Int32 → Int32 → Int32 → pj_M → Option (Int32 × pj_M)) : pj_N (Int32 × pj_M) := fun L st m => match L, st with
  | [some (.inr (.inr (t0, w0, a0))), some (.inl x1), some (.inl x2), some (.inl x3), some (.inl x4), some (.inl x5)], [] => (match Nat.beq t0 0 && (Nat.beq w0 11 && (Nat.beq a0 72)) with
    | true => f x1 x2 x3 x4 x5 m
    | false => none)
  | _, _ => none
set_option maxRecDepth 20000 in
theorem eq_X11_movingInto_6 (n1 : Nat) (x1 : Int32) (x2 : Int32) (x3 : Int32) (x4 : Int32) (x5 : Int32) (m : pj_M) : pj_run tb_X11_movingInto [(6, C_X11_movingInto_6 (H_X11_movingInto_6 n1))] 30 6 [some (.inr (.inr (0, 11, 72))), some (.inl x1), some (.inl x2), some (.inl x3), some (.inl x4), some (.inl x5)] [] m = H_X11_movingInto_6 (n1 + 1) x1 x2 x3 x4 x5 m := by rfl
theorem sg_X11_movingInto_6 {G : pj_E} {A : Nat → Prop} {P : pj_P} {S : pj_U} {Z : pj_Z} (C : pj_C (G, A, (c_X11_movingInto, y_X11_movingInto.cls, 6, (some .int), 4), P, S, Z)) : ∀ n1, pj_G (G, A, (c_X11_movingInto, y_X11_movingInto.cls, 6, (some .int), 4), P, S, Z) pj_eI 6 (C_X11_movingInto_6 (H_X11_movingInto_6 n1)) := by
  intro n1
  induction n1 with
  | zero =>
    intro L st m r h hR
    unfold C_X11_movingInto_6 at h
    split at h
    · split at h
      · cases h
      · cases h
    · cases h
  | succ n1 ih1 =>
    intro L st m r h hR
    unfold C_X11_movingInto_6 at h
    split at h
    · split at h
      · rename_i hbq
        simp only [Bool.and_eq_true, Nat.beq_eq] at hbq
        obtain ⟨rfl, rfl, rfl⟩ := hbq
        exact pj_run_ok (sd_X11_movingInto C) (List.forall_mem_cons.mpr ⟨ih1, fun q h => by cases h⟩) 30 6 _ _ _ _ ((eq_X11_movingInto_6 _ _ _ _ _ _ _).trans h) hR
      · cases h
    · cases h
set_option maxRecDepth 20000 in
theorem eq_X11_movingInto (x1 : Int32) (x2 : Int32) (x3 : Int32) (m : pj_M) : pj_run tb_X11_movingInto [(6, C_X11_movingInto_6 (H_X11_movingInto_6  pj_z))] 30 0 [some (.inr (.inr (0, 11, 72))), some (.inl x1), some (.inl x2), some (.inl x3), none, none] [] m = F_X11_movingInto x1 x2 x3 m := by rfl
theorem ct_X11_movingInto : pj_Ct pj_eI y_X11_movingInto c_X11_movingInto 6 (some .int) 4 W_X11_movingInto := by
  refine pj_ct_of (by decide +kernel) ?_ ?_
  · intro as m r h
    unfold W_X11_movingInto at h
    split at h
    · simp [pj_l0]
    · cases h
  · intro G A P S Z C as m r h hR
    unfold W_X11_movingInto at h
    split at h
    · split at h
      · rename_i hbq
        simp only [Bool.and_eq_true, Nat.beq_eq] at hbq
        obtain ⟨rfl, rfl, rfl⟩ := hbq
        exact pj_run_ok (sd_X11_movingInto C) (List.forall_mem_cons.mpr ⟨sg_X11_movingInto_6 C  pj_z, fun q h => by cases h⟩) 30 0 _ _ _ _ ((eq_X11_movingInto _ _ _ _).trans h) hR
      · cases h
    · cases h
/-! AlikeStepsModel.holds(IIII)I -/
abbrev c_X11_holds : ByteArray := prog_13_method_71_code
def y_X11_holds : MethodName := ⟨RX11, "holds", "(IIII)I"⟩
noncomputable def J_X11_holds_419 (x2 : Int32) (x7 : Int32) (m : pj_M) : Option (Int32 × pj_M) := (if x7 = 1 then (if (0 : Int32) < 0 ∨ 30 ≤ (0 : Int32).toNatClampNeg then none else (if (m.1 93 (0 : Int32).toNatClampNeg) = 0 then (if (0 : Int32) < 0 ∨ 30 ≤ (0 : Int32).toNatClampNeg then none else ((F_X11_well (((m.1 92 (0 : Int32).toNatClampNeg) >>> (x2 &&& 31)) &&& 1) m).bind fun q2 => (some (q2.1, q2.2)))) else ((F_X11_well (-1000000) m).bind fun q3 => (some (q3.1, q3.2))))) else ((F_X11_well (-1000000) m).bind fun q1 => (some (q1.1, q1.2))))
noncomputable def J_X11_holds_320 (k140 : Int32 → Int32 → Int32 → Int32 → Int32 → Int32 → Int32 → pj_M → Option (Int32 × pj_M)) (x1 : Int32) (x2 : Int32) (x3 : Int32) (x5 : Int32) (x6 : Int32) (x7 : Int32) (x8 : Int32) (x10 : Int32) (m : pj_M) : Option (Int32 × pj_M) := (if x7 < 0 ∨ 30 ≤ x7.toNatClampNeg then none else (if x7 < 0 ∨ 30 ≤ x7.toNatClampNeg then none else (k140 x1 x2 x3 x5 x6 (x7 + 1) (x8 - 1) (pj_wr (pj_wr m 92 x7.toNatClampNeg x10) 93 x7.toNatClampNeg 1))))
noncomputable def H_X11_holds_265 (k140 : Int32 → Int32 → Int32 → Int32 → Int32 → Int32 → Int32 → pj_M → Option (Int32 × pj_M)) : Nat → Int32 → Int32 → Int32 → Int32 → Int32 → Int32 → Int32 → Int32 → Int32 → Int32 → pj_M → Option (Int32 × pj_M)
  | 0, _, _, _, _, _, _, _, _, _, _, _ => none
  | n1 + 1, x1, x2, x3, x5, x6, x7, x8, x9, x10, x11, m => (if x11 < (x9 - 10) then (if x7 = 0 then ((F_X11_well (-1000000) m).bind fun q1 => (some (q1.1, q1.2))) else (if (x7 - 1) < 0 ∨ 30 ≤ (x7 - 1).toNatClampNeg then none else (if (m.1 93 (x7 - 1).toNatClampNeg) = 0 then (if (x7 - 1) < 0 ∨ 30 ≤ (x7 - 1).toNatClampNeg then none else (H_X11_holds_265 k140 n1 x1 x2 x3 x5 x6 (x7 - 1) x8 x9 (x10 &&& (m.1 92 (x7 - 1).toNatClampNeg)) (x11 + 1) m)) else ((F_X11_well (-1000000) m).bind fun q2 => (some (q2.1, q2.2)))))) else (J_X11_holds_320 k140 x1 x2 x3 x5 x6 x7 x8 x10 m))
noncomputable def H_X11_holds_140 : Nat → Int32 → Int32 → Int32 → Int32 → Int32 → Int32 → Int32 → pj_M → Option (Int32 × pj_M)
  | 0, _, _, _, _, _, _, _, _ => none
  | n1 + 1, x1, x2, x3, x5, x6, x7, x8, m => (if x8 < 0 then (J_X11_holds_419 x2 x7 m) else (if ((40 * x3) + x8) < 0 ∨ 320 ≤ ((40 * x3) + x8).toNatClampNeg then none else (if (m.1 75 ((40 * x3) + x8).toNatClampNeg) = 30 then (if x7 < 0 ∨ 30 ≤ x7.toNatClampNeg then none else (if x7 < 0 ∨ 30 ≤ x7.toNatClampNeg then none else (H_X11_holds_140 n1 x1 x2 x3 x5 x6 (x7 + 1) (x8 - 1) (pj_wr (pj_wr m 92 x7.toNatClampNeg x6) 93 x7.toNatClampNeg 0)))) else (if (m.1 75 ((40 * x3) + x8).toNatClampNeg) = 20 then (if x7 = 0 then ((F_X11_well (-1000000) m).bind fun q7 => (some (q7.1, q7.2))) else (if (x7 - 1) < 0 ∨ 30 ≤ (x7 - 1).toNatClampNeg then none else (if (m.1 93 (x7 - 1).toNatClampNeg) = 0 then (if (x7 - 1) < 0 ∨ 30 ≤ (x7 - 1).toNatClampNeg then none else (if (x7 - 1) < 0 ∨ 30 ≤ (x7 - 1).toNatClampNeg then none else (H_X11_holds_140 n1 x1 x2 x3 x5 x6 x7 (x8 - 1) (pj_wr m 92 (x7 - 1).toNatClampNeg (x5 &&& ((m.1 92 (x7 - 1).toNatClampNeg) ^^^ (-1))))))) else ((F_X11_well (-1000000) m).bind fun q8 => (some (q8.1, q8.2)))))) else ((F_X11_in (m.1 75 ((40 * x3) + x8).toNatClampNeg) 10 19 m).bind fun q1 => (if q1.1 = 0 then ((F_X11_isLetter (m.1 75 ((40 * x3) + x8).toNatClampNeg) q1.2).bind fun q2 => (if q2.1 = 0 then ((F_X11_well (-1000000) q2.2).bind fun q3 => (some (q3.1, q3.2))) else (if (0 : Int32) < x7 then (if (x7 - 1) < 0 ∨ 30 ≤ (x7 - 1).toNatClampNeg then none else (if (q2.2.1 93 (x7 - 1).toNatClampNeg) = 0 then ((F_X11_well (-1000000) q2.2).bind fun q5 => (some (q5.1, q5.2))) else (if (x7 - 1) < 0 ∨ 30 ≤ (x7 - 1).toNatClampNeg then none else ((F_X11_movingInto x1 (m.1 75 ((40 * x3) + x8).toNatClampNeg) (q2.2.1 92 (x7 - 1).toNatClampNeg) q2.2).bind fun q6 => (if (x7 - 1) < 0 ∨ 30 ≤ (x7 - 1).toNatClampNeg then none else (if (x7 - 1) < 0 ∨ 30 ≤ (x7 - 1).toNatClampNeg then none else (H_X11_holds_140 n1 x1 x2 x3 x5 x6 x7 (x8 - 1) (pj_wr (pj_wr q6.2 92 (x7 - 1).toNatClampNeg q6.1) 93 (x7 - 1).toNatClampNeg 0)))))))) else ((F_X11_well (-1000000) q2.2).bind fun q4 => (some (q4.1, q4.2)))))) else (H_X11_holds_265 (H_X11_holds_140 n1) pj_z x1 x2 x3 x5 x6 x7 x8 (m.1 75 ((40 * x3) + x8).toNatClampNeg) x5 0 q1.2)))))))
noncomputable def J_X11_holds_131 (x1 : Int32) (x2 : Int32) (x3 : Int32) (x4 : Int32) (x5 : Int32) (x6 : Int32) (m : pj_M) : Option (Int32 × pj_M) := (H_X11_holds_140 pj_z x1 x2 x3 x5 x6 0 (x4 - 1) m)
noncomputable def H_X11_holds_94 : Nat → Int32 → Int32 → Int32 → Int32 → Int32 → Int32 → Int32 → pj_M → Option (Int32 × pj_M)
  | 0, _, _, _, _, _, _, _, _ => none
  | n1 + 1, x1, x2, x3, x4, x5, x6, x7, m => ((F_X11_states m).bind fun q1 => (if x7 < q1.1 then ((F_X11_isMarked x7 q1.2).bind fun q2 => (if q2.1 = 0 then (H_X11_holds_94 n1 x1 x2 x3 x4 x5 (x6 ||| 0) (x7 + 1) q2.2) else (H_X11_holds_94 n1 x1 x2 x3 x4 x5 (x6 ||| (1 <<< (x7 &&& 31))) (x7 + 1) q2.2))) else (J_X11_holds_131 x1 x2 x3 x4 x5 x6 q1.2)))
noncomputable def F_X11_holds (x1 : Int32) (x2 : Int32) (x3 : Int32) (x4 : Int32) (m : pj_M) : Option (Int32 × pj_M) := ((F_X11_in x1 0 1 m).bind fun q1 => (if q1.1 = 0 then (some ((-1000001), q1.2)) else ((F_X11_isState x2 q1.2).bind fun q2 => (if q2.1 = 0 then (some ((-1000001), q2.2)) else ((F_X11_isRow x3 q2.2).bind fun q3 => (if q3.1 = 0 then (some ((-1000001), q3.2)) else ((F_X11_in x4 1 30 q3.2).bind fun q4 => (if q4.1 = 0 then (some ((-1000001), q4.2)) else ((F_X11_isMissing x3 q4.2).bind fun q5 => (if q5.1 = 0 then ((F_X11_isPart x3 0 x4 q5.2).bind fun q6 => (if q6.1 = 0 then ((F_X11_found 2 q6.2).bind fun q9 => (some (q9.1, q9.2))) else ((F_X11_looks 72 78 0 q6.2).bind fun q7 => ((F_X11_states q7).bind fun q8 => (H_X11_holds_94 pj_z x1 x2 x3 x4 ((1 <<< (q8.1 &&& 31)) - 1) 0 0 q8.2))))) else ((F_X11_found 1 q5.2).bind fun q10 => (some (q10.1, q10.2)))))))))))))
noncomputable def W_X11_holds : List pj_V → pj_M → Option (Int32 × pj_M) := fun as m => match as with
  | [.inr (.inr (t0, w0, a0)), .inl x1, .inl x2, .inl x3, .inl x4] => (match Nat.beq t0 0 && (Nat.beq w0 11 && (Nat.beq a0 72)) with
    | true => F_X11_holds x1 x2 x3 x4 m
    | false => none)
  | _ => none
noncomputable def tb_X11_holds_0 : List (Nat × pj_T (Int32 × pj_M)) := [(0, qs_ldi 1 1), (1, qs_ci 0 2), (2, qs_ci 1 3), (3, qs_sI 3 W_X11_in 6), (6, qs_ifeq 35 9), (9, qs_lda 0 10), (10, qs_ldi 2 11), (11, qs_vI 11 2 W_X11_isState 14), (14, qs_ifeq 35 17), (17, qs_ldi 3 18), (18, qs_sI 1 W_X11_isRow 21), (21, qs_ifeq 35 24), (24, qs_ldi 4 26), (26, qs_ci 1 27), (27, qs_ci 30 29), (29, qs_sI 3 W_X11_in 32), (32, qs_ifne 38 35), (35, qs_ci (-1000001) 37), (37, qs_iret), (38, qs_lda 0 39), (39, qs_ldi 3 40), (40, qs_vI 11 2 W_X11_isMissing 43), (43, qs_ifeq 52 46), (46, qs_lda 0 47), (47, qs_ci 1 48), (48, qs_vI 11 2 W_X11_found 51), (51, qs_iret), (52, qs_lda 0 53), (53, qs_ldi 3 54), (54, qs_ci 0 55), (55, qs_ldi 4 57), (57, qs_vI 11 4 W_X11_isPart 60), (60, qs_ifne 69 63), (63, qs_lda 0 64), (64, qs_ci 2 65), (65, qs_vI 11 2 W_X11_found 68), (68, qs_iret), (69, qs_lda 0 70), (70, qs_lda 0 71), (71, qs_gf 11 13 74)]
noncomputable def tb_X11_holds_1 : List (Nat × pj_T (Int32 × pj_M)) := [(74, qs_ci 0 75), (75, qs_vV 11 3 W_X11_looks 78), (78, qs_ci 1 79), (79, qs_lda 0 80), (80, qs_vI 11 1 W_X11_states 83), (83, qs_b2 (fun x y => x <<< (y &&& 31)) 84), (84, qs_ci 1 85), (85, qs_b2 (fun x y => x - y) 86), (86, qs_sti 5 88), (88, qs_ci 0 89), (89, qs_sti 6 91), (91, qs_ci 0 92), (92, qs_sti 7 94), (94, qs_ldi 7 96), (96, qs_lda 0 97), (97, qs_vI 11 1 W_X11_states 100), (100, qs_icge 131 103), (103, qs_ldi 6 105), (105, qs_lda 0 106), (106, qs_ldi 7 108), (108, qs_vI 11 2 W_X11_isMarked 111), (111, qs_ifeq 121 114), (114, qs_ci 1 115), (115, qs_ldi 7 117), (117, qs_b2 (fun x y => x <<< (y &&& 31)) 118), (118, qs_go 122), (121, qs_ci 0 122), (122, qs_b2 (fun x y => x ||| y) 123), (123, qs_sti 6 125), (125, qs_inc 7 1 128), (128, qs_go 94), (131, qs_ci 0 132), (132, qs_sti 7 134), (134, qs_ldi 4 136), (136, qs_ci 1 137), (137, qs_b2 (fun x y => x - y) 138), (138, qs_sti 8 140), (140, qs_ldi 8 142), (142, qs_iflt 419 145), (145, qs_lda 0 146)]
noncomputable def tb_X11_holds_2 : List (Nat × pj_T (Int32 × pj_M)) := [(146, qs_gf 11 2 149), (149, qs_ci 40 151), (151, qs_ldi 3 152), (152, qs_b2 (fun x y => x * y) 153), (153, qs_ldi 8 155), (155, qs_b2 (fun x y => x + y) 156), (156, qs_iald 157), (157, qs_sti 9 159), (159, qs_ldi 9 161), (161, qs_ci 30 163), (163, qs_icne 189 166), (166, qs_lda 0 167), (167, qs_gf 11 29 170), (170, qs_ldi 7 172), (172, qs_ldi 6 174), (174, qs_iast 175), (175, qs_lda 0 176), (176, qs_gf 11 30 179), (179, qs_ldi 7 181), (181, qs_ci 0 182), (182, qs_zast 183), (183, qs_inc 7 1 186), (186, qs_go 413), (189, qs_ldi 9 191), (191, qs_ci 20 193), (193, qs_icne 246 196), (196, qs_ldi 7 198), (198, qs_ifeq 213 201), (201, qs_lda 0 202), (202, qs_gf 11 30 205), (205, qs_ldi 7 207), (207, qs_ci 1 208), (208, qs_b2 (fun x y => x - y) 209), (209, qs_zald 210), (210, qs_ifeq 220 213), (213, qs_lda 0 214), (214, qs_ci (-1000000) 216), (216, qs_vI 11 2 W_X11_well 219), (219, qs_iret), (220, qs_lda 0 221)]
noncomputable def tb_X11_holds_3 : List (Nat × pj_T (Int32 × pj_M)) := [(221, qs_gf 11 29 224), (224, qs_ldi 7 226), (226, qs_ci 1 227), (227, qs_b2 (fun x y => x - y) 228), (228, qs_ldi 5 230), (230, qs_lda 0 231), (231, qs_gf 11 29 234), (234, qs_ldi 7 236), (236, qs_ci 1 237), (237, qs_b2 (fun x y => x - y) 238), (238, qs_iald 239), (239, qs_ci (-1) 240), (240, qs_b2 (fun x y => x ^^^ y) 241), (241, qs_b2 (fun x y => x &&& y) 242), (242, qs_iast 243), (243, qs_go 413), (246, qs_ldi 9 248), (248, qs_ci 10 250), (250, qs_ci 19 252), (252, qs_sI 3 W_X11_in 255), (255, qs_ifeq 343 258), (258, qs_ldi 5 260), (260, qs_sti 10 262), (262, qs_ci 0 263), (263, qs_sti 11 265), (265, qs_ldi 11 267), (267, qs_ldi 9 269), (269, qs_ci 10 271), (271, qs_b2 (fun x y => x - y) 272), (272, qs_icge 320 275), (275, qs_ldi 7 277), (277, qs_ifeq 292 280), (280, qs_lda 0 281), (281, qs_gf 11 30 284), (284, qs_ldi 7 286), (286, qs_ci 1 287), (287, qs_b2 (fun x y => x - y) 288), (288, qs_zald 289), (289, qs_ifeq 299 292), (292, qs_lda 0 293)]
noncomputable def tb_X11_holds_4 : List (Nat × pj_T (Int32 × pj_M)) := [(293, qs_ci (-1000000) 295), (295, qs_vI 11 2 W_X11_well 298), (298, qs_iret), (299, qs_dec 7 1 302), (302, qs_ldi 10 304), (304, qs_lda 0 305), (305, qs_gf 11 29 308), (308, qs_ldi 7 310), (310, qs_iald 311), (311, qs_b2 (fun x y => x &&& y) 312), (312, qs_sti 10 314), (314, qs_inc 11 1 317), (317, qs_go 265), (320, qs_lda 0 321), (321, qs_gf 11 29 324), (324, qs_ldi 7 326), (326, qs_ldi 10 328), (328, qs_iast 329), (329, qs_lda 0 330), (330, qs_gf 11 30 333), (333, qs_ldi 7 335), (335, qs_ci 1 336), (336, qs_zast 337), (337, qs_inc 7 1 340), (340, qs_go 413), (343, qs_ldi 9 345), (345, qs_sI 1 W_X11_isLetter 348), (348, qs_ifeq 406 351), (351, qs_ldi 7 353), (353, qs_ifle 406 356), (356, qs_lda 0 357), (357, qs_gf 11 30 360), (360, qs_ldi 7 362), (362, qs_ci 1 363), (363, qs_b2 (fun x y => x - y) 364), (364, qs_zald 365), (365, qs_ifeq 406 368), (368, qs_lda 0 369), (369, qs_gf 11 29 372), (372, qs_ldi 7 374)]
noncomputable def tb_X11_holds_5 : List (Nat × pj_T (Int32 × pj_M)) := [(374, qs_ci 1 375), (375, qs_b2 (fun x y => x - y) 376), (376, qs_lda 0 377), (377, qs_ldi 1 378), (378, qs_ldi 9 380), (380, qs_lda 0 381), (381, qs_gf 11 29 384), (384, qs_ldi 7 386), (386, qs_ci 1 387), (387, qs_b2 (fun x y => x - y) 388), (388, qs_iald 389), (389, qs_vI 11 4 W_X11_movingInto 392), (392, qs_iast 393), (393, qs_lda 0 394), (394, qs_gf 11 30 397), (397, qs_ldi 7 399), (399, qs_ci 1 400), (400, qs_b2 (fun x y => x - y) 401), (401, qs_ci 0 402), (402, qs_zast 403), (403, qs_go 413), (406, qs_lda 0 407), (407, qs_ci (-1000000) 409), (409, qs_vI 11 2 W_X11_well 412), (412, qs_iret), (413, qs_dec 8 1 416), (416, qs_go 140), (419, qs_lda 0 420), (420, qs_ldi 7 422), (422, qs_ci 1 423), (423, qs_icne 435 426), (426, qs_lda 0 427), (427, qs_gf 11 30 430), (430, qs_ci 0 431), (431, qs_zald 432), (432, qs_ifeq 440 435), (435, qs_ci (-1000000) 437), (437, qs_go 450), (440, qs_lda 0 441), (441, qs_gf 11 29 444)]
noncomputable def tb_X11_holds_6 : List (Nat × pj_T (Int32 × pj_M)) := [(444, qs_ci 0 445), (445, qs_iald 446), (446, qs_ldi 2 447), (447, qs_b2 (fun x y => x >>> (y &&& 31)) 448), (448, qs_ci 1 449), (449, qs_b2 (fun x y => x &&& y) 450), (450, qs_vI 11 2 W_X11_well 453), (453, qs_iret)]
noncomputable def tb_X11_holds : List (Nat × pj_T (Int32 × pj_M)) := tb_X11_holds_0 ++ (tb_X11_holds_1 ++ (tb_X11_holds_2 ++ (tb_X11_holds_3 ++ (tb_X11_holds_4 ++ (tb_X11_holds_5 ++ (tb_X11_holds_6))))))
theorem mv_X11_holds : pj_mv y_X11_holds c_X11_holds 12 (some .int) 4 := ⟨⟨cw_1388, cw_1386, cw_1387, cw_92⟩, by decide +kernel, by decide⟩
set_option maxRecDepth 20000 in
theorem sd_X11_holds_0 {G : pj_E} {A : Nat → Prop} {P : pj_P} {S : pj_U} {Z : pj_Z} (C : pj_C (G, A, (c_X11_holds, y_X11_holds.cls, 12, (some .int), 5), P, S, Z)) : ∀ q ∈ tb_X11_holds_0, pj_S (G, A, (c_X11_holds, y_X11_holds.cls, 12, (some .int), 5), P, S, Z) pj_eI q.1 q.2 :=
  List.forall_mem_cons.mpr ⟨qz_iload_n C (show decode c_X11_holds 0 = .ok (.iload_n 1, 1) by decide +kernel) rfl,
  List.forall_mem_cons.mpr ⟨qz_iconst C (show decode c_X11_holds 1 = .ok (.iconst 0, 1) by decide +kernel) (by decide +kernel),
  List.forall_mem_cons.mpr ⟨qz_iconst C (show decode c_X11_holds 2 = .ok (.iconst 1, 1) by decide +kernel) (by decide +kernel),
  List.forall_mem_cons.mpr ⟨qz_sI C (show decode c_X11_holds 3 = .ok (.invokestatic 84, 3) by decide +kernel) ct_X11_in mv_X11_in (Or.inl cw_1126) (show 1 < 5 by omega),
  List.forall_mem_cons.mpr ⟨qz_ifeq C (show decode c_X11_holds 6 = .ok (.ifCond .eq 29, 3) by decide +kernel) (by decide),
  List.forall_mem_cons.mpr ⟨qz_aload_n C (show decode c_X11_holds 9 = .ok (.aload_n 0, 1) by decide +kernel) rfl,
  List.forall_mem_cons.mpr ⟨qz_iload_n C (show decode c_X11_holds 10 = .ok (.iload_n 2, 1) by decide +kernel) rfl,
  List.forall_mem_cons.mpr ⟨qz_vI C (show decode c_X11_holds 11 = .ok (.invokevirtual 225, 3) by decide +kernel) ct_X11_isState mv_X11_isState cw_1224 vcX11 (show 2 < 5 by omega),
  List.forall_mem_cons.mpr ⟨qz_ifeq C (show decode c_X11_holds 14 = .ok (.ifCond .eq 21, 3) by decide +kernel) (by decide),
  List.forall_mem_cons.mpr ⟨qz_iload_n C (show decode c_X11_holds 17 = .ok (.iload_n 3, 1) by decide +kernel) rfl,
  List.forall_mem_cons.mpr ⟨qz_sI C (show decode c_X11_holds 18 = .ok (.invokestatic 88, 3) by decide +kernel) ct_X11_isRow mv_X11_isRow (Or.inl cw_1123) (show 2 < 5 by omega),
  List.forall_mem_cons.mpr ⟨qz_ifeq C (show decode c_X11_holds 21 = .ok (.ifCond .eq 14, 3) by decide +kernel) (by decide),
  List.forall_mem_cons.mpr ⟨qz_iload C (show decode c_X11_holds 24 = .ok (.iload 4, 2) by decide +kernel),
  List.forall_mem_cons.mpr ⟨qz_iconst C (show decode c_X11_holds 26 = .ok (.iconst 1, 1) by decide +kernel) (by decide +kernel),
  List.forall_mem_cons.mpr ⟨qz_bipush C (show decode c_X11_holds 27 = .ok (.bipush 30, 2) by decide +kernel) (by decide +kernel),
  List.forall_mem_cons.mpr ⟨qz_sI C (show decode c_X11_holds 29 = .ok (.invokestatic 84, 3) by decide +kernel) ct_X11_in mv_X11_in (Or.inl cw_1126) (show 1 < 5 by omega),
  List.forall_mem_cons.mpr ⟨qz_ifne C (show decode c_X11_holds 32 = .ok (.ifCond .ne 6, 3) by decide +kernel) (by decide),
  List.forall_mem_cons.mpr ⟨qz_ldc C (show decode c_X11_holds 35 = .ok (.ldc 92, 2) by decide +kernel) cw_1129,
  List.forall_mem_cons.mpr ⟨qz_iret C (show decode c_X11_holds 37 = .ok (.ireturn, 1) by decide +kernel) rfl,
  List.forall_mem_cons.mpr ⟨qz_aload_n C (show decode c_X11_holds 38 = .ok (.aload_n 0, 1) by decide +kernel) rfl,
  List.forall_mem_cons.mpr ⟨qz_iload_n C (show decode c_X11_holds 39 = .ok (.iload_n 3, 1) by decide +kernel) rfl,
  List.forall_mem_cons.mpr ⟨qz_vI C (show decode c_X11_holds 40 = .ok (.invokevirtual 100, 3) by decide +kernel) ct_X11_isMissing mv_X11_isMissing cw_1143 vcX11 (show 1 < 5 by omega),
  List.forall_mem_cons.mpr ⟨qz_ifeq C (show decode c_X11_holds 43 = .ok (.ifCond .eq 9, 3) by decide +kernel) (by decide),
  List.forall_mem_cons.mpr ⟨qz_aload_n C (show decode c_X11_holds 46 = .ok (.aload_n 0, 1) by decide +kernel) rfl,
  List.forall_mem_cons.mpr ⟨qz_iconst C (show decode c_X11_holds 47 = .ok (.iconst 1, 1) by decide +kernel) (by decide +kernel),
  List.forall_mem_cons.mpr ⟨qz_vI C (show decode c_X11_holds 48 = .ok (.invokevirtual 93, 3) by decide +kernel) ct_X11_found mv_X11_found cw_1130 vcX11 (show 1 < 5 by omega),
  List.forall_mem_cons.mpr ⟨qz_iret C (show decode c_X11_holds 51 = .ok (.ireturn, 1) by decide +kernel) rfl,
  List.forall_mem_cons.mpr ⟨qz_aload_n C (show decode c_X11_holds 52 = .ok (.aload_n 0, 1) by decide +kernel) rfl,
  List.forall_mem_cons.mpr ⟨qz_iload_n C (show decode c_X11_holds 53 = .ok (.iload_n 3, 1) by decide +kernel) rfl,
  List.forall_mem_cons.mpr ⟨qz_iconst C (show decode c_X11_holds 54 = .ok (.iconst 0, 1) by decide +kernel) (by decide +kernel),
  List.forall_mem_cons.mpr ⟨qz_iload C (show decode c_X11_holds 55 = .ok (.iload 4, 2) by decide +kernel),
  List.forall_mem_cons.mpr ⟨qz_vI C (show decode c_X11_holds 57 = .ok (.invokevirtual 107, 3) by decide +kernel) ct_X11_isPart mv_X11_isPart cw_1154 vcX11 (show 1 < 5 by omega),
  List.forall_mem_cons.mpr ⟨qz_ifne C (show decode c_X11_holds 60 = .ok (.ifCond .ne 9, 3) by decide +kernel) (by decide),
  List.forall_mem_cons.mpr ⟨qz_aload_n C (show decode c_X11_holds 63 = .ok (.aload_n 0, 1) by decide +kernel) rfl,
  List.forall_mem_cons.mpr ⟨qz_iconst C (show decode c_X11_holds 64 = .ok (.iconst 2, 1) by decide +kernel) (by decide +kernel),
  List.forall_mem_cons.mpr ⟨qz_vI C (show decode c_X11_holds 65 = .ok (.invokevirtual 93, 3) by decide +kernel) ct_X11_found mv_X11_found cw_1130 vcX11 (show 1 < 5 by omega),
  List.forall_mem_cons.mpr ⟨qz_iret C (show decode c_X11_holds 68 = .ok (.ireturn, 1) by decide +kernel) rfl,
  List.forall_mem_cons.mpr ⟨qz_aload_n C (show decode c_X11_holds 69 = .ok (.aload_n 0, 1) by decide +kernel) rfl,
  List.forall_mem_cons.mpr ⟨qz_aload_n C (show decode c_X11_holds 70 = .ok (.aload_n 0, 1) by decide +kernel) rfl,
  List.forall_mem_cons.mpr ⟨qz_gf (k := 13) C (show decode c_X11_holds 71 = .ok (.getfield 25, 3) by decide +kernel) vcX11 wiX11 (by decide) cw_1031,
  (fun q h => by cases h)⟩⟩⟩⟩⟩⟩⟩⟩⟩⟩⟩⟩⟩⟩⟩⟩⟩⟩⟩⟩⟩⟩⟩⟩⟩⟩⟩⟩⟩⟩⟩⟩⟩⟩⟩⟩⟩⟩⟩⟩
set_option maxRecDepth 20000 in
theorem sd_X11_holds_1 {G : pj_E} {A : Nat → Prop} {P : pj_P} {S : pj_U} {Z : pj_Z} (C : pj_C (G, A, (c_X11_holds, y_X11_holds.cls, 12, (some .int), 5), P, S, Z)) : ∀ q ∈ tb_X11_holds_1, pj_S (G, A, (c_X11_holds, y_X11_holds.cls, 12, (some .int), 5), P, S, Z) pj_eI q.1 q.2 :=
  List.forall_mem_cons.mpr ⟨qz_iconst C (show decode c_X11_holds 74 = .ok (.iconst 0, 1) by decide +kernel) (by decide +kernel),
  List.forall_mem_cons.mpr ⟨qz_vV C (show decode c_X11_holds 75 = .ok (.invokevirtual 235, 3) by decide +kernel) ct_X11_looks mv_X11_looks cw_1261 vcX11 (show 4 < 5 by omega),
  List.forall_mem_cons.mpr ⟨qz_iconst C (show decode c_X11_holds 78 = .ok (.iconst 1, 1) by decide +kernel) (by decide +kernel),
  List.forall_mem_cons.mpr ⟨qz_aload_n C (show decode c_X11_holds 79 = .ok (.aload_n 0, 1) by decide +kernel) rfl,
  List.forall_mem_cons.mpr ⟨qz_vI C (show decode c_X11_holds 80 = .ok (.invokevirtual 177, 3) by decide +kernel) ct_X11_states mv_X11_states cw_1269 vcX11 (show 1 < 5 by omega),
  List.forall_mem_cons.mpr ⟨qz_ishl C (show decode c_X11_holds 83 = .ok (.ishl, 1) by decide +kernel),
  List.forall_mem_cons.mpr ⟨qz_iconst C (show decode c_X11_holds 84 = .ok (.iconst 1, 1) by decide +kernel) (by decide +kernel),
  List.forall_mem_cons.mpr ⟨qz_isub C (show decode c_X11_holds 85 = .ok (.isub, 1) by decide +kernel),
  List.forall_mem_cons.mpr ⟨qz_istore C (show decode c_X11_holds 86 = .ok (.istore 5, 2) by decide +kernel),
  List.forall_mem_cons.mpr ⟨qz_iconst C (show decode c_X11_holds 88 = .ok (.iconst 0, 1) by decide +kernel) (by decide +kernel),
  List.forall_mem_cons.mpr ⟨qz_istore C (show decode c_X11_holds 89 = .ok (.istore 6, 2) by decide +kernel),
  List.forall_mem_cons.mpr ⟨qz_iconst C (show decode c_X11_holds 91 = .ok (.iconst 0, 1) by decide +kernel) (by decide +kernel),
  List.forall_mem_cons.mpr ⟨qz_istore C (show decode c_X11_holds 92 = .ok (.istore 7, 2) by decide +kernel),
  List.forall_mem_cons.mpr ⟨qz_iload C (show decode c_X11_holds 94 = .ok (.iload 7, 2) by decide +kernel),
  List.forall_mem_cons.mpr ⟨qz_aload_n C (show decode c_X11_holds 96 = .ok (.aload_n 0, 1) by decide +kernel) rfl,
  List.forall_mem_cons.mpr ⟨qz_vI C (show decode c_X11_holds 97 = .ok (.invokevirtual 177, 3) by decide +kernel) ct_X11_states mv_X11_states cw_1269 vcX11 (show 1 < 5 by omega),
  List.forall_mem_cons.mpr ⟨qz_icge C (show decode c_X11_holds 100 = .ok (.if_icmp .ge 31, 3) by decide +kernel) (by decide),
  List.forall_mem_cons.mpr ⟨qz_iload C (show decode c_X11_holds 103 = .ok (.iload 6, 2) by decide +kernel),
  List.forall_mem_cons.mpr ⟨qz_aload_n C (show decode c_X11_holds 105 = .ok (.aload_n 0, 1) by decide +kernel) rfl,
  List.forall_mem_cons.mpr ⟨qz_iload C (show decode c_X11_holds 106 = .ok (.iload 7, 2) by decide +kernel),
  List.forall_mem_cons.mpr ⟨qz_vI C (show decode c_X11_holds 108 = .ok (.invokevirtual 210, 3) by decide +kernel) ct_X11_isMarked mv_X11_isMarked cw_1304 vcX11 (show 1 < 5 by omega),
  List.forall_mem_cons.mpr ⟨qz_ifeq C (show decode c_X11_holds 111 = .ok (.ifCond .eq 10, 3) by decide +kernel) (by decide),
  List.forall_mem_cons.mpr ⟨qz_iconst C (show decode c_X11_holds 114 = .ok (.iconst 1, 1) by decide +kernel) (by decide +kernel),
  List.forall_mem_cons.mpr ⟨qz_iload C (show decode c_X11_holds 115 = .ok (.iload 7, 2) by decide +kernel),
  List.forall_mem_cons.mpr ⟨qz_ishl C (show decode c_X11_holds 117 = .ok (.ishl, 1) by decide +kernel),
  List.forall_mem_cons.mpr ⟨qz_goto C (show decode c_X11_holds 118 = .ok (.goto 4, 3) by decide +kernel) (by decide),
  List.forall_mem_cons.mpr ⟨qz_iconst C (show decode c_X11_holds 121 = .ok (.iconst 0, 1) by decide +kernel) (by decide +kernel),
  List.forall_mem_cons.mpr ⟨qz_ior C (show decode c_X11_holds 122 = .ok (.ior, 1) by decide +kernel),
  List.forall_mem_cons.mpr ⟨qz_istore C (show decode c_X11_holds 123 = .ok (.istore 6, 2) by decide +kernel),
  List.forall_mem_cons.mpr ⟨qz_iinc C (show decode c_X11_holds 125 = .ok (.iinc 7 1, 3) by decide +kernel) (by decide +kernel),
  List.forall_mem_cons.mpr ⟨qz_goto C (show decode c_X11_holds 128 = .ok (.goto (-34), 3) by decide +kernel) (by decide),
  List.forall_mem_cons.mpr ⟨qz_iconst C (show decode c_X11_holds 131 = .ok (.iconst 0, 1) by decide +kernel) (by decide +kernel),
  List.forall_mem_cons.mpr ⟨qz_istore C (show decode c_X11_holds 132 = .ok (.istore 7, 2) by decide +kernel),
  List.forall_mem_cons.mpr ⟨qz_iload C (show decode c_X11_holds 134 = .ok (.iload 4, 2) by decide +kernel),
  List.forall_mem_cons.mpr ⟨qz_iconst C (show decode c_X11_holds 136 = .ok (.iconst 1, 1) by decide +kernel) (by decide +kernel),
  List.forall_mem_cons.mpr ⟨qz_isub C (show decode c_X11_holds 137 = .ok (.isub, 1) by decide +kernel),
  List.forall_mem_cons.mpr ⟨qz_istore C (show decode c_X11_holds 138 = .ok (.istore 8, 2) by decide +kernel),
  List.forall_mem_cons.mpr ⟨qz_iload C (show decode c_X11_holds 140 = .ok (.iload 8, 2) by decide +kernel),
  List.forall_mem_cons.mpr ⟨qz_iflt C (show decode c_X11_holds 142 = .ok (.ifCond .lt 277, 3) by decide +kernel) (by decide),
  List.forall_mem_cons.mpr ⟨qz_aload_n C (show decode c_X11_holds 145 = .ok (.aload_n 0, 1) by decide +kernel) rfl,
  (fun q h => by cases h)⟩⟩⟩⟩⟩⟩⟩⟩⟩⟩⟩⟩⟩⟩⟩⟩⟩⟩⟩⟩⟩⟩⟩⟩⟩⟩⟩⟩⟩⟩⟩⟩⟩⟩⟩⟩⟩⟩⟩⟩
set_option maxRecDepth 20000 in
theorem sd_X11_holds_2 {G : pj_E} {A : Nat → Prop} {P : pj_P} {S : pj_U} {Z : pj_Z} (C : pj_C (G, A, (c_X11_holds, y_X11_holds.cls, 12, (some .int), 5), P, S, Z)) : ∀ q ∈ tb_X11_holds_2, pj_S (G, A, (c_X11_holds, y_X11_holds.cls, 12, (some .int), 5), P, S, Z) pj_eI q.1 q.2 :=
  List.forall_mem_cons.mpr ⟨qz_gf (k := 2) C (show decode c_X11_holds 146 = .ok (.getfield 16, 3) by decide +kernel) vcX11 wiX11 (by decide) cw_1020,
  List.forall_mem_cons.mpr ⟨qz_bipush C (show decode c_X11_holds 149 = .ok (.bipush 40, 2) by decide +kernel) (by decide +kernel),
  List.forall_mem_cons.mpr ⟨qz_iload_n C (show decode c_X11_holds 151 = .ok (.iload_n 3, 1) by decide +kernel) rfl,
  List.forall_mem_cons.mpr ⟨qz_imul C (show decode c_X11_holds 152 = .ok (.imul, 1) by decide +kernel),
  List.forall_mem_cons.mpr ⟨qz_iload C (show decode c_X11_holds 153 = .ok (.iload 8, 2) by decide +kernel),
  List.forall_mem_cons.mpr ⟨qz_iadd C (show decode c_X11_holds 155 = .ok (.iadd, 1) by decide +kernel),
  List.forall_mem_cons.mpr ⟨qz_iald C (show decode c_X11_holds 156 = .ok (.iaload, 1) by decide +kernel),
  List.forall_mem_cons.mpr ⟨qz_istore C (show decode c_X11_holds 157 = .ok (.istore 9, 2) by decide +kernel),
  List.forall_mem_cons.mpr ⟨qz_iload C (show decode c_X11_holds 159 = .ok (.iload 9, 2) by decide +kernel),
  List.forall_mem_cons.mpr ⟨qz_bipush C (show decode c_X11_holds 161 = .ok (.bipush 30, 2) by decide +kernel) (by decide +kernel),
  List.forall_mem_cons.mpr ⟨qz_icne C (show decode c_X11_holds 163 = .ok (.if_icmp .ne 26, 3) by decide +kernel) (by decide),
  List.forall_mem_cons.mpr ⟨qz_aload_n C (show decode c_X11_holds 166 = .ok (.aload_n 0, 1) by decide +kernel) rfl,
  List.forall_mem_cons.mpr ⟨qz_gf (k := 29) C (show decode c_X11_holds 167 = .ok (.getfield 69, 3) by decide +kernel) vcX11 wiX11 (by decide) cw_1047,
  List.forall_mem_cons.mpr ⟨qz_iload C (show decode c_X11_holds 170 = .ok (.iload 7, 2) by decide +kernel),
  List.forall_mem_cons.mpr ⟨qz_iload C (show decode c_X11_holds 172 = .ok (.iload 6, 2) by decide +kernel),
  List.forall_mem_cons.mpr ⟨qz_iast C (show decode c_X11_holds 174 = .ok (.iastore, 1) by decide +kernel),
  List.forall_mem_cons.mpr ⟨qz_aload_n C (show decode c_X11_holds 175 = .ok (.aload_n 0, 1) by decide +kernel) rfl,
  List.forall_mem_cons.mpr ⟨qz_gf (k := 30) C (show decode c_X11_holds 176 = .ok (.getfield 72, 3) by decide +kernel) vcX11 wiX11 (by decide) cw_1048,
  List.forall_mem_cons.mpr ⟨qz_iload C (show decode c_X11_holds 179 = .ok (.iload 7, 2) by decide +kernel),
  List.forall_mem_cons.mpr ⟨qz_iconst C (show decode c_X11_holds 181 = .ok (.iconst 0, 1) by decide +kernel) (by decide +kernel),
  List.forall_mem_cons.mpr ⟨qz_zast C (show decode c_X11_holds 182 = .ok (.bastore, 1) by decide +kernel),
  List.forall_mem_cons.mpr ⟨qz_iinc C (show decode c_X11_holds 183 = .ok (.iinc 7 1, 3) by decide +kernel) (by decide +kernel),
  List.forall_mem_cons.mpr ⟨qz_goto C (show decode c_X11_holds 186 = .ok (.goto 227, 3) by decide +kernel) (by decide),
  List.forall_mem_cons.mpr ⟨qz_iload C (show decode c_X11_holds 189 = .ok (.iload 9, 2) by decide +kernel),
  List.forall_mem_cons.mpr ⟨qz_bipush C (show decode c_X11_holds 191 = .ok (.bipush 20, 2) by decide +kernel) (by decide +kernel),
  List.forall_mem_cons.mpr ⟨qz_icne C (show decode c_X11_holds 193 = .ok (.if_icmp .ne 53, 3) by decide +kernel) (by decide),
  List.forall_mem_cons.mpr ⟨qz_iload C (show decode c_X11_holds 196 = .ok (.iload 7, 2) by decide +kernel),
  List.forall_mem_cons.mpr ⟨qz_ifeq C (show decode c_X11_holds 198 = .ok (.ifCond .eq 15, 3) by decide +kernel) (by decide),
  List.forall_mem_cons.mpr ⟨qz_aload_n C (show decode c_X11_holds 201 = .ok (.aload_n 0, 1) by decide +kernel) rfl,
  List.forall_mem_cons.mpr ⟨qz_gf (k := 30) C (show decode c_X11_holds 202 = .ok (.getfield 72, 3) by decide +kernel) vcX11 wiX11 (by decide) cw_1048,
  List.forall_mem_cons.mpr ⟨qz_iload C (show decode c_X11_holds 205 = .ok (.iload 7, 2) by decide +kernel),
  List.forall_mem_cons.mpr ⟨qz_iconst C (show decode c_X11_holds 207 = .ok (.iconst 1, 1) by decide +kernel) (by decide +kernel),
  List.forall_mem_cons.mpr ⟨qz_isub C (show decode c_X11_holds 208 = .ok (.isub, 1) by decide +kernel),
  List.forall_mem_cons.mpr ⟨qz_zald C (show decode c_X11_holds 209 = .ok (.baload, 1) by decide +kernel),
  List.forall_mem_cons.mpr ⟨qz_ifeq C (show decode c_X11_holds 210 = .ok (.ifCond .eq 10, 3) by decide +kernel) (by decide),
  List.forall_mem_cons.mpr ⟨qz_aload_n C (show decode c_X11_holds 213 = .ok (.aload_n 0, 1) by decide +kernel) rfl,
  List.forall_mem_cons.mpr ⟨qz_ldc C (show decode c_X11_holds 214 = .ok (.ldc 78, 2) by decide +kernel) cw_1017,
  List.forall_mem_cons.mpr ⟨qz_vI C (show decode c_X11_holds 216 = .ok (.invokevirtual 97, 3) by decide +kernel) ct_X11_well mv_X11_well cw_1135 vcX11 (show 1 < 5 by omega),
  List.forall_mem_cons.mpr ⟨qz_iret C (show decode c_X11_holds 219 = .ok (.ireturn, 1) by decide +kernel) rfl,
  List.forall_mem_cons.mpr ⟨qz_aload_n C (show decode c_X11_holds 220 = .ok (.aload_n 0, 1) by decide +kernel) rfl,
  (fun q h => by cases h)⟩⟩⟩⟩⟩⟩⟩⟩⟩⟩⟩⟩⟩⟩⟩⟩⟩⟩⟩⟩⟩⟩⟩⟩⟩⟩⟩⟩⟩⟩⟩⟩⟩⟩⟩⟩⟩⟩⟩⟩
set_option maxRecDepth 20000 in
theorem sd_X11_holds_3 {G : pj_E} {A : Nat → Prop} {P : pj_P} {S : pj_U} {Z : pj_Z} (C : pj_C (G, A, (c_X11_holds, y_X11_holds.cls, 12, (some .int), 5), P, S, Z)) : ∀ q ∈ tb_X11_holds_3, pj_S (G, A, (c_X11_holds, y_X11_holds.cls, 12, (some .int), 5), P, S, Z) pj_eI q.1 q.2 :=
  List.forall_mem_cons.mpr ⟨qz_gf (k := 29) C (show decode c_X11_holds 221 = .ok (.getfield 69, 3) by decide +kernel) vcX11 wiX11 (by decide) cw_1047,
  List.forall_mem_cons.mpr ⟨qz_iload C (show decode c_X11_holds 224 = .ok (.iload 7, 2) by decide +kernel),
  List.forall_mem_cons.mpr ⟨qz_iconst C (show decode c_X11_holds 226 = .ok (.iconst 1, 1) by decide +kernel) (by decide +kernel),
  List.forall_mem_cons.mpr ⟨qz_isub C (show decode c_X11_holds 227 = .ok (.isub, 1) by decide +kernel),
  List.forall_mem_cons.mpr ⟨qz_iload C (show decode c_X11_holds 228 = .ok (.iload 5, 2) by decide +kernel),
  List.forall_mem_cons.mpr ⟨qz_aload_n C (show decode c_X11_holds 230 = .ok (.aload_n 0, 1) by decide +kernel) rfl,
  List.forall_mem_cons.mpr ⟨qz_gf (k := 29) C (show decode c_X11_holds 231 = .ok (.getfield 69, 3) by decide +kernel) vcX11 wiX11 (by decide) cw_1047,
  List.forall_mem_cons.mpr ⟨qz_iload C (show decode c_X11_holds 234 = .ok (.iload 7, 2) by decide +kernel),
  List.forall_mem_cons.mpr ⟨qz_iconst C (show decode c_X11_holds 236 = .ok (.iconst 1, 1) by decide +kernel) (by decide +kernel),
  List.forall_mem_cons.mpr ⟨qz_isub C (show decode c_X11_holds 237 = .ok (.isub, 1) by decide +kernel),
  List.forall_mem_cons.mpr ⟨qz_iald C (show decode c_X11_holds 238 = .ok (.iaload, 1) by decide +kernel),
  List.forall_mem_cons.mpr ⟨qz_iconst C (show decode c_X11_holds 239 = .ok (.iconst (-1), 1) by decide +kernel) (by decide +kernel),
  List.forall_mem_cons.mpr ⟨qz_ixor C (show decode c_X11_holds 240 = .ok (.ixor, 1) by decide +kernel),
  List.forall_mem_cons.mpr ⟨qz_iand C (show decode c_X11_holds 241 = .ok (.iand, 1) by decide +kernel),
  List.forall_mem_cons.mpr ⟨qz_iast C (show decode c_X11_holds 242 = .ok (.iastore, 1) by decide +kernel),
  List.forall_mem_cons.mpr ⟨qz_goto C (show decode c_X11_holds 243 = .ok (.goto 170, 3) by decide +kernel) (by decide),
  List.forall_mem_cons.mpr ⟨qz_iload C (show decode c_X11_holds 246 = .ok (.iload 9, 2) by decide +kernel),
  List.forall_mem_cons.mpr ⟨qz_bipush C (show decode c_X11_holds 248 = .ok (.bipush 10, 2) by decide +kernel) (by decide +kernel),
  List.forall_mem_cons.mpr ⟨qz_bipush C (show decode c_X11_holds 250 = .ok (.bipush 19, 2) by decide +kernel) (by decide +kernel),
  List.forall_mem_cons.mpr ⟨qz_sI C (show decode c_X11_holds 252 = .ok (.invokestatic 84, 3) by decide +kernel) ct_X11_in mv_X11_in (Or.inl cw_1126) (show 1 < 5 by omega),
  List.forall_mem_cons.mpr ⟨qz_ifeq C (show decode c_X11_holds 255 = .ok (.ifCond .eq 88, 3) by decide +kernel) (by decide),
  List.forall_mem_cons.mpr ⟨qz_iload C (show decode c_X11_holds 258 = .ok (.iload 5, 2) by decide +kernel),
  List.forall_mem_cons.mpr ⟨qz_istore C (show decode c_X11_holds 260 = .ok (.istore 10, 2) by decide +kernel),
  List.forall_mem_cons.mpr ⟨qz_iconst C (show decode c_X11_holds 262 = .ok (.iconst 0, 1) by decide +kernel) (by decide +kernel),
  List.forall_mem_cons.mpr ⟨qz_istore C (show decode c_X11_holds 263 = .ok (.istore 11, 2) by decide +kernel),
  List.forall_mem_cons.mpr ⟨qz_iload C (show decode c_X11_holds 265 = .ok (.iload 11, 2) by decide +kernel),
  List.forall_mem_cons.mpr ⟨qz_iload C (show decode c_X11_holds 267 = .ok (.iload 9, 2) by decide +kernel),
  List.forall_mem_cons.mpr ⟨qz_bipush C (show decode c_X11_holds 269 = .ok (.bipush 10, 2) by decide +kernel) (by decide +kernel),
  List.forall_mem_cons.mpr ⟨qz_isub C (show decode c_X11_holds 271 = .ok (.isub, 1) by decide +kernel),
  List.forall_mem_cons.mpr ⟨qz_icge C (show decode c_X11_holds 272 = .ok (.if_icmp .ge 48, 3) by decide +kernel) (by decide),
  List.forall_mem_cons.mpr ⟨qz_iload C (show decode c_X11_holds 275 = .ok (.iload 7, 2) by decide +kernel),
  List.forall_mem_cons.mpr ⟨qz_ifeq C (show decode c_X11_holds 277 = .ok (.ifCond .eq 15, 3) by decide +kernel) (by decide),
  List.forall_mem_cons.mpr ⟨qz_aload_n C (show decode c_X11_holds 280 = .ok (.aload_n 0, 1) by decide +kernel) rfl,
  List.forall_mem_cons.mpr ⟨qz_gf (k := 30) C (show decode c_X11_holds 281 = .ok (.getfield 72, 3) by decide +kernel) vcX11 wiX11 (by decide) cw_1048,
  List.forall_mem_cons.mpr ⟨qz_iload C (show decode c_X11_holds 284 = .ok (.iload 7, 2) by decide +kernel),
  List.forall_mem_cons.mpr ⟨qz_iconst C (show decode c_X11_holds 286 = .ok (.iconst 1, 1) by decide +kernel) (by decide +kernel),
  List.forall_mem_cons.mpr ⟨qz_isub C (show decode c_X11_holds 287 = .ok (.isub, 1) by decide +kernel),
  List.forall_mem_cons.mpr ⟨qz_zald C (show decode c_X11_holds 288 = .ok (.baload, 1) by decide +kernel),
  List.forall_mem_cons.mpr ⟨qz_ifeq C (show decode c_X11_holds 289 = .ok (.ifCond .eq 10, 3) by decide +kernel) (by decide),
  List.forall_mem_cons.mpr ⟨qz_aload_n C (show decode c_X11_holds 292 = .ok (.aload_n 0, 1) by decide +kernel) rfl,
  (fun q h => by cases h)⟩⟩⟩⟩⟩⟩⟩⟩⟩⟩⟩⟩⟩⟩⟩⟩⟩⟩⟩⟩⟩⟩⟩⟩⟩⟩⟩⟩⟩⟩⟩⟩⟩⟩⟩⟩⟩⟩⟩⟩
set_option maxRecDepth 20000 in
theorem sd_X11_holds_4 {G : pj_E} {A : Nat → Prop} {P : pj_P} {S : pj_U} {Z : pj_Z} (C : pj_C (G, A, (c_X11_holds, y_X11_holds.cls, 12, (some .int), 5), P, S, Z)) : ∀ q ∈ tb_X11_holds_4, pj_S (G, A, (c_X11_holds, y_X11_holds.cls, 12, (some .int), 5), P, S, Z) pj_eI q.1 q.2 :=
  List.forall_mem_cons.mpr ⟨qz_ldc C (show decode c_X11_holds 293 = .ok (.ldc 78, 2) by decide +kernel) cw_1017,
  List.forall_mem_cons.mpr ⟨qz_vI C (show decode c_X11_holds 295 = .ok (.invokevirtual 97, 3) by decide +kernel) ct_X11_well mv_X11_well cw_1135 vcX11 (show 1 < 5 by omega),
  List.forall_mem_cons.mpr ⟨qz_iret C (show decode c_X11_holds 298 = .ok (.ireturn, 1) by decide +kernel) rfl,
  List.forall_mem_cons.mpr ⟨qz_idec C (show decode c_X11_holds 299 = .ok (.iinc 7 (-1), 3) by decide +kernel) (by decide +kernel),
  List.forall_mem_cons.mpr ⟨qz_iload C (show decode c_X11_holds 302 = .ok (.iload 10, 2) by decide +kernel),
  List.forall_mem_cons.mpr ⟨qz_aload_n C (show decode c_X11_holds 304 = .ok (.aload_n 0, 1) by decide +kernel) rfl,
  List.forall_mem_cons.mpr ⟨qz_gf (k := 29) C (show decode c_X11_holds 305 = .ok (.getfield 69, 3) by decide +kernel) vcX11 wiX11 (by decide) cw_1047,
  List.forall_mem_cons.mpr ⟨qz_iload C (show decode c_X11_holds 308 = .ok (.iload 7, 2) by decide +kernel),
  List.forall_mem_cons.mpr ⟨qz_iald C (show decode c_X11_holds 310 = .ok (.iaload, 1) by decide +kernel),
  List.forall_mem_cons.mpr ⟨qz_iand C (show decode c_X11_holds 311 = .ok (.iand, 1) by decide +kernel),
  List.forall_mem_cons.mpr ⟨qz_istore C (show decode c_X11_holds 312 = .ok (.istore 10, 2) by decide +kernel),
  List.forall_mem_cons.mpr ⟨qz_iinc C (show decode c_X11_holds 314 = .ok (.iinc 11 1, 3) by decide +kernel) (by decide +kernel),
  List.forall_mem_cons.mpr ⟨qz_goto C (show decode c_X11_holds 317 = .ok (.goto (-52), 3) by decide +kernel) (by decide),
  List.forall_mem_cons.mpr ⟨qz_aload_n C (show decode c_X11_holds 320 = .ok (.aload_n 0, 1) by decide +kernel) rfl,
  List.forall_mem_cons.mpr ⟨qz_gf (k := 29) C (show decode c_X11_holds 321 = .ok (.getfield 69, 3) by decide +kernel) vcX11 wiX11 (by decide) cw_1047,
  List.forall_mem_cons.mpr ⟨qz_iload C (show decode c_X11_holds 324 = .ok (.iload 7, 2) by decide +kernel),
  List.forall_mem_cons.mpr ⟨qz_iload C (show decode c_X11_holds 326 = .ok (.iload 10, 2) by decide +kernel),
  List.forall_mem_cons.mpr ⟨qz_iast C (show decode c_X11_holds 328 = .ok (.iastore, 1) by decide +kernel),
  List.forall_mem_cons.mpr ⟨qz_aload_n C (show decode c_X11_holds 329 = .ok (.aload_n 0, 1) by decide +kernel) rfl,
  List.forall_mem_cons.mpr ⟨qz_gf (k := 30) C (show decode c_X11_holds 330 = .ok (.getfield 72, 3) by decide +kernel) vcX11 wiX11 (by decide) cw_1048,
  List.forall_mem_cons.mpr ⟨qz_iload C (show decode c_X11_holds 333 = .ok (.iload 7, 2) by decide +kernel),
  List.forall_mem_cons.mpr ⟨qz_iconst C (show decode c_X11_holds 335 = .ok (.iconst 1, 1) by decide +kernel) (by decide +kernel),
  List.forall_mem_cons.mpr ⟨qz_zast C (show decode c_X11_holds 336 = .ok (.bastore, 1) by decide +kernel),
  List.forall_mem_cons.mpr ⟨qz_iinc C (show decode c_X11_holds 337 = .ok (.iinc 7 1, 3) by decide +kernel) (by decide +kernel),
  List.forall_mem_cons.mpr ⟨qz_goto C (show decode c_X11_holds 340 = .ok (.goto 73, 3) by decide +kernel) (by decide),
  List.forall_mem_cons.mpr ⟨qz_iload C (show decode c_X11_holds 343 = .ok (.iload 9, 2) by decide +kernel),
  List.forall_mem_cons.mpr ⟨qz_sI C (show decode c_X11_holds 345 = .ok (.invokestatic 222, 3) by decide +kernel) ct_X11_isLetter mv_X11_isLetter (Or.inl cw_1221) (show 2 < 5 by omega),
  List.forall_mem_cons.mpr ⟨qz_ifeq C (show decode c_X11_holds 348 = .ok (.ifCond .eq 58, 3) by decide +kernel) (by decide),
  List.forall_mem_cons.mpr ⟨qz_iload C (show decode c_X11_holds 351 = .ok (.iload 7, 2) by decide +kernel),
  List.forall_mem_cons.mpr ⟨qz_ifle C (show decode c_X11_holds 353 = .ok (.ifCond .le 53, 3) by decide +kernel) (by decide),
  List.forall_mem_cons.mpr ⟨qz_aload_n C (show decode c_X11_holds 356 = .ok (.aload_n 0, 1) by decide +kernel) rfl,
  List.forall_mem_cons.mpr ⟨qz_gf (k := 30) C (show decode c_X11_holds 357 = .ok (.getfield 72, 3) by decide +kernel) vcX11 wiX11 (by decide) cw_1048,
  List.forall_mem_cons.mpr ⟨qz_iload C (show decode c_X11_holds 360 = .ok (.iload 7, 2) by decide +kernel),
  List.forall_mem_cons.mpr ⟨qz_iconst C (show decode c_X11_holds 362 = .ok (.iconst 1, 1) by decide +kernel) (by decide +kernel),
  List.forall_mem_cons.mpr ⟨qz_isub C (show decode c_X11_holds 363 = .ok (.isub, 1) by decide +kernel),
  List.forall_mem_cons.mpr ⟨qz_zald C (show decode c_X11_holds 364 = .ok (.baload, 1) by decide +kernel),
  List.forall_mem_cons.mpr ⟨qz_ifeq C (show decode c_X11_holds 365 = .ok (.ifCond .eq 41, 3) by decide +kernel) (by decide),
  List.forall_mem_cons.mpr ⟨qz_aload_n C (show decode c_X11_holds 368 = .ok (.aload_n 0, 1) by decide +kernel) rfl,
  List.forall_mem_cons.mpr ⟨qz_gf (k := 29) C (show decode c_X11_holds 369 = .ok (.getfield 69, 3) by decide +kernel) vcX11 wiX11 (by decide) cw_1047,
  List.forall_mem_cons.mpr ⟨qz_iload C (show decode c_X11_holds 372 = .ok (.iload 7, 2) by decide +kernel),
  (fun q h => by cases h)⟩⟩⟩⟩⟩⟩⟩⟩⟩⟩⟩⟩⟩⟩⟩⟩⟩⟩⟩⟩⟩⟩⟩⟩⟩⟩⟩⟩⟩⟩⟩⟩⟩⟩⟩⟩⟩⟩⟩⟩
set_option maxRecDepth 20000 in
theorem sd_X11_holds_5 {G : pj_E} {A : Nat → Prop} {P : pj_P} {S : pj_U} {Z : pj_Z} (C : pj_C (G, A, (c_X11_holds, y_X11_holds.cls, 12, (some .int), 5), P, S, Z)) : ∀ q ∈ tb_X11_holds_5, pj_S (G, A, (c_X11_holds, y_X11_holds.cls, 12, (some .int), 5), P, S, Z) pj_eI q.1 q.2 :=
  List.forall_mem_cons.mpr ⟨qz_iconst C (show decode c_X11_holds 374 = .ok (.iconst 1, 1) by decide +kernel) (by decide +kernel),
  List.forall_mem_cons.mpr ⟨qz_isub C (show decode c_X11_holds 375 = .ok (.isub, 1) by decide +kernel),
  List.forall_mem_cons.mpr ⟨qz_aload_n C (show decode c_X11_holds 376 = .ok (.aload_n 0, 1) by decide +kernel) rfl,
  List.forall_mem_cons.mpr ⟨qz_iload_n C (show decode c_X11_holds 377 = .ok (.iload_n 1, 1) by decide +kernel) rfl,
  List.forall_mem_cons.mpr ⟨qz_iload C (show decode c_X11_holds 378 = .ok (.iload 9, 2) by decide +kernel),
  List.forall_mem_cons.mpr ⟨qz_aload_n C (show decode c_X11_holds 380 = .ok (.aload_n 0, 1) by decide +kernel) rfl,
  List.forall_mem_cons.mpr ⟨qz_gf (k := 29) C (show decode c_X11_holds 381 = .ok (.getfield 69, 3) by decide +kernel) vcX11 wiX11 (by decide) cw_1047,
  List.forall_mem_cons.mpr ⟨qz_iload C (show decode c_X11_holds 384 = .ok (.iload 7, 2) by decide +kernel),
  List.forall_mem_cons.mpr ⟨qz_iconst C (show decode c_X11_holds 386 = .ok (.iconst 1, 1) by decide +kernel) (by decide +kernel),
  List.forall_mem_cons.mpr ⟨qz_isub C (show decode c_X11_holds 387 = .ok (.isub, 1) by decide +kernel),
  List.forall_mem_cons.mpr ⟨qz_iald C (show decode c_X11_holds 388 = .ok (.iaload, 1) by decide +kernel),
  List.forall_mem_cons.mpr ⟨qz_vI C (show decode c_X11_holds 389 = .ok (.invokevirtual 274, 3) by decide +kernel) ct_X11_movingInto mv_X11_movingInto cw_1389 vcX11 (show 4 < 5 by omega),
  List.forall_mem_cons.mpr ⟨qz_iast C (show decode c_X11_holds 392 = .ok (.iastore, 1) by decide +kernel),
  List.forall_mem_cons.mpr ⟨qz_aload_n C (show decode c_X11_holds 393 = .ok (.aload_n 0, 1) by decide +kernel) rfl,
  List.forall_mem_cons.mpr ⟨qz_gf (k := 30) C (show decode c_X11_holds 394 = .ok (.getfield 72, 3) by decide +kernel) vcX11 wiX11 (by decide) cw_1048,
  List.forall_mem_cons.mpr ⟨qz_iload C (show decode c_X11_holds 397 = .ok (.iload 7, 2) by decide +kernel),
  List.forall_mem_cons.mpr ⟨qz_iconst C (show decode c_X11_holds 399 = .ok (.iconst 1, 1) by decide +kernel) (by decide +kernel),
  List.forall_mem_cons.mpr ⟨qz_isub C (show decode c_X11_holds 400 = .ok (.isub, 1) by decide +kernel),
  List.forall_mem_cons.mpr ⟨qz_iconst C (show decode c_X11_holds 401 = .ok (.iconst 0, 1) by decide +kernel) (by decide +kernel),
  List.forall_mem_cons.mpr ⟨qz_zast C (show decode c_X11_holds 402 = .ok (.bastore, 1) by decide +kernel),
  List.forall_mem_cons.mpr ⟨qz_goto C (show decode c_X11_holds 403 = .ok (.goto 10, 3) by decide +kernel) (by decide),
  List.forall_mem_cons.mpr ⟨qz_aload_n C (show decode c_X11_holds 406 = .ok (.aload_n 0, 1) by decide +kernel) rfl,
  List.forall_mem_cons.mpr ⟨qz_ldc C (show decode c_X11_holds 407 = .ok (.ldc 78, 2) by decide +kernel) cw_1017,
  List.forall_mem_cons.mpr ⟨qz_vI C (show decode c_X11_holds 409 = .ok (.invokevirtual 97, 3) by decide +kernel) ct_X11_well mv_X11_well cw_1135 vcX11 (show 1 < 5 by omega),
  List.forall_mem_cons.mpr ⟨qz_iret C (show decode c_X11_holds 412 = .ok (.ireturn, 1) by decide +kernel) rfl,
  List.forall_mem_cons.mpr ⟨qz_idec C (show decode c_X11_holds 413 = .ok (.iinc 8 (-1), 3) by decide +kernel) (by decide +kernel),
  List.forall_mem_cons.mpr ⟨qz_goto C (show decode c_X11_holds 416 = .ok (.goto (-276), 3) by decide +kernel) (by decide),
  List.forall_mem_cons.mpr ⟨qz_aload_n C (show decode c_X11_holds 419 = .ok (.aload_n 0, 1) by decide +kernel) rfl,
  List.forall_mem_cons.mpr ⟨qz_iload C (show decode c_X11_holds 420 = .ok (.iload 7, 2) by decide +kernel),
  List.forall_mem_cons.mpr ⟨qz_iconst C (show decode c_X11_holds 422 = .ok (.iconst 1, 1) by decide +kernel) (by decide +kernel),
  List.forall_mem_cons.mpr ⟨qz_icne C (show decode c_X11_holds 423 = .ok (.if_icmp .ne 12, 3) by decide +kernel) (by decide),
  List.forall_mem_cons.mpr ⟨qz_aload_n C (show decode c_X11_holds 426 = .ok (.aload_n 0, 1) by decide +kernel) rfl,
  List.forall_mem_cons.mpr ⟨qz_gf (k := 30) C (show decode c_X11_holds 427 = .ok (.getfield 72, 3) by decide +kernel) vcX11 wiX11 (by decide) cw_1048,
  List.forall_mem_cons.mpr ⟨qz_iconst C (show decode c_X11_holds 430 = .ok (.iconst 0, 1) by decide +kernel) (by decide +kernel),
  List.forall_mem_cons.mpr ⟨qz_zald C (show decode c_X11_holds 431 = .ok (.baload, 1) by decide +kernel),
  List.forall_mem_cons.mpr ⟨qz_ifeq C (show decode c_X11_holds 432 = .ok (.ifCond .eq 8, 3) by decide +kernel) (by decide),
  List.forall_mem_cons.mpr ⟨qz_ldc C (show decode c_X11_holds 435 = .ok (.ldc 78, 2) by decide +kernel) cw_1017,
  List.forall_mem_cons.mpr ⟨qz_goto C (show decode c_X11_holds 437 = .ok (.goto 13, 3) by decide +kernel) (by decide),
  List.forall_mem_cons.mpr ⟨qz_aload_n C (show decode c_X11_holds 440 = .ok (.aload_n 0, 1) by decide +kernel) rfl,
  List.forall_mem_cons.mpr ⟨qz_gf (k := 29) C (show decode c_X11_holds 441 = .ok (.getfield 69, 3) by decide +kernel) vcX11 wiX11 (by decide) cw_1047,
  (fun q h => by cases h)⟩⟩⟩⟩⟩⟩⟩⟩⟩⟩⟩⟩⟩⟩⟩⟩⟩⟩⟩⟩⟩⟩⟩⟩⟩⟩⟩⟩⟩⟩⟩⟩⟩⟩⟩⟩⟩⟩⟩⟩
set_option maxRecDepth 20000 in
theorem sd_X11_holds_6 {G : pj_E} {A : Nat → Prop} {P : pj_P} {S : pj_U} {Z : pj_Z} (C : pj_C (G, A, (c_X11_holds, y_X11_holds.cls, 12, (some .int), 5), P, S, Z)) : ∀ q ∈ tb_X11_holds_6, pj_S (G, A, (c_X11_holds, y_X11_holds.cls, 12, (some .int), 5), P, S, Z) pj_eI q.1 q.2 :=
  List.forall_mem_cons.mpr ⟨qz_iconst C (show decode c_X11_holds 444 = .ok (.iconst 0, 1) by decide +kernel) (by decide +kernel),
  List.forall_mem_cons.mpr ⟨qz_iald C (show decode c_X11_holds 445 = .ok (.iaload, 1) by decide +kernel),
  List.forall_mem_cons.mpr ⟨qz_iload_n C (show decode c_X11_holds 446 = .ok (.iload_n 2, 1) by decide +kernel) rfl,
  List.forall_mem_cons.mpr ⟨qz_ishr C (show decode c_X11_holds 447 = .ok (.ishr, 1) by decide +kernel),
  List.forall_mem_cons.mpr ⟨qz_iconst C (show decode c_X11_holds 448 = .ok (.iconst 1, 1) by decide +kernel) (by decide +kernel),
  List.forall_mem_cons.mpr ⟨qz_iand C (show decode c_X11_holds 449 = .ok (.iand, 1) by decide +kernel),
  List.forall_mem_cons.mpr ⟨qz_vI C (show decode c_X11_holds 450 = .ok (.invokevirtual 97, 3) by decide +kernel) ct_X11_well mv_X11_well cw_1135 vcX11 (show 1 < 5 by omega),
  List.forall_mem_cons.mpr ⟨qz_iret C (show decode c_X11_holds 453 = .ok (.ireturn, 1) by decide +kernel) rfl,
  (fun q h => by cases h)⟩⟩⟩⟩⟩⟩⟩⟩
theorem sd_X11_holds {G : pj_E} {A : Nat → Prop} {P : pj_P} {S : pj_U} {Z : pj_Z} (C : pj_C (G, A, (c_X11_holds, y_X11_holds.cls, 12, (some .int), 5), P, S, Z)) : ∀ q ∈ tb_X11_holds, pj_S (G, A, (c_X11_holds, y_X11_holds.cls, 12, (some .int), 5), P, S, Z) pj_eI q.1 q.2 := List.forall_mem_append.mpr ⟨sd_X11_holds_0 C, List.forall_mem_append.mpr ⟨sd_X11_holds_1 C, List.forall_mem_append.mpr ⟨sd_X11_holds_2 C, List.forall_mem_append.mpr ⟨sd_X11_holds_3 C, List.forall_mem_append.mpr ⟨sd_X11_holds_4 C, List.forall_mem_append.mpr ⟨sd_X11_holds_5 C, sd_X11_holds_6 C⟩⟩⟩⟩⟩⟩
noncomputable def C_X11_holds_419 (f : Int32 → Int32 → pj_M → Option (Int32 × pj_M)) : pj_N (Int32 × pj_M) := fun L st m => match L, st with
  | [some (.inr (.inr (t0, w0, a0))), _, some (.inl x2), _, _, _, _, some (.inl x7), _, _, _, _], [] => (match Nat.beq t0 0 && (Nat.beq w0 11 && (Nat.beq a0 72)) with
    | true => f x2 x7 m
    | false => none)
  | _, _ => none
noncomputable def C_X11_holds_320 (f : Int32 → Int32 → Int32 → Int32 → Int32 → Int32 → Int32 → Int32 → pj_M → Option (Int32 × pj_M)) : pj_N (Int32 × pj_M) := fun L st m => match L, st with
  | [some (.inr (.inr (t0, w0, a0))), some (.inl x1), some (.inl x2), some (.inl x3), _, some (.inl x5), some (.inl x6), some (.inl x7), some (.inl x8), _, some (.inl x10), _], [] => (match Nat.beq t0 0 && (Nat.beq w0 11 && (Nat.beq a0 72)) with
    | true => f x1 x2 x3 x5 x6 x7 x8 x10 m
    | false => none)
  | _, _ => none
noncomputable def C_X11_holds_265 (f : Int32 → Int32 → Int32 → Int32 → Int32 → Int32 → Int32 → Int32 → Int32 → Int32 → pj_M → Option (Int32 × pj_M)) : pj_N (Int32 × pj_M) := fun L st m => match L, st with
  | [some (.inr (.inr (t0, w0, a0))), some (.inl x1), some (.inl x2), some (.inl x3), _, some (.inl x5), some (.inl x6), some (.inl x7), some (.inl x8), some (.inl x9), some (.inl x10), some (.inl x11)], [] => (match Nat.beq t0 0 && (Nat.beq w0 11 && (Nat.beq a0 72)) with
    | true => f x1 x2 x3 x5 x6 x7 x8 x9 x10 x11 m
    | false => none)
  | _, _ => none
noncomputable def C_X11_holds_140 (f : Int32 → Int32 → Int32 → Int32 → Int32 → Int32 → Int32 → pj_M → Option (Int32 × pj_M)) : pj_N (Int32 × pj_M) := fun L st m => match L, st with
  | [some (.inr (.inr (t0, w0, a0))), some (.inl x1), some (.inl x2), some (.inl x3), _, some (.inl x5), some (.inl x6), some (.inl x7), some (.inl x8), _, _, _], [] => (match Nat.beq t0 0 && (Nat.beq w0 11 && (Nat.beq a0 72)) with
    | true => f x1 x2 x3 x5 x6 x7 x8 m
    | false => none)
  | _, _ => none
noncomputable def C_X11_holds_131 (f : Int32 → Int32 → Int32 → Int32 → Int32 → Int32 → pj_M → Option (Int32 × pj_M)) : pj_N (Int32 × pj_M) := fun L st m => match L, st with
  | [some (.inr (.inr (t0, w0, a0))), some (.inl x1), some (.inl x2), some (.inl x3), some (.inl x4), some (.inl x5), some (.inl x6), _, _, _, _, _], [] => (match Nat.beq t0 0 && (Nat.beq w0 11 && (Nat.beq a0 72)) with
    | true => f x1 x2 x3 x4 x5 x6 m
    | false => none)
  | _, _ => none
noncomputable def C_X11_holds_94 (f : Int32 → Int32 → Int32 → Int32 → Int32 → Int32 → Int32 → pj_M → Option (Int32 × pj_M)) : pj_N (Int32 × pj_M) := fun L st m => match L, st with
  | [some (.inr (.inr (t0, w0, a0))), some (.inl x1), some (.inl x2), some (.inl x3), some (.inl x4), some (.inl x5), some (.inl x6), some (.inl x7), _, _, _, _], [] => (match Nat.beq t0 0 && (Nat.beq w0 11 && (Nat.beq a0 72)) with
    | true => f x1 x2 x3 x4 x5 x6 x7 m
    | false => none)
  | _, _ => none
set_option maxRecDepth 20000 in
theorem eq_X11_holds_419 (x2 : Int32) (x7 : Int32) (d1 d3 d4 d5 d6 d8 d9 d10 d11 : Option pj_V) (m : pj_M) : pj_run tb_X11_holds [] 250 419 [some (.inr (.inr (0, 11, 72))), d1, some (.inl x2), d3, d4, d5, d6, some (.inl x7), d8, d9, d10, d11] [] m = J_X11_holds_419 x2 x7 m := by rfl
theorem sg_X11_holds_419 {G : pj_E} {A : Nat → Prop} {P : pj_P} {S : pj_U} {Z : pj_Z} (C : pj_C (G, A, (c_X11_holds, y_X11_holds.cls, 12, (some .int), 5), P, S, Z)) : pj_G (G, A, (c_X11_holds, y_X11_holds.cls, 12, (some .int), 5), P, S, Z) pj_eI 419 (C_X11_holds_419 (J_X11_holds_419)) := by
  intro L st m r h hR
  unfold C_X11_holds_419 at h
  split at h
  · split at h
    · rename_i hbq
      simp only [Bool.and_eq_true, Nat.beq_eq] at hbq
      obtain ⟨rfl, rfl, rfl⟩ := hbq
      exact pj_run_ok (sd_X11_holds C) (fun q h => by cases h) 250 419 _ _ _ _ ((eq_X11_holds_419 _ _ _ _ _ _ _ _ _ _ _ _).trans h) hR
    · cases h
  · cases h
set_option maxRecDepth 20000 in
theorem eq_X11_holds_320 (k140 : Int32 → Int32 → Int32 → Int32 → Int32 → Int32 → Int32 → pj_M → Option (Int32 × pj_M)) (x1 : Int32) (x2 : Int32) (x3 : Int32) (x5 : Int32) (x6 : Int32) (x7 : Int32) (x8 : Int32) (x10 : Int32) (d4 d9 d11 : Option pj_V) (m : pj_M) : pj_run tb_X11_holds [(140, C_X11_holds_140 k140)] 250 320 [some (.inr (.inr (0, 11, 72))), some (.inl x1), some (.inl x2), some (.inl x3), d4, some (.inl x5), some (.inl x6), some (.inl x7), some (.inl x8), d9, some (.inl x10), d11] [] m = J_X11_holds_320 k140 x1 x2 x3 x5 x6 x7 x8 x10 m := by rfl
theorem sg_X11_holds_320 {G : pj_E} {A : Nat → Prop} {P : pj_P} {S : pj_U} {Z : pj_Z} (C : pj_C (G, A, (c_X11_holds, y_X11_holds.cls, 12, (some .int), 5), P, S, Z)) {k140 : Int32 → Int32 → Int32 → Int32 → Int32 → Int32 → Int32 → pj_M → Option (Int32 × pj_M)} (hk140 : pj_G (G, A, (c_X11_holds, y_X11_holds.cls, 12, (some .int), 5), P, S, Z) pj_eI 140 (C_X11_holds_140 k140)) : pj_G (G, A, (c_X11_holds, y_X11_holds.cls, 12, (some .int), 5), P, S, Z) pj_eI 320 (C_X11_holds_320 (J_X11_holds_320 k140)) := by
  intro L st m r h hR
  unfold C_X11_holds_320 at h
  split at h
  · split at h
    · rename_i hbq
      simp only [Bool.and_eq_true, Nat.beq_eq] at hbq
      obtain ⟨rfl, rfl, rfl⟩ := hbq
      exact pj_run_ok (sd_X11_holds C) (List.forall_mem_cons.mpr ⟨hk140, fun q h => by cases h⟩) 250 320 _ _ _ _ ((eq_X11_holds_320 _ _ _ _ _ _ _ _ _ _ _ _ _).trans h) hR
    · cases h
  · cases h
set_option maxRecDepth 20000 in
theorem eq_X11_holds_265 (k140 : Int32 → Int32 → Int32 → Int32 → Int32 → Int32 → Int32 → pj_M → Option (Int32 × pj_M)) (n1 : Nat) (x1 : Int32) (x2 : Int32) (x3 : Int32) (x5 : Int32) (x6 : Int32) (x7 : Int32) (x8 : Int32) (x9 : Int32) (x10 : Int32) (x11 : Int32) (d4 : Option pj_V) (m : pj_M) : pj_run tb_X11_holds [(265, C_X11_holds_265 (H_X11_holds_265 k140 n1)), (320, C_X11_holds_320 (J_X11_holds_320 k140))] 250 265 [some (.inr (.inr (0, 11, 72))), some (.inl x1), some (.inl x2), some (.inl x3), d4, some (.inl x5), some (.inl x6), some (.inl x7), some (.inl x8), some (.inl x9), some (.inl x10), some (.inl x11)] [] m = H_X11_holds_265 k140 (n1 + 1) x1 x2 x3 x5 x6 x7 x8 x9 x10 x11 m := by rfl
theorem sg_X11_holds_265 {G : pj_E} {A : Nat → Prop} {P : pj_P} {S : pj_U} {Z : pj_Z} (C : pj_C (G, A, (c_X11_holds, y_X11_holds.cls, 12, (some .int), 5), P, S, Z)) {k140 : Int32 → Int32 → Int32 → Int32 → Int32 → Int32 → Int32 → pj_M → Option (Int32 × pj_M)} (hk140 : pj_G (G, A, (c_X11_holds, y_X11_holds.cls, 12, (some .int), 5), P, S, Z) pj_eI 140 (C_X11_holds_140 k140)) : ∀ n1, pj_G (G, A, (c_X11_holds, y_X11_holds.cls, 12, (some .int), 5), P, S, Z) pj_eI 265 (C_X11_holds_265 (H_X11_holds_265 k140 n1)) := by
  intro n1
  induction n1 with
  | zero =>
    intro L st m r h hR
    unfold C_X11_holds_265 at h
    split at h
    · split at h
      · cases h
      · cases h
    · cases h
  | succ n1 ih1 =>
    intro L st m r h hR
    unfold C_X11_holds_265 at h
    split at h
    · split at h
      · rename_i hbq
        simp only [Bool.and_eq_true, Nat.beq_eq] at hbq
        obtain ⟨rfl, rfl, rfl⟩ := hbq
        exact pj_run_ok (sd_X11_holds C) (List.forall_mem_cons.mpr ⟨ih1, List.forall_mem_cons.mpr ⟨sg_X11_holds_320 C hk140, fun q h => by cases h⟩⟩) 250 265 _ _ _ _ ((eq_X11_holds_265 _ _ _ _ _ _ _ _ _ _ _ _ _ _).trans h) hR
      · cases h
    · cases h
set_option maxRecDepth 20000 in
theorem eq_X11_holds_140 (n1 : Nat) (x1 : Int32) (x2 : Int32) (x3 : Int32) (x5 : Int32) (x6 : Int32) (x7 : Int32) (x8 : Int32) (d4 d9 d10 d11 : Option pj_V) (m : pj_M) : pj_run tb_X11_holds [(140, C_X11_holds_140 (H_X11_holds_140 n1)), (265, C_X11_holds_265 (H_X11_holds_265 (H_X11_holds_140 n1) pj_z)), (419, C_X11_holds_419 (J_X11_holds_419 ))] 250 140 [some (.inr (.inr (0, 11, 72))), some (.inl x1), some (.inl x2), some (.inl x3), d4, some (.inl x5), some (.inl x6), some (.inl x7), some (.inl x8), d9, d10, d11] [] m = H_X11_holds_140 (n1 + 1) x1 x2 x3 x5 x6 x7 x8 m := by rfl
theorem sg_X11_holds_140 {G : pj_E} {A : Nat → Prop} {P : pj_P} {S : pj_U} {Z : pj_Z} (C : pj_C (G, A, (c_X11_holds, y_X11_holds.cls, 12, (some .int), 5), P, S, Z)) : ∀ n1, pj_G (G, A, (c_X11_holds, y_X11_holds.cls, 12, (some .int), 5), P, S, Z) pj_eI 140 (C_X11_holds_140 (H_X11_holds_140 n1)) := by
  intro n1
  induction n1 with
  | zero =>
    intro L st m r h hR
    unfold C_X11_holds_140 at h
    split at h
    · split at h
      · cases h
      · cases h
    · cases h
  | succ n1 ih1 =>
    intro L st m r h hR
    unfold C_X11_holds_140 at h
    split at h
    · split at h
      · rename_i hbq
        simp only [Bool.and_eq_true, Nat.beq_eq] at hbq
        obtain ⟨rfl, rfl, rfl⟩ := hbq
        exact pj_run_ok (sd_X11_holds C) (List.forall_mem_cons.mpr ⟨ih1, List.forall_mem_cons.mpr ⟨sg_X11_holds_265 C ih1 pj_z, List.forall_mem_cons.mpr ⟨sg_X11_holds_419 C , fun q h => by cases h⟩⟩⟩) 250 140 _ _ _ _ ((eq_X11_holds_140 _ _ _ _ _ _ _ _ _ _ _ _ _).trans h) hR
      · cases h
    · cases h
set_option maxRecDepth 20000 in
theorem eq_X11_holds_131 (x1 : Int32) (x2 : Int32) (x3 : Int32) (x4 : Int32) (x5 : Int32) (x6 : Int32) (d7 d8 d9 d10 d11 : Option pj_V) (m : pj_M) : pj_run tb_X11_holds [(140, C_X11_holds_140 (H_X11_holds_140  pj_z))] 250 131 [some (.inr (.inr (0, 11, 72))), some (.inl x1), some (.inl x2), some (.inl x3), some (.inl x4), some (.inl x5), some (.inl x6), d7, d8, d9, d10, d11] [] m = J_X11_holds_131 x1 x2 x3 x4 x5 x6 m := by rfl
theorem sg_X11_holds_131 {G : pj_E} {A : Nat → Prop} {P : pj_P} {S : pj_U} {Z : pj_Z} (C : pj_C (G, A, (c_X11_holds, y_X11_holds.cls, 12, (some .int), 5), P, S, Z)) : pj_G (G, A, (c_X11_holds, y_X11_holds.cls, 12, (some .int), 5), P, S, Z) pj_eI 131 (C_X11_holds_131 (J_X11_holds_131)) := by
  intro L st m r h hR
  unfold C_X11_holds_131 at h
  split at h
  · split at h
    · rename_i hbq
      simp only [Bool.and_eq_true, Nat.beq_eq] at hbq
      obtain ⟨rfl, rfl, rfl⟩ := hbq
      exact pj_run_ok (sd_X11_holds C) (List.forall_mem_cons.mpr ⟨sg_X11_holds_140 C  pj_z, fun q h => by cases h⟩) 250 131 _ _ _ _ ((eq_X11_holds_131 _ _ _ _ _ _ _ _ _ _ _ _).trans h) hR
    · cases h
  · cases h
set_option maxRecDepth 20000 in
theorem eq_X11_holds_94 (n1 : Nat) (x1 : Int32) (x2 : Int32) (x3 : Int32) (x4 : Int32) (x5 : Int32) (x6 : Int32) (x7 : Int32) (d8 d9 d10 d11 : Option pj_V) (m : pj_M) : pj_run tb_X11_holds [(94, C_X11_holds_94 (H_X11_holds_94 n1)), (131, C_X11_holds_131 (J_X11_holds_131 ))] 250 94 [some (.inr (.inr (0, 11, 72))), some (.inl x1), some (.inl x2), some (.inl x3), some (.inl x4), some (.inl x5), some (.inl x6), some (.inl x7), d8, d9, d10, d11] [] m = H_X11_holds_94 (n1 + 1) x1 x2 x3 x4 x5 x6 x7 m := by rfl
theorem sg_X11_holds_94 {G : pj_E} {A : Nat → Prop} {P : pj_P} {S : pj_U} {Z : pj_Z} (C : pj_C (G, A, (c_X11_holds, y_X11_holds.cls, 12, (some .int), 5), P, S, Z)) : ∀ n1, pj_G (G, A, (c_X11_holds, y_X11_holds.cls, 12, (some .int), 5), P, S, Z) pj_eI 94 (C_X11_holds_94 (H_X11_holds_94 n1)) := by
  intro n1
  induction n1 with
  | zero =>
    intro L st m r h hR
    unfold C_X11_holds_94 at h
    split at h
    · split at h
      · cases h
      · cases h
    · cases h
  | succ n1 ih1 =>
    intro L st m r h hR
    unfold C_X11_holds_94 at h
    split at h
    · split at h
      · rename_i hbq
        simp only [Bool.and_eq_true, Nat.beq_eq] at hbq
        obtain ⟨rfl, rfl, rfl⟩ := hbq
        exact pj_run_ok (sd_X11_holds C) (List.forall_mem_cons.mpr ⟨ih1, List.forall_mem_cons.mpr ⟨sg_X11_holds_131 C , fun q h => by cases h⟩⟩) 250 94 _ _ _ _ ((eq_X11_holds_94 _ _ _ _ _ _ _ _ _ _ _ _ _).trans h) hR
      · cases h
    · cases h
set_option maxRecDepth 20000 in
theorem eq_X11_holds (x1 : Int32) (x2 : Int32) (x3 : Int32) (x4 : Int32) (m : pj_M) : pj_run tb_X11_holds [(94, C_X11_holds_94 (H_X11_holds_94  pj_z))] 250 0 [some (.inr (.inr (0, 11, 72))), some (.inl x1), some (.inl x2), some (.inl x3), some (.inl x4), none, none, none, none, none, none, none] [] m = F_X11_holds x1 x2 x3 x4 m := by rfl
theorem ct_X11_holds : pj_Ct pj_eI y_X11_holds c_X11_holds 12 (some .int) 5 W_X11_holds := by
  refine pj_ct_of (by decide +kernel) ?_ ?_
  · intro as m r h
    unfold W_X11_holds at h
    split at h
    · simp [pj_l0]
    · cases h
  · intro G A P S Z C as m r h hR
    unfold W_X11_holds at h
    split at h
    · split at h
      · rename_i hbq
        simp only [Bool.and_eq_true, Nat.beq_eq] at hbq
        obtain ⟨rfl, rfl, rfl⟩ := hbq
        exact pj_run_ok (sd_X11_holds C) (List.forall_mem_cons.mpr ⟨sg_X11_holds_94 C  pj_z, fun q h => by cases h⟩) 250 0 _ _ _ _ ((eq_X11_holds _ _ _ _ _).trans h) hR
      · cases h
    · cases h
/-! AlikeStepsModel.smallOf(III)I -/
abbrev c_X11_smallOf : ByteArray := prog_13_method_72_code
def y_X11_smallOf : MethodName := ⟨RX11, "smallOf", "(III)I"⟩
noncomputable def J_X11_smallOf_95 (k6 : Int32 → Int32 → Int32 → Int32 → Int32 → pj_M → Option (Int32 × pj_M)) (k18 : Int32 → Int32 → Int32 → Int32 → Int32 → Int32 → pj_M → Option (Int32 × pj_M)) (x1 : Int32) (x2 : Int32) (x3 : Int32) (x4 : Int32) (x5 : Int32) (x6 : Int32) (x7 : Int32) (s0 : Int32) (m : pj_M) : Option (Int32 × pj_M) := (if x7 = 0 then (k18 x1 x2 x3 (x4 ||| 0) x5 (x6 + 1) m) else (if s0 = 0 then ((F_X11_blockIn (m.1 72 23) x6 m).bind fun q1 => (k18 x1 x2 x3 (x4 ||| (1 <<< (q1.1 &&& 31))) x5 (x6 + 1) q1.2)) else (k18 x1 x2 x3 (x4 ||| 0) x5 (x6 + 1) m)))
noncomputable def J_X11_smallOf_66 (k6 : Int32 → Int32 → Int32 → Int32 → Int32 → pj_M → Option (Int32 × pj_M)) (k18 : Int32 → Int32 → Int32 → Int32 → Int32 → Int32 → pj_M → Option (Int32 × pj_M)) (x1 : Int32) (x2 : Int32) (x3 : Int32) (x4 : Int32) (x5 : Int32) (x6 : Int32) (s0 : Int32) (m : pj_M) : Option (Int32 × pj_M) := (if x3 = 0 then (if (0 : Int32) < x1 then ((F_X11_blockIn (m.1 72 23) x6 m).bind fun q1 => (if q1.1 = x2 then (J_X11_smallOf_95 k6 k18 x1 x2 x3 x4 x5 x6 s0 1 q1.2) else (J_X11_smallOf_95 k6 k18 x1 x2 x3 x4 x5 x6 s0 0 q1.2))) else (J_X11_smallOf_95 k6 k18 x1 x2 x3 x4 x5 x6 s0 0 m)) else (J_X11_smallOf_95 k6 k18 x1 x2 x3 x4 x5 x6 s0 0 m))
noncomputable def H_X11_smallOf_18 (k6 : Int32 → Int32 → Int32 → Int32 → Int32 → pj_M → Option (Int32 × pj_M)) : Nat → Int32 → Int32 → Int32 → Int32 → Int32 → Int32 → pj_M → Option (Int32 × pj_M)
  | 0, _, _, _, _, _, _, _ => none
  | n1 + 1, x1, x2, x3, x4, x5, x6, m => ((F_X11_states m).bind fun q1 => (if x6 < q1.1 then ((F_X11_blockIn (q1.2.1 72 23) x5 q1.2).bind fun q2 => (if q2.1 = x2 then (if ((10 * x3) + x5) < 0 ∨ 40 ≤ ((10 * x3) + x5).toNatClampNeg then none else ((F_X11_has (q2.2.1 84 ((10 * x3) + x5).toNatClampNeg) x6 q2.2).bind fun q3 => (if q3.1 = 0 then (J_X11_smallOf_66 k6 (H_X11_smallOf_18 k6 n1) x1 x2 x3 x4 x5 x6 0 q3.2) else (J_X11_smallOf_66 k6 (H_X11_smallOf_18 k6 n1) x1 x2 x3 x4 x5 x6 1 q3.2)))) else (J_X11_smallOf_66 k6 (H_X11_smallOf_18 k6 n1) x1 x2 x3 x4 x5 x6 0 q2.2))) else (k6 x1 x2 x3 x4 (x5 + 1) q1.2)))
noncomputable def H_X11_smallOf_6 : Nat → Int32 → Int32 → Int32 → Int32 → Int32 → pj_M → Option (Int32 × pj_M)
  | 0, _, _, _, _, _, _ => none
  | n1 + 1, x1, x2, x3, x4, x5, m => ((F_X11_states m).bind fun q1 => (if x5 < q1.1 then (H_X11_smallOf_18 (H_X11_smallOf_6 n1) pj_z x1 x2 x3 x4 x5 0 q1.2) else (some (x4, q1.2))))
noncomputable def F_X11_smallOf (x1 : Int32) (x2 : Int32) (x3 : Int32) (m : pj_M) : Option (Int32 × pj_M) := (H_X11_smallOf_6 pj_z x1 x2 x3 0 0 m)
noncomputable def W_X11_smallOf : List pj_V → pj_M → Option (Int32 × pj_M) := fun as m => match as with
  | [.inr (.inr (t0, w0, a0)), .inl x1, .inl x2, .inl x3] => (match Nat.beq t0 0 && (Nat.beq w0 11 && (Nat.beq a0 72)) with
    | true => F_X11_smallOf x1 x2 x3 m
    | false => none)
  | _ => none
noncomputable def tb_X11_smallOf_0 : List (Nat × pj_T (Int32 × pj_M)) := [(0, qs_ci 0 1), (1, qs_sti 4 3), (3, qs_ci 0 4), (4, qs_sti 5 6), (6, qs_ldi 5 8), (8, qs_lda 0 9), (9, qs_vI 11 1 W_X11_states 12), (12, qs_icge 140 15), (15, qs_ci 0 16), (16, qs_sti 6 18), (18, qs_ldi 6 20), (20, qs_lda 0 21), (21, qs_vI 11 1 W_X11_states 24), (24, qs_icge 134 27), (27, qs_lda 0 28), (28, qs_lda 0 29), (29, qs_gf 11 23 32), (32, qs_ldi 5 34), (34, qs_vI 11 3 W_X11_blockIn 37), (37, qs_ldi 2 38), (38, qs_icne 65 41), (41, qs_lda 0 42), (42, qs_gf 11 20 45), (45, qs_ci 10 47), (47, qs_ldi 3 48), (48, qs_b2 (fun x y => x * y) 49), (49, qs_ldi 5 51), (51, qs_b2 (fun x y => x + y) 52), (52, qs_iald 53), (53, qs_ldi 6 55), (55, qs_sI 2 W_X11_has 58), (58, qs_ifeq 65 61), (61, qs_ci 1 62), (62, qs_go 66), (65, qs_ci 0 66), (66, qs_sti 7 68), (68, qs_ldi 3 69), (69, qs_ifne 94 72), (72, qs_ldi 1 73), (73, qs_ifle 94 76)]
noncomputable def tb_X11_smallOf_1 : List (Nat × pj_T (Int32 × pj_M)) := [(76, qs_lda 0 77), (77, qs_lda 0 78), (78, qs_gf 11 23 81), (81, qs_ldi 6 83), (83, qs_vI 11 3 W_X11_blockIn 86), (86, qs_ldi 2 87), (87, qs_icne 94 90), (90, qs_ci 1 91), (91, qs_go 95), (94, qs_ci 0 95), (95, qs_sti 8 97), (97, qs_ldi 4 99), (99, qs_ldi 7 101), (101, qs_ifeq 124 104), (104, qs_ldi 8 106), (106, qs_ifne 124 109), (109, qs_ci 1 110), (110, qs_lda 0 111), (111, qs_lda 0 112), (112, qs_gf 11 23 115), (115, qs_ldi 6 117), (117, qs_vI 11 3 W_X11_blockIn 120), (120, qs_b2 (fun x y => x <<< (y &&& 31)) 121), (121, qs_go 125), (124, qs_ci 0 125), (125, qs_b2 (fun x y => x ||| y) 126), (126, qs_sti 4 128), (128, qs_inc 6 1 131), (131, qs_go 18), (134, qs_inc 5 1 137), (137, qs_go 6), (140, qs_ldi 4 142), (142, qs_iret)]
noncomputable def tb_X11_smallOf : List (Nat × pj_T (Int32 × pj_M)) := tb_X11_smallOf_0 ++ (tb_X11_smallOf_1)
theorem mv_X11_smallOf : pj_mv y_X11_smallOf c_X11_smallOf 9 (some .int) 3 := ⟨⟨cw_1400, cw_1399, cw_70, cw_92⟩, by decide +kernel, by decide⟩
set_option maxRecDepth 20000 in
theorem sd_X11_smallOf_0 {G : pj_E} {A : Nat → Prop} {P : pj_P} {S : pj_U} {Z : pj_Z} (C : pj_C (G, A, (c_X11_smallOf, y_X11_smallOf.cls, 9, (some .int), 2), P, S, Z)) : ∀ q ∈ tb_X11_smallOf_0, pj_S (G, A, (c_X11_smallOf, y_X11_smallOf.cls, 9, (some .int), 2), P, S, Z) pj_eI q.1 q.2 :=
  List.forall_mem_cons.mpr ⟨qz_iconst C (show decode c_X11_smallOf 0 = .ok (.iconst 0, 1) by decide +kernel) (by decide +kernel),
  List.forall_mem_cons.mpr ⟨qz_istore C (show decode c_X11_smallOf 1 = .ok (.istore 4, 2) by decide +kernel),
  List.forall_mem_cons.mpr ⟨qz_iconst C (show decode c_X11_smallOf 3 = .ok (.iconst 0, 1) by decide +kernel) (by decide +kernel),
  List.forall_mem_cons.mpr ⟨qz_istore C (show decode c_X11_smallOf 4 = .ok (.istore 5, 2) by decide +kernel),
  List.forall_mem_cons.mpr ⟨qz_iload C (show decode c_X11_smallOf 6 = .ok (.iload 5, 2) by decide +kernel),
  List.forall_mem_cons.mpr ⟨qz_aload_n C (show decode c_X11_smallOf 8 = .ok (.aload_n 0, 1) by decide +kernel) rfl,
  List.forall_mem_cons.mpr ⟨qz_vI C (show decode c_X11_smallOf 9 = .ok (.invokevirtual 177, 3) by decide +kernel) ct_X11_states mv_X11_states cw_1269 vcX11 (show 1 < 2 by omega),
  List.forall_mem_cons.mpr ⟨qz_icge C (show decode c_X11_smallOf 12 = .ok (.if_icmp .ge 128, 3) by decide +kernel) (by decide),
  List.forall_mem_cons.mpr ⟨qz_iconst C (show decode c_X11_smallOf 15 = .ok (.iconst 0, 1) by decide +kernel) (by decide +kernel),
  List.forall_mem_cons.mpr ⟨qz_istore C (show decode c_X11_smallOf 16 = .ok (.istore 6, 2) by decide +kernel),
  List.forall_mem_cons.mpr ⟨qz_iload C (show decode c_X11_smallOf 18 = .ok (.iload 6, 2) by decide +kernel),
  List.forall_mem_cons.mpr ⟨qz_aload_n C (show decode c_X11_smallOf 20 = .ok (.aload_n 0, 1) by decide +kernel) rfl,
  List.forall_mem_cons.mpr ⟨qz_vI C (show decode c_X11_smallOf 21 = .ok (.invokevirtual 177, 3) by decide +kernel) ct_X11_states mv_X11_states cw_1269 vcX11 (show 1 < 2 by omega),
  List.forall_mem_cons.mpr ⟨qz_icge C (show decode c_X11_smallOf 24 = .ok (.if_icmp .ge 110, 3) by decide +kernel) (by decide),
  List.forall_mem_cons.mpr ⟨qz_aload_n C (show decode c_X11_smallOf 27 = .ok (.aload_n 0, 1) by decide +kernel) rfl,
  List.forall_mem_cons.mpr ⟨qz_aload_n C (show decode c_X11_smallOf 28 = .ok (.aload_n 0, 1) by decide +kernel) rfl,
  List.forall_mem_cons.mpr ⟨qz_gf (k := 23) C (show decode c_X11_smallOf 29 = .ok (.getfield 216, 3) by decide +kernel) vcX11 wiX11 (by decide) cw_1041,
  List.forall_mem_cons.mpr ⟨qz_iload C (show decode c_X11_smallOf 32 = .ok (.iload 5, 2) by decide +kernel),
  List.forall_mem_cons.mpr ⟨qz_vI C (show decode c_X11_smallOf 34 = .ok (.invokevirtual 194, 3) by decide +kernel) ct_X11_blockIn mv_X11_blockIn cw_1312 vcX11 (show 1 < 2 by omega),
  List.forall_mem_cons.mpr ⟨qz_iload_n C (show decode c_X11_smallOf 37 = .ok (.iload_n 2, 1) by decide +kernel) rfl,
  List.forall_mem_cons.mpr ⟨qz_icne C (show decode c_X11_smallOf 38 = .ok (.if_icmp .ne 27, 3) by decide +kernel) (by decide),
  List.forall_mem_cons.mpr ⟨qz_aload_n C (show decode c_X11_smallOf 41 = .ok (.aload_n 0, 1) by decide +kernel) rfl,
  List.forall_mem_cons.mpr ⟨qz_gf (k := 20) C (show decode c_X11_smallOf 42 = .ok (.getfield 44, 3) by decide +kernel) vcX11 wiX11 (by decide) cw_1038,
  List.forall_mem_cons.mpr ⟨qz_bipush C (show decode c_X11_smallOf 45 = .ok (.bipush 10, 2) by decide +kernel) (by decide +kernel),
  List.forall_mem_cons.mpr ⟨qz_iload_n C (show decode c_X11_smallOf 47 = .ok (.iload_n 3, 1) by decide +kernel) rfl,
  List.forall_mem_cons.mpr ⟨qz_imul C (show decode c_X11_smallOf 48 = .ok (.imul, 1) by decide +kernel),
  List.forall_mem_cons.mpr ⟨qz_iload C (show decode c_X11_smallOf 49 = .ok (.iload 5, 2) by decide +kernel),
  List.forall_mem_cons.mpr ⟨qz_iadd C (show decode c_X11_smallOf 51 = .ok (.iadd, 1) by decide +kernel),
  List.forall_mem_cons.mpr ⟨qz_iald C (show decode c_X11_smallOf 52 = .ok (.iaload, 1) by decide +kernel),
  List.forall_mem_cons.mpr ⟨qz_iload C (show decode c_X11_smallOf 53 = .ok (.iload 6, 2) by decide +kernel),
  List.forall_mem_cons.mpr ⟨qz_sI C (show decode c_X11_smallOf 55 = .ok (.invokestatic 187, 3) by decide +kernel) ct_X11_has mv_X11_has (Or.inl cw_1281) (show 1 < 2 by omega),
  List.forall_mem_cons.mpr ⟨qz_ifeq C (show decode c_X11_smallOf 58 = .ok (.ifCond .eq 7, 3) by decide +kernel) (by decide),
  List.forall_mem_cons.mpr ⟨qz_iconst C (show decode c_X11_smallOf 61 = .ok (.iconst 1, 1) by decide +kernel) (by decide +kernel),
  List.forall_mem_cons.mpr ⟨qz_goto C (show decode c_X11_smallOf 62 = .ok (.goto 4, 3) by decide +kernel) (by decide),
  List.forall_mem_cons.mpr ⟨qz_iconst C (show decode c_X11_smallOf 65 = .ok (.iconst 0, 1) by decide +kernel) (by decide +kernel),
  List.forall_mem_cons.mpr ⟨qz_istore C (show decode c_X11_smallOf 66 = .ok (.istore 7, 2) by decide +kernel),
  List.forall_mem_cons.mpr ⟨qz_iload_n C (show decode c_X11_smallOf 68 = .ok (.iload_n 3, 1) by decide +kernel) rfl,
  List.forall_mem_cons.mpr ⟨qz_ifne C (show decode c_X11_smallOf 69 = .ok (.ifCond .ne 25, 3) by decide +kernel) (by decide),
  List.forall_mem_cons.mpr ⟨qz_iload_n C (show decode c_X11_smallOf 72 = .ok (.iload_n 1, 1) by decide +kernel) rfl,
  List.forall_mem_cons.mpr ⟨qz_ifle C (show decode c_X11_smallOf 73 = .ok (.ifCond .le 21, 3) by decide +kernel) (by decide),
  (fun q h => by cases h)⟩⟩⟩⟩⟩⟩⟩⟩⟩⟩⟩⟩⟩⟩⟩⟩⟩⟩⟩⟩⟩⟩⟩⟩⟩⟩⟩⟩⟩⟩⟩⟩⟩⟩⟩⟩⟩⟩⟩⟩
set_option maxRecDepth 20000 in
theorem sd_X11_smallOf_1 {G : pj_E} {A : Nat → Prop} {P : pj_P} {S : pj_U} {Z : pj_Z} (C : pj_C (G, A, (c_X11_smallOf, y_X11_smallOf.cls, 9, (some .int), 2), P, S, Z)) : ∀ q ∈ tb_X11_smallOf_1, pj_S (G, A, (c_X11_smallOf, y_X11_smallOf.cls, 9, (some .int), 2), P, S, Z) pj_eI q.1 q.2 :=
  List.forall_mem_cons.mpr ⟨qz_aload_n C (show decode c_X11_smallOf 76 = .ok (.aload_n 0, 1) by decide +kernel) rfl,
  List.forall_mem_cons.mpr ⟨qz_aload_n C (show decode c_X11_smallOf 77 = .ok (.aload_n 0, 1) by decide +kernel) rfl,
  List.forall_mem_cons.mpr ⟨qz_gf (k := 23) C (show decode c_X11_smallOf 78 = .ok (.getfield 216, 3) by decide +kernel) vcX11 wiX11 (by decide) cw_1041,
  List.forall_mem_cons.mpr ⟨qz_iload C (show decode c_X11_smallOf 81 = .ok (.iload 6, 2) by decide +kernel),
  List.forall_mem_cons.mpr ⟨qz_vI C (show decode c_X11_smallOf 83 = .ok (.invokevirtual 194, 3) by decide +kernel) ct_X11_blockIn mv_X11_blockIn cw_1312 vcX11 (show 1 < 2 by omega),
  List.forall_mem_cons.mpr ⟨qz_iload_n C (show decode c_X11_smallOf 86 = .ok (.iload_n 2, 1) by decide +kernel) rfl,
  List.forall_mem_cons.mpr ⟨qz_icne C (show decode c_X11_smallOf 87 = .ok (.if_icmp .ne 7, 3) by decide +kernel) (by decide),
  List.forall_mem_cons.mpr ⟨qz_iconst C (show decode c_X11_smallOf 90 = .ok (.iconst 1, 1) by decide +kernel) (by decide +kernel),
  List.forall_mem_cons.mpr ⟨qz_goto C (show decode c_X11_smallOf 91 = .ok (.goto 4, 3) by decide +kernel) (by decide),
  List.forall_mem_cons.mpr ⟨qz_iconst C (show decode c_X11_smallOf 94 = .ok (.iconst 0, 1) by decide +kernel) (by decide +kernel),
  List.forall_mem_cons.mpr ⟨qz_istore C (show decode c_X11_smallOf 95 = .ok (.istore 8, 2) by decide +kernel),
  List.forall_mem_cons.mpr ⟨qz_iload C (show decode c_X11_smallOf 97 = .ok (.iload 4, 2) by decide +kernel),
  List.forall_mem_cons.mpr ⟨qz_iload C (show decode c_X11_smallOf 99 = .ok (.iload 7, 2) by decide +kernel),
  List.forall_mem_cons.mpr ⟨qz_ifeq C (show decode c_X11_smallOf 101 = .ok (.ifCond .eq 23, 3) by decide +kernel) (by decide),
  List.forall_mem_cons.mpr ⟨qz_iload C (show decode c_X11_smallOf 104 = .ok (.iload 8, 2) by decide +kernel),
  List.forall_mem_cons.mpr ⟨qz_ifne C (show decode c_X11_smallOf 106 = .ok (.ifCond .ne 18, 3) by decide +kernel) (by decide),
  List.forall_mem_cons.mpr ⟨qz_iconst C (show decode c_X11_smallOf 109 = .ok (.iconst 1, 1) by decide +kernel) (by decide +kernel),
  List.forall_mem_cons.mpr ⟨qz_aload_n C (show decode c_X11_smallOf 110 = .ok (.aload_n 0, 1) by decide +kernel) rfl,
  List.forall_mem_cons.mpr ⟨qz_aload_n C (show decode c_X11_smallOf 111 = .ok (.aload_n 0, 1) by decide +kernel) rfl,
  List.forall_mem_cons.mpr ⟨qz_gf (k := 23) C (show decode c_X11_smallOf 112 = .ok (.getfield 216, 3) by decide +kernel) vcX11 wiX11 (by decide) cw_1041,
  List.forall_mem_cons.mpr ⟨qz_iload C (show decode c_X11_smallOf 115 = .ok (.iload 6, 2) by decide +kernel),
  List.forall_mem_cons.mpr ⟨qz_vI C (show decode c_X11_smallOf 117 = .ok (.invokevirtual 194, 3) by decide +kernel) ct_X11_blockIn mv_X11_blockIn cw_1312 vcX11 (show 1 < 2 by omega),
  List.forall_mem_cons.mpr ⟨qz_ishl C (show decode c_X11_smallOf 120 = .ok (.ishl, 1) by decide +kernel),
  List.forall_mem_cons.mpr ⟨qz_goto C (show decode c_X11_smallOf 121 = .ok (.goto 4, 3) by decide +kernel) (by decide),
  List.forall_mem_cons.mpr ⟨qz_iconst C (show decode c_X11_smallOf 124 = .ok (.iconst 0, 1) by decide +kernel) (by decide +kernel),
  List.forall_mem_cons.mpr ⟨qz_ior C (show decode c_X11_smallOf 125 = .ok (.ior, 1) by decide +kernel),
  List.forall_mem_cons.mpr ⟨qz_istore C (show decode c_X11_smallOf 126 = .ok (.istore 4, 2) by decide +kernel),
  List.forall_mem_cons.mpr ⟨qz_iinc C (show decode c_X11_smallOf 128 = .ok (.iinc 6 1, 3) by decide +kernel) (by decide +kernel),
  List.forall_mem_cons.mpr ⟨qz_goto C (show decode c_X11_smallOf 131 = .ok (.goto (-113), 3) by decide +kernel) (by decide),
  List.forall_mem_cons.mpr ⟨qz_iinc C (show decode c_X11_smallOf 134 = .ok (.iinc 5 1, 3) by decide +kernel) (by decide +kernel),
  List.forall_mem_cons.mpr ⟨qz_goto C (show decode c_X11_smallOf 137 = .ok (.goto (-131), 3) by decide +kernel) (by decide),
  List.forall_mem_cons.mpr ⟨qz_iload C (show decode c_X11_smallOf 140 = .ok (.iload 4, 2) by decide +kernel),
  List.forall_mem_cons.mpr ⟨qz_iret C (show decode c_X11_smallOf 142 = .ok (.ireturn, 1) by decide +kernel) rfl,
  (fun q h => by cases h)⟩⟩⟩⟩⟩⟩⟩⟩⟩⟩⟩⟩⟩⟩⟩⟩⟩⟩⟩⟩⟩⟩⟩⟩⟩⟩⟩⟩⟩⟩⟩⟩⟩
theorem sd_X11_smallOf {G : pj_E} {A : Nat → Prop} {P : pj_P} {S : pj_U} {Z : pj_Z} (C : pj_C (G, A, (c_X11_smallOf, y_X11_smallOf.cls, 9, (some .int), 2), P, S, Z)) : ∀ q ∈ tb_X11_smallOf, pj_S (G, A, (c_X11_smallOf, y_X11_smallOf.cls, 9, (some .int), 2), P, S, Z) pj_eI q.1 q.2 := List.forall_mem_append.mpr ⟨sd_X11_smallOf_0 C, sd_X11_smallOf_1 C⟩
noncomputable def C_X11_smallOf_95 (f : Int32 → Int32 → Int32 → Int32 → Int32 → Int32 → Int32 → Int32 → pj_M → Option (Int32 × pj_M)) : pj_N (Int32 × pj_M) := fun L st m => match L, st with
  | [some (.inr (.inr (t0, w0, a0))), some (.inl x1), some (.inl x2), some (.inl x3), some (.inl x4), some (.inl x5), some (.inl x6), some (.inl x7), _], [.inl s0] => (match Nat.beq t0 0 && (Nat.beq w0 11 && (Nat.beq a0 72)) with
    | true => f x1 x2 x3 x4 x5 x6 x7 s0 m
    | false => none)
  | _, _ => none
noncomputable def C_X11_smallOf_66 (f : Int32 → Int32 → Int32 → Int32 → Int32 → Int32 → Int32 → pj_M → Option (Int32 × pj_M)) : pj_N (Int32 × pj_M) := fun L st m => match L, st with
  | [some (.inr (.inr (t0, w0, a0))), some (.inl x1), some (.inl x2), some (.inl x3), some (.inl x4), some (.inl x5), some (.inl x6), _, _], [.inl s0] => (match Nat.beq t0 0 && (Nat.beq w0 11 && (Nat.beq a0 72)) with
    | true => f x1 x2 x3 x4 x5 x6 s0 m
    | false => none)
  | _, _ => none
noncomputable def C_X11_smallOf_18 (f : Int32 → Int32 → Int32 → Int32 → Int32 → Int32 → pj_M → Option (Int32 × pj_M)) : pj_N (Int32 × pj_M) := fun L st m => match L, st with
  | [some (.inr (.inr (t0, w0, a0))), some (.inl x1), some (.inl x2), some (.inl x3), some (.inl x4), some (.inl x5), some (.inl x6), _, _], [] => (match Nat.beq t0 0 && (Nat.beq w0 11 && (Nat.beq a0 72)) with
    | true => f x1 x2 x3 x4 x5 x6 m
    | false => none)
  | _, _ => none
noncomputable def C_X11_smallOf_6 (f : Int32 → Int32 → Int32 → Int32 → Int32 → pj_M → Option (Int32 × pj_M)) : pj_N (Int32 × pj_M) := fun L st m => match L, st with
  | [some (.inr (.inr (t0, w0, a0))), some (.inl x1), some (.inl x2), some (.inl x3), some (.inl x4), some (.inl x5), _, _, _], [] => (match Nat.beq t0 0 && (Nat.beq w0 11 && (Nat.beq a0 72)) with
    | true => f x1 x2 x3 x4 x5 m
    | false => none)
  | _, _ => none
set_option maxRecDepth 20000 in
theorem eq_X11_smallOf_95 (k6 : Int32 → Int32 → Int32 → Int32 → Int32 → pj_M → Option (Int32 × pj_M)) (k18 : Int32 → Int32 → Int32 → Int32 → Int32 → Int32 → pj_M → Option (Int32 × pj_M)) (x1 : Int32) (x2 : Int32) (x3 : Int32) (x4 : Int32) (x5 : Int32) (x6 : Int32) (x7 : Int32) (s0 : Int32) (d8 : Option pj_V) (m : pj_M) : pj_run tb_X11_smallOf [(18, C_X11_smallOf_18 k18)] 75 95 [some (.inr (.inr (0, 11, 72))), some (.inl x1), some (.inl x2), some (.inl x3), some (.inl x4), some (.inl x5), some (.inl x6), some (.inl x7), d8] [.inl s0] m = J_X11_smallOf_95 k6 k18 x1 x2 x3 x4 x5 x6 x7 s0 m := by rfl
theorem sg_X11_smallOf_95 {G : pj_E} {A : Nat → Prop} {P : pj_P} {S : pj_U} {Z : pj_Z} (C : pj_C (G, A, (c_X11_smallOf, y_X11_smallOf.cls, 9, (some .int), 2), P, S, Z)) {k6 : Int32 → Int32 → Int32 → Int32 → Int32 → pj_M → Option (Int32 × pj_M)} (hk6 : pj_G (G, A, (c_X11_smallOf, y_X11_smallOf.cls, 9, (some .int), 2), P, S, Z) pj_eI 6 (C_X11_smallOf_6 k6)) {k18 : Int32 → Int32 → Int32 → Int32 → Int32 → Int32 → pj_M → Option (Int32 × pj_M)} (hk18 : pj_G (G, A, (c_X11_smallOf, y_X11_smallOf.cls, 9, (some .int), 2), P, S, Z) pj_eI 18 (C_X11_smallOf_18 k18)) : pj_G (G, A, (c_X11_smallOf, y_X11_smallOf.cls, 9, (some .int), 2), P, S, Z) pj_eI 95 (C_X11_smallOf_95 (J_X11_smallOf_95 k6 k18)) := by
  intro L st m r h hR
  unfold C_X11_smallOf_95 at h
  split at h
  · split at h
    · rename_i hbq
      simp only [Bool.and_eq_true, Nat.beq_eq] at hbq
      obtain ⟨rfl, rfl, rfl⟩ := hbq
      exact pj_run_ok (sd_X11_smallOf C) (List.forall_mem_cons.mpr ⟨hk18, fun q h => by cases h⟩) 75 95 _ _ _ _ ((eq_X11_smallOf_95 _ _ _ _ _ _ _ _ _ _ _ _).trans h) hR
    · cases h
  · cases h
set_option maxRecDepth 20000 in
theorem eq_X11_smallOf_66 (k6 : Int32 → Int32 → Int32 → Int32 → Int32 → pj_M → Option (Int32 × pj_M)) (k18 : Int32 → Int32 → Int32 → Int32 → Int32 → Int32 → pj_M → Option (Int32 × pj_M)) (x1 : Int32) (x2 : Int32) (x3 : Int32) (x4 : Int32) (x5 : Int32) (x6 : Int32) (s0 : Int32) (d7 d8 : Option pj_V) (m : pj_M) : pj_run tb_X11_smallOf [(95, C_X11_smallOf_95 (J_X11_smallOf_95 k6 k18))] 75 66 [some (.inr (.inr (0, 11, 72))), some (.inl x1), some (.inl x2), some (.inl x3), some (.inl x4), some (.inl x5), some (.inl x6), d7, d8] [.inl s0] m = J_X11_smallOf_66 k6 k18 x1 x2 x3 x4 x5 x6 s0 m := by rfl
theorem sg_X11_smallOf_66 {G : pj_E} {A : Nat → Prop} {P : pj_P} {S : pj_U} {Z : pj_Z} (C : pj_C (G, A, (c_X11_smallOf, y_X11_smallOf.cls, 9, (some .int), 2), P, S, Z)) {k6 : Int32 → Int32 → Int32 → Int32 → Int32 → pj_M → Option (Int32 × pj_M)} (hk6 : pj_G (G, A, (c_X11_smallOf, y_X11_smallOf.cls, 9, (some .int), 2), P, S, Z) pj_eI 6 (C_X11_smallOf_6 k6)) {k18 : Int32 → Int32 → Int32 → Int32 → Int32 → Int32 → pj_M → Option (Int32 × pj_M)} (hk18 : pj_G (G, A, (c_X11_smallOf, y_X11_smallOf.cls, 9, (some .int), 2), P, S, Z) pj_eI 18 (C_X11_smallOf_18 k18)) : pj_G (G, A, (c_X11_smallOf, y_X11_smallOf.cls, 9, (some .int), 2), P, S, Z) pj_eI 66 (C_X11_smallOf_66 (J_X11_smallOf_66 k6 k18)) := by
  intro L st m r h hR
  unfold C_X11_smallOf_66 at h
  split at h
  · split at h
    · rename_i hbq
      simp only [Bool.and_eq_true, Nat.beq_eq] at hbq
      obtain ⟨rfl, rfl, rfl⟩ := hbq
      exact pj_run_ok (sd_X11_smallOf C) (List.forall_mem_cons.mpr ⟨sg_X11_smallOf_95 C hk6 hk18, fun q h => by cases h⟩) 75 66 _ _ _ _ ((eq_X11_smallOf_66 _ _ _ _ _ _ _ _ _ _ _ _).trans h) hR
    · cases h
  · cases h
set_option maxRecDepth 20000 in
theorem eq_X11_smallOf_18 (k6 : Int32 → Int32 → Int32 → Int32 → Int32 → pj_M → Option (Int32 × pj_M)) (n1 : Nat) (x1 : Int32) (x2 : Int32) (x3 : Int32) (x4 : Int32) (x5 : Int32) (x6 : Int32) (d7 d8 : Option pj_V) (m : pj_M) : pj_run tb_X11_smallOf [(6, C_X11_smallOf_6 k6), (66, C_X11_smallOf_66 (J_X11_smallOf_66 k6 (H_X11_smallOf_18 k6 n1)))] 75 18 [some (.inr (.inr (0, 11, 72))), some (.inl x1), some (.inl x2), some (.inl x3), some (.inl x4), some (.inl x5), some (.inl x6), d7, d8] [] m = H_X11_smallOf_18 k6 (n1 + 1) x1 x2 x3 x4 x5 x6 m := by rfl
theorem sg_X11_smallOf_18 {G : pj_E} {A : Nat → Prop} {P : pj_P} {S : pj_U} {Z : pj_Z} (C : pj_C (G, A, (c_X11_smallOf, y_X11_smallOf.cls, 9, (some .int), 2), P, S, Z)) {k6 : Int32 → Int32 → Int32 → Int32 → Int32 → pj_M → Option (Int32 × pj_M)} (hk6 : pj_G (G, A, (c_X11_smallOf, y_X11_smallOf.cls, 9, (some .int), 2), P, S, Z) pj_eI 6 (C_X11_smallOf_6 k6)) : ∀ n1, pj_G (G, A, (c_X11_smallOf, y_X11_smallOf.cls, 9, (some .int), 2), P, S, Z) pj_eI 18 (C_X11_smallOf_18 (H_X11_smallOf_18 k6 n1)) := by
  intro n1
  induction n1 with
  | zero =>
    intro L st m r h hR
    unfold C_X11_smallOf_18 at h
    split at h
    · split at h
      · cases h
      · cases h
    · cases h
  | succ n1 ih1 =>
    intro L st m r h hR
    unfold C_X11_smallOf_18 at h
    split at h
    · split at h
      · rename_i hbq
        simp only [Bool.and_eq_true, Nat.beq_eq] at hbq
        obtain ⟨rfl, rfl, rfl⟩ := hbq
        exact pj_run_ok (sd_X11_smallOf C) (List.forall_mem_cons.mpr ⟨hk6, List.forall_mem_cons.mpr ⟨sg_X11_smallOf_66 C hk6 ih1, fun q h => by cases h⟩⟩) 75 18 _ _ _ _ ((eq_X11_smallOf_18 _ _ _ _ _ _ _ _ _ _ _).trans h) hR
      · cases h
    · cases h
set_option maxRecDepth 20000 in
theorem eq_X11_smallOf_6 (n1 : Nat) (x1 : Int32) (x2 : Int32) (x3 : Int32) (x4 : Int32) (x5 : Int32) (d6 d7 d8 : Option pj_V) (m : pj_M) : pj_run tb_X11_smallOf [(18, C_X11_smallOf_18 (H_X11_smallOf_18 (H_X11_smallOf_6 n1) pj_z))] 75 6 [some (.inr (.inr (0, 11, 72))), some (.inl x1), some (.inl x2), some (.inl x3), some (.inl x4), some (.inl x5), d6, d7, d8] [] m = H_X11_smallOf_6 (n1 + 1) x1 x2 x3 x4 x5 m := by rfl
theorem sg_X11_smallOf_6 {G : pj_E} {A : Nat → Prop} {P : pj_P} {S : pj_U} {Z : pj_Z} (C : pj_C (G, A, (c_X11_smallOf, y_X11_smallOf.cls, 9, (some .int), 2), P, S, Z)) : ∀ n1, pj_G (G, A, (c_X11_smallOf, y_X11_smallOf.cls, 9, (some .int), 2), P, S, Z) pj_eI 6 (C_X11_smallOf_6 (H_X11_smallOf_6 n1)) := by
  intro n1
  induction n1 with
  | zero =>
    intro L st m r h hR
    unfold C_X11_smallOf_6 at h
    split at h
    · split at h
      · cases h
      · cases h
    · cases h
  | succ n1 ih1 =>
    intro L st m r h hR
    unfold C_X11_smallOf_6 at h
    split at h
    · split at h
      · rename_i hbq
        simp only [Bool.and_eq_true, Nat.beq_eq] at hbq
        obtain ⟨rfl, rfl, rfl⟩ := hbq
        exact pj_run_ok (sd_X11_smallOf C) (List.forall_mem_cons.mpr ⟨sg_X11_smallOf_18 C ih1 pj_z, fun q h => by cases h⟩) 75 6 _ _ _ _ ((eq_X11_smallOf_6 _ _ _ _ _ _ _ _ _ _).trans h) hR
      · cases h
    · cases h
set_option maxRecDepth 20000 in
theorem eq_X11_smallOf (x1 : Int32) (x2 : Int32) (x3 : Int32) (m : pj_M) : pj_run tb_X11_smallOf [(6, C_X11_smallOf_6 (H_X11_smallOf_6  pj_z))] 75 0 [some (.inr (.inr (0, 11, 72))), some (.inl x1), some (.inl x2), some (.inl x3), none, none, none, none, none] [] m = F_X11_smallOf x1 x2 x3 m := by rfl
theorem ct_X11_smallOf : pj_Ct pj_eI y_X11_smallOf c_X11_smallOf 9 (some .int) 2 W_X11_smallOf := by
  refine pj_ct_of (by decide +kernel) ?_ ?_
  · intro as m r h
    unfold W_X11_smallOf at h
    split at h
    · simp [pj_l0]
    · cases h
  · intro G A P S Z C as m r h hR
    unfold W_X11_smallOf at h
    split at h
    · split at h
      · rename_i hbq
        simp only [Bool.and_eq_true, Nat.beq_eq] at hbq
        obtain ⟨rfl, rfl, rfl⟩ := hbq
        exact pj_run_ok (sd_X11_smallOf C) (List.forall_mem_cons.mpr ⟨sg_X11_smallOf_6 C  pj_z, fun q h => by cases h⟩) 75 0 _ _ _ _ ((eq_X11_smallOf _ _ _ _).trans h) hR
      · cases h
    · cases h
/-! AlikeStepsModel.small(III)I -/
abbrev c_X11_small : ByteArray := prog_13_method_73_code
def y_X11_small : MethodName := ⟨RX11, "small", "(III)I"⟩
noncomputable def F_X11_small (x1 : Int32) (x2 : Int32) (x3 : Int32) (m : pj_M) : Option (Int32 × pj_M) := ((F_X11_in x1 0 2 m).bind fun q1 => (if q1.1 = 0 then (some ((-1000001), q1.2)) else ((F_X11_isLetter x3 q1.2).bind fun q2 => (if q2.1 = 0 then (some ((-1000001), q2.2)) else ((F_X11_isSystem q2.2).bind fun q3 => (if q3.1 = 0 then (some ((-1000001), q3.2)) else ((F_X11_looks 72 78 0 q3.2).bind fun q4 => ((F_X11_partsBy x1 q4).bind fun q5 => ((F_X11_in x2 0 (q5.1 - 1) q5.2).bind fun q6 => (if q6.1 = 0 then (some ((-1000001), q6.2)) else ((F_X11_smallOf x1 x2 x3 q6.2).bind fun q7 => (some (q7.1, q7.2)))))))))))))
noncomputable def W_X11_small : List pj_V → pj_M → Option (Int32 × pj_M) := fun as m => match as with
  | [.inr (.inr (t0, w0, a0)), .inl x1, .inl x2, .inl x3] => (match Nat.beq t0 0 && (Nat.beq w0 11 && (Nat.beq a0 72)) with
    | true => F_X11_small x1 x2 x3 m
    | false => none)
  | _ => none
noncomputable def tb_X11_small_0 : List (Nat × pj_T (Int32 × pj_M)) := [(0, qs_ldi 1 1), (1, qs_ci 0 2), (2, qs_ci 2 3), (3, qs_sI 3 W_X11_in 6), (6, qs_ifeq 23 9), (9, qs_ldi 3 10), (10, qs_sI 1 W_X11_isLetter 13), (13, qs_ifeq 23 16), (16, qs_lda 0 17), (17, qs_vI 11 1 W_X11_isSystem 20), (20, qs_ifne 26 23), (23, qs_ci (-1000001) 25), (25, qs_iret), (26, qs_lda 0 27), (27, qs_lda 0 28), (28, qs_gf 11 13 31), (31, qs_ci 0 32), (32, qs_vV 11 3 W_X11_looks 35), (35, qs_lda 0 36), (36, qs_ldi 1 37), (37, qs_vI 11 2 W_X11_partsBy 40), (40, qs_sti 4 42), (42, qs_ldi 2 43), (43, qs_ci 0 44), (44, qs_ldi 4 46), (46, qs_ci 1 47), (47, qs_b2 (fun x y => x - y) 48), (48, qs_sI 3 W_X11_in 51), (51, qs_ifeq 64 54), (54, qs_lda 0 55), (55, qs_ldi 1 56), (56, qs_ldi 2 57), (57, qs_ldi 3 58), (58, qs_vI 11 4 W_X11_smallOf 61), (61, qs_go 66), (64, qs_ci (-1000001) 66), (66, qs_iret)]
noncomputable abbrev tb_X11_small : List (Nat × pj_T (Int32 × pj_M)) := tb_X11_small_0
theorem mv_X11_small : pj_mv y_X11_small c_X11_small 5 (some .int) 3 := ⟨⟨cw_1396, cw_1394, cw_1395, cw_92⟩, by decide +kernel, by decide⟩
set_option maxRecDepth 20000 in
theorem sd_X11_small_0 {G : pj_E} {A : Nat → Prop} {P : pj_P} {S : pj_U} {Z : pj_Z} (C : pj_C (G, A, (c_X11_small, y_X11_small.cls, 5, (some .int), 6), P, S, Z)) : ∀ q ∈ tb_X11_small_0, pj_S (G, A, (c_X11_small, y_X11_small.cls, 5, (some .int), 6), P, S, Z) pj_eI q.1 q.2 :=
  List.forall_mem_cons.mpr ⟨qz_iload_n C (show decode c_X11_small 0 = .ok (.iload_n 1, 1) by decide +kernel) rfl,
  List.forall_mem_cons.mpr ⟨qz_iconst C (show decode c_X11_small 1 = .ok (.iconst 0, 1) by decide +kernel) (by decide +kernel),
  List.forall_mem_cons.mpr ⟨qz_iconst C (show decode c_X11_small 2 = .ok (.iconst 2, 1) by decide +kernel) (by decide +kernel),
  List.forall_mem_cons.mpr ⟨qz_sI C (show decode c_X11_small 3 = .ok (.invokestatic 84, 3) by decide +kernel) ct_X11_in mv_X11_in (Or.inl cw_1126) (show 1 < 6 by omega),
  List.forall_mem_cons.mpr ⟨qz_ifeq C (show decode c_X11_small 6 = .ok (.ifCond .eq 17, 3) by decide +kernel) (by decide),
  List.forall_mem_cons.mpr ⟨qz_iload_n C (show decode c_X11_small 9 = .ok (.iload_n 3, 1) by decide +kernel) rfl,
  List.forall_mem_cons.mpr ⟨qz_sI C (show decode c_X11_small 10 = .ok (.invokestatic 222, 3) by decide +kernel) ct_X11_isLetter mv_X11_isLetter (Or.inl cw_1221) (show 2 < 6 by omega),
  List.forall_mem_cons.mpr ⟨qz_ifeq C (show decode c_X11_small 13 = .ok (.ifCond .eq 10, 3) by decide +kernel) (by decide),
  List.forall_mem_cons.mpr ⟨qz_aload_n C (show decode c_X11_small 16 = .ok (.aload_n 0, 1) by decide +kernel) rfl,
  List.forall_mem_cons.mpr ⟨qz_vI C (show decode c_X11_small 17 = .ok (.invokevirtual 245, 3) by decide +kernel) ct_X11_isSystem mv_X11_isSystem cw_1333 vcX11 (show 1 < 6 by omega),
  List.forall_mem_cons.mpr ⟨qz_ifne C (show decode c_X11_small 20 = .ok (.ifCond .ne 6, 3) by decide +kernel) (by decide),
  List.forall_mem_cons.mpr ⟨qz_ldc C (show decode c_X11_small 23 = .ok (.ldc 92, 2) by decide +kernel) cw_1129,
  List.forall_mem_cons.mpr ⟨qz_iret C (show decode c_X11_small 25 = .ok (.ireturn, 1) by decide +kernel) rfl,
  List.forall_mem_cons.mpr ⟨qz_aload_n C (show decode c_X11_small 26 = .ok (.aload_n 0, 1) by decide +kernel) rfl,
  List.forall_mem_cons.mpr ⟨qz_aload_n C (show decode c_X11_small 27 = .ok (.aload_n 0, 1) by decide +kernel) rfl,
  List.forall_mem_cons.mpr ⟨qz_gf (k := 13) C (show decode c_X11_small 28 = .ok (.getfield 25, 3) by decide +kernel) vcX11 wiX11 (by decide) cw_1031,
  List.forall_mem_cons.mpr ⟨qz_iconst C (show decode c_X11_small 31 = .ok (.iconst 0, 1) by decide +kernel) (by decide +kernel),
  List.forall_mem_cons.mpr ⟨qz_vV C (show decode c_X11_small 32 = .ok (.invokevirtual 235, 3) by decide +kernel) ct_X11_looks mv_X11_looks cw_1261 vcX11 (show 4 < 6 by omega),
  List.forall_mem_cons.mpr ⟨qz_aload_n C (show decode c_X11_small 35 = .ok (.aload_n 0, 1) by decide +kernel) rfl,
  List.forall_mem_cons.mpr ⟨qz_iload_n C (show decode c_X11_small 36 = .ok (.iload_n 1, 1) by decide +kernel) rfl,
  List.forall_mem_cons.mpr ⟨qz_vI C (show decode c_X11_small 37 = .ok (.invokevirtual 239, 3) by decide +kernel) ct_X11_partsBy mv_X11_partsBy cw_1300 vcX11 (show 5 < 6 by omega),
  List.forall_mem_cons.mpr ⟨qz_istore C (show decode c_X11_small 40 = .ok (.istore 4, 2) by decide +kernel),
  List.forall_mem_cons.mpr ⟨qz_iload_n C (show decode c_X11_small 42 = .ok (.iload_n 2, 1) by decide +kernel) rfl,
  List.forall_mem_cons.mpr ⟨qz_iconst C (show decode c_X11_small 43 = .ok (.iconst 0, 1) by decide +kernel) (by decide +kernel),
  List.forall_mem_cons.mpr ⟨qz_iload C (show decode c_X11_small 44 = .ok (.iload 4, 2) by decide +kernel),
  List.forall_mem_cons.mpr ⟨qz_iconst C (show decode c_X11_small 46 = .ok (.iconst 1, 1) by decide +kernel) (by decide +kernel),
  List.forall_mem_cons.mpr ⟨qz_isub C (show decode c_X11_small 47 = .ok (.isub, 1) by decide +kernel),
  List.forall_mem_cons.mpr ⟨qz_sI C (show decode c_X11_small 48 = .ok (.invokestatic 84, 3) by decide +kernel) ct_X11_in mv_X11_in (Or.inl cw_1126) (show 1 < 6 by omega),
  List.forall_mem_cons.mpr ⟨qz_ifeq C (show decode c_X11_small 51 = .ok (.ifCond .eq 13, 3) by decide +kernel) (by decide),
  List.forall_mem_cons.mpr ⟨qz_aload_n C (show decode c_X11_small 54 = .ok (.aload_n 0, 1) by decide +kernel) rfl,
  List.forall_mem_cons.mpr ⟨qz_iload_n C (show decode c_X11_small 55 = .ok (.iload_n 1, 1) by decide +kernel) rfl,
  List.forall_mem_cons.mpr ⟨qz_iload_n C (show decode c_X11_small 56 = .ok (.iload_n 2, 1) by decide +kernel) rfl,
  List.forall_mem_cons.mpr ⟨qz_iload_n C (show decode c_X11_small 57 = .ok (.iload_n 3, 1) by decide +kernel) rfl,
  List.forall_mem_cons.mpr ⟨qz_vI C (show decode c_X11_small 58 = .ok (.invokevirtual 277, 3) by decide +kernel) ct_X11_smallOf mv_X11_smallOf cw_1397 vcX11 (show 2 < 6 by omega),
  List.forall_mem_cons.mpr ⟨qz_goto C (show decode c_X11_small 61 = .ok (.goto 5, 3) by decide +kernel) (by decide),
  List.forall_mem_cons.mpr ⟨qz_ldc C (show decode c_X11_small 64 = .ok (.ldc 92, 2) by decide +kernel) cw_1129,
  List.forall_mem_cons.mpr ⟨qz_iret C (show decode c_X11_small 66 = .ok (.ireturn, 1) by decide +kernel) rfl,
  (fun q h => by cases h)⟩⟩⟩⟩⟩⟩⟩⟩⟩⟩⟩⟩⟩⟩⟩⟩⟩⟩⟩⟩⟩⟩⟩⟩⟩⟩⟩⟩⟩⟩⟩⟩⟩⟩⟩⟩⟩
theorem sd_X11_small {G : pj_E} {A : Nat → Prop} {P : pj_P} {S : pj_U} {Z : pj_Z} (C : pj_C (G, A, (c_X11_small, y_X11_small.cls, 5, (some .int), 6), P, S, Z)) : ∀ q ∈ tb_X11_small, pj_S (G, A, (c_X11_small, y_X11_small.cls, 5, (some .int), 6), P, S, Z) pj_eI q.1 q.2 := sd_X11_small_0 C
set_option maxRecDepth 20000 in
theorem eq_X11_small (x1 : Int32) (x2 : Int32) (x3 : Int32) (m : pj_M) : pj_run tb_X11_small [] 39 0 [some (.inr (.inr (0, 11, 72))), some (.inl x1), some (.inl x2), some (.inl x3), none] [] m = F_X11_small x1 x2 x3 m := by rfl
theorem ct_X11_small : pj_Ct pj_eI y_X11_small c_X11_small 5 (some .int) 6 W_X11_small := by
  refine pj_ct_of (by decide +kernel) ?_ ?_
  · intro as m r h
    unfold W_X11_small at h
    split at h
    · simp [pj_l0]
    · cases h
  · intro G A P S Z C as m r h hR
    unfold W_X11_small at h
    split at h
    · split at h
      · rename_i hbq
        simp only [Bool.and_eq_true, Nat.beq_eq] at hbq
        obtain ⟨rfl, rfl, rfl⟩ := hbq
        exact pj_run_ok (sd_X11_small C) (fun q h => by cases h) 39 0 _ _ _ _ ((eq_X11_small _ _ _ _).trans h) hR
      · cases h
    · cases h
/-! AlikeStepsModel.arcs(I)I -/
abbrev c_X11_arcs : ByteArray := prog_13_method_74_code
def y_X11_arcs : MethodName := ⟨RX11, "arcs", "(I)I"⟩
noncomputable def H_X11_arcs_51 (k42 : Int32 → Int32 → Int32 → Int32 → pj_M → Option (Int32 × pj_M)) : Nat → Int32 → Int32 → Int32 → Int32 → Int32 → pj_M → Option (Int32 × pj_M)
  | 0, _, _, _, _, _, _ => none
  | n1 + 1, x1, x2, x3, x4, x5, m => (if x5 < 4 then ((F_X11_smallOf x1 x4 x5 m).bind fun q1 => ((F_X11_sizeOf q1.1 q1.2).bind fun q2 => (H_X11_arcs_51 k42 n1 x1 x2 (x3 + q2.1) x4 (x5 + 1) q2.2))) else (k42 x1 x2 x3 (x4 + 1) m))
noncomputable def H_X11_arcs_42 : Nat → Int32 → Int32 → Int32 → Int32 → pj_M → Option (Int32 × pj_M)
  | 0, _, _, _, _, _ => none
  | n1 + 1, x1, x2, x3, x4, m => (if x4 < x2 then (H_X11_arcs_51 (H_X11_arcs_42 n1) pj_z x1 x2 x3 x4 0 m) else (some (x3, m)))
noncomputable def F_X11_arcs (x1 : Int32) (m : pj_M) : Option (Int32 × pj_M) := ((F_X11_isSystem m).bind fun q1 => (if q1.1 = 0 then (some ((-1000002), q1.2)) else ((F_X11_in x1 0 2 q1.2).bind fun q2 => (if q2.1 = 0 then (some ((-1000001), q2.2)) else ((F_X11_looks 72 78 0 q2.2).bind fun q3 => ((F_X11_partsBy x1 q3).bind fun q4 => (H_X11_arcs_42 pj_z x1 q4.1 0 0 q4.2)))))))
noncomputable def W_X11_arcs : List pj_V → pj_M → Option (Int32 × pj_M) := fun as m => match as with
  | [.inr (.inr (t0, w0, a0)), .inl x1] => (match Nat.beq t0 0 && (Nat.beq w0 11 && (Nat.beq a0 72)) with
    | true => F_X11_arcs x1 m
    | false => none)
  | _ => none
noncomputable def tb_X11_arcs_0 : List (Nat × pj_T (Int32 × pj_M)) := [(0, qs_lda 0 1), (1, qs_vI 11 1 W_X11_isSystem 4), (4, qs_ifne 10 7), (7, qs_ci (-1000002) 9), (9, qs_iret), (10, qs_ldi 1 11), (11, qs_ci 0 12), (12, qs_ci 2 13), (13, qs_sI 3 W_X11_in 16), (16, qs_ifne 22 19), (19, qs_ci (-1000001) 21), (21, qs_iret), (22, qs_lda 0 23), (23, qs_lda 0 24), (24, qs_gf 11 13 27), (27, qs_ci 0 28), (28, qs_vV 11 3 W_X11_looks 31), (31, qs_lda 0 32), (32, qs_ldi 1 33), (33, qs_vI 11 2 W_X11_partsBy 36), (36, qs_sti 2 37), (37, qs_ci 0 38), (38, qs_sti 3 39), (39, qs_ci 0 40), (40, qs_sti 4 42), (42, qs_ldi 4 44), (44, qs_ldi 2 45), (45, qs_icge 84 48), (48, qs_ci 0 49), (49, qs_sti 5 51), (51, qs_ldi 5 53), (53, qs_ci 4 54), (54, qs_icge 78 57), (57, qs_ldi 3 58), (58, qs_lda 0 59), (59, qs_ldi 1 60), (60, qs_ldi 4 62), (62, qs_ldi 5 64), (64, qs_vI 11 4 W_X11_smallOf 67), (67, qs_sI 1 W_X11_sizeOf 70)]
noncomputable def tb_X11_arcs_1 : List (Nat × pj_T (Int32 × pj_M)) := [(70, qs_b2 (fun x y => x + y) 71), (71, qs_sti 3 72), (72, qs_inc 5 1 75), (75, qs_go 51), (78, qs_inc 4 1 81), (81, qs_go 42), (84, qs_ldi 3 85), (85, qs_iret)]
noncomputable def tb_X11_arcs : List (Nat × pj_T (Int32 × pj_M)) := tb_X11_arcs_0 ++ (tb_X11_arcs_1)
theorem mv_X11_arcs : pj_mv y_X11_arcs c_X11_arcs 6 (some .int) 1 := ⟨⟨cw_1404, cw_1402, cw_1403, cw_92⟩, by decide +kernel, by decide⟩
set_option maxRecDepth 20000 in
theorem sd_X11_arcs_0 {G : pj_E} {A : Nat → Prop} {P : pj_P} {S : pj_U} {Z : pj_Z} (C : pj_C (G, A, (c_X11_arcs, y_X11_arcs.cls, 6, (some .int), 6), P, S, Z)) : ∀ q ∈ tb_X11_arcs_0, pj_S (G, A, (c_X11_arcs, y_X11_arcs.cls, 6, (some .int), 6), P, S, Z) pj_eI q.1 q.2 :=
  List.forall_mem_cons.mpr ⟨qz_aload_n C (show decode c_X11_arcs 0 = .ok (.aload_n 0, 1) by decide +kernel) rfl,
  List.forall_mem_cons.mpr ⟨qz_vI C (show decode c_X11_arcs 1 = .ok (.invokevirtual 245, 3) by decide +kernel) ct_X11_isSystem mv_X11_isSystem cw_1333 vcX11 (show 1 < 6 by omega),
  List.forall_mem_cons.mpr ⟨qz_ifne C (show decode c_X11_arcs 4 = .ok (.ifCond .ne 6, 3) by decide +kernel) (by decide),
  List.forall_mem_cons.mpr ⟨qz_ldc C (show decode c_X11_arcs 7 = .ok (.ldc 234, 2) by decide +kernel) cw_1248,
  List.forall_mem_cons.mpr ⟨qz_iret C (show decode c_X11_arcs 9 = .ok (.ireturn, 1) by decide +kernel) rfl,
  List.forall_mem_cons.mpr ⟨qz_iload_n C (show decode c_X11_arcs 10 = .ok (.iload_n 1, 1) by decide +kernel) rfl,
  List.forall_mem_cons.mpr ⟨qz_iconst C (show decode c_X11_arcs 11 = .ok (.iconst 0, 1) by decide +kernel) (by decide +kernel),
  List.forall_mem_cons.mpr ⟨qz_iconst C (show decode c_X11_arcs 12 = .ok (.iconst 2, 1) by decide +kernel) (by decide +kernel),
  List.forall_mem_cons.mpr ⟨qz_sI C (show decode c_X11_arcs 13 = .ok (.invokestatic 84, 3) by decide +kernel) ct_X11_in mv_X11_in (Or.inl cw_1126) (show 1 < 6 by omega),
  List.forall_mem_cons.mpr ⟨qz_ifne C (show decode c_X11_arcs 16 = .ok (.ifCond .ne 6, 3) by decide +kernel) (by decide),
  List.forall_mem_cons.mpr ⟨qz_ldc C (show decode c_X11_arcs 19 = .ok (.ldc 92, 2) by decide +kernel) cw_1129,
  List.forall_mem_cons.mpr ⟨qz_iret C (show decode c_X11_arcs 21 = .ok (.ireturn, 1) by decide +kernel) rfl,
  List.forall_mem_cons.mpr ⟨qz_aload_n C (show decode c_X11_arcs 22 = .ok (.aload_n 0, 1) by decide +kernel) rfl,
  List.forall_mem_cons.mpr ⟨qz_aload_n C (show decode c_X11_arcs 23 = .ok (.aload_n 0, 1) by decide +kernel) rfl,
  List.forall_mem_cons.mpr ⟨qz_gf (k := 13) C (show decode c_X11_arcs 24 = .ok (.getfield 25, 3) by decide +kernel) vcX11 wiX11 (by decide) cw_1031,
  List.forall_mem_cons.mpr ⟨qz_iconst C (show decode c_X11_arcs 27 = .ok (.iconst 0, 1) by decide +kernel) (by decide +kernel),
  List.forall_mem_cons.mpr ⟨qz_vV C (show decode c_X11_arcs 28 = .ok (.invokevirtual 235, 3) by decide +kernel) ct_X11_looks mv_X11_looks cw_1261 vcX11 (show 4 < 6 by omega),
  List.forall_mem_cons.mpr ⟨qz_aload_n C (show decode c_X11_arcs 31 = .ok (.aload_n 0, 1) by decide +kernel) rfl,
  List.forall_mem_cons.mpr ⟨qz_iload_n C (show decode c_X11_arcs 32 = .ok (.iload_n 1, 1) by decide +kernel) rfl,
  List.forall_mem_cons.mpr ⟨qz_vI C (show decode c_X11_arcs 33 = .ok (.invokevirtual 239, 3) by decide +kernel) ct_X11_partsBy mv_X11_partsBy cw_1300 vcX11 (show 5 < 6 by omega),
  List.forall_mem_cons.mpr ⟨qz_istore_n C (show decode c_X11_arcs 36 = .ok (.istore_n 2, 1) by decide +kernel) rfl,
  List.forall_mem_cons.mpr ⟨qz_iconst C (show decode c_X11_arcs 37 = .ok (.iconst 0, 1) by decide +kernel) (by decide +kernel),
  List.forall_mem_cons.mpr ⟨qz_istore_n C (show decode c_X11_arcs 38 = .ok (.istore_n 3, 1) by decide +kernel) rfl,
  List.forall_mem_cons.mpr ⟨qz_iconst C (show decode c_X11_arcs 39 = .ok (.iconst 0, 1) by decide +kernel) (by decide +kernel),
  List.forall_mem_cons.mpr ⟨qz_istore C (show decode c_X11_arcs 40 = .ok (.istore 4, 2) by decide +kernel),
  List.forall_mem_cons.mpr ⟨qz_iload C (show decode c_X11_arcs 42 = .ok (.iload 4, 2) by decide +kernel),
  List.forall_mem_cons.mpr ⟨qz_iload_n C (show decode c_X11_arcs 44 = .ok (.iload_n 2, 1) by decide +kernel) rfl,
  List.forall_mem_cons.mpr ⟨qz_icge C (show decode c_X11_arcs 45 = .ok (.if_icmp .ge 39, 3) by decide +kernel) (by decide),
  List.forall_mem_cons.mpr ⟨qz_iconst C (show decode c_X11_arcs 48 = .ok (.iconst 0, 1) by decide +kernel) (by decide +kernel),
  List.forall_mem_cons.mpr ⟨qz_istore C (show decode c_X11_arcs 49 = .ok (.istore 5, 2) by decide +kernel),
  List.forall_mem_cons.mpr ⟨qz_iload C (show decode c_X11_arcs 51 = .ok (.iload 5, 2) by decide +kernel),
  List.forall_mem_cons.mpr ⟨qz_iconst C (show decode c_X11_arcs 53 = .ok (.iconst 4, 1) by decide +kernel) (by decide +kernel),
  List.forall_mem_cons.mpr ⟨qz_icge C (show decode c_X11_arcs 54 = .ok (.if_icmp .ge 24, 3) by decide +kernel) (by decide),
  List.forall_mem_cons.mpr ⟨qz_iload_n C (show decode c_X11_arcs 57 = .ok (.iload_n 3, 1) by decide +kernel) rfl,
  List.forall_mem_cons.mpr ⟨qz_aload_n C (show decode c_X11_arcs 58 = .ok (.aload_n 0, 1) by decide +kernel) rfl,
  List.forall_mem_cons.mpr ⟨qz_iload_n C (show decode c_X11_arcs 59 = .ok (.iload_n 1, 1) by decide +kernel) rfl,
  List.forall_mem_cons.mpr ⟨qz_iload C (show decode c_X11_arcs 60 = .ok (.iload 4, 2) by decide +kernel),
  List.forall_mem_cons.mpr ⟨qz_iload C (show decode c_X11_arcs 62 = .ok (.iload 5, 2) by decide +kernel),
  List.forall_mem_cons.mpr ⟨qz_vI C (show decode c_X11_arcs 64 = .ok (.invokevirtual 277, 3) by decide +kernel) ct_X11_smallOf mv_X11_smallOf cw_1397 vcX11 (show 2 < 6 by omega),
  List.forall_mem_cons.mpr ⟨qz_sI C (show decode c_X11_arcs 67 = .ok (.invokestatic 260, 3) by decide +kernel) ct_X11_sizeOf mv_X11_sizeOf (Or.inl cw_1378) (show 1 < 6 by omega),
  (fun q h => by cases h)⟩⟩⟩⟩⟩⟩⟩⟩⟩⟩⟩⟩⟩⟩⟩⟩⟩⟩⟩⟩⟩⟩⟩⟩⟩⟩⟩⟩⟩⟩⟩⟩⟩⟩⟩⟩⟩⟩⟩⟩
set_option maxRecDepth 20000 in
theorem sd_X11_arcs_1 {G : pj_E} {A : Nat → Prop} {P : pj_P} {S : pj_U} {Z : pj_Z} (C : pj_C (G, A, (c_X11_arcs, y_X11_arcs.cls, 6, (some .int), 6), P, S, Z)) : ∀ q ∈ tb_X11_arcs_1, pj_S (G, A, (c_X11_arcs, y_X11_arcs.cls, 6, (some .int), 6), P, S, Z) pj_eI q.1 q.2 :=
  List.forall_mem_cons.mpr ⟨qz_iadd C (show decode c_X11_arcs 70 = .ok (.iadd, 1) by decide +kernel),
  List.forall_mem_cons.mpr ⟨qz_istore_n C (show decode c_X11_arcs 71 = .ok (.istore_n 3, 1) by decide +kernel) rfl,
  List.forall_mem_cons.mpr ⟨qz_iinc C (show decode c_X11_arcs 72 = .ok (.iinc 5 1, 3) by decide +kernel) (by decide +kernel),
  List.forall_mem_cons.mpr ⟨qz_goto C (show decode c_X11_arcs 75 = .ok (.goto (-24), 3) by decide +kernel) (by decide),
  List.forall_mem_cons.mpr ⟨qz_iinc C (show decode c_X11_arcs 78 = .ok (.iinc 4 1, 3) by decide +kernel) (by decide +kernel),
  List.forall_mem_cons.mpr ⟨qz_goto C (show decode c_X11_arcs 81 = .ok (.goto (-39), 3) by decide +kernel) (by decide),
  List.forall_mem_cons.mpr ⟨qz_iload_n C (show decode c_X11_arcs 84 = .ok (.iload_n 3, 1) by decide +kernel) rfl,
  List.forall_mem_cons.mpr ⟨qz_iret C (show decode c_X11_arcs 85 = .ok (.ireturn, 1) by decide +kernel) rfl,
  (fun q h => by cases h)⟩⟩⟩⟩⟩⟩⟩⟩
theorem sd_X11_arcs {G : pj_E} {A : Nat → Prop} {P : pj_P} {S : pj_U} {Z : pj_Z} (C : pj_C (G, A, (c_X11_arcs, y_X11_arcs.cls, 6, (some .int), 6), P, S, Z)) : ∀ q ∈ tb_X11_arcs, pj_S (G, A, (c_X11_arcs, y_X11_arcs.cls, 6, (some .int), 6), P, S, Z) pj_eI q.1 q.2 := List.forall_mem_append.mpr ⟨sd_X11_arcs_0 C, sd_X11_arcs_1 C⟩
noncomputable def C_X11_arcs_51 (f : Int32 → Int32 → Int32 → Int32 → Int32 → pj_M → Option (Int32 × pj_M)) : pj_N (Int32 × pj_M) := fun L st m => match L, st with
  | [some (.inr (.inr (t0, w0, a0))), some (.inl x1), some (.inl x2), some (.inl x3), some (.inl x4), some (.inl x5)], [] => (match Nat.beq t0 0 && (Nat.beq w0 11 && (Nat.beq a0 72)) with
    | true => f x1 x2 x3 x4 x5 m
    | false => none)
  | _, _ => none
noncomputable def C_X11_arcs_42 (f : Int32 → Int32 → Int32 → Int32 → pj_M → Option (Int32 × pj_M)) : pj_N (Int32 × pj_M) := fun L st m => match L, st with
  | [some (.inr (.inr (t0, w0, a0))), some (.inl x1), some (.inl x2), some (.inl x3), some (.inl x4), _], [] => (match Nat.beq t0 0 && (Nat.beq w0 11 && (Nat.beq a0 72)) with
    | true => f x1 x2 x3 x4 m
    | false => none)
  | _, _ => none
set_option maxRecDepth 20000 in
theorem eq_X11_arcs_51 (k42 : Int32 → Int32 → Int32 → Int32 → pj_M → Option (Int32 × pj_M)) (n1 : Nat) (x1 : Int32) (x2 : Int32) (x3 : Int32) (x4 : Int32) (x5 : Int32) (m : pj_M) : pj_run tb_X11_arcs [(42, C_X11_arcs_42 k42), (51, C_X11_arcs_51 (H_X11_arcs_51 k42 n1))] 50 51 [some (.inr (.inr (0, 11, 72))), some (.inl x1), some (.inl x2), some (.inl x3), some (.inl x4), some (.inl x5)] [] m = H_X11_arcs_51 k42 (n1 + 1) x1 x2 x3 x4 x5 m := by rfl
theorem sg_X11_arcs_51 {G : pj_E} {A : Nat → Prop} {P : pj_P} {S : pj_U} {Z : pj_Z} (C : pj_C (G, A, (c_X11_arcs, y_X11_arcs.cls, 6, (some .int), 6), P, S, Z)) {k42 : Int32 → Int32 → Int32 → Int32 → pj_M → Option (Int32 × pj_M)} (hk42 : pj_G (G, A, (c_X11_arcs, y_X11_arcs.cls, 6, (some .int), 6), P, S, Z) pj_eI 42 (C_X11_arcs_42 k42)) : ∀ n1, pj_G (G, A, (c_X11_arcs, y_X11_arcs.cls, 6, (some .int), 6), P, S, Z) pj_eI 51 (C_X11_arcs_51 (H_X11_arcs_51 k42 n1)) := by
  intro n1
  induction n1 with
  | zero =>
    intro L st m r h hR
    unfold C_X11_arcs_51 at h
    split at h
    · split at h
      · cases h
      · cases h
    · cases h
  | succ n1 ih1 =>
    intro L st m r h hR
    unfold C_X11_arcs_51 at h
    split at h
    · split at h
      · rename_i hbq
        simp only [Bool.and_eq_true, Nat.beq_eq] at hbq
        obtain ⟨rfl, rfl, rfl⟩ := hbq
        exact pj_run_ok (sd_X11_arcs C) (List.forall_mem_cons.mpr ⟨hk42, List.forall_mem_cons.mpr ⟨ih1, fun q h => by cases h⟩⟩) 50 51 _ _ _ _ ((eq_X11_arcs_51 _ _ _ _ _ _ _ _).trans h) hR
      · cases h
    · cases h
set_option maxRecDepth 20000 in
theorem eq_X11_arcs_42 (n1 : Nat) (x1 : Int32) (x2 : Int32) (x3 : Int32) (x4 : Int32) (d5 : Option pj_V) (m : pj_M) : pj_run tb_X11_arcs [(51, C_X11_arcs_51 (H_X11_arcs_51 (H_X11_arcs_42 n1) pj_z))] 50 42 [some (.inr (.inr (0, 11, 72))), some (.inl x1), some (.inl x2), some (.inl x3), some (.inl x4), d5] [] m = H_X11_arcs_42 (n1 + 1) x1 x2 x3 x4 m := by rfl
theorem sg_X11_arcs_42 {G : pj_E} {A : Nat → Prop} {P : pj_P} {S : pj_U} {Z : pj_Z} (C : pj_C (G, A, (c_X11_arcs, y_X11_arcs.cls, 6, (some .int), 6), P, S, Z)) : ∀ n1, pj_G (G, A, (c_X11_arcs, y_X11_arcs.cls, 6, (some .int), 6), P, S, Z) pj_eI 42 (C_X11_arcs_42 (H_X11_arcs_42 n1)) := by
  intro n1
  induction n1 with
  | zero =>
    intro L st m r h hR
    unfold C_X11_arcs_42 at h
    split at h
    · split at h
      · cases h
      · cases h
    · cases h
  | succ n1 ih1 =>
    intro L st m r h hR
    unfold C_X11_arcs_42 at h
    split at h
    · split at h
      · rename_i hbq
        simp only [Bool.and_eq_true, Nat.beq_eq] at hbq
        obtain ⟨rfl, rfl, rfl⟩ := hbq
        exact pj_run_ok (sd_X11_arcs C) (List.forall_mem_cons.mpr ⟨sg_X11_arcs_51 C ih1 pj_z, fun q h => by cases h⟩) 50 42 _ _ _ _ ((eq_X11_arcs_42 _ _ _ _ _ _ _).trans h) hR
      · cases h
    · cases h
set_option maxRecDepth 20000 in
theorem eq_X11_arcs (x1 : Int32) (m : pj_M) : pj_run tb_X11_arcs [(42, C_X11_arcs_42 (H_X11_arcs_42  pj_z))] 50 0 [some (.inr (.inr (0, 11, 72))), some (.inl x1), none, none, none, none] [] m = F_X11_arcs x1 m := by rfl
theorem ct_X11_arcs : pj_Ct pj_eI y_X11_arcs c_X11_arcs 6 (some .int) 6 W_X11_arcs := by
  refine pj_ct_of (by decide +kernel) ?_ ?_
  · intro as m r h
    unfold W_X11_arcs at h
    split at h
    · simp [pj_l0]
    · cases h
  · intro G A P S Z C as m r h hR
    unfold W_X11_arcs at h
    split at h
    · split at h
      · rename_i hbq
        simp only [Bool.and_eq_true, Nat.beq_eq] at hbq
        obtain ⟨rfl, rfl, rfl⟩ := hbq
        exact pj_run_ok (sd_X11_arcs C) (List.forall_mem_cons.mpr ⟨sg_X11_arcs_42 C  pj_z, fun q h => by cases h⟩) 50 0 _ _ _ _ ((eq_X11_arcs _ _).trans h) hR
      · cases h
    · cases h
/-! AlikeStepsModel.words(II)I -/
abbrev c_X11_words : ByteArray := prog_13_method_75_code
def y_X11_words : MethodName := ⟨RX11, "words", "(II)I"⟩
noncomputable def J_X11_words_111 (k57 : Int32 → Int32 → Int32 → Int32 → Int32 → pj_M → Option (Int32 × pj_M)) (x1 : Int32) (x2 : Int32) (x3 : Int32) (x4 : Int32) (x5 : Int32) (x6 : Int32) (m : pj_M) : Option (Int32 × pj_M) := (if x6 = 0 then (k57 x1 x2 x3 (x4 + 0) (x5 + 1) m) else (k57 x1 x2 x3 (x4 + 1) (x5 + 1) m))
noncomputable def H_X11_words_75 (k57 : Int32 → Int32 → Int32 → Int32 → Int32 → pj_M → Option (Int32 × pj_M)) : Nat → Int32 → Int32 → Int32 → Int32 → Int32 → Int32 → Int32 → Int32 → pj_M → Option (Int32 × pj_M)
  | 0, _, _, _, _, _, _, _, _, _ => none
  | n1 + 1, x1, x2, x3, x4, x5, x6, x7, x8, m => (if x8 < x2 then ((F_X11_close x6 m).bind fun q1 => (if (3 : Int32) = 0 then none else ((F_X11_to q1.1 ((x7 - x7 / 3 * 3) + 1) q1.2).bind fun q2 => (if (3 : Int32) = 0 then none else (H_X11_words_75 k57 n1 x1 x2 x3 x4 x5 q2.1 (x7 / 3) (x8 + 1) q2.2))))) else (J_X11_words_111 k57 x1 x2 x3 x4 x5 x6 m))
noncomputable def H_X11_words_57 : Nat → Int32 → Int32 → Int32 → Int32 → Int32 → pj_M → Option (Int32 × pj_M)
  | 0, _, _, _, _, _, _ => none
  | n1 + 1, x1, x2, x3, x4, x5, m => (if x5 < x3 then (H_X11_words_75 (H_X11_words_57 n1) pj_z x1 x2 x3 x4 x5 (1 <<< (x1 &&& 31)) x5 0 m) else (some (x4, m)))
noncomputable def J_X11_words_51 (x1 : Int32) (x2 : Int32) (x3 : Int32) (m : pj_M) : Option (Int32 × pj_M) := (H_X11_words_57 pj_z x1 x2 x3 0 0 m)
noncomputable def H_X11_words_35 : Nat → Int32 → Int32 → Int32 → Int32 → pj_M → Option (Int32 × pj_M)
  | 0, _, _, _, _, _ => none
  | n1 + 1, x1, x2, x3, x4, m => (if x4 < x2 then (H_X11_words_35 n1 x1 x2 (x3 * 3) (x4 + 1) m) else (J_X11_words_51 x1 x2 x3 m))
noncomputable def F_X11_words (x1 : Int32) (x2 : Int32) (m : pj_M) : Option (Int32 × pj_M) := ((F_X11_isState x1 m).bind fun q1 => (if q1.1 = 0 then (some ((-1000001), q1.2)) else ((F_X11_in x2 0 6 q1.2).bind fun q2 => (if q2.1 = 0 then (some ((-1000001), q2.2)) else ((F_X11_looks 72 78 0 q2.2).bind fun q3 => (H_X11_words_35 pj_z x1 x2 1 0 q3))))))
noncomputable def W_X11_words : List pj_V → pj_M → Option (Int32 × pj_M) := fun as m => match as with
  | [.inr (.inr (t0, w0, a0)), .inl x1, .inl x2] => (match Nat.beq t0 0 && (Nat.beq w0 11 && (Nat.beq a0 72)) with
    | true => F_X11_words x1 x2 m
    | false => none)
  | _ => none
noncomputable def tb_X11_words_0 : List (Nat × pj_T (Int32 × pj_M)) := [(0, qs_lda 0 1), (1, qs_ldi 1 2), (2, qs_vI 11 2 W_X11_isState 5), (5, qs_ifeq 18 8), (8, qs_ldi 2 9), (9, qs_ci 0 10), (10, qs_ci 6 12), (12, qs_sI 3 W_X11_in 15), (15, qs_ifne 21 18), (18, qs_ci (-1000001) 20), (20, qs_iret), (21, qs_lda 0 22), (22, qs_lda 0 23), (23, qs_gf 11 13 26), (26, qs_ci 0 27), (27, qs_vV 11 3 W_X11_looks 30), (30, qs_ci 1 31), (31, qs_sti 3 32), (32, qs_ci 0 33), (33, qs_sti 4 35), (35, qs_ldi 4 37), (37, qs_ldi 2 38), (38, qs_icge 51 41), (41, qs_ldi 3 42), (42, qs_ci 3 43), (43, qs_b2 (fun x y => x * y) 44), (44, qs_sti 3 45), (45, qs_inc 4 1 48), (48, qs_go 35), (51, qs_ci 0 52), (52, qs_sti 4 54), (54, qs_ci 0 55), (55, qs_sti 5 57), (57, qs_ldi 5 59), (59, qs_ldi 3 60), (60, qs_icge 132 63), (63, qs_ci 1 64), (64, qs_ldi 1 65), (65, qs_b2 (fun x y => x <<< (y &&& 31)) 66), (66, qs_sti 6 68)]
noncomputable def tb_X11_words_1 : List (Nat × pj_T (Int32 × pj_M)) := [(68, qs_ldi 5 70), (70, qs_sti 7 72), (72, qs_ci 0 73), (73, qs_sti 8 75), (75, qs_ldi 8 77), (77, qs_ldi 2 78), (78, qs_icge 111 81), (81, qs_lda 0 82), (82, qs_lda 0 83), (83, qs_ldi 6 85), (85, qs_vI 11 2 W_X11_close 88), (88, qs_ldi 7 90), (90, qs_ci 3 91), (91, qs_d2 (fun x y => x - x / y * y) 92), (92, qs_ci 1 93), (93, qs_b2 (fun x y => x + y) 94), (94, qs_vI 11 3 W_X11_to 97), (97, qs_sti 6 99), (99, qs_ldi 7 101), (101, qs_ci 3 102), (102, qs_d2 (fun x y => x / y) 103), (103, qs_sti 7 105), (105, qs_inc 8 1 108), (108, qs_go 75), (111, qs_ldi 4 113), (113, qs_ldi 6 115), (115, qs_ifeq 122 118), (118, qs_ci 1 119), (119, qs_go 123), (122, qs_ci 0 123), (123, qs_b2 (fun x y => x + y) 124), (124, qs_sti 4 126), (126, qs_inc 5 1 129), (129, qs_go 57), (132, qs_ldi 4 134), (134, qs_iret)]
noncomputable def tb_X11_words : List (Nat × pj_T (Int32 × pj_M)) := tb_X11_words_0 ++ (tb_X11_words_1)
theorem mv_X11_words : pj_mv y_X11_words c_X11_words 9 (some .int) 2 := ⟨⟨cw_1408, cw_1406, cw_1407, cw_92⟩, by decide +kernel, by decide⟩
set_option maxRecDepth 20000 in
theorem sd_X11_words_0 {G : pj_E} {A : Nat → Prop} {P : pj_P} {S : pj_U} {Z : pj_Z} (C : pj_C (G, A, (c_X11_words, y_X11_words.cls, 9, (some .int), 5), P, S, Z)) : ∀ q ∈ tb_X11_words_0, pj_S (G, A, (c_X11_words, y_X11_words.cls, 9, (some .int), 5), P, S, Z) pj_eI q.1 q.2 :=
  List.forall_mem_cons.mpr ⟨qz_aload_n C (show decode c_X11_words 0 = .ok (.aload_n 0, 1) by decide +kernel) rfl,
  List.forall_mem_cons.mpr ⟨qz_iload_n C (show decode c_X11_words 1 = .ok (.iload_n 1, 1) by decide +kernel) rfl,
  List.forall_mem_cons.mpr ⟨qz_vI C (show decode c_X11_words 2 = .ok (.invokevirtual 225, 3) by decide +kernel) ct_X11_isState mv_X11_isState cw_1224 vcX11 (show 2 < 5 by omega),
  List.forall_mem_cons.mpr ⟨qz_ifeq C (show decode c_X11_words 5 = .ok (.ifCond .eq 13, 3) by decide +kernel) (by decide),
  List.forall_mem_cons.mpr ⟨qz_iload_n C (show decode c_X11_words 8 = .ok (.iload_n 2, 1) by decide +kernel) rfl,
  List.forall_mem_cons.mpr ⟨qz_iconst C (show decode c_X11_words 9 = .ok (.iconst 0, 1) by decide +kernel) (by decide +kernel),
  List.forall_mem_cons.mpr ⟨qz_bipush C (show decode c_X11_words 10 = .ok (.bipush 6, 2) by decide +kernel) (by decide +kernel),
  List.forall_mem_cons.mpr ⟨qz_sI C (show decode c_X11_words 12 = .ok (.invokestatic 84, 3) by decide +kernel) ct_X11_in mv_X11_in (Or.inl cw_1126) (show 1 < 5 by omega),
  List.forall_mem_cons.mpr ⟨qz_ifne C (show decode c_X11_words 15 = .ok (.ifCond .ne 6, 3) by decide +kernel) (by decide),
  List.forall_mem_cons.mpr ⟨qz_ldc C (show decode c_X11_words 18 = .ok (.ldc 92, 2) by decide +kernel) cw_1129,
  List.forall_mem_cons.mpr ⟨qz_iret C (show decode c_X11_words 20 = .ok (.ireturn, 1) by decide +kernel) rfl,
  List.forall_mem_cons.mpr ⟨qz_aload_n C (show decode c_X11_words 21 = .ok (.aload_n 0, 1) by decide +kernel) rfl,
  List.forall_mem_cons.mpr ⟨qz_aload_n C (show decode c_X11_words 22 = .ok (.aload_n 0, 1) by decide +kernel) rfl,
  List.forall_mem_cons.mpr ⟨qz_gf (k := 13) C (show decode c_X11_words 23 = .ok (.getfield 25, 3) by decide +kernel) vcX11 wiX11 (by decide) cw_1031,
  List.forall_mem_cons.mpr ⟨qz_iconst C (show decode c_X11_words 26 = .ok (.iconst 0, 1) by decide +kernel) (by decide +kernel),
  List.forall_mem_cons.mpr ⟨qz_vV C (show decode c_X11_words 27 = .ok (.invokevirtual 235, 3) by decide +kernel) ct_X11_looks mv_X11_looks cw_1261 vcX11 (show 4 < 5 by omega),
  List.forall_mem_cons.mpr ⟨qz_iconst C (show decode c_X11_words 30 = .ok (.iconst 1, 1) by decide +kernel) (by decide +kernel),
  List.forall_mem_cons.mpr ⟨qz_istore_n C (show decode c_X11_words 31 = .ok (.istore_n 3, 1) by decide +kernel) rfl,
  List.forall_mem_cons.mpr ⟨qz_iconst C (show decode c_X11_words 32 = .ok (.iconst 0, 1) by decide +kernel) (by decide +kernel),
  List.forall_mem_cons.mpr ⟨qz_istore C (show decode c_X11_words 33 = .ok (.istore 4, 2) by decide +kernel),
  List.forall_mem_cons.mpr ⟨qz_iload C (show decode c_X11_words 35 = .ok (.iload 4, 2) by decide +kernel),
  List.forall_mem_cons.mpr ⟨qz_iload_n C (show decode c_X11_words 37 = .ok (.iload_n 2, 1) by decide +kernel) rfl,
  List.forall_mem_cons.mpr ⟨qz_icge C (show decode c_X11_words 38 = .ok (.if_icmp .ge 13, 3) by decide +kernel) (by decide),
  List.forall_mem_cons.mpr ⟨qz_iload_n C (show decode c_X11_words 41 = .ok (.iload_n 3, 1) by decide +kernel) rfl,
  List.forall_mem_cons.mpr ⟨qz_iconst C (show decode c_X11_words 42 = .ok (.iconst 3, 1) by decide +kernel) (by decide +kernel),
  List.forall_mem_cons.mpr ⟨qz_imul C (show decode c_X11_words 43 = .ok (.imul, 1) by decide +kernel),
  List.forall_mem_cons.mpr ⟨qz_istore_n C (show decode c_X11_words 44 = .ok (.istore_n 3, 1) by decide +kernel) rfl,
  List.forall_mem_cons.mpr ⟨qz_iinc C (show decode c_X11_words 45 = .ok (.iinc 4 1, 3) by decide +kernel) (by decide +kernel),
  List.forall_mem_cons.mpr ⟨qz_goto C (show decode c_X11_words 48 = .ok (.goto (-13), 3) by decide +kernel) (by decide),
  List.forall_mem_cons.mpr ⟨qz_iconst C (show decode c_X11_words 51 = .ok (.iconst 0, 1) by decide +kernel) (by decide +kernel),
  List.forall_mem_cons.mpr ⟨qz_istore C (show decode c_X11_words 52 = .ok (.istore 4, 2) by decide +kernel),
  List.forall_mem_cons.mpr ⟨qz_iconst C (show decode c_X11_words 54 = .ok (.iconst 0, 1) by decide +kernel) (by decide +kernel),
  List.forall_mem_cons.mpr ⟨qz_istore C (show decode c_X11_words 55 = .ok (.istore 5, 2) by decide +kernel),
  List.forall_mem_cons.mpr ⟨qz_iload C (show decode c_X11_words 57 = .ok (.iload 5, 2) by decide +kernel),
  List.forall_mem_cons.mpr ⟨qz_iload_n C (show decode c_X11_words 59 = .ok (.iload_n 3, 1) by decide +kernel) rfl,
  List.forall_mem_cons.mpr ⟨qz_icge C (show decode c_X11_words 60 = .ok (.if_icmp .ge 72, 3) by decide +kernel) (by decide),
  List.forall_mem_cons.mpr ⟨qz_iconst C (show decode c_X11_words 63 = .ok (.iconst 1, 1) by decide +kernel) (by decide +kernel),
  List.forall_mem_cons.mpr ⟨qz_iload_n C (show decode c_X11_words 64 = .ok (.iload_n 1, 1) by decide +kernel) rfl,
  List.forall_mem_cons.mpr ⟨qz_ishl C (show decode c_X11_words 65 = .ok (.ishl, 1) by decide +kernel),
  List.forall_mem_cons.mpr ⟨qz_istore C (show decode c_X11_words 66 = .ok (.istore 6, 2) by decide +kernel),
  (fun q h => by cases h)⟩⟩⟩⟩⟩⟩⟩⟩⟩⟩⟩⟩⟩⟩⟩⟩⟩⟩⟩⟩⟩⟩⟩⟩⟩⟩⟩⟩⟩⟩⟩⟩⟩⟩⟩⟩⟩⟩⟩⟩
set_option maxRecDepth 20000 in
theorem sd_X11_words_1 {G : pj_E} {A : Nat → Prop} {P : pj_P} {S : pj_U} {Z : pj_Z} (C : pj_C (G, A, (c_X11_words, y_X11_words.cls, 9, (some .int), 5), P, S, Z)) : ∀ q ∈ tb_X11_words_1, pj_S (G, A, (c_X11_words, y_X11_words.cls, 9, (some .int), 5), P, S, Z) pj_eI q.1 q.2 :=
  List.forall_mem_cons.mpr ⟨qz_iload C (show decode c_X11_words 68 = .ok (.iload 5, 2) by decide +kernel),
  List.forall_mem_cons.mpr ⟨qz_istore C (show decode c_X11_words 70 = .ok (.istore 7, 2) by decide +kernel),
  List.forall_mem_cons.mpr ⟨qz_iconst C (show decode c_X11_words 72 = .ok (.iconst 0, 1) by decide +kernel) (by decide +kernel),
  List.forall_mem_cons.mpr ⟨qz_istore C (show decode c_X11_words 73 = .ok (.istore 8, 2) by decide +kernel),
  List.forall_mem_cons.mpr ⟨qz_iload C (show decode c_X11_words 75 = .ok (.iload 8, 2) by decide +kernel),
  List.forall_mem_cons.mpr ⟨qz_iload_n C (show decode c_X11_words 77 = .ok (.iload_n 2, 1) by decide +kernel) rfl,
  List.forall_mem_cons.mpr ⟨qz_icge C (show decode c_X11_words 78 = .ok (.if_icmp .ge 33, 3) by decide +kernel) (by decide),
  List.forall_mem_cons.mpr ⟨qz_aload_n C (show decode c_X11_words 81 = .ok (.aload_n 0, 1) by decide +kernel) rfl,
  List.forall_mem_cons.mpr ⟨qz_aload_n C (show decode c_X11_words 82 = .ok (.aload_n 0, 1) by decide +kernel) rfl,
  List.forall_mem_cons.mpr ⟨qz_iload C (show decode c_X11_words 83 = .ok (.iload 6, 2) by decide +kernel),
  List.forall_mem_cons.mpr ⟨qz_vI C (show decode c_X11_words 85 = .ok (.invokevirtual 191, 3) by decide +kernel) ct_X11_close mv_X11_close cw_1288 vcX11 (show 2 < 5 by omega),
  List.forall_mem_cons.mpr ⟨qz_iload C (show decode c_X11_words 88 = .ok (.iload 7, 2) by decide +kernel),
  List.forall_mem_cons.mpr ⟨qz_iconst C (show decode c_X11_words 90 = .ok (.iconst 3, 1) by decide +kernel) (by decide +kernel),
  List.forall_mem_cons.mpr ⟨qz_irem C (show decode c_X11_words 91 = .ok (.irem, 1) by decide +kernel),
  List.forall_mem_cons.mpr ⟨qz_iconst C (show decode c_X11_words 92 = .ok (.iconst 1, 1) by decide +kernel) (by decide +kernel),
  List.forall_mem_cons.mpr ⟨qz_iadd C (show decode c_X11_words 93 = .ok (.iadd, 1) by decide +kernel),
  List.forall_mem_cons.mpr ⟨qz_vI C (show decode c_X11_words 94 = .ok (.invokevirtual 184, 3) by decide +kernel) ct_X11_to mv_X11_to cw_1277 vcX11 (show 2 < 5 by omega),
  List.forall_mem_cons.mpr ⟨qz_istore C (show decode c_X11_words 97 = .ok (.istore 6, 2) by decide +kernel),
  List.forall_mem_cons.mpr ⟨qz_iload C (show decode c_X11_words 99 = .ok (.iload 7, 2) by decide +kernel),
  List.forall_mem_cons.mpr ⟨qz_iconst C (show decode c_X11_words 101 = .ok (.iconst 3, 1) by decide +kernel) (by decide +kernel),
  List.forall_mem_cons.mpr ⟨qz_idiv C (show decode c_X11_words 102 = .ok (.idiv, 1) by decide +kernel),
  List.forall_mem_cons.mpr ⟨qz_istore C (show decode c_X11_words 103 = .ok (.istore 7, 2) by decide +kernel),
  List.forall_mem_cons.mpr ⟨qz_iinc C (show decode c_X11_words 105 = .ok (.iinc 8 1, 3) by decide +kernel) (by decide +kernel),
  List.forall_mem_cons.mpr ⟨qz_goto C (show decode c_X11_words 108 = .ok (.goto (-33), 3) by decide +kernel) (by decide),
  List.forall_mem_cons.mpr ⟨qz_iload C (show decode c_X11_words 111 = .ok (.iload 4, 2) by decide +kernel),
  List.forall_mem_cons.mpr ⟨qz_iload C (show decode c_X11_words 113 = .ok (.iload 6, 2) by decide +kernel),
  List.forall_mem_cons.mpr ⟨qz_ifeq C (show decode c_X11_words 115 = .ok (.ifCond .eq 7, 3) by decide +kernel) (by decide),
  List.forall_mem_cons.mpr ⟨qz_iconst C (show decode c_X11_words 118 = .ok (.iconst 1, 1) by decide +kernel) (by decide +kernel),
  List.forall_mem_cons.mpr ⟨qz_goto C (show decode c_X11_words 119 = .ok (.goto 4, 3) by decide +kernel) (by decide),
  List.forall_mem_cons.mpr ⟨qz_iconst C (show decode c_X11_words 122 = .ok (.iconst 0, 1) by decide +kernel) (by decide +kernel),
  List.forall_mem_cons.mpr ⟨qz_iadd C (show decode c_X11_words 123 = .ok (.iadd, 1) by decide +kernel),
  List.forall_mem_cons.mpr ⟨qz_istore C (show decode c_X11_words 124 = .ok (.istore 4, 2) by decide +kernel),
  List.forall_mem_cons.mpr ⟨qz_iinc C (show decode c_X11_words 126 = .ok (.iinc 5 1, 3) by decide +kernel) (by decide +kernel),
  List.forall_mem_cons.mpr ⟨qz_goto C (show decode c_X11_words 129 = .ok (.goto (-72), 3) by decide +kernel) (by decide),
  List.forall_mem_cons.mpr ⟨qz_iload C (show decode c_X11_words 132 = .ok (.iload 4, 2) by decide +kernel),
  List.forall_mem_cons.mpr ⟨qz_iret C (show decode c_X11_words 134 = .ok (.ireturn, 1) by decide +kernel) rfl,
  (fun q h => by cases h)⟩⟩⟩⟩⟩⟩⟩⟩⟩⟩⟩⟩⟩⟩⟩⟩⟩⟩⟩⟩⟩⟩⟩⟩⟩⟩⟩⟩⟩⟩⟩⟩⟩⟩⟩⟩
theorem sd_X11_words {G : pj_E} {A : Nat → Prop} {P : pj_P} {S : pj_U} {Z : pj_Z} (C : pj_C (G, A, (c_X11_words, y_X11_words.cls, 9, (some .int), 5), P, S, Z)) : ∀ q ∈ tb_X11_words, pj_S (G, A, (c_X11_words, y_X11_words.cls, 9, (some .int), 5), P, S, Z) pj_eI q.1 q.2 := List.forall_mem_append.mpr ⟨sd_X11_words_0 C, sd_X11_words_1 C⟩
noncomputable def C_X11_words_111 (f : Int32 → Int32 → Int32 → Int32 → Int32 → Int32 → pj_M → Option (Int32 × pj_M)) : pj_N (Int32 × pj_M) := fun L st m => match L, st with
  | [some (.inr (.inr (t0, w0, a0))), some (.inl x1), some (.inl x2), some (.inl x3), some (.inl x4), some (.inl x5), some (.inl x6), _, _], [] => (match Nat.beq t0 0 && (Nat.beq w0 11 && (Nat.beq a0 72)) with
    | true => f x1 x2 x3 x4 x5 x6 m
    | false => none)
  | _, _ => none
noncomputable def C_X11_words_75 (f : Int32 → Int32 → Int32 → Int32 → Int32 → Int32 → Int32 → Int32 → pj_M → Option (Int32 × pj_M)) : pj_N (Int32 × pj_M) := fun L st m => match L, st with
  | [some (.inr (.inr (t0, w0, a0))), some (.inl x1), some (.inl x2), some (.inl x3), some (.inl x4), some (.inl x5), some (.inl x6), some (.inl x7), some (.inl x8)], [] => (match Nat.beq t0 0 && (Nat.beq w0 11 && (Nat.beq a0 72)) with
    | true => f x1 x2 x3 x4 x5 x6 x7 x8 m
    | false => none)
  | _, _ => none
noncomputable def C_X11_words_57 (f : Int32 → Int32 → Int32 → Int32 → Int32 → pj_M → Option (Int32 × pj_M)) : pj_N (Int32 × pj_M) := fun L st m => match L, st with
  | [some (.inr (.inr (t0, w0, a0))), some (.inl x1), some (.inl x2), some (.inl x3), some (.inl x4), some (.inl x5), _, _, _], [] => (match Nat.beq t0 0 && (Nat.beq w0 11 && (Nat.beq a0 72)) with
    | true => f x1 x2 x3 x4 x5 m
    | false => none)
  | _, _ => none
noncomputable def C_X11_words_51 (f : Int32 → Int32 → Int32 → pj_M → Option (Int32 × pj_M)) : pj_N (Int32 × pj_M) := fun L st m => match L, st with
  | [some (.inr (.inr (t0, w0, a0))), some (.inl x1), some (.inl x2), some (.inl x3), _, _, _, _, _], [] => (match Nat.beq t0 0 && (Nat.beq w0 11 && (Nat.beq a0 72)) with
    | true => f x1 x2 x3 m
    | false => none)
  | _, _ => none
noncomputable def C_X11_words_35 (f : Int32 → Int32 → Int32 → Int32 → pj_M → Option (Int32 × pj_M)) : pj_N (Int32 × pj_M) := fun L st m => match L, st with
  | [some (.inr (.inr (t0, w0, a0))), some (.inl x1), some (.inl x2), some (.inl x3), some (.inl x4), _, _, _, _], [] => (match Nat.beq t0 0 && (Nat.beq w0 11 && (Nat.beq a0 72)) with
    | true => f x1 x2 x3 x4 m
    | false => none)
  | _, _ => none
set_option maxRecDepth 20000 in
theorem eq_X11_words_111 (k57 : Int32 → Int32 → Int32 → Int32 → Int32 → pj_M → Option (Int32 × pj_M)) (x1 : Int32) (x2 : Int32) (x3 : Int32) (x4 : Int32) (x5 : Int32) (x6 : Int32) (d7 d8 : Option pj_V) (m : pj_M) : pj_run tb_X11_words [(57, C_X11_words_57 k57)] 78 111 [some (.inr (.inr (0, 11, 72))), some (.inl x1), some (.inl x2), some (.inl x3), some (.inl x4), some (.inl x5), some (.inl x6), d7, d8] [] m = J_X11_words_111 k57 x1 x2 x3 x4 x5 x6 m := by rfl
theorem sg_X11_words_111 {G : pj_E} {A : Nat → Prop} {P : pj_P} {S : pj_U} {Z : pj_Z} (C : pj_C (G, A, (c_X11_words, y_X11_words.cls, 9, (some .int), 5), P, S, Z)) {k57 : Int32 → Int32 → Int32 → Int32 → Int32 → pj_M → Option (Int32 × pj_M)} (hk57 : pj_G (G, A, (c_X11_words, y_X11_words.cls, 9, (some .int), 5), P, S, Z) pj_eI 57 (C_X11_words_57 k57)) : pj_G (G, A, (c_X11_words, y_X11_words.cls, 9, (some .int), 5), P, S, Z) pj_eI 111 (C_X11_words_111 (J_X11_words_111 k57)) := by
  intro L st m r h hR
  unfold C_X11_words_111 at h
  split at h
  · split at h
    · rename_i hbq
      simp only [Bool.and_eq_true, Nat.beq_eq] at hbq
      obtain ⟨rfl, rfl, rfl⟩ := hbq
      exact pj_run_ok (sd_X11_words C) (List.forall_mem_cons.mpr ⟨hk57, fun q h => by cases h⟩) 78 111 _ _ _ _ ((eq_X11_words_111 _ _ _ _ _ _ _ _ _ _).trans h) hR
    · cases h
  · cases h
set_option maxRecDepth 20000 in
theorem eq_X11_words_75 (k57 : Int32 → Int32 → Int32 → Int32 → Int32 → pj_M → Option (Int32 × pj_M)) (n1 : Nat) (x1 : Int32) (x2 : Int32) (x3 : Int32) (x4 : Int32) (x5 : Int32) (x6 : Int32) (x7 : Int32) (x8 : Int32) (m : pj_M) : pj_run tb_X11_words [(75, C_X11_words_75 (H_X11_words_75 k57 n1)), (111, C_X11_words_111 (J_X11_words_111 k57))] 78 75 [some (.inr (.inr (0, 11, 72))), some (.inl x1), some (.inl x2), some (.inl x3), some (.inl x4), some (.inl x5), some (.inl x6), some (.inl x7), some (.inl x8)] [] m = H_X11_words_75 k57 (n1 + 1) x1 x2 x3 x4 x5 x6 x7 x8 m := by rfl
theorem sg_X11_words_75 {G : pj_E} {A : Nat → Prop} {P : pj_P} {S : pj_U} {Z : pj_Z} (C : pj_C (G, A, (c_X11_words, y_X11_words.cls, 9, (some .int), 5), P, S, Z)) {k57 : Int32 → Int32 → Int32 → Int32 → Int32 → pj_M → Option (Int32 × pj_M)} (hk57 : pj_G (G, A, (c_X11_words, y_X11_words.cls, 9, (some .int), 5), P, S, Z) pj_eI 57 (C_X11_words_57 k57)) : ∀ n1, pj_G (G, A, (c_X11_words, y_X11_words.cls, 9, (some .int), 5), P, S, Z) pj_eI 75 (C_X11_words_75 (H_X11_words_75 k57 n1)) := by
  intro n1
  induction n1 with
  | zero =>
    intro L st m r h hR
    unfold C_X11_words_75 at h
    split at h
    · split at h
      · cases h
      · cases h
    · cases h
  | succ n1 ih1 =>
    intro L st m r h hR
    unfold C_X11_words_75 at h
    split at h
    · split at h
      · rename_i hbq
        simp only [Bool.and_eq_true, Nat.beq_eq] at hbq
        obtain ⟨rfl, rfl, rfl⟩ := hbq
        exact pj_run_ok (sd_X11_words C) (List.forall_mem_cons.mpr ⟨ih1, List.forall_mem_cons.mpr ⟨sg_X11_words_111 C hk57, fun q h => by cases h⟩⟩) 78 75 _ _ _ _ ((eq_X11_words_75 _ _ _ _ _ _ _ _ _ _ _).trans h) hR
      · cases h
    · cases h
set_option maxRecDepth 20000 in
theorem eq_X11_words_57 (n1 : Nat) (x1 : Int32) (x2 : Int32) (x3 : Int32) (x4 : Int32) (x5 : Int32) (d6 d7 d8 : Option pj_V) (m : pj_M) : pj_run tb_X11_words [(75, C_X11_words_75 (H_X11_words_75 (H_X11_words_57 n1) pj_z))] 78 57 [some (.inr (.inr (0, 11, 72))), some (.inl x1), some (.inl x2), some (.inl x3), some (.inl x4), some (.inl x5), d6, d7, d8] [] m = H_X11_words_57 (n1 + 1) x1 x2 x3 x4 x5 m := by rfl
theorem sg_X11_words_57 {G : pj_E} {A : Nat → Prop} {P : pj_P} {S : pj_U} {Z : pj_Z} (C : pj_C (G, A, (c_X11_words, y_X11_words.cls, 9, (some .int), 5), P, S, Z)) : ∀ n1, pj_G (G, A, (c_X11_words, y_X11_words.cls, 9, (some .int), 5), P, S, Z) pj_eI 57 (C_X11_words_57 (H_X11_words_57 n1)) := by
  intro n1
  induction n1 with
  | zero =>
    intro L st m r h hR
    unfold C_X11_words_57 at h
    split at h
    · split at h
      · cases h
      · cases h
    · cases h
  | succ n1 ih1 =>
    intro L st m r h hR
    unfold C_X11_words_57 at h
    split at h
    · split at h
      · rename_i hbq
        simp only [Bool.and_eq_true, Nat.beq_eq] at hbq
        obtain ⟨rfl, rfl, rfl⟩ := hbq
        exact pj_run_ok (sd_X11_words C) (List.forall_mem_cons.mpr ⟨sg_X11_words_75 C ih1 pj_z, fun q h => by cases h⟩) 78 57 _ _ _ _ ((eq_X11_words_57 _ _ _ _ _ _ _ _ _ _).trans h) hR
      · cases h
    · cases h
set_option maxRecDepth 20000 in
theorem eq_X11_words_51 (x1 : Int32) (x2 : Int32) (x3 : Int32) (d4 d5 d6 d7 d8 : Option pj_V) (m : pj_M) : pj_run tb_X11_words [(57, C_X11_words_57 (H_X11_words_57  pj_z))] 78 51 [some (.inr (.inr (0, 11, 72))), some (.inl x1), some (.inl x2), some (.inl x3), d4, d5, d6, d7, d8] [] m = J_X11_words_51 x1 x2 x3 m := by rfl
theorem sg_X11_words_51 {G : pj_E} {A : Nat → Prop} {P : pj_P} {S : pj_U} {Z : pj_Z} (C : pj_C (G, A, (c_X11_words, y_X11_words.cls, 9, (some .int), 5), P, S, Z)) : pj_G (G, A, (c_X11_words, y_X11_words.cls, 9, (some .int), 5), P, S, Z) pj_eI 51 (C_X11_words_51 (J_X11_words_51)) := by
  intro L st m r h hR
  unfold C_X11_words_51 at h
  split at h
  · split at h
    · rename_i hbq
      simp only [Bool.and_eq_true, Nat.beq_eq] at hbq
      obtain ⟨rfl, rfl, rfl⟩ := hbq
      exact pj_run_ok (sd_X11_words C) (List.forall_mem_cons.mpr ⟨sg_X11_words_57 C  pj_z, fun q h => by cases h⟩) 78 51 _ _ _ _ ((eq_X11_words_51 _ _ _ _ _ _ _ _ _).trans h) hR
    · cases h
  · cases h
set_option maxRecDepth 20000 in
theorem eq_X11_words_35 (n1 : Nat) (x1 : Int32) (x2 : Int32) (x3 : Int32) (x4 : Int32) (d5 d6 d7 d8 : Option pj_V) (m : pj_M) : pj_run tb_X11_words [(35, C_X11_words_35 (H_X11_words_35 n1)), (51, C_X11_words_51 (J_X11_words_51 ))] 78 35 [some (.inr (.inr (0, 11, 72))), some (.inl x1), some (.inl x2), some (.inl x3), some (.inl x4), d5, d6, d7, d8] [] m = H_X11_words_35 (n1 + 1) x1 x2 x3 x4 m := by rfl
theorem sg_X11_words_35 {G : pj_E} {A : Nat → Prop} {P : pj_P} {S : pj_U} {Z : pj_Z} (C : pj_C (G, A, (c_X11_words, y_X11_words.cls, 9, (some .int), 5), P, S, Z)) : ∀ n1, pj_G (G, A, (c_X11_words, y_X11_words.cls, 9, (some .int), 5), P, S, Z) pj_eI 35 (C_X11_words_35 (H_X11_words_35 n1)) := by
  intro n1
  induction n1 with
  | zero =>
    intro L st m r h hR
    unfold C_X11_words_35 at h
    split at h
    · split at h
      · cases h
      · cases h
    · cases h
  | succ n1 ih1 =>
    intro L st m r h hR
    unfold C_X11_words_35 at h
    split at h
    · split at h
      · rename_i hbq
        simp only [Bool.and_eq_true, Nat.beq_eq] at hbq
        obtain ⟨rfl, rfl, rfl⟩ := hbq
        exact pj_run_ok (sd_X11_words C) (List.forall_mem_cons.mpr ⟨ih1, List.forall_mem_cons.mpr ⟨sg_X11_words_51 C , fun q h => by cases h⟩⟩) 78 35 _ _ _ _ ((eq_X11_words_35 _ _ _ _ _ _ _ _ _ _).trans h) hR
      · cases h
    · cases h
set_option maxRecDepth 20000 in
theorem eq_X11_words (x1 : Int32) (x2 : Int32) (m : pj_M) : pj_run tb_X11_words [(35, C_X11_words_35 (H_X11_words_35  pj_z))] 78 0 [some (.inr (.inr (0, 11, 72))), some (.inl x1), some (.inl x2), none, none, none, none, none, none] [] m = F_X11_words x1 x2 m := by rfl
theorem ct_X11_words : pj_Ct pj_eI y_X11_words c_X11_words 9 (some .int) 5 W_X11_words := by
  refine pj_ct_of (by decide +kernel) ?_ ?_
  · intro as m r h
    unfold W_X11_words at h
    split at h
    · simp [pj_l0]
    · cases h
  · intro G A P S Z C as m r h hR
    unfold W_X11_words at h
    split at h
    · split at h
      · rename_i hbq
        simp only [Bool.and_eq_true, Nat.beq_eq] at hbq
        obtain ⟨rfl, rfl, rfl⟩ := hbq
        exact pj_run_ok (sd_X11_words C) (List.forall_mem_cons.mpr ⟨sg_X11_words_35 C  pj_z, fun q h => by cases h⟩) 78 0 _ _ _ _ ((eq_X11_words _ _ _).trans h) hR
      · cases h
    · cases h
/-! AlikeStepsModel.pairsOf(I)I -/
abbrev c_X11_pairsOf : ByteArray := prog_13_method_77_code
def y_X11_pairsOf : MethodName := ⟨RX11, "pairsOf", "(I)I"⟩
noncomputable def H_X11_pairsOf_4 : Nat → Int32 → Int32 → Int32 → pj_M → Option (Int32 × pj_M)
  | 0, _, _, _, _ => none
  | n1 + 1, x1, x2, x3, m => (if x3 < 4 then (if ((10 * x3) + x1) < 0 ∨ 40 ≤ ((10 * x3) + x1).toNatClampNeg then none else ((F_X11_sizeOf (m.1 84 ((10 * x3) + x1).toNatClampNeg) m).bind fun q1 => (H_X11_pairsOf_4 n1 x1 (x2 + q1.1) (x3 + 1) q1.2))) else (some (x2, m)))
noncomputable def F_X11_pairsOf (x1 : Int32) (m : pj_M) : Option (Int32 × pj_M) := (H_X11_pairsOf_4 pj_z x1 0 0 m)
noncomputable def W_X11_pairsOf : List pj_V → pj_M → Option (Int32 × pj_M) := fun as m => match as with
  | [.inr (.inr (t0, w0, a0)), .inl x1] => (match Nat.beq t0 0 && (Nat.beq w0 11 && (Nat.beq a0 72)) with
    | true => F_X11_pairsOf x1 m
    | false => none)
  | _ => none
noncomputable def tb_X11_pairsOf_0 : List (Nat × pj_T (Int32 × pj_M)) := [(0, qs_ci 0 1), (1, qs_sti 2 2), (2, qs_ci 0 3), (3, qs_sti 3 4), (4, qs_ldi 3 5), (5, qs_ci 4 6), (6, qs_icge 32 9), (9, qs_ldi 2 10), (10, qs_lda 0 11), (11, qs_gf 11 20 14), (14, qs_ci 10 16), (16, qs_ldi 3 17), (17, qs_b2 (fun x y => x * y) 18), (18, qs_ldi 1 19), (19, qs_b2 (fun x y => x + y) 20), (20, qs_iald 21), (21, qs_sI 1 W_X11_sizeOf 24), (24, qs_b2 (fun x y => x + y) 25), (25, qs_sti 2 26), (26, qs_inc 3 1 29), (29, qs_go 4), (32, qs_ldi 2 33), (33, qs_iret)]
noncomputable abbrev tb_X11_pairsOf : List (Nat × pj_T (Int32 × pj_M)) := tb_X11_pairsOf_0
theorem mv_X11_pairsOf : pj_mv y_X11_pairsOf c_X11_pairsOf 4 (some .int) 1 := ⟨⟨cw_1419, cw_1418, cw_71, cw_92⟩, by decide +kernel, by decide⟩
set_option maxRecDepth 20000 in
theorem sd_X11_pairsOf_0 {G : pj_E} {A : Nat → Prop} {P : pj_P} {S : pj_U} {Z : pj_Z} (C : pj_C (G, A, (c_X11_pairsOf, y_X11_pairsOf.cls, 4, (some .int), 2), P, S, Z)) : ∀ q ∈ tb_X11_pairsOf_0, pj_S (G, A, (c_X11_pairsOf, y_X11_pairsOf.cls, 4, (some .int), 2), P, S, Z) pj_eI q.1 q.2 :=
  List.forall_mem_cons.mpr ⟨qz_iconst C (show decode c_X11_pairsOf 0 = .ok (.iconst 0, 1) by decide +kernel) (by decide +kernel),
  List.forall_mem_cons.mpr ⟨qz_istore_n C (show decode c_X11_pairsOf 1 = .ok (.istore_n 2, 1) by decide +kernel) rfl,
  List.forall_mem_cons.mpr ⟨qz_iconst C (show decode c_X11_pairsOf 2 = .ok (.iconst 0, 1) by decide +kernel) (by decide +kernel),
  List.forall_mem_cons.mpr ⟨qz_istore_n C (show decode c_X11_pairsOf 3 = .ok (.istore_n 3, 1) by decide +kernel) rfl,
  List.forall_mem_cons.mpr ⟨qz_iload_n C (show decode c_X11_pairsOf 4 = .ok (.iload_n 3, 1) by decide +kernel) rfl,
  List.forall_mem_cons.mpr ⟨qz_iconst C (show decode c_X11_pairsOf 5 = .ok (.iconst 4, 1) by decide +kernel) (by decide +kernel),
  List.forall_mem_cons.mpr ⟨qz_icge C (show decode c_X11_pairsOf 6 = .ok (.if_icmp .ge 26, 3) by decide +kernel) (by decide),
  List.forall_mem_cons.mpr ⟨qz_iload_n C (show decode c_X11_pairsOf 9 = .ok (.iload_n 2, 1) by decide +kernel) rfl,
  List.forall_mem_cons.mpr ⟨qz_aload_n C (show decode c_X11_pairsOf 10 = .ok (.aload_n 0, 1) by decide +kernel) rfl,
  List.forall_mem_cons.mpr ⟨qz_gf (k := 20) C (show decode c_X11_pairsOf 11 = .ok (.getfield 44, 3) by decide +kernel) vcX11 wiX11 (by decide) cw_1038,
  List.forall_mem_cons.mpr ⟨qz_bipush C (show decode c_X11_pairsOf 14 = .ok (.bipush 10, 2) by decide +kernel) (by decide +kernel),
  List.forall_mem_cons.mpr ⟨qz_iload_n C (show decode c_X11_pairsOf 16 = .ok (.iload_n 3, 1) by decide +kernel) rfl,
  List.forall_mem_cons.mpr ⟨qz_imul C (show decode c_X11_pairsOf 17 = .ok (.imul, 1) by decide +kernel),
  List.forall_mem_cons.mpr ⟨qz_iload_n C (show decode c_X11_pairsOf 18 = .ok (.iload_n 1, 1) by decide +kernel) rfl,
  List.forall_mem_cons.mpr ⟨qz_iadd C (show decode c_X11_pairsOf 19 = .ok (.iadd, 1) by decide +kernel),
  List.forall_mem_cons.mpr ⟨qz_iald C (show decode c_X11_pairsOf 20 = .ok (.iaload, 1) by decide +kernel),
  List.forall_mem_cons.mpr ⟨qz_sI C (show decode c_X11_pairsOf 21 = .ok (.invokestatic 260, 3) by decide +kernel) ct_X11_sizeOf mv_X11_sizeOf (Or.inl cw_1378) (show 1 < 2 by omega),
  List.forall_mem_cons.mpr ⟨qz_iadd C (show decode c_X11_pairsOf 24 = .ok (.iadd, 1) by decide +kernel),
  List.forall_mem_cons.mpr ⟨qz_istore_n C (show decode c_X11_pairsOf 25 = .ok (.istore_n 2, 1) by decide +kernel) rfl,
  List.forall_mem_cons.mpr ⟨qz_iinc C (show decode c_X11_pairsOf 26 = .ok (.iinc 3 1, 3) by decide +kernel) (by decide +kernel),
  List.forall_mem_cons.mpr ⟨qz_goto C (show decode c_X11_pairsOf 29 = .ok (.goto (-25), 3) by decide +kernel) (by decide),
  List.forall_mem_cons.mpr ⟨qz_iload_n C (show decode c_X11_pairsOf 32 = .ok (.iload_n 2, 1) by decide +kernel) rfl,
  List.forall_mem_cons.mpr ⟨qz_iret C (show decode c_X11_pairsOf 33 = .ok (.ireturn, 1) by decide +kernel) rfl,
  (fun q h => by cases h)⟩⟩⟩⟩⟩⟩⟩⟩⟩⟩⟩⟩⟩⟩⟩⟩⟩⟩⟩⟩⟩⟩⟩
theorem sd_X11_pairsOf {G : pj_E} {A : Nat → Prop} {P : pj_P} {S : pj_U} {Z : pj_Z} (C : pj_C (G, A, (c_X11_pairsOf, y_X11_pairsOf.cls, 4, (some .int), 2), P, S, Z)) : ∀ q ∈ tb_X11_pairsOf, pj_S (G, A, (c_X11_pairsOf, y_X11_pairsOf.cls, 4, (some .int), 2), P, S, Z) pj_eI q.1 q.2 := sd_X11_pairsOf_0 C
noncomputable def C_X11_pairsOf_4 (f : Int32 → Int32 → Int32 → pj_M → Option (Int32 × pj_M)) : pj_N (Int32 × pj_M) := fun L st m => match L, st with
  | [some (.inr (.inr (t0, w0, a0))), some (.inl x1), some (.inl x2), some (.inl x3)], [] => (match Nat.beq t0 0 && (Nat.beq w0 11 && (Nat.beq a0 72)) with
    | true => f x1 x2 x3 m
    | false => none)
  | _, _ => none
set_option maxRecDepth 20000 in
theorem eq_X11_pairsOf_4 (n1 : Nat) (x1 : Int32) (x2 : Int32) (x3 : Int32) (m : pj_M) : pj_run tb_X11_pairsOf [(4, C_X11_pairsOf_4 (H_X11_pairsOf_4 n1))] 25 4 [some (.inr (.inr (0, 11, 72))), some (.inl x1), some (.inl x2), some (.inl x3)] [] m = H_X11_pairsOf_4 (n1 + 1) x1 x2 x3 m := by rfl
theorem sg_X11_pairsOf_4 {G : pj_E} {A : Nat → Prop} {P : pj_P} {S : pj_U} {Z : pj_Z} (C : pj_C (G, A, (c_X11_pairsOf, y_X11_pairsOf.cls, 4, (some .int), 2), P, S, Z)) : ∀ n1, pj_G (G, A, (c_X11_pairsOf, y_X11_pairsOf.cls, 4, (some .int), 2), P, S, Z) pj_eI 4 (C_X11_pairsOf_4 (H_X11_pairsOf_4 n1)) := by
  intro n1
  induction n1 with
  | zero =>
    intro L st m r h hR
    unfold C_X11_pairsOf_4 at h
    split at h
    · split at h
      · cases h
      · cases h
    · cases h
  | succ n1 ih1 =>
    intro L st m r h hR
    unfold C_X11_pairsOf_4 at h
    split at h
    · split at h
      · rename_i hbq
        simp only [Bool.and_eq_true, Nat.beq_eq] at hbq
        obtain ⟨rfl, rfl, rfl⟩ := hbq
        exact pj_run_ok (sd_X11_pairsOf C) (List.forall_mem_cons.mpr ⟨ih1, fun q h => by cases h⟩) 25 4 _ _ _ _ ((eq_X11_pairsOf_4 _ _ _ _ _).trans h) hR
      · cases h
    · cases h
set_option maxRecDepth 20000 in
theorem eq_X11_pairsOf (x1 : Int32) (m : pj_M) : pj_run tb_X11_pairsOf [(4, C_X11_pairsOf_4 (H_X11_pairsOf_4  pj_z))] 25 0 [some (.inr (.inr (0, 11, 72))), some (.inl x1), none, none] [] m = F_X11_pairsOf x1 m := by rfl
theorem ct_X11_pairsOf : pj_Ct pj_eI y_X11_pairsOf c_X11_pairsOf 4 (some .int) 2 W_X11_pairsOf := by
  refine pj_ct_of (by decide +kernel) ?_ ?_
  · intro as m r h
    unfold W_X11_pairsOf at h
    split at h
    · simp [pj_l0]
    · cases h
  · intro G A P S Z C as m r h hR
    unfold W_X11_pairsOf at h
    split at h
    · split at h
      · rename_i hbq
        simp only [Bool.and_eq_true, Nat.beq_eq] at hbq
        obtain ⟨rfl, rfl, rfl⟩ := hbq
        exact pj_run_ok (sd_X11_pairsOf C) (List.forall_mem_cons.mpr ⟨sg_X11_pairsOf_4 C  pj_z, fun q h => by cases h⟩) 25 0 _ _ _ _ ((eq_X11_pairsOf _ _).trans h) hR
      · cases h
    · cases h
/-! AlikeStepsModel.pairs(I)I -/
abbrev c_X11_pairs : ByteArray := prog_13_method_76_code
def y_X11_pairs : MethodName := ⟨RX11, "pairs", "(I)I"⟩
noncomputable def F_X11_pairs (x1 : Int32) (m : pj_M) : Option (Int32 × pj_M) := ((F_X11_looks 72 78 0 m).bind fun q1 => ((F_X11_pairsOf x1 q1).bind fun q2 => (some (q2.1, q2.2))))
noncomputable def W_X11_pairs : List pj_V → pj_M → Option (Int32 × pj_M) := fun as m => match as with
  | [.inr (.inr (t0, w0, a0)), .inl x1] => (match Nat.beq t0 0 && (Nat.beq w0 11 && (Nat.beq a0 72)) with
    | true => F_X11_pairs x1 m
    | false => none)
  | _ => none
noncomputable def tb_X11_pairs_0 : List (Nat × pj_T (Int32 × pj_M)) := [(0, qs_lda 0 1), (1, qs_lda 0 2), (2, qs_gf 11 13 5), (5, qs_ci 0 6), (6, qs_vV 11 3 W_X11_looks 9), (9, qs_lda 0 10), (10, qs_ldi 1 11), (11, qs_vI 11 2 W_X11_pairsOf 14), (14, qs_iret)]
noncomputable abbrev tb_X11_pairs : List (Nat × pj_T (Int32 × pj_M)) := tb_X11_pairs_0
theorem mv_X11_pairs : pj_mv y_X11_pairs c_X11_pairs 2 (some .int) 1 := ⟨⟨cw_1463, cw_1462, cw_76, cw_92⟩, by decide +kernel, by decide⟩
set_option maxRecDepth 20000 in
theorem sd_X11_pairs_0 {G : pj_E} {A : Nat → Prop} {P : pj_P} {S : pj_U} {Z : pj_Z} (C : pj_C (G, A, (c_X11_pairs, y_X11_pairs.cls, 2, (some .int), 5), P, S, Z)) : ∀ q ∈ tb_X11_pairs_0, pj_S (G, A, (c_X11_pairs, y_X11_pairs.cls, 2, (some .int), 5), P, S, Z) pj_eI q.1 q.2 :=
  List.forall_mem_cons.mpr ⟨qz_aload_n C (show decode c_X11_pairs 0 = .ok (.aload_n 0, 1) by decide +kernel) rfl,
  List.forall_mem_cons.mpr ⟨qz_aload_n C (show decode c_X11_pairs 1 = .ok (.aload_n 0, 1) by decide +kernel) rfl,
  List.forall_mem_cons.mpr ⟨qz_gf (k := 13) C (show decode c_X11_pairs 2 = .ok (.getfield 25, 3) by decide +kernel) vcX11 wiX11 (by decide) cw_1031,
  List.forall_mem_cons.mpr ⟨qz_iconst C (show decode c_X11_pairs 5 = .ok (.iconst 0, 1) by decide +kernel) (by decide +kernel),
  List.forall_mem_cons.mpr ⟨qz_vV C (show decode c_X11_pairs 6 = .ok (.invokevirtual 235, 3) by decide +kernel) ct_X11_looks mv_X11_looks cw_1261 vcX11 (show 4 < 5 by omega),
  List.forall_mem_cons.mpr ⟨qz_aload_n C (show decode c_X11_pairs 9 = .ok (.aload_n 0, 1) by decide +kernel) rfl,
  List.forall_mem_cons.mpr ⟨qz_iload_n C (show decode c_X11_pairs 10 = .ok (.iload_n 1, 1) by decide +kernel) rfl,
  List.forall_mem_cons.mpr ⟨qz_vI C (show decode c_X11_pairs 11 = .ok (.invokevirtual 280, 3) by decide +kernel) ct_X11_pairsOf mv_X11_pairsOf cw_1416 vcX11 (show 2 < 5 by omega),
  List.forall_mem_cons.mpr ⟨qz_iret C (show decode c_X11_pairs 14 = .ok (.ireturn, 1) by decide +kernel) rfl,
  (fun q h => by cases h)⟩⟩⟩⟩⟩⟩⟩⟩⟩
theorem sd_X11_pairs {G : pj_E} {A : Nat → Prop} {P : pj_P} {S : pj_U} {Z : pj_Z} (C : pj_C (G, A, (c_X11_pairs, y_X11_pairs.cls, 2, (some .int), 5), P, S, Z)) : ∀ q ∈ tb_X11_pairs, pj_S (G, A, (c_X11_pairs, y_X11_pairs.cls, 2, (some .int), 5), P, S, Z) pj_eI q.1 q.2 := sd_X11_pairs_0 C
set_option maxRecDepth 20000 in
theorem eq_X11_pairs (x1 : Int32) (m : pj_M) : pj_run tb_X11_pairs [] 11 0 [some (.inr (.inr (0, 11, 72))), some (.inl x1)] [] m = F_X11_pairs x1 m := by rfl
theorem ct_X11_pairs : pj_Ct pj_eI y_X11_pairs c_X11_pairs 2 (some .int) 5 W_X11_pairs := by
  refine pj_ct_of (by decide +kernel) ?_ ?_
  · intro as m r h
    unfold W_X11_pairs at h
    split at h
    · simp [pj_l0]
    · cases h
  · intro G A P S Z C as m r h hR
    unfold W_X11_pairs at h
    split at h
    · split at h
      · rename_i hbq
        simp only [Bool.and_eq_true, Nat.beq_eq] at hbq
        obtain ⟨rfl, rfl, rfl⟩ := hbq
        exact pj_run_ok (sd_X11_pairs C) (fun q h => by cases h) 11 0 _ _ _ _ ((eq_X11_pairs _ _).trans h) hR
      · cases h
    · cases h
/-! AlikeStepsModel.pairAt(II)I -/
abbrev c_X11_pairAt : ByteArray := prog_13_method_78_code
def y_X11_pairAt : MethodName := ⟨RX11, "pairAt", "(II)I"⟩
noncomputable def H_X11_pairAt_14 (k5 : Int32 → Int32 → Int32 → pj_M → Option (Int32 × pj_M)) : Nat → Int32 → Int32 → Int32 → Int32 → pj_M → Option (Int32 × pj_M)
  | 0, _, _, _, _, _ => none
  | n1 + 1, x1, x3, x4, x5, m => ((F_X11_states m).bind fun q1 => (if x5 < q1.1 then (if ((10 * x4) + x1) < 0 ∨ 40 ≤ ((10 * x4) + x1).toNatClampNeg then none else ((F_X11_has (q1.2.1 84 ((10 * x4) + x1).toNatClampNeg) x5 q1.2).bind fun q2 => (if q2.1 = 0 then (H_X11_pairAt_14 k5 n1 x1 x3 x4 (x5 + 1) q2.2) else (if x3 = 0 then (some (x5, q2.2)) else (H_X11_pairAt_14 k5 n1 x1 (x3 - 1) x4 (x5 + 1) q2.2))))) else (k5 x1 x3 (x4 + 1) q1.2)))
noncomputable def H_X11_pairAt_5 : Nat → Int32 → Int32 → Int32 → pj_M → Option (Int32 × pj_M)
  | 0, _, _, _, _ => none
  | n1 + 1, x1, x3, x4, m => (if x4 < 4 then (H_X11_pairAt_14 (H_X11_pairAt_5 n1) pj_z x1 x3 x4 0 m) else (some (x1, m)))
noncomputable def F_X11_pairAt (x1 : Int32) (x2 : Int32) (m : pj_M) : Option (Int32 × pj_M) := (H_X11_pairAt_5 pj_z x1 x2 0 m)
noncomputable def W_X11_pairAt : List pj_V → pj_M → Option (Int32 × pj_M) := fun as m => match as with
  | [.inr (.inr (t0, w0, a0)), .inl x1, .inl x2] => (match Nat.beq t0 0 && (Nat.beq w0 11 && (Nat.beq a0 72)) with
    | true => F_X11_pairAt x1 x2 m
    | false => none)
  | _ => none
noncomputable def tb_X11_pairAt_0 : List (Nat × pj_T (Int32 × pj_M)) := [(0, qs_ldi 2 1), (1, qs_sti 3 2), (2, qs_ci 0 3), (3, qs_sti 4 5), (5, qs_ldi 4 7), (7, qs_ci 4 8), (8, qs_icge 65 11), (11, qs_ci 0 12), (12, qs_sti 5 14), (14, qs_ldi 5 16), (16, qs_lda 0 17), (17, qs_vI 11 1 W_X11_states 20), (20, qs_icge 59 23), (23, qs_lda 0 24), (24, qs_gf 11 20 27), (27, qs_ci 10 29), (29, qs_ldi 4 31), (31, qs_b2 (fun x y => x * y) 32), (32, qs_ldi 1 33), (33, qs_b2 (fun x y => x + y) 34), (34, qs_iald 35), (35, qs_ldi 5 37), (37, qs_sI 2 W_X11_has 40), (40, qs_ifeq 53 43), (43, qs_ldi 3 44), (44, qs_ifne 50 47), (47, qs_ldi 5 49), (49, qs_iret), (50, qs_dec 3 1 53), (53, qs_inc 5 1 56), (56, qs_go 14), (59, qs_inc 4 1 62), (62, qs_go 5), (65, qs_ldi 1 66), (66, qs_iret)]
noncomputable abbrev tb_X11_pairAt : List (Nat × pj_T (Int32 × pj_M)) := tb_X11_pairAt_0
theorem mv_X11_pairAt : pj_mv y_X11_pairAt c_X11_pairAt 6 (some .int) 2 := ⟨⟨cw_1423, cw_1422, cw_72, cw_92⟩, by decide +kernel, by decide⟩
set_option maxRecDepth 20000 in
theorem sd_X11_pairAt_0 {G : pj_E} {A : Nat → Prop} {P : pj_P} {S : pj_U} {Z : pj_Z} (C : pj_C (G, A, (c_X11_pairAt, y_X11_pairAt.cls, 6, (some .int), 2), P, S, Z)) : ∀ q ∈ tb_X11_pairAt_0, pj_S (G, A, (c_X11_pairAt, y_X11_pairAt.cls, 6, (some .int), 2), P, S, Z) pj_eI q.1 q.2 :=
  List.forall_mem_cons.mpr ⟨qz_iload_n C (show decode c_X11_pairAt 0 = .ok (.iload_n 2, 1) by decide +kernel) rfl,
  List.forall_mem_cons.mpr ⟨qz_istore_n C (show decode c_X11_pairAt 1 = .ok (.istore_n 3, 1) by decide +kernel) rfl,
  List.forall_mem_cons.mpr ⟨qz_iconst C (show decode c_X11_pairAt 2 = .ok (.iconst 0, 1) by decide +kernel) (by decide +kernel),
  List.forall_mem_cons.mpr ⟨qz_istore C (show decode c_X11_pairAt 3 = .ok (.istore 4, 2) by decide +kernel),
  List.forall_mem_cons.mpr ⟨qz_iload C (show decode c_X11_pairAt 5 = .ok (.iload 4, 2) by decide +kernel),
  List.forall_mem_cons.mpr ⟨qz_iconst C (show decode c_X11_pairAt 7 = .ok (.iconst 4, 1) by decide +kernel) (by decide +kernel),
  List.forall_mem_cons.mpr ⟨qz_icge C (show decode c_X11_pairAt 8 = .ok (.if_icmp .ge 57, 3) by decide +kernel) (by decide),
  List.forall_mem_cons.mpr ⟨qz_iconst C (show decode c_X11_pairAt 11 = .ok (.iconst 0, 1) by decide +kernel) (by decide +kernel),
  List.forall_mem_cons.mpr ⟨qz_istore C (show decode c_X11_pairAt 12 = .ok (.istore 5, 2) by decide +kernel),
  List.forall_mem_cons.mpr ⟨qz_iload C (show decode c_X11_pairAt 14 = .ok (.iload 5, 2) by decide +kernel),
  List.forall_mem_cons.mpr ⟨qz_aload_n C (show decode c_X11_pairAt 16 = .ok (.aload_n 0, 1) by decide +kernel) rfl,
  List.forall_mem_cons.mpr ⟨qz_vI C (show decode c_X11_pairAt 17 = .ok (.invokevirtual 177, 3) by decide +kernel) ct_X11_states mv_X11_states cw_1269 vcX11 (show 1 < 2 by omega),
  List.forall_mem_cons.mpr ⟨qz_icge C (show decode c_X11_pairAt 20 = .ok (.if_icmp .ge 39, 3) by decide +kernel) (by decide),
  List.forall_mem_cons.mpr ⟨qz_aload_n C (show decode c_X11_pairAt 23 = .ok (.aload_n 0, 1) by decide +kernel) rfl,
  List.forall_mem_cons.mpr ⟨qz_gf (k := 20) C (show decode c_X11_pairAt 24 = .ok (.getfield 44, 3) by decide +kernel) vcX11 wiX11 (by decide) cw_1038,
  List.forall_mem_cons.mpr ⟨qz_bipush C (show decode c_X11_pairAt 27 = .ok (.bipush 10, 2) by decide +kernel) (by decide +kernel),
  List.forall_mem_cons.mpr ⟨qz_iload C (show decode c_X11_pairAt 29 = .ok (.iload 4, 2) by decide +kernel),
  List.forall_mem_cons.mpr ⟨qz_imul C (show decode c_X11_pairAt 31 = .ok (.imul, 1) by decide +kernel),
  List.forall_mem_cons.mpr ⟨qz_iload_n C (show decode c_X11_pairAt 32 = .ok (.iload_n 1, 1) by decide +kernel) rfl,
  List.forall_mem_cons.mpr ⟨qz_iadd C (show decode c_X11_pairAt 33 = .ok (.iadd, 1) by decide +kernel),
  List.forall_mem_cons.mpr ⟨qz_iald C (show decode c_X11_pairAt 34 = .ok (.iaload, 1) by decide +kernel),
  List.forall_mem_cons.mpr ⟨qz_iload C (show decode c_X11_pairAt 35 = .ok (.iload 5, 2) by decide +kernel),
  List.forall_mem_cons.mpr ⟨qz_sI C (show decode c_X11_pairAt 37 = .ok (.invokestatic 187, 3) by decide +kernel) ct_X11_has mv_X11_has (Or.inl cw_1281) (show 1 < 2 by omega),
  List.forall_mem_cons.mpr ⟨qz_ifeq C (show decode c_X11_pairAt 40 = .ok (.ifCond .eq 13, 3) by decide +kernel) (by decide),
  List.forall_mem_cons.mpr ⟨qz_iload_n C (show decode c_X11_pairAt 43 = .ok (.iload_n 3, 1) by decide +kernel) rfl,
  List.forall_mem_cons.mpr ⟨qz_ifne C (show decode c_X11_pairAt 44 = .ok (.ifCond .ne 6, 3) by decide +kernel) (by decide),
  List.forall_mem_cons.mpr ⟨qz_iload C (show decode c_X11_pairAt 47 = .ok (.iload 5, 2) by decide +kernel),
  List.forall_mem_cons.mpr ⟨qz_iret C (show decode c_X11_pairAt 49 = .ok (.ireturn, 1) by decide +kernel) rfl,
  List.forall_mem_cons.mpr ⟨qz_idec C (show decode c_X11_pairAt 50 = .ok (.iinc 3 (-1), 3) by decide +kernel) (by decide +kernel),
  List.forall_mem_cons.mpr ⟨qz_iinc C (show decode c_X11_pairAt 53 = .ok (.iinc 5 1, 3) by decide +kernel) (by decide +kernel),
  List.forall_mem_cons.mpr ⟨qz_goto C (show decode c_X11_pairAt 56 = .ok (.goto (-42), 3) by decide +kernel) (by decide),
  List.forall_mem_cons.mpr ⟨qz_iinc C (show decode c_X11_pairAt 59 = .ok (.iinc 4 1, 3) by decide +kernel) (by decide +kernel),
  List.forall_mem_cons.mpr ⟨qz_goto C (show decode c_X11_pairAt 62 = .ok (.goto (-57), 3) by decide +kernel) (by decide),
  List.forall_mem_cons.mpr ⟨qz_iload_n C (show decode c_X11_pairAt 65 = .ok (.iload_n 1, 1) by decide +kernel) rfl,
  List.forall_mem_cons.mpr ⟨qz_iret C (show decode c_X11_pairAt 66 = .ok (.ireturn, 1) by decide +kernel) rfl,
  (fun q h => by cases h)⟩⟩⟩⟩⟩⟩⟩⟩⟩⟩⟩⟩⟩⟩⟩⟩⟩⟩⟩⟩⟩⟩⟩⟩⟩⟩⟩⟩⟩⟩⟩⟩⟩⟩⟩
theorem sd_X11_pairAt {G : pj_E} {A : Nat → Prop} {P : pj_P} {S : pj_U} {Z : pj_Z} (C : pj_C (G, A, (c_X11_pairAt, y_X11_pairAt.cls, 6, (some .int), 2), P, S, Z)) : ∀ q ∈ tb_X11_pairAt, pj_S (G, A, (c_X11_pairAt, y_X11_pairAt.cls, 6, (some .int), 2), P, S, Z) pj_eI q.1 q.2 := sd_X11_pairAt_0 C
noncomputable def C_X11_pairAt_14 (f : Int32 → Int32 → Int32 → Int32 → pj_M → Option (Int32 × pj_M)) : pj_N (Int32 × pj_M) := fun L st m => match L, st with
  | [some (.inr (.inr (t0, w0, a0))), some (.inl x1), _, some (.inl x3), some (.inl x4), some (.inl x5)], [] => (match Nat.beq t0 0 && (Nat.beq w0 11 && (Nat.beq a0 72)) with
    | true => f x1 x3 x4 x5 m
    | false => none)
  | _, _ => none
noncomputable def C_X11_pairAt_5 (f : Int32 → Int32 → Int32 → pj_M → Option (Int32 × pj_M)) : pj_N (Int32 × pj_M) := fun L st m => match L, st with
  | [some (.inr (.inr (t0, w0, a0))), some (.inl x1), _, some (.inl x3), some (.inl x4), _], [] => (match Nat.beq t0 0 && (Nat.beq w0 11 && (Nat.beq a0 72)) with
    | true => f x1 x3 x4 m
    | false => none)
  | _, _ => none
set_option maxRecDepth 20000 in
theorem eq_X11_pairAt_14 (k5 : Int32 → Int32 → Int32 → pj_M → Option (Int32 × pj_M)) (n1 : Nat) (x1 : Int32) (x3 : Int32) (x4 : Int32) (x5 : Int32) (d2 : Option pj_V) (m : pj_M) : pj_run tb_X11_pairAt [(5, C_X11_pairAt_5 k5), (14, C_X11_pairAt_14 (H_X11_pairAt_14 k5 n1))] 37 14 [some (.inr (.inr (0, 11, 72))), some (.inl x1), d2, some (.inl x3), some (.inl x4), some (.inl x5)] [] m = H_X11_pairAt_14 k5 (n1 + 1) x1 x3 x4 x5 m := by rfl
theorem sg_X11_pairAt_14 {G : pj_E} {A : Nat → Prop} {P : pj_P} {S : pj_U} {Z : pj_Z} (C : pj_C (G, A, (c_X11_pairAt, y_X11_pairAt.cls, 6, (some .int), 2), P, S, Z)) {k5 : Int32 → Int32 → Int32 → pj_M → Option (Int32 × pj_M)} (hk5 : pj_G (G, A, (c_X11_pairAt, y_X11_pairAt.cls, 6, (some .int), 2), P, S, Z) pj_eI 5 (C_X11_pairAt_5 k5)) : ∀ n1, pj_G (G, A, (c_X11_pairAt, y_X11_pairAt.cls, 6, (some .int), 2), P, S, Z) pj_eI 14 (C_X11_pairAt_14 (H_X11_pairAt_14 k5 n1)) := by
  intro n1
  induction n1 with
  | zero =>
    intro L st m r h hR
    unfold C_X11_pairAt_14 at h
    split at h
    · split at h
      · cases h
      · cases h
    · cases h
  | succ n1 ih1 =>
    intro L st m r h hR
    unfold C_X11_pairAt_14 at h
    split at h
    · split at h
      · rename_i hbq
        simp only [Bool.and_eq_true, Nat.beq_eq] at hbq
        obtain ⟨rfl, rfl, rfl⟩ := hbq
        exact pj_run_ok (sd_X11_pairAt C) (List.forall_mem_cons.mpr ⟨hk5, List.forall_mem_cons.mpr ⟨ih1, fun q h => by cases h⟩⟩) 37 14 _ _ _ _ ((eq_X11_pairAt_14 _ _ _ _ _ _ _ _).trans h) hR
      · cases h
    · cases h
set_option maxRecDepth 20000 in
theorem eq_X11_pairAt_5 (n1 : Nat) (x1 : Int32) (x3 : Int32) (x4 : Int32) (d2 d5 : Option pj_V) (m : pj_M) : pj_run tb_X11_pairAt [(14, C_X11_pairAt_14 (H_X11_pairAt_14 (H_X11_pairAt_5 n1) pj_z))] 37 5 [some (.inr (.inr (0, 11, 72))), some (.inl x1), d2, some (.inl x3), some (.inl x4), d5] [] m = H_X11_pairAt_5 (n1 + 1) x1 x3 x4 m := by rfl
theorem sg_X11_pairAt_5 {G : pj_E} {A : Nat → Prop} {P : pj_P} {S : pj_U} {Z : pj_Z} (C : pj_C (G, A, (c_X11_pairAt, y_X11_pairAt.cls, 6, (some .int), 2), P, S, Z)) : ∀ n1, pj_G (G, A, (c_X11_pairAt, y_X11_pairAt.cls, 6, (some .int), 2), P, S, Z) pj_eI 5 (C_X11_pairAt_5 (H_X11_pairAt_5 n1)) := by
  intro n1
  induction n1 with
  | zero =>
    intro L st m r h hR
    unfold C_X11_pairAt_5 at h
    split at h
    · split at h
      · cases h
      · cases h
    · cases h
  | succ n1 ih1 =>
    intro L st m r h hR
    unfold C_X11_pairAt_5 at h
    split at h
    · split at h
      · rename_i hbq
        simp only [Bool.and_eq_true, Nat.beq_eq] at hbq
        obtain ⟨rfl, rfl, rfl⟩ := hbq
        exact pj_run_ok (sd_X11_pairAt C) (List.forall_mem_cons.mpr ⟨sg_X11_pairAt_14 C ih1 pj_z, fun q h => by cases h⟩) 37 5 _ _ _ _ ((eq_X11_pairAt_5 _ _ _ _ _ _ _).trans h) hR
      · cases h
    · cases h
set_option maxRecDepth 20000 in
theorem eq_X11_pairAt (x1 : Int32) (x2 : Int32) (m : pj_M) : pj_run tb_X11_pairAt [(5, C_X11_pairAt_5 (H_X11_pairAt_5  pj_z))] 37 0 [some (.inr (.inr (0, 11, 72))), some (.inl x1), some (.inl x2), none, none, none] [] m = F_X11_pairAt x1 x2 m := by rfl
theorem ct_X11_pairAt : pj_Ct pj_eI y_X11_pairAt c_X11_pairAt 6 (some .int) 2 W_X11_pairAt := by
  refine pj_ct_of (by decide +kernel) ?_ ?_
  · intro as m r h
    unfold W_X11_pairAt at h
    split at h
    · simp [pj_l0]
    · cases h
  · intro G A P S Z C as m r h hR
    unfold W_X11_pairAt at h
    split at h
    · split at h
      · rename_i hbq
        simp only [Bool.and_eq_true, Nat.beq_eq] at hbq
        obtain ⟨rfl, rfl, rfl⟩ := hbq
        exact pj_run_ok (sd_X11_pairAt C) (List.forall_mem_cons.mpr ⟨sg_X11_pairAt_5 C  pj_z, fun q h => by cases h⟩) 37 0 _ _ _ _ ((eq_X11_pairAt _ _ _).trans h) hR
      · cases h
    · cases h
/-! AlikeStepsModel.walk(III)I -/
abbrev c_X11_walk : ByteArray := prog_13_method_79_code
def y_X11_walk : MethodName := ⟨RX11, "walk", "(III)I"⟩
noncomputable def H_X11_walk_51 : Nat → Int32 → Int32 → Int64 → Int32 → pj_M → Option (Int32 × pj_M)
  | 0, _, _, _, _, _ => none
  | n1 + 1, x2, x4, l5, x7, m => (if x7 < x2 then (if (2147483647 : Int64) = 0 then none else ((F_X11_pairsOf x4 m).bind fun q1 => (if q1.1 = 0 then (H_X11_walk_51 n1 x2 x4 ((l5 * 16807) - (l5 * 16807) / 2147483647 * 2147483647) (x7 + 1) q1.2) else (if q1.1.toInt64 = 0 then none else ((F_X11_pairAt x4 ((((l5 * 16807) - (l5 * 16807) / 2147483647 * 2147483647) - ((l5 * 16807) - (l5 * 16807) / 2147483647 * 2147483647) / q1.1.toInt64 * q1.1.toInt64).toInt32) q1.2).bind fun q2 => (H_X11_walk_51 n1 x2 q2.1 ((l5 * 16807) - (l5 * 16807) / 2147483647 * 2147483647) (x7 + 1) q2.2)))))) else (some (x4, m)))
noncomputable def F_X11_walk (x1 : Int32) (x2 : Int32) (x3 : Int32) (m : pj_M) : Option (Int32 × pj_M) := ((F_X11_isState x1 m).bind fun q1 => (if q1.1 = 0 then (some ((-1000001), q1.2)) else ((F_X11_in x2 0 60 q1.2).bind fun q2 => (if q2.1 = 0 then (some ((-1000001), q2.2)) else ((F_X11_in x3 1 999999 q2.2).bind fun q3 => (if q3.1 = 0 then (some ((-1000001), q3.2)) else ((F_X11_looks 72 78 0 q3.2).bind fun q4 => (H_X11_walk_51 pj_z x2 x1 x3.toInt64 0 q4))))))))
noncomputable def W_X11_walk : List pj_V → pj_M → Option (Int32 × pj_M) := fun as m => match as with
  | [.inr (.inr (t0, w0, a0)), .inl x1, .inl x2, .inl x3] => (match Nat.beq t0 0 && (Nat.beq w0 11 && (Nat.beq a0 72)) with
    | true => F_X11_walk x1 x2 x3 m
    | false => none)
  | _ => none
noncomputable def tb_X11_walk_0 : List (Nat × pj_T (Int32 × pj_M)) := [(0, qs_lda 0 1), (1, qs_ldi 1 2), (2, qs_vI 11 2 W_X11_isState 5), (5, qs_ifeq 29 8), (8, qs_ldi 2 9), (9, qs_ci 0 10), (10, qs_ci 60 12), (12, qs_sI 3 W_X11_in 15), (15, qs_ifeq 29 18), (18, qs_ldi 3 19), (19, qs_ci 1 20), (20, qs_ci 999999 23), (23, qs_sI 3 W_X11_in 26), (26, qs_ifne 32 29), (29, qs_ci (-1000001) 31), (31, qs_iret), (32, qs_lda 0 33), (33, qs_lda 0 34), (34, qs_gf 11 13 37), (37, qs_ci 0 38), (38, qs_vV 11 3 W_X11_looks 41), (41, qs_ldi 1 42), (42, qs_sti 4 44), (44, qs_ldi 3 45), (45, qs_i2l 46), (46, qs_stl 5 48), (48, qs_ci 0 49), (49, qs_sti 7 51), (51, qs_ldi 7 53), (53, qs_ldi 2 54), (54, qs_icge 108 57), (57, qs_ldl 5 59), (59, qs_cl 16807 62), (62, qs_l2 (fun x y => x * y) 63), (63, qs_cl 2147483647 66), (66, qs_ld2 (fun x y => x - x / y * y) 67), (67, qs_stl 5 69), (69, qs_lda 0 70), (70, qs_ldi 4 72), (72, qs_vI 11 2 W_X11_pairsOf 75)]
noncomputable def tb_X11_walk_1 : List (Nat × pj_T (Int32 × pj_M)) := [(75, qs_sti 8 77), (77, qs_ldi 8 79), (79, qs_ifne 87 82), (82, qs_ldi 4 84), (84, qs_go 100), (87, qs_lda 0 88), (88, qs_ldi 4 90), (90, qs_ldl 5 92), (92, qs_ldi 8 94), (94, qs_i2l 95), (95, qs_ld2 (fun x y => x - x / y * y) 96), (96, qs_l2i 97), (97, qs_vI 11 3 W_X11_pairAt 100), (100, qs_sti 4 102), (102, qs_inc 7 1 105), (105, qs_go 51), (108, qs_ldi 4 110), (110, qs_iret)]
noncomputable def tb_X11_walk : List (Nat × pj_T (Int32 × pj_M)) := tb_X11_walk_0 ++ (tb_X11_walk_1)
theorem mv_X11_walk : pj_mv y_X11_walk c_X11_walk 9 (some .int) 3 := ⟨⟨cw_1412, cw_1410, cw_1411, cw_92⟩, by decide +kernel, by decide⟩
set_option maxRecDepth 20000 in
theorem sd_X11_walk_0 {G : pj_E} {A : Nat → Prop} {P : pj_P} {S : pj_U} {Z : pj_Z} (C : pj_C (G, A, (c_X11_walk, y_X11_walk.cls, 9, (some .int), 5), P, S, Z)) : ∀ q ∈ tb_X11_walk_0, pj_S (G, A, (c_X11_walk, y_X11_walk.cls, 9, (some .int), 5), P, S, Z) pj_eI q.1 q.2 :=
  List.forall_mem_cons.mpr ⟨qz_aload_n C (show decode c_X11_walk 0 = .ok (.aload_n 0, 1) by decide +kernel) rfl,
  List.forall_mem_cons.mpr ⟨qz_iload_n C (show decode c_X11_walk 1 = .ok (.iload_n 1, 1) by decide +kernel) rfl,
  List.forall_mem_cons.mpr ⟨qz_vI C (show decode c_X11_walk 2 = .ok (.invokevirtual 225, 3) by decide +kernel) ct_X11_isState mv_X11_isState cw_1224 vcX11 (show 2 < 5 by omega),
  List.forall_mem_cons.mpr ⟨qz_ifeq C (show decode c_X11_walk 5 = .ok (.ifCond .eq 24, 3) by decide +kernel) (by decide),
  List.forall_mem_cons.mpr ⟨qz_iload_n C (show decode c_X11_walk 8 = .ok (.iload_n 2, 1) by decide +kernel) rfl,
  List.forall_mem_cons.mpr ⟨qz_iconst C (show decode c_X11_walk 9 = .ok (.iconst 0, 1) by decide +kernel) (by decide +kernel),
  List.forall_mem_cons.mpr ⟨qz_bipush C (show decode c_X11_walk 10 = .ok (.bipush 60, 2) by decide +kernel) (by decide +kernel),
  List.forall_mem_cons.mpr ⟨qz_sI C (show decode c_X11_walk 12 = .ok (.invokestatic 84, 3) by decide +kernel) ct_X11_in mv_X11_in (Or.inl cw_1126) (show 1 < 5 by omega),
  List.forall_mem_cons.mpr ⟨qz_ifeq C (show decode c_X11_walk 15 = .ok (.ifCond .eq 14, 3) by decide +kernel) (by decide),
  List.forall_mem_cons.mpr ⟨qz_iload_n C (show decode c_X11_walk 18 = .ok (.iload_n 3, 1) by decide +kernel) rfl,
  List.forall_mem_cons.mpr ⟨qz_iconst C (show decode c_X11_walk 19 = .ok (.iconst 1, 1) by decide +kernel) (by decide +kernel),
  List.forall_mem_cons.mpr ⟨qz_ldcw C (show decode c_X11_walk 20 = .ok (.ldc_w 283, 3) by decide +kernel) cw_1413,
  List.forall_mem_cons.mpr ⟨qz_sI C (show decode c_X11_walk 23 = .ok (.invokestatic 84, 3) by decide +kernel) ct_X11_in mv_X11_in (Or.inl cw_1126) (show 1 < 5 by omega),
  List.forall_mem_cons.mpr ⟨qz_ifne C (show decode c_X11_walk 26 = .ok (.ifCond .ne 6, 3) by decide +kernel) (by decide),
  List.forall_mem_cons.mpr ⟨qz_ldc C (show decode c_X11_walk 29 = .ok (.ldc 92, 2) by decide +kernel) cw_1129,
  List.forall_mem_cons.mpr ⟨qz_iret C (show decode c_X11_walk 31 = .ok (.ireturn, 1) by decide +kernel) rfl,
  List.forall_mem_cons.mpr ⟨qz_aload_n C (show decode c_X11_walk 32 = .ok (.aload_n 0, 1) by decide +kernel) rfl,
  List.forall_mem_cons.mpr ⟨qz_aload_n C (show decode c_X11_walk 33 = .ok (.aload_n 0, 1) by decide +kernel) rfl,
  List.forall_mem_cons.mpr ⟨qz_gf (k := 13) C (show decode c_X11_walk 34 = .ok (.getfield 25, 3) by decide +kernel) vcX11 wiX11 (by decide) cw_1031,
  List.forall_mem_cons.mpr ⟨qz_iconst C (show decode c_X11_walk 37 = .ok (.iconst 0, 1) by decide +kernel) (by decide +kernel),
  List.forall_mem_cons.mpr ⟨qz_vV C (show decode c_X11_walk 38 = .ok (.invokevirtual 235, 3) by decide +kernel) ct_X11_looks mv_X11_looks cw_1261 vcX11 (show 4 < 5 by omega),
  List.forall_mem_cons.mpr ⟨qz_iload_n C (show decode c_X11_walk 41 = .ok (.iload_n 1, 1) by decide +kernel) rfl,
  List.forall_mem_cons.mpr ⟨qz_istore C (show decode c_X11_walk 42 = .ok (.istore 4, 2) by decide +kernel),
  List.forall_mem_cons.mpr ⟨qz_iload_n C (show decode c_X11_walk 44 = .ok (.iload_n 3, 1) by decide +kernel) rfl,
  List.forall_mem_cons.mpr ⟨qz_i2l C (show decode c_X11_walk 45 = .ok (.i2l, 1) by decide +kernel),
  List.forall_mem_cons.mpr ⟨qz_lstore C (show decode c_X11_walk 46 = .ok (.lstore 5, 2) by decide +kernel),
  List.forall_mem_cons.mpr ⟨qz_iconst C (show decode c_X11_walk 48 = .ok (.iconst 0, 1) by decide +kernel) (by decide +kernel),
  List.forall_mem_cons.mpr ⟨qz_istore C (show decode c_X11_walk 49 = .ok (.istore 7, 2) by decide +kernel),
  List.forall_mem_cons.mpr ⟨qz_iload C (show decode c_X11_walk 51 = .ok (.iload 7, 2) by decide +kernel),
  List.forall_mem_cons.mpr ⟨qz_iload_n C (show decode c_X11_walk 53 = .ok (.iload_n 2, 1) by decide +kernel) rfl,
  List.forall_mem_cons.mpr ⟨qz_icge C (show decode c_X11_walk 54 = .ok (.if_icmp .ge 54, 3) by decide +kernel) (by decide),
  List.forall_mem_cons.mpr ⟨qz_lload C (show decode c_X11_walk 57 = .ok (.lload 5, 2) by decide +kernel),
  List.forall_mem_cons.mpr ⟨qz_ldc2 C (show decode c_X11_walk 59 = .ok (.ldc2_w 284, 3) by decide +kernel) cw_1414,
  List.forall_mem_cons.mpr ⟨qz_lmul C (show decode c_X11_walk 62 = .ok (.lmul, 1) by decide +kernel),
  List.forall_mem_cons.mpr ⟨qz_ldc2 C (show decode c_X11_walk 63 = .ok (.ldc2_w 286, 3) by decide +kernel) cw_1415,
  List.forall_mem_cons.mpr ⟨qz_lrem C (show decode c_X11_walk 66 = .ok (.lrem, 1) by decide +kernel),
  List.forall_mem_cons.mpr ⟨qz_lstore C (show decode c_X11_walk 67 = .ok (.lstore 5, 2) by decide +kernel),
  List.forall_mem_cons.mpr ⟨qz_aload_n C (show decode c_X11_walk 69 = .ok (.aload_n 0, 1) by decide +kernel) rfl,
  List.forall_mem_cons.mpr ⟨qz_iload C (show decode c_X11_walk 70 = .ok (.iload 4, 2) by decide +kernel),
  List.forall_mem_cons.mpr ⟨qz_vI C (show decode c_X11_walk 72 = .ok (.invokevirtual 280, 3) by decide +kernel) ct_X11_pairsOf mv_X11_pairsOf cw_1416 vcX11 (show 2 < 5 by omega),
  (fun q h => by cases h)⟩⟩⟩⟩⟩⟩⟩⟩⟩⟩⟩⟩⟩⟩⟩⟩⟩⟩⟩⟩⟩⟩⟩⟩⟩⟩⟩⟩⟩⟩⟩⟩⟩⟩⟩⟩⟩⟩⟩⟩
set_option maxRecDepth 20000 in
theorem sd_X11_walk_1 {G : pj_E} {A : Nat → Prop} {P : pj_P} {S : pj_U} {Z : pj_Z} (C : pj_C (G, A, (c_X11_walk, y_X11_walk.cls, 9, (some .int), 5), P, S, Z)) : ∀ q ∈ tb_X11_walk_1, pj_S (G, A, (c_X11_walk, y_X11_walk.cls, 9, (some .int), 5), P, S, Z) pj_eI q.1 q.2 :=
  List.forall_mem_cons.mpr ⟨qz_istore C (show decode c_X11_walk 75 = .ok (.istore 8, 2) by decide +kernel),
  List.forall_mem_cons.mpr ⟨qz_iload C (show decode c_X11_walk 77 = .ok (.iload 8, 2) by decide +kernel),
  List.forall_mem_cons.mpr ⟨qz_ifne C (show decode c_X11_walk 79 = .ok (.ifCond .ne 8, 3) by decide +kernel) (by decide),
  List.forall_mem_cons.mpr ⟨qz_iload C (show decode c_X11_walk 82 = .ok (.iload 4, 2) by decide +kernel),
  List.forall_mem_cons.mpr ⟨qz_goto C (show decode c_X11_walk 84 = .ok (.goto 16, 3) by decide +kernel) (by decide),
  List.forall_mem_cons.mpr ⟨qz_aload_n C (show decode c_X11_walk 87 = .ok (.aload_n 0, 1) by decide +kernel) rfl,
  List.forall_mem_cons.mpr ⟨qz_iload C (show decode c_X11_walk 88 = .ok (.iload 4, 2) by decide +kernel),
  List.forall_mem_cons.mpr ⟨qz_lload C (show decode c_X11_walk 90 = .ok (.lload 5, 2) by decide +kernel),
  List.forall_mem_cons.mpr ⟨qz_iload C (show decode c_X11_walk 92 = .ok (.iload 8, 2) by decide +kernel),
  List.forall_mem_cons.mpr ⟨qz_i2l C (show decode c_X11_walk 94 = .ok (.i2l, 1) by decide +kernel),
  List.forall_mem_cons.mpr ⟨qz_lrem C (show decode c_X11_walk 95 = .ok (.lrem, 1) by decide +kernel),
  List.forall_mem_cons.mpr ⟨qz_l2i C (show decode c_X11_walk 96 = .ok (.l2i, 1) by decide +kernel),
  List.forall_mem_cons.mpr ⟨qz_vI C (show decode c_X11_walk 97 = .ok (.invokevirtual 288, 3) by decide +kernel) ct_X11_pairAt mv_X11_pairAt cw_1420 vcX11 (show 2 < 5 by omega),
  List.forall_mem_cons.mpr ⟨qz_istore C (show decode c_X11_walk 100 = .ok (.istore 4, 2) by decide +kernel),
  List.forall_mem_cons.mpr ⟨qz_iinc C (show decode c_X11_walk 102 = .ok (.iinc 7 1, 3) by decide +kernel) (by decide +kernel),
  List.forall_mem_cons.mpr ⟨qz_goto C (show decode c_X11_walk 105 = .ok (.goto (-54), 3) by decide +kernel) (by decide),
  List.forall_mem_cons.mpr ⟨qz_iload C (show decode c_X11_walk 108 = .ok (.iload 4, 2) by decide +kernel),
  List.forall_mem_cons.mpr ⟨qz_iret C (show decode c_X11_walk 110 = .ok (.ireturn, 1) by decide +kernel) rfl,
  (fun q h => by cases h)⟩⟩⟩⟩⟩⟩⟩⟩⟩⟩⟩⟩⟩⟩⟩⟩⟩⟩
theorem sd_X11_walk {G : pj_E} {A : Nat → Prop} {P : pj_P} {S : pj_U} {Z : pj_Z} (C : pj_C (G, A, (c_X11_walk, y_X11_walk.cls, 9, (some .int), 5), P, S, Z)) : ∀ q ∈ tb_X11_walk, pj_S (G, A, (c_X11_walk, y_X11_walk.cls, 9, (some .int), 5), P, S, Z) pj_eI q.1 q.2 := List.forall_mem_append.mpr ⟨sd_X11_walk_0 C, sd_X11_walk_1 C⟩
noncomputable def C_X11_walk_51 (f : Int32 → Int32 → Int64 → Int32 → pj_M → Option (Int32 × pj_M)) : pj_N (Int32 × pj_M) := fun L st m => match L, st with
  | [some (.inr (.inr (t0, w0, a0))), _, some (.inl x2), _, some (.inl x4), some (.inr (.inl l5)), _, some (.inl x7), _], [] => (match Nat.beq t0 0 && (Nat.beq w0 11 && (Nat.beq a0 72)) with
    | true => f x2 x4 l5 x7 m
    | false => none)
  | _, _ => none
set_option maxRecDepth 20000 in
theorem eq_X11_walk_51 (n1 : Nat) (x2 : Int32) (x4 : Int32) (l5 : Int64) (x7 : Int32) (d1 d3 d6 d8 : Option pj_V) (m : pj_M) : pj_run tb_X11_walk [(51, C_X11_walk_51 (H_X11_walk_51 n1))] 60 51 [some (.inr (.inr (0, 11, 72))), d1, some (.inl x2), d3, some (.inl x4), some (.inr (.inl l5)), d6, some (.inl x7), d8] [] m = H_X11_walk_51 (n1 + 1) x2 x4 l5 x7 m := by rfl
theorem sg_X11_walk_51 {G : pj_E} {A : Nat → Prop} {P : pj_P} {S : pj_U} {Z : pj_Z} (C : pj_C (G, A, (c_X11_walk, y_X11_walk.cls, 9, (some .int), 5), P, S, Z)) : ∀ n1, pj_G (G, A, (c_X11_walk, y_X11_walk.cls, 9, (some .int), 5), P, S, Z) pj_eI 51 (C_X11_walk_51 (H_X11_walk_51 n1)) := by
  intro n1
  induction n1 with
  | zero =>
    intro L st m r h hR
    unfold C_X11_walk_51 at h
    split at h
    · split at h
      · cases h
      · cases h
    · cases h
  | succ n1 ih1 =>
    intro L st m r h hR
    unfold C_X11_walk_51 at h
    split at h
    · split at h
      · rename_i hbq
        simp only [Bool.and_eq_true, Nat.beq_eq] at hbq
        obtain ⟨rfl, rfl, rfl⟩ := hbq
        exact pj_run_ok (sd_X11_walk C) (List.forall_mem_cons.mpr ⟨ih1, fun q h => by cases h⟩) 60 51 _ _ _ _ ((eq_X11_walk_51 _ _ _ _ _ _ _ _ _ _).trans h) hR
      · cases h
    · cases h
set_option maxRecDepth 20000 in
theorem eq_X11_walk (x1 : Int32) (x2 : Int32) (x3 : Int32) (m : pj_M) : pj_run tb_X11_walk [(51, C_X11_walk_51 (H_X11_walk_51  pj_z))] 60 0 [some (.inr (.inr (0, 11, 72))), some (.inl x1), some (.inl x2), some (.inl x3), none, none, none, none, none] [] m = F_X11_walk x1 x2 x3 m := by rfl
theorem ct_X11_walk : pj_Ct pj_eI y_X11_walk c_X11_walk 9 (some .int) 5 W_X11_walk := by
  refine pj_ct_of (by decide +kernel) ?_ ?_
  · intro as m r h
    unfold W_X11_walk at h
    split at h
    · simp [pj_l0]
    · cases h
  · intro G A P S Z C as m r h hR
    unfold W_X11_walk at h
    split at h
    · split at h
      · rename_i hbq
        simp only [Bool.and_eq_true, Nat.beq_eq] at hbq
        obtain ⟨rfl, rfl, rfl⟩ := hbq
        exact pj_run_ok (sd_X11_walk C) (List.forall_mem_cons.mpr ⟨sg_X11_walk_51 C  pj_z, fun q h => by cases h⟩) 60 0 _ _ _ _ ((eq_X11_walk _ _ _ _).trans h) hR
      · cases h
    · cases h
/-! AlikeStepsModel.fits(IIII)I -/
abbrev c_X11_fits : ByteArray := prog_13_method_80_code
def y_X11_fits : MethodName := ⟨RX11, "fits", "(IIII)I"⟩
noncomputable def J_X11_fits_200 (k78 : Int32 → Int32 → Int32 → Int32 → Int32 → Int32 → pj_M → Option (Int32 × pj_M)) (x1 : Int32) (x2 : Int32) (x3 : Int32) (x4 : Int32) (x5 : Int32) (x6 : Int32) (x7 : Int32) (m : pj_M) : Option (Int32 × pj_M) := (if x7 = 0 then (k78 x1 x2 x3 x4 (x5 ||| 0) (x6 + 1) m) else (k78 x1 x2 x3 x4 (x5 ||| (1 <<< (x6 &&& 31))) (x6 + 1) m))
noncomputable def H_X11_fits_148 (k78 : Int32 → Int32 → Int32 → Int32 → Int32 → Int32 → pj_M → Option (Int32 × pj_M)) : Nat → Int32 → Int32 → Int32 → Int32 → Int32 → Int32 → Int32 → Int32 → pj_M → Option (Int32 × pj_M)
  | 0, _, _, _, _, _, _, _, _, _ => none
  | n1 + 1, x1, x2, x3, x4, x5, x6, x7, x8, m => ((F_X11_states m).bind fun q1 => (if x8 < q1.1 then (if x7 = 0 then (H_X11_fits_148 k78 n1 x1 x2 x3 x4 x5 x6 0 (x8 + 1) q1.2) else ((F_X11_blockIn (q1.2.1 72 23) x8 q1.2).bind fun q2 => (if ((40 * x3) + x8) < 0 ∨ 320 ≤ ((40 * x3) + x8).toNatClampNeg then none else (if q2.1 = (q2.2.1 75 ((40 * x3) + x8).toNatClampNeg) then (H_X11_fits_148 k78 n1 x1 x2 x3 x4 x5 x6 1 (x8 + 1) q2.2) else (H_X11_fits_148 k78 n1 x1 x2 x3 x4 x5 x6 0 (x8 + 1) q2.2))))) else (J_X11_fits_200 k78 x1 x2 x3 x4 x5 x6 x7 q1.2)))
noncomputable def J_X11_fits_95 (k78 : Int32 → Int32 → Int32 → Int32 → Int32 → Int32 → pj_M → Option (Int32 × pj_M)) (x1 : Int32) (x2 : Int32) (x3 : Int32) (x4 : Int32) (x5 : Int32) (x6 : Int32) (s0 : Int32) (s1 : Int32) (m : pj_M) : Option (Int32 × pj_M) := (if s0 < s1 then ((F_X11_copies 72 78 0 72 79 0 m).bind fun q2 => (if ((12 + (3 * x2)) + x4) < 0 ∨ 72 ≤ ((12 + (3 * x2)) + x4).toNatClampNeg then none else ((F_X11_looks 72 79 0 (pj_wr q2 79 ((12 + (3 * x2)) + x4).toNatClampNeg x6)).bind fun q3 => ((F_X11_partsBy x1 q3).bind fun q4 => (H_X11_fits_148 k78 pj_z x1 x2 x3 x4 x5 x6 1 0 q4.2))))) else ((F_X11_well x5 m).bind fun q1 => (some (q1.1, q1.2))))
noncomputable def H_X11_fits_78 : Nat → Int32 → Int32 → Int32 → Int32 → Int32 → Int32 → pj_M → Option (Int32 × pj_M)
  | 0, _, _, _, _, _, _, _ => none
  | n1 + 1, x1, x2, x3, x4, x5, x6, m => (if x4 = 0 then (J_X11_fits_95 (H_X11_fits_78 n1) x1 x2 x3 x4 x5 x6 x6 4 m) else (if (0 : Int32) < 0 ∨ 72 ≤ (0 : Int32).toNatClampNeg then none else (J_X11_fits_95 (H_X11_fits_78 n1) x1 x2 x3 x4 x5 x6 x6 (m.1 78 (0 : Int32).toNatClampNeg) m)))
noncomputable def F_X11_fits (x1 : Int32) (x2 : Int32) (x3 : Int32) (x4 : Int32) (m : pj_M) : Option (Int32 × pj_M) := ((F_X11_in x1 0 2 m).bind fun q1 => (if q1.1 = 0 then (some ((-1000001), q1.2)) else ((F_X11_isArc x2 q1.2).bind fun q2 => (if q2.1 = 0 then (some ((-1000001), q2.2)) else ((F_X11_isRow x3 q2.2).bind fun q3 => (if q3.1 = 0 then (some ((-1000001), q3.2)) else ((F_X11_in x4 0 2 q3.2).bind fun q4 => (if q4.1 = 0 then (some ((-1000001), q4.2)) else ((F_X11_isMissing x3 q4.2).bind fun q5 => (if q5.1 = 0 then (if (0 : Int32) < 0 ∨ 72 ≤ (0 : Int32).toNatClampNeg then none else ((F_X11_isPart x3 0 (q5.2.1 78 (0 : Int32).toNatClampNeg) q5.2).bind fun q6 => (if q6.1 = 0 then ((F_X11_found 2 q6.2).bind fun q7 => (some (q7.1, q7.2))) else (H_X11_fits_78 pj_z x1 x2 x3 x4 0 0 q6.2)))) else ((F_X11_found 1 q5.2).bind fun q8 => (some (q8.1, q8.2)))))))))))))
noncomputable def W_X11_fits : List pj_V → pj_M → Option (Int32 × pj_M) := fun as m => match as with
  | [.inr (.inr (t0, w0, a0)), .inl x1, .inl x2, .inl x3, .inl x4] => (match Nat.beq t0 0 && (Nat.beq w0 11 && (Nat.beq a0 72)) with
    | true => F_X11_fits x1 x2 x3 x4 m
    | false => none)
  | _ => none
noncomputable def tb_X11_fits_0 : List (Nat × pj_T (Int32 × pj_M)) := [(0, qs_ldi 1 1), (1, qs_ci 0 2), (2, qs_ci 2 3), (3, qs_sI 3 W_X11_in 6), (6, qs_ifeq 34 9), (9, qs_lda 0 10), (10, qs_ldi 2 11), (11, qs_vI 11 2 W_X11_isArc 14), (14, qs_ifeq 34 17), (17, qs_ldi 3 18), (18, qs_sI 1 W_X11_isRow 21), (21, qs_ifeq 34 24), (24, qs_ldi 4 26), (26, qs_ci 0 27), (27, qs_ci 2 28), (28, qs_sI 3 W_X11_in 31), (31, qs_ifne 37 34), (34, qs_ci (-1000001) 36), (36, qs_iret), (37, qs_lda 0 38), (38, qs_ldi 3 39), (39, qs_vI 11 2 W_X11_isMissing 42), (42, qs_ifeq 51 45), (45, qs_lda 0 46), (46, qs_ci 1 47), (47, qs_vI 11 2 W_X11_found 50), (50, qs_iret), (51, qs_lda 0 52), (52, qs_ldi 3 53), (53, qs_ci 0 54), (54, qs_lda 0 55), (55, qs_gf 11 13 58), (58, qs_ci 0 59), (59, qs_iald 60), (60, qs_vI 11 4 W_X11_isPart 63), (63, qs_ifne 72 66), (66, qs_lda 0 67), (67, qs_ci 2 68), (68, qs_vI 11 2 W_X11_found 71), (71, qs_iret)]
noncomputable def tb_X11_fits_1 : List (Nat × pj_T (Int32 × pj_M)) := [(72, qs_ci 0 73), (73, qs_sti 5 75), (75, qs_ci 0 76), (76, qs_sti 6 78), (78, qs_ldi 6 80), (80, qs_ldi 4 82), (82, qs_ifne 89 85), (85, qs_ci 4 86), (86, qs_go 95), (89, qs_lda 0 90), (90, qs_gf 11 13 93), (93, qs_ci 0 94), (94, qs_iald 95), (95, qs_icge 224 98), (98, qs_lda 0 99), (99, qs_gf 11 13 102), (102, qs_ci 0 103), (103, qs_lda 0 104), (104, qs_gf 11 14 107), (107, qs_ci 0 108), (108, qs_sV 4 W_X11_copies 111), (111, qs_lda 0 112), (112, qs_gf 11 14 115), (115, qs_ci 12 117), (117, qs_ci 3 118), (118, qs_ldi 2 119), (119, qs_b2 (fun x y => x * y) 120), (120, qs_b2 (fun x y => x + y) 121), (121, qs_ldi 4 123), (123, qs_b2 (fun x y => x + y) 124), (124, qs_ldi 6 126), (126, qs_iast 127), (127, qs_lda 0 128), (128, qs_lda 0 129), (129, qs_gf 11 14 132), (132, qs_ci 0 133), (133, qs_vV 11 3 W_X11_looks 136), (136, qs_lda 0 137), (137, qs_ldi 1 138), (138, qs_vI 11 2 W_X11_partsBy 141)]
noncomputable def tb_X11_fits_2 : List (Nat × pj_T (Int32 × pj_M)) := [(141, qs_pop 142), (142, qs_ci 1 143), (143, qs_sti 7 145), (145, qs_ci 0 146), (146, qs_sti 8 148), (148, qs_ldi 8 150), (150, qs_lda 0 151), (151, qs_vI 11 1 W_X11_states 154), (154, qs_icge 200 157), (157, qs_ldi 7 159), (159, qs_ifeq 191 162), (162, qs_lda 0 163), (163, qs_lda 0 164), (164, qs_gf 11 23 167), (167, qs_ldi 8 169), (169, qs_vI 11 3 W_X11_blockIn 172), (172, qs_lda 0 173), (173, qs_gf 11 2 176), (176, qs_ci 40 178), (178, qs_ldi 3 179), (179, qs_b2 (fun x y => x * y) 180), (180, qs_ldi 8 182), (182, qs_b2 (fun x y => x + y) 183), (183, qs_iald 184), (184, qs_icne 191 187), (187, qs_ci 1 188), (188, qs_go 192), (191, qs_ci 0 192), (192, qs_sti 7 194), (194, qs_inc 8 1 197), (197, qs_go 148), (200, qs_ldi 5 202), (202, qs_ldi 7 204), (204, qs_ifeq 214 207), (207, qs_ci 1 208), (208, qs_ldi 6 210), (210, qs_b2 (fun x y => x <<< (y &&& 31)) 211), (211, qs_go 215), (214, qs_ci 0 215), (215, qs_b2 (fun x y => x ||| y) 216)]
noncomputable def tb_X11_fits_3 : List (Nat × pj_T (Int32 × pj_M)) := [(216, qs_sti 5 218), (218, qs_inc 6 1 221), (221, qs_go 78), (224, qs_lda 0 225), (225, qs_ldi 5 227), (227, qs_vI 11 2 W_X11_well 230), (230, qs_iret)]
noncomputable def tb_X11_fits : List (Nat × pj_T (Int32 × pj_M)) := tb_X11_fits_0 ++ (tb_X11_fits_1 ++ (tb_X11_fits_2 ++ (tb_X11_fits_3)))
theorem mv_X11_fits : pj_mv y_X11_fits c_X11_fits 9 (some .int) 4 := ⟨⟨cw_1427, cw_1425, cw_1426, cw_92⟩, by decide +kernel, by decide⟩
set_option maxRecDepth 20000 in
theorem sd_X11_fits_0 {G : pj_E} {A : Nat → Prop} {P : pj_P} {S : pj_U} {Z : pj_Z} (C : pj_C (G, A, (c_X11_fits, y_X11_fits.cls, 9, (some .int), 6), P, S, Z)) : ∀ q ∈ tb_X11_fits_0, pj_S (G, A, (c_X11_fits, y_X11_fits.cls, 9, (some .int), 6), P, S, Z) pj_eI q.1 q.2 :=
  List.forall_mem_cons.mpr ⟨qz_iload_n C (show decode c_X11_fits 0 = .ok (.iload_n 1, 1) by decide +kernel) rfl,
  List.forall_mem_cons.mpr ⟨qz_iconst C (show decode c_X11_fits 1 = .ok (.iconst 0, 1) by decide +kernel) (by decide +kernel),
  List.forall_mem_cons.mpr ⟨qz_iconst C (show decode c_X11_fits 2 = .ok (.iconst 2, 1) by decide +kernel) (by decide +kernel),
  List.forall_mem_cons.mpr ⟨qz_sI C (show decode c_X11_fits 3 = .ok (.invokestatic 84, 3) by decide +kernel) ct_X11_in mv_X11_in (Or.inl cw_1126) (show 1 < 6 by omega),
  List.forall_mem_cons.mpr ⟨qz_ifeq C (show decode c_X11_fits 6 = .ok (.ifCond .eq 28, 3) by decide +kernel) (by decide),
  List.forall_mem_cons.mpr ⟨qz_aload_n C (show decode c_X11_fits 9 = .ok (.aload_n 0, 1) by decide +kernel) rfl,
  List.forall_mem_cons.mpr ⟨qz_iload_n C (show decode c_X11_fits 10 = .ok (.iload_n 2, 1) by decide +kernel) rfl,
  List.forall_mem_cons.mpr ⟨qz_vI C (show decode c_X11_fits 11 = .ok (.invokevirtual 231, 3) by decide +kernel) ct_X11_isArc mv_X11_isArc cw_1236 vcX11 (show 2 < 6 by omega),
  List.forall_mem_cons.mpr ⟨qz_ifeq C (show decode c_X11_fits 14 = .ok (.ifCond .eq 20, 3) by decide +kernel) (by decide),
  List.forall_mem_cons.mpr ⟨qz_iload_n C (show decode c_X11_fits 17 = .ok (.iload_n 3, 1) by decide +kernel) rfl,
  List.forall_mem_cons.mpr ⟨qz_sI C (show decode c_X11_fits 18 = .ok (.invokestatic 88, 3) by decide +kernel) ct_X11_isRow mv_X11_isRow (Or.inl cw_1123) (show 2 < 6 by omega),
  List.forall_mem_cons.mpr ⟨qz_ifeq C (show decode c_X11_fits 21 = .ok (.ifCond .eq 13, 3) by decide +kernel) (by decide),
  List.forall_mem_cons.mpr ⟨qz_iload C (show decode c_X11_fits 24 = .ok (.iload 4, 2) by decide +kernel),
  List.forall_mem_cons.mpr ⟨qz_iconst C (show decode c_X11_fits 26 = .ok (.iconst 0, 1) by decide +kernel) (by decide +kernel),
  List.forall_mem_cons.mpr ⟨qz_iconst C (show decode c_X11_fits 27 = .ok (.iconst 2, 1) by decide +kernel) (by decide +kernel),
  List.forall_mem_cons.mpr ⟨qz_sI C (show decode c_X11_fits 28 = .ok (.invokestatic 84, 3) by decide +kernel) ct_X11_in mv_X11_in (Or.inl cw_1126) (show 1 < 6 by omega),
  List.forall_mem_cons.mpr ⟨qz_ifne C (show decode c_X11_fits 31 = .ok (.ifCond .ne 6, 3) by decide +kernel) (by decide),
  List.forall_mem_cons.mpr ⟨qz_ldc C (show decode c_X11_fits 34 = .ok (.ldc 92, 2) by decide +kernel) cw_1129,
  List.forall_mem_cons.mpr ⟨qz_iret C (show decode c_X11_fits 36 = .ok (.ireturn, 1) by decide +kernel) rfl,
  List.forall_mem_cons.mpr ⟨qz_aload_n C (show decode c_X11_fits 37 = .ok (.aload_n 0, 1) by decide +kernel) rfl,
  List.forall_mem_cons.mpr ⟨qz_iload_n C (show decode c_X11_fits 38 = .ok (.iload_n 3, 1) by decide +kernel) rfl,
  List.forall_mem_cons.mpr ⟨qz_vI C (show decode c_X11_fits 39 = .ok (.invokevirtual 100, 3) by decide +kernel) ct_X11_isMissing mv_X11_isMissing cw_1143 vcX11 (show 1 < 6 by omega),
  List.forall_mem_cons.mpr ⟨qz_ifeq C (show decode c_X11_fits 42 = .ok (.ifCond .eq 9, 3) by decide +kernel) (by decide),
  List.forall_mem_cons.mpr ⟨qz_aload_n C (show decode c_X11_fits 45 = .ok (.aload_n 0, 1) by decide +kernel) rfl,
  List.forall_mem_cons.mpr ⟨qz_iconst C (show decode c_X11_fits 46 = .ok (.iconst 1, 1) by decide +kernel) (by decide +kernel),
  List.forall_mem_cons.mpr ⟨qz_vI C (show decode c_X11_fits 47 = .ok (.invokevirtual 93, 3) by decide +kernel) ct_X11_found mv_X11_found cw_1130 vcX11 (show 1 < 6 by omega),
  List.forall_mem_cons.mpr ⟨qz_iret C (show decode c_X11_fits 50 = .ok (.ireturn, 1) by decide +kernel) rfl,
  List.forall_mem_cons.mpr ⟨qz_aload_n C (show decode c_X11_fits 51 = .ok (.aload_n 0, 1) by decide +kernel) rfl,
  List.forall_mem_cons.mpr ⟨qz_iload_n C (show decode c_X11_fits 52 = .ok (.iload_n 3, 1) by decide +kernel) rfl,
  List.forall_mem_cons.mpr ⟨qz_iconst C (show decode c_X11_fits 53 = .ok (.iconst 0, 1) by decide +kernel) (by decide +kernel),
  List.forall_mem_cons.mpr ⟨qz_aload_n C (show decode c_X11_fits 54 = .ok (.aload_n 0, 1) by decide +kernel) rfl,
  List.forall_mem_cons.mpr ⟨qz_gf (k := 13) C (show decode c_X11_fits 55 = .ok (.getfield 25, 3) by decide +kernel) vcX11 wiX11 (by decide) cw_1031,
  List.forall_mem_cons.mpr ⟨qz_iconst C (show decode c_X11_fits 58 = .ok (.iconst 0, 1) by decide +kernel) (by decide +kernel),
  List.forall_mem_cons.mpr ⟨qz_iald C (show decode c_X11_fits 59 = .ok (.iaload, 1) by decide +kernel),
  List.forall_mem_cons.mpr ⟨qz_vI C (show decode c_X11_fits 60 = .ok (.invokevirtual 107, 3) by decide +kernel) ct_X11_isPart mv_X11_isPart cw_1154 vcX11 (show 1 < 6 by omega),
  List.forall_mem_cons.mpr ⟨qz_ifne C (show decode c_X11_fits 63 = .ok (.ifCond .ne 9, 3) by decide +kernel) (by decide),
  List.forall_mem_cons.mpr ⟨qz_aload_n C (show decode c_X11_fits 66 = .ok (.aload_n 0, 1) by decide +kernel) rfl,
  List.forall_mem_cons.mpr ⟨qz_iconst C (show decode c_X11_fits 67 = .ok (.iconst 2, 1) by decide +kernel) (by decide +kernel),
  List.forall_mem_cons.mpr ⟨qz_vI C (show decode c_X11_fits 68 = .ok (.invokevirtual 93, 3) by decide +kernel) ct_X11_found mv_X11_found cw_1130 vcX11 (show 1 < 6 by omega),
  List.forall_mem_cons.mpr ⟨qz_iret C (show decode c_X11_fits 71 = .ok (.ireturn, 1) by decide +kernel) rfl,
  (fun q h => by cases h)⟩⟩⟩⟩⟩⟩⟩⟩⟩⟩⟩⟩⟩⟩⟩⟩⟩⟩⟩⟩⟩⟩⟩⟩⟩⟩⟩⟩⟩⟩⟩⟩⟩⟩⟩⟩⟩⟩⟩⟩
set_option maxRecDepth 20000 in
theorem sd_X11_fits_1 {G : pj_E} {A : Nat → Prop} {P : pj_P} {S : pj_U} {Z : pj_Z} (C : pj_C (G, A, (c_X11_fits, y_X11_fits.cls, 9, (some .int), 6), P, S, Z)) : ∀ q ∈ tb_X11_fits_1, pj_S (G, A, (c_X11_fits, y_X11_fits.cls, 9, (some .int), 6), P, S, Z) pj_eI q.1 q.2 :=
  List.forall_mem_cons.mpr ⟨qz_iconst C (show decode c_X11_fits 72 = .ok (.iconst 0, 1) by decide +kernel) (by decide +kernel),
  List.forall_mem_cons.mpr ⟨qz_istore C (show decode c_X11_fits 73 = .ok (.istore 5, 2) by decide +kernel),
  List.forall_mem_cons.mpr ⟨qz_iconst C (show decode c_X11_fits 75 = .ok (.iconst 0, 1) by decide +kernel) (by decide +kernel),
  List.forall_mem_cons.mpr ⟨qz_istore C (show decode c_X11_fits 76 = .ok (.istore 6, 2) by decide +kernel),
  List.forall_mem_cons.mpr ⟨qz_iload C (show decode c_X11_fits 78 = .ok (.iload 6, 2) by decide +kernel),
  List.forall_mem_cons.mpr ⟨qz_iload C (show decode c_X11_fits 80 = .ok (.iload 4, 2) by decide +kernel),
  List.forall_mem_cons.mpr ⟨qz_ifne C (show decode c_X11_fits 82 = .ok (.ifCond .ne 7, 3) by decide +kernel) (by decide),
  List.forall_mem_cons.mpr ⟨qz_iconst C (show decode c_X11_fits 85 = .ok (.iconst 4, 1) by decide +kernel) (by decide +kernel),
  List.forall_mem_cons.mpr ⟨qz_goto C (show decode c_X11_fits 86 = .ok (.goto 9, 3) by decide +kernel) (by decide),
  List.forall_mem_cons.mpr ⟨qz_aload_n C (show decode c_X11_fits 89 = .ok (.aload_n 0, 1) by decide +kernel) rfl,
  List.forall_mem_cons.mpr ⟨qz_gf (k := 13) C (show decode c_X11_fits 90 = .ok (.getfield 25, 3) by decide +kernel) vcX11 wiX11 (by decide) cw_1031,
  List.forall_mem_cons.mpr ⟨qz_iconst C (show decode c_X11_fits 93 = .ok (.iconst 0, 1) by decide +kernel) (by decide +kernel),
  List.forall_mem_cons.mpr ⟨qz_iald C (show decode c_X11_fits 94 = .ok (.iaload, 1) by decide +kernel),
  List.forall_mem_cons.mpr ⟨qz_icge C (show decode c_X11_fits 95 = .ok (.if_icmp .ge 129, 3) by decide +kernel) (by decide),
  List.forall_mem_cons.mpr ⟨qz_aload_n C (show decode c_X11_fits 98 = .ok (.aload_n 0, 1) by decide +kernel) rfl,
  List.forall_mem_cons.mpr ⟨qz_gf (k := 13) C (show decode c_X11_fits 99 = .ok (.getfield 25, 3) by decide +kernel) vcX11 wiX11 (by decide) cw_1031,
  List.forall_mem_cons.mpr ⟨qz_iconst C (show decode c_X11_fits 102 = .ok (.iconst 0, 1) by decide +kernel) (by decide +kernel),
  List.forall_mem_cons.mpr ⟨qz_aload_n C (show decode c_X11_fits 103 = .ok (.aload_n 0, 1) by decide +kernel) rfl,
  List.forall_mem_cons.mpr ⟨qz_gf (k := 14) C (show decode c_X11_fits 104 = .ok (.getfield 28, 3) by decide +kernel) vcX11 wiX11 (by decide) cw_1032,
  List.forall_mem_cons.mpr ⟨qz_iconst C (show decode c_X11_fits 107 = .ok (.iconst 0, 1) by decide +kernel) (by decide +kernel),
  List.forall_mem_cons.mpr ⟨qz_sV C (show decode c_X11_fits 108 = .ok (.invokestatic 166, 3) by decide +kernel) ct_X11_copies mv_X11_copies (Or.inl cw_1210) (show 1 < 6 by omega),
  List.forall_mem_cons.mpr ⟨qz_aload_n C (show decode c_X11_fits 111 = .ok (.aload_n 0, 1) by decide +kernel) rfl,
  List.forall_mem_cons.mpr ⟨qz_gf (k := 14) C (show decode c_X11_fits 112 = .ok (.getfield 28, 3) by decide +kernel) vcX11 wiX11 (by decide) cw_1032,
  List.forall_mem_cons.mpr ⟨qz_bipush C (show decode c_X11_fits 115 = .ok (.bipush 12, 2) by decide +kernel) (by decide +kernel),
  List.forall_mem_cons.mpr ⟨qz_iconst C (show decode c_X11_fits 117 = .ok (.iconst 3, 1) by decide +kernel) (by decide +kernel),
  List.forall_mem_cons.mpr ⟨qz_iload_n C (show decode c_X11_fits 118 = .ok (.iload_n 2, 1) by decide +kernel) rfl,
  List.forall_mem_cons.mpr ⟨qz_imul C (show decode c_X11_fits 119 = .ok (.imul, 1) by decide +kernel),
  List.forall_mem_cons.mpr ⟨qz_iadd C (show decode c_X11_fits 120 = .ok (.iadd, 1) by decide +kernel),
  List.forall_mem_cons.mpr ⟨qz_iload C (show decode c_X11_fits 121 = .ok (.iload 4, 2) by decide +kernel),
  List.forall_mem_cons.mpr ⟨qz_iadd C (show decode c_X11_fits 123 = .ok (.iadd, 1) by decide +kernel),
  List.forall_mem_cons.mpr ⟨qz_iload C (show decode c_X11_fits 124 = .ok (.iload 6, 2) by decide +kernel),
  List.forall_mem_cons.mpr ⟨qz_iast C (show decode c_X11_fits 126 = .ok (.iastore, 1) by decide +kernel),
  List.forall_mem_cons.mpr ⟨qz_aload_n C (show decode c_X11_fits 127 = .ok (.aload_n 0, 1) by decide +kernel) rfl,
  List.forall_mem_cons.mpr ⟨qz_aload_n C (show decode c_X11_fits 128 = .ok (.aload_n 0, 1) by decide +kernel) rfl,
  List.forall_mem_cons.mpr ⟨qz_gf (k := 14) C (show decode c_X11_fits 129 = .ok (.getfield 28, 3) by decide +kernel) vcX11 wiX11 (by decide) cw_1032,
  List.forall_mem_cons.mpr ⟨qz_iconst C (show decode c_X11_fits 132 = .ok (.iconst 0, 1) by decide +kernel) (by decide +kernel),
  List.forall_mem_cons.mpr ⟨qz_vV C (show decode c_X11_fits 133 = .ok (.invokevirtual 235, 3) by decide +kernel) ct_X11_looks mv_X11_looks cw_1261 vcX11 (show 4 < 6 by omega),
  List.forall_mem_cons.mpr ⟨qz_aload_n C (show decode c_X11_fits 136 = .ok (.aload_n 0, 1) by decide +kernel) rfl,
  List.forall_mem_cons.mpr ⟨qz_iload_n C (show decode c_X11_fits 137 = .ok (.iload_n 1, 1) by decide +kernel) rfl,
  List.forall_mem_cons.mpr ⟨qz_vI C (show decode c_X11_fits 138 = .ok (.invokevirtual 239, 3) by decide +kernel) ct_X11_partsBy mv_X11_partsBy cw_1300 vcX11 (show 5 < 6 by omega),
  (fun q h => by cases h)⟩⟩⟩⟩⟩⟩⟩⟩⟩⟩⟩⟩⟩⟩⟩⟩⟩⟩⟩⟩⟩⟩⟩⟩⟩⟩⟩⟩⟩⟩⟩⟩⟩⟩⟩⟩⟩⟩⟩⟩
set_option maxRecDepth 20000 in
theorem sd_X11_fits_2 {G : pj_E} {A : Nat → Prop} {P : pj_P} {S : pj_U} {Z : pj_Z} (C : pj_C (G, A, (c_X11_fits, y_X11_fits.cls, 9, (some .int), 6), P, S, Z)) : ∀ q ∈ tb_X11_fits_2, pj_S (G, A, (c_X11_fits, y_X11_fits.cls, 9, (some .int), 6), P, S, Z) pj_eI q.1 q.2 :=
  List.forall_mem_cons.mpr ⟨qz_pop C (show decode c_X11_fits 141 = .ok (.pop, 1) by decide +kernel),
  List.forall_mem_cons.mpr ⟨qz_iconst C (show decode c_X11_fits 142 = .ok (.iconst 1, 1) by decide +kernel) (by decide +kernel),
  List.forall_mem_cons.mpr ⟨qz_istore C (show decode c_X11_fits 143 = .ok (.istore 7, 2) by decide +kernel),
  List.forall_mem_cons.mpr ⟨qz_iconst C (show decode c_X11_fits 145 = .ok (.iconst 0, 1) by decide +kernel) (by decide +kernel),
  List.forall_mem_cons.mpr ⟨qz_istore C (show decode c_X11_fits 146 = .ok (.istore 8, 2) by decide +kernel),
  List.forall_mem_cons.mpr ⟨qz_iload C (show decode c_X11_fits 148 = .ok (.iload 8, 2) by decide +kernel),
  List.forall_mem_cons.mpr ⟨qz_aload_n C (show decode c_X11_fits 150 = .ok (.aload_n 0, 1) by decide +kernel) rfl,
  List.forall_mem_cons.mpr ⟨qz_vI C (show decode c_X11_fits 151 = .ok (.invokevirtual 177, 3) by decide +kernel) ct_X11_states mv_X11_states cw_1269 vcX11 (show 1 < 6 by omega),
  List.forall_mem_cons.mpr ⟨qz_icge C (show decode c_X11_fits 154 = .ok (.if_icmp .ge 46, 3) by decide +kernel) (by decide),
  List.forall_mem_cons.mpr ⟨qz_iload C (show decode c_X11_fits 157 = .ok (.iload 7, 2) by decide +kernel),
  List.forall_mem_cons.mpr ⟨qz_ifeq C (show decode c_X11_fits 159 = .ok (.ifCond .eq 32, 3) by decide +kernel) (by decide),
  List.forall_mem_cons.mpr ⟨qz_aload_n C (show decode c_X11_fits 162 = .ok (.aload_n 0, 1) by decide +kernel) rfl,
  List.forall_mem_cons.mpr ⟨qz_aload_n C (show decode c_X11_fits 163 = .ok (.aload_n 0, 1) by decide +kernel) rfl,
  List.forall_mem_cons.mpr ⟨qz_gf (k := 23) C (show decode c_X11_fits 164 = .ok (.getfield 216, 3) by decide +kernel) vcX11 wiX11 (by decide) cw_1041,
  List.forall_mem_cons.mpr ⟨qz_iload C (show decode c_X11_fits 167 = .ok (.iload 8, 2) by decide +kernel),
  List.forall_mem_cons.mpr ⟨qz_vI C (show decode c_X11_fits 169 = .ok (.invokevirtual 194, 3) by decide +kernel) ct_X11_blockIn mv_X11_blockIn cw_1312 vcX11 (show 1 < 6 by omega),
  List.forall_mem_cons.mpr ⟨qz_aload_n C (show decode c_X11_fits 172 = .ok (.aload_n 0, 1) by decide +kernel) rfl,
  List.forall_mem_cons.mpr ⟨qz_gf (k := 2) C (show decode c_X11_fits 173 = .ok (.getfield 16, 3) by decide +kernel) vcX11 wiX11 (by decide) cw_1020,
  List.forall_mem_cons.mpr ⟨qz_bipush C (show decode c_X11_fits 176 = .ok (.bipush 40, 2) by decide +kernel) (by decide +kernel),
  List.forall_mem_cons.mpr ⟨qz_iload_n C (show decode c_X11_fits 178 = .ok (.iload_n 3, 1) by decide +kernel) rfl,
  List.forall_mem_cons.mpr ⟨qz_imul C (show decode c_X11_fits 179 = .ok (.imul, 1) by decide +kernel),
  List.forall_mem_cons.mpr ⟨qz_iload C (show decode c_X11_fits 180 = .ok (.iload 8, 2) by decide +kernel),
  List.forall_mem_cons.mpr ⟨qz_iadd C (show decode c_X11_fits 182 = .ok (.iadd, 1) by decide +kernel),
  List.forall_mem_cons.mpr ⟨qz_iald C (show decode c_X11_fits 183 = .ok (.iaload, 1) by decide +kernel),
  List.forall_mem_cons.mpr ⟨qz_icne C (show decode c_X11_fits 184 = .ok (.if_icmp .ne 7, 3) by decide +kernel) (by decide),
  List.forall_mem_cons.mpr ⟨qz_iconst C (show decode c_X11_fits 187 = .ok (.iconst 1, 1) by decide +kernel) (by decide +kernel),
  List.forall_mem_cons.mpr ⟨qz_goto C (show decode c_X11_fits 188 = .ok (.goto 4, 3) by decide +kernel) (by decide),
  List.forall_mem_cons.mpr ⟨qz_iconst C (show decode c_X11_fits 191 = .ok (.iconst 0, 1) by decide +kernel) (by decide +kernel),
  List.forall_mem_cons.mpr ⟨qz_istore C (show decode c_X11_fits 192 = .ok (.istore 7, 2) by decide +kernel),
  List.forall_mem_cons.mpr ⟨qz_iinc C (show decode c_X11_fits 194 = .ok (.iinc 8 1, 3) by decide +kernel) (by decide +kernel),
  List.forall_mem_cons.mpr ⟨qz_goto C (show decode c_X11_fits 197 = .ok (.goto (-49), 3) by decide +kernel) (by decide),
  List.forall_mem_cons.mpr ⟨qz_iload C (show decode c_X11_fits 200 = .ok (.iload 5, 2) by decide +kernel),
  List.forall_mem_cons.mpr ⟨qz_iload C (show decode c_X11_fits 202 = .ok (.iload 7, 2) by decide +kernel),
  List.forall_mem_cons.mpr ⟨qz_ifeq C (show decode c_X11_fits 204 = .ok (.ifCond .eq 10, 3) by decide +kernel) (by decide),
  List.forall_mem_cons.mpr ⟨qz_iconst C (show decode c_X11_fits 207 = .ok (.iconst 1, 1) by decide +kernel) (by decide +kernel),
  List.forall_mem_cons.mpr ⟨qz_iload C (show decode c_X11_fits 208 = .ok (.iload 6, 2) by decide +kernel),
  List.forall_mem_cons.mpr ⟨qz_ishl C (show decode c_X11_fits 210 = .ok (.ishl, 1) by decide +kernel),
  List.forall_mem_cons.mpr ⟨qz_goto C (show decode c_X11_fits 211 = .ok (.goto 4, 3) by decide +kernel) (by decide),
  List.forall_mem_cons.mpr ⟨qz_iconst C (show decode c_X11_fits 214 = .ok (.iconst 0, 1) by decide +kernel) (by decide +kernel),
  List.forall_mem_cons.mpr ⟨qz_ior C (show decode c_X11_fits 215 = .ok (.ior, 1) by decide +kernel),
  (fun q h => by cases h)⟩⟩⟩⟩⟩⟩⟩⟩⟩⟩⟩⟩⟩⟩⟩⟩⟩⟩⟩⟩⟩⟩⟩⟩⟩⟩⟩⟩⟩⟩⟩⟩⟩⟩⟩⟩⟩⟩⟩⟩
set_option maxRecDepth 20000 in
theorem sd_X11_fits_3 {G : pj_E} {A : Nat → Prop} {P : pj_P} {S : pj_U} {Z : pj_Z} (C : pj_C (G, A, (c_X11_fits, y_X11_fits.cls, 9, (some .int), 6), P, S, Z)) : ∀ q ∈ tb_X11_fits_3, pj_S (G, A, (c_X11_fits, y_X11_fits.cls, 9, (some .int), 6), P, S, Z) pj_eI q.1 q.2 :=
  List.forall_mem_cons.mpr ⟨qz_istore C (show decode c_X11_fits 216 = .ok (.istore 5, 2) by decide +kernel),
  List.forall_mem_cons.mpr ⟨qz_iinc C (show decode c_X11_fits 218 = .ok (.iinc 6 1, 3) by decide +kernel) (by decide +kernel),
  List.forall_mem_cons.mpr ⟨qz_goto C (show decode c_X11_fits 221 = .ok (.goto (-143), 3) by decide +kernel) (by decide),
  List.forall_mem_cons.mpr ⟨qz_aload_n C (show decode c_X11_fits 224 = .ok (.aload_n 0, 1) by decide +kernel) rfl,
  List.forall_mem_cons.mpr ⟨qz_iload C (show decode c_X11_fits 225 = .ok (.iload 5, 2) by decide +kernel),
  List.forall_mem_cons.mpr ⟨qz_vI C (show decode c_X11_fits 227 = .ok (.invokevirtual 97, 3) by decide +kernel) ct_X11_well mv_X11_well cw_1135 vcX11 (show 1 < 6 by omega),
  List.forall_mem_cons.mpr ⟨qz_iret C (show decode c_X11_fits 230 = .ok (.ireturn, 1) by decide +kernel) rfl,
  (fun q h => by cases h)⟩⟩⟩⟩⟩⟩⟩
theorem sd_X11_fits {G : pj_E} {A : Nat → Prop} {P : pj_P} {S : pj_U} {Z : pj_Z} (C : pj_C (G, A, (c_X11_fits, y_X11_fits.cls, 9, (some .int), 6), P, S, Z)) : ∀ q ∈ tb_X11_fits, pj_S (G, A, (c_X11_fits, y_X11_fits.cls, 9, (some .int), 6), P, S, Z) pj_eI q.1 q.2 := List.forall_mem_append.mpr ⟨sd_X11_fits_0 C, List.forall_mem_append.mpr ⟨sd_X11_fits_1 C, List.forall_mem_append.mpr ⟨sd_X11_fits_2 C, sd_X11_fits_3 C⟩⟩⟩
noncomputable def C_X11_fits_200 (f : Int32 → Int32 → Int32 → Int32 → Int32 → Int32 → Int32 → pj_M → Option (Int32 × pj_M)) : pj_N (Int32 × pj_M) := fun L st m => match L, st with
  | [some (.inr (.inr (t0, w0, a0))), some (.inl x1), some (.inl x2), some (.inl x3), some (.inl x4), some (.inl x5), some (.inl x6), some (.inl x7), _], [] => (match Nat.beq t0 0 && (Nat.beq w0 11 && (Nat.beq a0 72)) with
    | true => f x1 x2 x3 x4 x5 x6 x7 m
    | false => none)
  | _, _ => none
noncomputable def C_X11_fits_148 (f : Int32 → Int32 → Int32 → Int32 → Int32 → Int32 → Int32 → Int32 → pj_M → Option (Int32 × pj_M)) : pj_N (Int32 × pj_M) := fun L st m => match L, st with
  | [some (.inr (.inr (t0, w0, a0))), some (.inl x1), some (.inl x2), some (.inl x3), some (.inl x4), some (.inl x5), some (.inl x6), some (.inl x7), some (.inl x8)], [] => (match Nat.beq t0 0 && (Nat.beq w0 11 && (Nat.beq a0 72)) with
    | true => f x1 x2 x3 x4 x5 x6 x7 x8 m
    | false => none)
  | _, _ => none
noncomputable def C_X11_fits_95 (f : Int32 → Int32 → Int32 → Int32 → Int32 → Int32 → Int32 → Int32 → pj_M → Option (Int32 × pj_M)) : pj_N (Int32 × pj_M) := fun L st m => match L, st with
  | [some (.inr (.inr (t0, w0, a0))), some (.inl x1), some (.inl x2), some (.inl x3), some (.inl x4), some (.inl x5), some (.inl x6), _, _], [.inl s1, .inl s0] => (match Nat.beq t0 0 && (Nat.beq w0 11 && (Nat.beq a0 72)) with
    | true => f x1 x2 x3 x4 x5 x6 s0 s1 m
    | false => none)
  | _, _ => none
noncomputable def C_X11_fits_78 (f : Int32 → Int32 → Int32 → Int32 → Int32 → Int32 → pj_M → Option (Int32 × pj_M)) : pj_N (Int32 × pj_M) := fun L st m => match L, st with
  | [some (.inr (.inr (t0, w0, a0))), some (.inl x1), some (.inl x2), some (.inl x3), some (.inl x4), some (.inl x5), some (.inl x6), _, _], [] => (match Nat.beq t0 0 && (Nat.beq w0 11 && (Nat.beq a0 72)) with
    | true => f x1 x2 x3 x4 x5 x6 m
    | false => none)
  | _, _ => none
set_option maxRecDepth 20000 in
theorem eq_X11_fits_200 (k78 : Int32 → Int32 → Int32 → Int32 → Int32 → Int32 → pj_M → Option (Int32 × pj_M)) (x1 : Int32) (x2 : Int32) (x3 : Int32) (x4 : Int32) (x5 : Int32) (x6 : Int32) (x7 : Int32) (d8 : Option pj_V) (m : pj_M) : pj_run tb_X11_fits [(78, C_X11_fits_78 k78)] 129 200 [some (.inr (.inr (0, 11, 72))), some (.inl x1), some (.inl x2), some (.inl x3), some (.inl x4), some (.inl x5), some (.inl x6), some (.inl x7), d8] [] m = J_X11_fits_200 k78 x1 x2 x3 x4 x5 x6 x7 m := by rfl
theorem sg_X11_fits_200 {G : pj_E} {A : Nat → Prop} {P : pj_P} {S : pj_U} {Z : pj_Z} (C : pj_C (G, A, (c_X11_fits, y_X11_fits.cls, 9, (some .int), 6), P, S, Z)) {k78 : Int32 → Int32 → Int32 → Int32 → Int32 → Int32 → pj_M → Option (Int32 × pj_M)} (hk78 : pj_G (G, A, (c_X11_fits, y_X11_fits.cls, 9, (some .int), 6), P, S, Z) pj_eI 78 (C_X11_fits_78 k78)) : pj_G (G, A, (c_X11_fits, y_X11_fits.cls, 9, (some .int), 6), P, S, Z) pj_eI 200 (C_X11_fits_200 (J_X11_fits_200 k78)) := by
  intro L st m r h hR
  unfold C_X11_fits_200 at h
  split at h
  · split at h
    · rename_i hbq
      simp only [Bool.and_eq_true, Nat.beq_eq] at hbq
      obtain ⟨rfl, rfl, rfl⟩ := hbq
      exact pj_run_ok (sd_X11_fits C) (List.forall_mem_cons.mpr ⟨hk78, fun q h => by cases h⟩) 129 200 _ _ _ _ ((eq_X11_fits_200 _ _ _ _ _ _ _ _ _ _).trans h) hR
    · cases h
  · cases h
set_option maxRecDepth 20000 in
theorem eq_X11_fits_148 (k78 : Int32 → Int32 → Int32 → Int32 → Int32 → Int32 → pj_M → Option (Int32 × pj_M)) (n1 : Nat) (x1 : Int32) (x2 : Int32) (x3 : Int32) (x4 : Int32) (x5 : Int32) (x6 : Int32) (x7 : Int32) (x8 : Int32) (m : pj_M) : pj_run tb_X11_fits [(148, C_X11_fits_148 (H_X11_fits_148 k78 n1)), (200, C_X11_fits_200 (J_X11_fits_200 k78))] 129 148 [some (.inr (.inr (0, 11, 72))), some (.inl x1), some (.inl x2), some (.inl x3), some (.inl x4), some (.inl x5), some (.inl x6), some (.inl x7), some (.inl x8)] [] m = H_X11_fits_148 k78 (n1 + 1) x1 x2 x3 x4 x5 x6 x7 x8 m := by rfl
theorem sg_X11_fits_148 {G : pj_E} {A : Nat → Prop} {P : pj_P} {S : pj_U} {Z : pj_Z} (C : pj_C (G, A, (c_X11_fits, y_X11_fits.cls, 9, (some .int), 6), P, S, Z)) {k78 : Int32 → Int32 → Int32 → Int32 → Int32 → Int32 → pj_M → Option (Int32 × pj_M)} (hk78 : pj_G (G, A, (c_X11_fits, y_X11_fits.cls, 9, (some .int), 6), P, S, Z) pj_eI 78 (C_X11_fits_78 k78)) : ∀ n1, pj_G (G, A, (c_X11_fits, y_X11_fits.cls, 9, (some .int), 6), P, S, Z) pj_eI 148 (C_X11_fits_148 (H_X11_fits_148 k78 n1)) := by
  intro n1
  induction n1 with
  | zero =>
    intro L st m r h hR
    unfold C_X11_fits_148 at h
    split at h
    · split at h
      · cases h
      · cases h
    · cases h
  | succ n1 ih1 =>
    intro L st m r h hR
    unfold C_X11_fits_148 at h
    split at h
    · split at h
      · rename_i hbq
        simp only [Bool.and_eq_true, Nat.beq_eq] at hbq
        obtain ⟨rfl, rfl, rfl⟩ := hbq
        exact pj_run_ok (sd_X11_fits C) (List.forall_mem_cons.mpr ⟨ih1, List.forall_mem_cons.mpr ⟨sg_X11_fits_200 C hk78, fun q h => by cases h⟩⟩) 129 148 _ _ _ _ ((eq_X11_fits_148 _ _ _ _ _ _ _ _ _ _ _).trans h) hR
      · cases h
    · cases h
set_option maxRecDepth 20000 in
theorem eq_X11_fits_95 (k78 : Int32 → Int32 → Int32 → Int32 → Int32 → Int32 → pj_M → Option (Int32 × pj_M)) (x1 : Int32) (x2 : Int32) (x3 : Int32) (x4 : Int32) (x5 : Int32) (x6 : Int32) (s0 : Int32) (s1 : Int32) (d7 d8 : Option pj_V) (m : pj_M) : pj_run tb_X11_fits [(148, C_X11_fits_148 (H_X11_fits_148 k78 pj_z))] 129 95 [some (.inr (.inr (0, 11, 72))), some (.inl x1), some (.inl x2), some (.inl x3), some (.inl x4), some (.inl x5), some (.inl x6), d7, d8] [.inl s1, .inl s0] m = J_X11_fits_95 k78 x1 x2 x3 x4 x5 x6 s0 s1 m := by rfl
theorem sg_X11_fits_95 {G : pj_E} {A : Nat → Prop} {P : pj_P} {S : pj_U} {Z : pj_Z} (C : pj_C (G, A, (c_X11_fits, y_X11_fits.cls, 9, (some .int), 6), P, S, Z)) {k78 : Int32 → Int32 → Int32 → Int32 → Int32 → Int32 → pj_M → Option (Int32 × pj_M)} (hk78 : pj_G (G, A, (c_X11_fits, y_X11_fits.cls, 9, (some .int), 6), P, S, Z) pj_eI 78 (C_X11_fits_78 k78)) : pj_G (G, A, (c_X11_fits, y_X11_fits.cls, 9, (some .int), 6), P, S, Z) pj_eI 95 (C_X11_fits_95 (J_X11_fits_95 k78)) := by
  intro L st m r h hR
  unfold C_X11_fits_95 at h
  split at h
  · split at h
    · rename_i hbq
      simp only [Bool.and_eq_true, Nat.beq_eq] at hbq
      obtain ⟨rfl, rfl, rfl⟩ := hbq
      exact pj_run_ok (sd_X11_fits C) (List.forall_mem_cons.mpr ⟨sg_X11_fits_148 C hk78 pj_z, fun q h => by cases h⟩) 129 95 _ _ _ _ ((eq_X11_fits_95 _ _ _ _ _ _ _ _ _ _ _ _).trans h) hR
    · cases h
  · cases h
set_option maxRecDepth 20000 in
theorem eq_X11_fits_78 (n1 : Nat) (x1 : Int32) (x2 : Int32) (x3 : Int32) (x4 : Int32) (x5 : Int32) (x6 : Int32) (d7 d8 : Option pj_V) (m : pj_M) : pj_run tb_X11_fits [(95, C_X11_fits_95 (J_X11_fits_95 (H_X11_fits_78 n1)))] 129 78 [some (.inr (.inr (0, 11, 72))), some (.inl x1), some (.inl x2), some (.inl x3), some (.inl x4), some (.inl x5), some (.inl x6), d7, d8] [] m = H_X11_fits_78 (n1 + 1) x1 x2 x3 x4 x5 x6 m := by rfl
theorem sg_X11_fits_78 {G : pj_E} {A : Nat → Prop} {P : pj_P} {S : pj_U} {Z : pj_Z} (C : pj_C (G, A, (c_X11_fits, y_X11_fits.cls, 9, (some .int), 6), P, S, Z)) : ∀ n1, pj_G (G, A, (c_X11_fits, y_X11_fits.cls, 9, (some .int), 6), P, S, Z) pj_eI 78 (C_X11_fits_78 (H_X11_fits_78 n1)) := by
  intro n1
  induction n1 with
  | zero =>
    intro L st m r h hR
    unfold C_X11_fits_78 at h
    split at h
    · split at h
      · cases h
      · cases h
    · cases h
  | succ n1 ih1 =>
    intro L st m r h hR
    unfold C_X11_fits_78 at h
    split at h
    · split at h
      · rename_i hbq
        simp only [Bool.and_eq_true, Nat.beq_eq] at hbq
        obtain ⟨rfl, rfl, rfl⟩ := hbq
        exact pj_run_ok (sd_X11_fits C) (List.forall_mem_cons.mpr ⟨sg_X11_fits_95 C ih1, fun q h => by cases h⟩) 129 78 _ _ _ _ ((eq_X11_fits_78 _ _ _ _ _ _ _ _ _ _).trans h) hR
      · cases h
    · cases h
set_option maxRecDepth 20000 in
theorem eq_X11_fits (x1 : Int32) (x2 : Int32) (x3 : Int32) (x4 : Int32) (m : pj_M) : pj_run tb_X11_fits [(78, C_X11_fits_78 (H_X11_fits_78  pj_z))] 129 0 [some (.inr (.inr (0, 11, 72))), some (.inl x1), some (.inl x2), some (.inl x3), some (.inl x4), none, none, none, none] [] m = F_X11_fits x1 x2 x3 x4 m := by rfl
theorem ct_X11_fits : pj_Ct pj_eI y_X11_fits c_X11_fits 9 (some .int) 6 W_X11_fits := by
  refine pj_ct_of (by decide +kernel) ?_ ?_
  · intro as m r h
    unfold W_X11_fits at h
    split at h
    · simp [pj_l0]
    · cases h
  · intro G A P S Z C as m r h hR
    unfold W_X11_fits at h
    split at h
    · split at h
      · rename_i hbq
        simp only [Bool.and_eq_true, Nat.beq_eq] at hbq
        obtain ⟨rfl, rfl, rfl⟩ := hbq
        exact pj_run_ok (sd_X11_fits C) (List.forall_mem_cons.mpr ⟨sg_X11_fits_78 C  pj_z, fun q h => by cases h⟩) 129 0 _ _ _ _ ((eq_X11_fits _ _ _ _ _).trans h) hR
      · cases h
    · cases h
/-! AlikeStepsModel.image(I)I -/
abbrev c_X11_image : ByteArray := prog_13_method_81_code
def y_X11_image : MethodName := ⟨RX11, "image", "(I)I"⟩
noncomputable def F_X11_image (x1 : Int32) (m : pj_M) : Option (Int32 × pj_M) := ((F_X11_in x1 0 1 m).bind fun q1 => (if q1.1 = 0 then (some ((-1000001), q1.2)) else ((F_X11_isSystem q1.2).bind fun q2 => (if q2.1 = 0 then (some ((-1000002), q2.2)) else ((F_X11_copies 72 78 0 144 81 (72 * x1) q2.2).bind fun q3 => (if x1 < 0 ∨ 2 ≤ x1.toNatClampNeg then none else (some (1, (pj_wr q3 82 x1.toNatClampNeg 1)))))))))
noncomputable def W_X11_image : List pj_V → pj_M → Option (Int32 × pj_M) := fun as m => match as with
  | [.inr (.inr (t0, w0, a0)), .inl x1] => (match Nat.beq t0 0 && (Nat.beq w0 11 && (Nat.beq a0 72)) with
    | true => F_X11_image x1 m
    | false => none)
  | _ => none
noncomputable def tb_X11_image_0 : List (Nat × pj_T (Int32 × pj_M)) := [(0, qs_ldi 1 1), (1, qs_ci 0 2), (2, qs_ci 1 3), (3, qs_sI 3 W_X11_in 6), (6, qs_ifne 12 9), (9, qs_ci (-1000001) 11), (11, qs_iret), (12, qs_lda 0 13), (13, qs_vI 11 1 W_X11_isSystem 16), (16, qs_ifne 22 19), (19, qs_ci (-1000002) 21), (21, qs_iret), (22, qs_lda 0 23), (23, qs_gf 11 13 26), (26, qs_ci 0 27), (27, qs_lda 0 28), (28, qs_gf 11 17 31), (31, qs_ci 72 33), (33, qs_ldi 1 34), (34, qs_b2 (fun x y => x * y) 35), (35, qs_sV 4 W_X11_copies 38), (38, qs_lda 0 39), (39, qs_gf 11 18 42), (42, qs_ldi 1 43), (43, qs_ci 1 44), (44, qs_zast 45), (45, qs_ci 1 46), (46, qs_iret)]
noncomputable abbrev tb_X11_image : List (Nat × pj_T (Int32 × pj_M)) := tb_X11_image_0
theorem mv_X11_image : pj_mv y_X11_image c_X11_image 2 (some .int) 1 := ⟨⟨cw_1431, cw_1429, cw_1430, cw_92⟩, by decide +kernel, by decide⟩
set_option maxRecDepth 20000 in
theorem sd_X11_image_0 {G : pj_E} {A : Nat → Prop} {P : pj_P} {S : pj_U} {Z : pj_Z} (C : pj_C (G, A, (c_X11_image, y_X11_image.cls, 2, (some .int), 2), P, S, Z)) : ∀ q ∈ tb_X11_image_0, pj_S (G, A, (c_X11_image, y_X11_image.cls, 2, (some .int), 2), P, S, Z) pj_eI q.1 q.2 :=
  List.forall_mem_cons.mpr ⟨qz_iload_n C (show decode c_X11_image 0 = .ok (.iload_n 1, 1) by decide +kernel) rfl,
  List.forall_mem_cons.mpr ⟨qz_iconst C (show decode c_X11_image 1 = .ok (.iconst 0, 1) by decide +kernel) (by decide +kernel),
  List.forall_mem_cons.mpr ⟨qz_iconst C (show decode c_X11_image 2 = .ok (.iconst 1, 1) by decide +kernel) (by decide +kernel),
  List.forall_mem_cons.mpr ⟨qz_sI C (show decode c_X11_image 3 = .ok (.invokestatic 84, 3) by decide +kernel) ct_X11_in mv_X11_in (Or.inl cw_1126) (show 1 < 2 by omega),
  List.forall_mem_cons.mpr ⟨qz_ifne C (show decode c_X11_image 6 = .ok (.ifCond .ne 6, 3) by decide +kernel) (by decide),
  List.forall_mem_cons.mpr ⟨qz_ldc C (show decode c_X11_image 9 = .ok (.ldc 92, 2) by decide +kernel) cw_1129,
  List.forall_mem_cons.mpr ⟨qz_iret C (show decode c_X11_image 11 = .ok (.ireturn, 1) by decide +kernel) rfl,
  List.forall_mem_cons.mpr ⟨qz_aload_n C (show decode c_X11_image 12 = .ok (.aload_n 0, 1) by decide +kernel) rfl,
  List.forall_mem_cons.mpr ⟨qz_vI C (show decode c_X11_image 13 = .ok (.invokevirtual 245, 3) by decide +kernel) ct_X11_isSystem mv_X11_isSystem cw_1333 vcX11 (show 1 < 2 by omega),
  List.forall_mem_cons.mpr ⟨qz_ifne C (show decode c_X11_image 16 = .ok (.ifCond .ne 6, 3) by decide +kernel) (by decide),
  List.forall_mem_cons.mpr ⟨qz_ldc C (show decode c_X11_image 19 = .ok (.ldc 234, 2) by decide +kernel) cw_1248,
  List.forall_mem_cons.mpr ⟨qz_iret C (show decode c_X11_image 21 = .ok (.ireturn, 1) by decide +kernel) rfl,
  List.forall_mem_cons.mpr ⟨qz_aload_n C (show decode c_X11_image 22 = .ok (.aload_n 0, 1) by decide +kernel) rfl,
  List.forall_mem_cons.mpr ⟨qz_gf (k := 13) C (show decode c_X11_image 23 = .ok (.getfield 25, 3) by decide +kernel) vcX11 wiX11 (by decide) cw_1031,
  List.forall_mem_cons.mpr ⟨qz_iconst C (show decode c_X11_image 26 = .ok (.iconst 0, 1) by decide +kernel) (by decide +kernel),
  List.forall_mem_cons.mpr ⟨qz_aload_n C (show decode c_X11_image 27 = .ok (.aload_n 0, 1) by decide +kernel) rfl,
  List.forall_mem_cons.mpr ⟨qz_gf (k := 17) C (show decode c_X11_image 28 = .ok (.getfield 34, 3) by decide +kernel) vcX11 wiX11 (by decide) cw_1035,
  List.forall_mem_cons.mpr ⟨qz_bipush C (show decode c_X11_image 31 = .ok (.bipush 72, 2) by decide +kernel) (by decide +kernel),
  List.forall_mem_cons.mpr ⟨qz_iload_n C (show decode c_X11_image 33 = .ok (.iload_n 1, 1) by decide +kernel) rfl,
  List.forall_mem_cons.mpr ⟨qz_imul C (show decode c_X11_image 34 = .ok (.imul, 1) by decide +kernel),
  List.forall_mem_cons.mpr ⟨qz_sV C (show decode c_X11_image 35 = .ok (.invokestatic 166, 3) by decide +kernel) ct_X11_copies mv_X11_copies (Or.inl cw_1210) (show 1 < 2 by omega),
  List.forall_mem_cons.mpr ⟨qz_aload_n C (show decode c_X11_image 38 = .ok (.aload_n 0, 1) by decide +kernel) rfl,
  List.forall_mem_cons.mpr ⟨qz_gf (k := 18) C (show decode c_X11_image 39 = .ok (.getfield 37, 3) by decide +kernel) vcX11 wiX11 (by decide) cw_1036,
  List.forall_mem_cons.mpr ⟨qz_iload_n C (show decode c_X11_image 42 = .ok (.iload_n 1, 1) by decide +kernel) rfl,
  List.forall_mem_cons.mpr ⟨qz_iconst C (show decode c_X11_image 43 = .ok (.iconst 1, 1) by decide +kernel) (by decide +kernel),
  List.forall_mem_cons.mpr ⟨qz_zast C (show decode c_X11_image 44 = .ok (.bastore, 1) by decide +kernel),
  List.forall_mem_cons.mpr ⟨qz_iconst C (show decode c_X11_image 45 = .ok (.iconst 1, 1) by decide +kernel) (by decide +kernel),
  List.forall_mem_cons.mpr ⟨qz_iret C (show decode c_X11_image 46 = .ok (.ireturn, 1) by decide +kernel) rfl,
  (fun q h => by cases h)⟩⟩⟩⟩⟩⟩⟩⟩⟩⟩⟩⟩⟩⟩⟩⟩⟩⟩⟩⟩⟩⟩⟩⟩⟩⟩⟩⟩
theorem sd_X11_image {G : pj_E} {A : Nat → Prop} {P : pj_P} {S : pj_U} {Z : pj_Z} (C : pj_C (G, A, (c_X11_image, y_X11_image.cls, 2, (some .int), 2), P, S, Z)) : ∀ q ∈ tb_X11_image, pj_S (G, A, (c_X11_image, y_X11_image.cls, 2, (some .int), 2), P, S, Z) pj_eI q.1 q.2 := sd_X11_image_0 C
set_option maxRecDepth 20000 in
theorem eq_X11_image (x1 : Int32) (m : pj_M) : pj_run tb_X11_image [] 30 0 [some (.inr (.inr (0, 11, 72))), some (.inl x1)] [] m = F_X11_image x1 m := by rfl
theorem ct_X11_image : pj_Ct pj_eI y_X11_image c_X11_image 2 (some .int) 2 W_X11_image := by
  refine pj_ct_of (by decide +kernel) ?_ ?_
  · intro as m r h
    unfold W_X11_image at h
    split at h
    · simp [pj_l0]
    · cases h
  · intro G A P S Z C as m r h hR
    unfold W_X11_image at h
    split at h
    · split at h
      · rename_i hbq
        simp only [Bool.and_eq_true, Nat.beq_eq] at hbq
        obtain ⟨rfl, rfl, rfl⟩ := hbq
        exact pj_run_ok (sd_X11_image C) (fun q h => by cases h) 30 0 _ _ _ _ ((eq_X11_image _ _).trans h) hR
      · cases h
    · cases h
/-! AlikeStepsModel.restore(I)I -/
abbrev c_X11_restore : ByteArray := prog_13_method_82_code
def y_X11_restore : MethodName := ⟨RX11, "restore", "(I)I"⟩
noncomputable def F_X11_restore (x1 : Int32) (m : pj_M) : Option (Int32 × pj_M) := ((F_X11_in x1 0 1 m).bind fun q1 => (if q1.1 = 0 then (some ((-1000001), q1.2)) else (if x1 < 0 ∨ 2 ≤ x1.toNatClampNeg then none else (if (q1.2.1 82 x1.toNatClampNeg) = 0 then (some ((-1000002), q1.2)) else ((F_X11_copies 144 81 (72 * x1) 72 78 0 q1.2).bind fun q2 => (some (1, (pj_wr q2 72 16 0))))))))
noncomputable def W_X11_restore : List pj_V → pj_M → Option (Int32 × pj_M) := fun as m => match as with
  | [.inr (.inr (t0, w0, a0)), .inl x1] => (match Nat.beq t0 0 && (Nat.beq w0 11 && (Nat.beq a0 72)) with
    | true => F_X11_restore x1 m
    | false => none)
  | _ => none
noncomputable def tb_X11_restore_0 : List (Nat × pj_T (Int32 × pj_M)) := [(0, qs_ldi 1 1), (1, qs_ci 0 2), (2, qs_ci 1 3), (3, qs_sI 3 W_X11_in 6), (6, qs_ifne 12 9), (9, qs_ci (-1000001) 11), (11, qs_iret), (12, qs_lda 0 13), (13, qs_gf 11 18 16), (16, qs_ldi 1 17), (17, qs_zald 18), (18, qs_ifne 24 21), (21, qs_ci (-1000002) 23), (23, qs_iret), (24, qs_lda 0 25), (25, qs_gf 11 17 28), (28, qs_ci 72 30), (30, qs_ldi 1 31), (31, qs_b2 (fun x y => x * y) 32), (32, qs_lda 0 33), (33, qs_gf 11 13 36), (36, qs_ci 0 37), (37, qs_sV 4 W_X11_copies 40), (40, qs_lda 0 41), (41, qs_ci 0 42), (42, qs_pf 11 16 45), (45, qs_ci 1 46), (46, qs_iret)]
noncomputable abbrev tb_X11_restore : List (Nat × pj_T (Int32 × pj_M)) := tb_X11_restore_0
theorem mv_X11_restore : pj_mv y_X11_restore c_X11_restore 2 (some .int) 1 := ⟨⟨cw_1435, cw_1433, cw_1434, cw_92⟩, by decide +kernel, by decide⟩
set_option maxRecDepth 20000 in
theorem sd_X11_restore_0 {G : pj_E} {A : Nat → Prop} {P : pj_P} {S : pj_U} {Z : pj_Z} (C : pj_C (G, A, (c_X11_restore, y_X11_restore.cls, 2, (some .int), 2), P, S, Z)) : ∀ q ∈ tb_X11_restore_0, pj_S (G, A, (c_X11_restore, y_X11_restore.cls, 2, (some .int), 2), P, S, Z) pj_eI q.1 q.2 :=
  List.forall_mem_cons.mpr ⟨qz_iload_n C (show decode c_X11_restore 0 = .ok (.iload_n 1, 1) by decide +kernel) rfl,
  List.forall_mem_cons.mpr ⟨qz_iconst C (show decode c_X11_restore 1 = .ok (.iconst 0, 1) by decide +kernel) (by decide +kernel),
  List.forall_mem_cons.mpr ⟨qz_iconst C (show decode c_X11_restore 2 = .ok (.iconst 1, 1) by decide +kernel) (by decide +kernel),
  List.forall_mem_cons.mpr ⟨qz_sI C (show decode c_X11_restore 3 = .ok (.invokestatic 84, 3) by decide +kernel) ct_X11_in mv_X11_in (Or.inl cw_1126) (show 1 < 2 by omega),
  List.forall_mem_cons.mpr ⟨qz_ifne C (show decode c_X11_restore 6 = .ok (.ifCond .ne 6, 3) by decide +kernel) (by decide),
  List.forall_mem_cons.mpr ⟨qz_ldc C (show decode c_X11_restore 9 = .ok (.ldc 92, 2) by decide +kernel) cw_1129,
  List.forall_mem_cons.mpr ⟨qz_iret C (show decode c_X11_restore 11 = .ok (.ireturn, 1) by decide +kernel) rfl,
  List.forall_mem_cons.mpr ⟨qz_aload_n C (show decode c_X11_restore 12 = .ok (.aload_n 0, 1) by decide +kernel) rfl,
  List.forall_mem_cons.mpr ⟨qz_gf (k := 18) C (show decode c_X11_restore 13 = .ok (.getfield 37, 3) by decide +kernel) vcX11 wiX11 (by decide) cw_1036,
  List.forall_mem_cons.mpr ⟨qz_iload_n C (show decode c_X11_restore 16 = .ok (.iload_n 1, 1) by decide +kernel) rfl,
  List.forall_mem_cons.mpr ⟨qz_zald C (show decode c_X11_restore 17 = .ok (.baload, 1) by decide +kernel),
  List.forall_mem_cons.mpr ⟨qz_ifne C (show decode c_X11_restore 18 = .ok (.ifCond .ne 6, 3) by decide +kernel) (by decide),
  List.forall_mem_cons.mpr ⟨qz_ldc C (show decode c_X11_restore 21 = .ok (.ldc 234, 2) by decide +kernel) cw_1248,
  List.forall_mem_cons.mpr ⟨qz_iret C (show decode c_X11_restore 23 = .ok (.ireturn, 1) by decide +kernel) rfl,
  List.forall_mem_cons.mpr ⟨qz_aload_n C (show decode c_X11_restore 24 = .ok (.aload_n 0, 1) by decide +kernel) rfl,
  List.forall_mem_cons.mpr ⟨qz_gf (k := 17) C (show decode c_X11_restore 25 = .ok (.getfield 34, 3) by decide +kernel) vcX11 wiX11 (by decide) cw_1035,
  List.forall_mem_cons.mpr ⟨qz_bipush C (show decode c_X11_restore 28 = .ok (.bipush 72, 2) by decide +kernel) (by decide +kernel),
  List.forall_mem_cons.mpr ⟨qz_iload_n C (show decode c_X11_restore 30 = .ok (.iload_n 1, 1) by decide +kernel) rfl,
  List.forall_mem_cons.mpr ⟨qz_imul C (show decode c_X11_restore 31 = .ok (.imul, 1) by decide +kernel),
  List.forall_mem_cons.mpr ⟨qz_aload_n C (show decode c_X11_restore 32 = .ok (.aload_n 0, 1) by decide +kernel) rfl,
  List.forall_mem_cons.mpr ⟨qz_gf (k := 13) C (show decode c_X11_restore 33 = .ok (.getfield 25, 3) by decide +kernel) vcX11 wiX11 (by decide) cw_1031,
  List.forall_mem_cons.mpr ⟨qz_iconst C (show decode c_X11_restore 36 = .ok (.iconst 0, 1) by decide +kernel) (by decide +kernel),
  List.forall_mem_cons.mpr ⟨qz_sV C (show decode c_X11_restore 37 = .ok (.invokestatic 166, 3) by decide +kernel) ct_X11_copies mv_X11_copies (Or.inl cw_1210) (show 1 < 2 by omega),
  List.forall_mem_cons.mpr ⟨qz_aload_n C (show decode c_X11_restore 40 = .ok (.aload_n 0, 1) by decide +kernel) rfl,
  List.forall_mem_cons.mpr ⟨qz_iconst C (show decode c_X11_restore 41 = .ok (.iconst 0, 1) by decide +kernel) (by decide +kernel),
  List.forall_mem_cons.mpr ⟨qz_pf (k := 16) C (show decode c_X11_restore 42 = .ok (.putfield 170, 3) by decide +kernel) vcX11 wiX11 tyX11_ok nmX11 (by decide) cw_1034 rfl rfl,
  List.forall_mem_cons.mpr ⟨qz_iconst C (show decode c_X11_restore 45 = .ok (.iconst 1, 1) by decide +kernel) (by decide +kernel),
  List.forall_mem_cons.mpr ⟨qz_iret C (show decode c_X11_restore 46 = .ok (.ireturn, 1) by decide +kernel) rfl,
  (fun q h => by cases h)⟩⟩⟩⟩⟩⟩⟩⟩⟩⟩⟩⟩⟩⟩⟩⟩⟩⟩⟩⟩⟩⟩⟩⟩⟩⟩⟩⟩
theorem sd_X11_restore {G : pj_E} {A : Nat → Prop} {P : pj_P} {S : pj_U} {Z : pj_Z} (C : pj_C (G, A, (c_X11_restore, y_X11_restore.cls, 2, (some .int), 2), P, S, Z)) : ∀ q ∈ tb_X11_restore, pj_S (G, A, (c_X11_restore, y_X11_restore.cls, 2, (some .int), 2), P, S, Z) pj_eI q.1 q.2 := sd_X11_restore_0 C
set_option maxRecDepth 20000 in
theorem eq_X11_restore (x1 : Int32) (m : pj_M) : pj_run tb_X11_restore [] 30 0 [some (.inr (.inr (0, 11, 72))), some (.inl x1)] [] m = F_X11_restore x1 m := by rfl
theorem ct_X11_restore : pj_Ct pj_eI y_X11_restore c_X11_restore 2 (some .int) 2 W_X11_restore := by
  refine pj_ct_of (by decide +kernel) ?_ ?_
  · intro as m r h
    unfold W_X11_restore at h
    split at h
    · simp [pj_l0]
    · cases h
  · intro G A P S Z C as m r h hR
    unfold W_X11_restore at h
    split at h
    · split at h
      · rename_i hbq
        simp only [Bool.and_eq_true, Nat.beq_eq] at hbq
        obtain ⟨rfl, rfl, rfl⟩ := hbq
        exact pj_run_ok (sd_X11_restore C) (fun q h => by cases h) 30 0 _ _ _ _ ((eq_X11_restore _ _).trans h) hR
      · cases h
    · cases h
/-! AlikeStepsModel.kindIn(I)I -/
abbrev c_X11_kindIn : ByteArray := prog_13_method_83_code
def y_X11_kindIn : MethodName := ⟨RX11, "kindIn", "(I)I"⟩
noncomputable def F_X11_kindIn (x1 : Int32) (m : pj_M) : Option (Int32 × pj_M) := (if (2 + x1) < 0 ∨ 72 ≤ (2 + x1).toNatClampNeg then none else (some (m.1 78 (2 + x1).toNatClampNeg, m)))
noncomputable def W_X11_kindIn : List pj_V → pj_M → Option (Int32 × pj_M) := fun as m => match as with
  | [.inr (.inr (t0, w0, a0)), .inl x1] => (match Nat.beq t0 0 && (Nat.beq w0 11 && (Nat.beq a0 72)) with
    | true => F_X11_kindIn x1 m
    | false => none)
  | _ => none
noncomputable def tb_X11_kindIn_0 : List (Nat × pj_T (Int32 × pj_M)) := [(0, qs_lda 0 1), (1, qs_gf 11 13 4), (4, qs_ci 2 5), (5, qs_ldi 1 6), (6, qs_b2 (fun x y => x + y) 7), (7, qs_iald 8), (8, qs_iret)]
noncomputable abbrev tb_X11_kindIn : List (Nat × pj_T (Int32 × pj_M)) := tb_X11_kindIn_0
theorem mv_X11_kindIn : pj_mv y_X11_kindIn c_X11_kindIn 2 (some .int) 1 := ⟨⟨cw_1443, cw_1442, cw_73, cw_92⟩, by decide +kernel, by decide⟩
set_option maxRecDepth 20000 in
theorem sd_X11_kindIn_0 {G : pj_E} {A : Nat → Prop} {P : pj_P} {S : pj_U} {Z : pj_Z} (C : pj_C (G, A, (c_X11_kindIn, y_X11_kindIn.cls, 2, (some .int), 1), P, S, Z)) : ∀ q ∈ tb_X11_kindIn_0, pj_S (G, A, (c_X11_kindIn, y_X11_kindIn.cls, 2, (some .int), 1), P, S, Z) pj_eI q.1 q.2 :=
  List.forall_mem_cons.mpr ⟨qz_aload_n C (show decode c_X11_kindIn 0 = .ok (.aload_n 0, 1) by decide +kernel) rfl,
  List.forall_mem_cons.mpr ⟨qz_gf (k := 13) C (show decode c_X11_kindIn 1 = .ok (.getfield 25, 3) by decide +kernel) vcX11 wiX11 (by decide) cw_1031,
  List.forall_mem_cons.mpr ⟨qz_iconst C (show decode c_X11_kindIn 4 = .ok (.iconst 2, 1) by decide +kernel) (by decide +kernel),
  List.forall_mem_cons.mpr ⟨qz_iload_n C (show decode c_X11_kindIn 5 = .ok (.iload_n 1, 1) by decide +kernel) rfl,
  List.forall_mem_cons.mpr ⟨qz_iadd C (show decode c_X11_kindIn 6 = .ok (.iadd, 1) by decide +kernel),
  List.forall_mem_cons.mpr ⟨qz_iald C (show decode c_X11_kindIn 7 = .ok (.iaload, 1) by decide +kernel),
  List.forall_mem_cons.mpr ⟨qz_iret C (show decode c_X11_kindIn 8 = .ok (.ireturn, 1) by decide +kernel) rfl,
  (fun q h => by cases h)⟩⟩⟩⟩⟩⟩⟩
theorem sd_X11_kindIn {G : pj_E} {A : Nat → Prop} {P : pj_P} {S : pj_U} {Z : pj_Z} (C : pj_C (G, A, (c_X11_kindIn, y_X11_kindIn.cls, 2, (some .int), 1), P, S, Z)) : ∀ q ∈ tb_X11_kindIn, pj_S (G, A, (c_X11_kindIn, y_X11_kindIn.cls, 2, (some .int), 1), P, S, Z) pj_eI q.1 q.2 := sd_X11_kindIn_0 C
set_option maxRecDepth 20000 in
theorem eq_X11_kindIn (x1 : Int32) (m : pj_M) : pj_run tb_X11_kindIn [] 9 0 [some (.inr (.inr (0, 11, 72))), some (.inl x1)] [] m = F_X11_kindIn x1 m := by rfl
theorem ct_X11_kindIn : pj_Ct pj_eI y_X11_kindIn c_X11_kindIn 2 (some .int) 1 W_X11_kindIn := by
  refine pj_ct_of (by decide +kernel) ?_ ?_
  · intro as m r h
    unfold W_X11_kindIn at h
    split at h
    · simp [pj_l0]
    · cases h
  · intro G A P S Z C as m r h hR
    unfold W_X11_kindIn at h
    split at h
    · split at h
      · rename_i hbq
        simp only [Bool.and_eq_true, Nat.beq_eq] at hbq
        obtain ⟨rfl, rfl, rfl⟩ := hbq
        exact pj_run_ok (sd_X11_kindIn C) (fun q h => by cases h) 9 0 _ _ _ _ ((eq_X11_kindIn _ _).trans h) hR
      · cases h
    · cases h
/-! AlikeStepsModel.kind(I)I -/
abbrev c_X11_kind : ByteArray := prog_13_method_84_code
def y_X11_kind : MethodName := ⟨RX11, "kind", "(I)I"⟩
noncomputable def F_X11_kind (x1 : Int32) (m : pj_M) : Option (Int32 × pj_M) := ((F_X11_isState x1 m).bind fun q1 => (if q1.1 = 0 then (some ((-1000001), q1.2)) else ((F_X11_kindIn x1 q1.2).bind fun q2 => (some (q2.1, q2.2)))))
noncomputable def W_X11_kind : List pj_V → pj_M → Option (Int32 × pj_M) := fun as m => match as with
  | [.inr (.inr (t0, w0, a0)), .inl x1] => (match Nat.beq t0 0 && (Nat.beq w0 11 && (Nat.beq a0 72)) with
    | true => F_X11_kind x1 m
    | false => none)
  | _ => none
noncomputable def tb_X11_kind_0 : List (Nat × pj_T (Int32 × pj_M)) := [(0, qs_lda 0 1), (1, qs_ldi 1 2), (2, qs_vI 11 2 W_X11_isState 5), (5, qs_ifeq 16 8), (8, qs_lda 0 9), (9, qs_ldi 1 10), (10, qs_vI 11 2 W_X11_kindIn 13), (13, qs_go 18), (16, qs_ci (-1000001) 18), (18, qs_iret)]
noncomputable abbrev tb_X11_kind : List (Nat × pj_T (Int32 × pj_M)) := tb_X11_kind_0
theorem mv_X11_kind : pj_mv y_X11_kind c_X11_kind 2 (some .int) 1 := ⟨⟨cw_1439, cw_1437, cw_1438, cw_92⟩, by decide +kernel, by decide⟩
set_option maxRecDepth 20000 in
theorem sd_X11_kind_0 {G : pj_E} {A : Nat → Prop} {P : pj_P} {S : pj_U} {Z : pj_Z} (C : pj_C (G, A, (c_X11_kind, y_X11_kind.cls, 2, (some .int), 3), P, S, Z)) : ∀ q ∈ tb_X11_kind_0, pj_S (G, A, (c_X11_kind, y_X11_kind.cls, 2, (some .int), 3), P, S, Z) pj_eI q.1 q.2 :=
  List.forall_mem_cons.mpr ⟨qz_aload_n C (show decode c_X11_kind 0 = .ok (.aload_n 0, 1) by decide +kernel) rfl,
  List.forall_mem_cons.mpr ⟨qz_iload_n C (show decode c_X11_kind 1 = .ok (.iload_n 1, 1) by decide +kernel) rfl,
  List.forall_mem_cons.mpr ⟨qz_vI C (show decode c_X11_kind 2 = .ok (.invokevirtual 225, 3) by decide +kernel) ct_X11_isState mv_X11_isState cw_1224 vcX11 (show 2 < 3 by omega),
  List.forall_mem_cons.mpr ⟨qz_ifeq C (show decode c_X11_kind 5 = .ok (.ifCond .eq 11, 3) by decide +kernel) (by decide),
  List.forall_mem_cons.mpr ⟨qz_aload_n C (show decode c_X11_kind 8 = .ok (.aload_n 0, 1) by decide +kernel) rfl,
  List.forall_mem_cons.mpr ⟨qz_iload_n C (show decode c_X11_kind 9 = .ok (.iload_n 1, 1) by decide +kernel) rfl,
  List.forall_mem_cons.mpr ⟨qz_vI C (show decode c_X11_kind 10 = .ok (.invokevirtual 291, 3) by decide +kernel) ct_X11_kindIn mv_X11_kindIn cw_1440 vcX11 (show 1 < 3 by omega),
  List.forall_mem_cons.mpr ⟨qz_goto C (show decode c_X11_kind 13 = .ok (.goto 5, 3) by decide +kernel) (by decide),
  List.forall_mem_cons.mpr ⟨qz_ldc C (show decode c_X11_kind 16 = .ok (.ldc 92, 2) by decide +kernel) cw_1129,
  List.forall_mem_cons.mpr ⟨qz_iret C (show decode c_X11_kind 18 = .ok (.ireturn, 1) by decide +kernel) rfl,
  (fun q h => by cases h)⟩⟩⟩⟩⟩⟩⟩⟩⟩⟩
theorem sd_X11_kind {G : pj_E} {A : Nat → Prop} {P : pj_P} {S : pj_U} {Z : pj_Z} (C : pj_C (G, A, (c_X11_kind, y_X11_kind.cls, 2, (some .int), 3), P, S, Z)) : ∀ q ∈ tb_X11_kind, pj_S (G, A, (c_X11_kind, y_X11_kind.cls, 2, (some .int), 3), P, S, Z) pj_eI q.1 q.2 := sd_X11_kind_0 C
set_option maxRecDepth 20000 in
theorem eq_X11_kind (x1 : Int32) (m : pj_M) : pj_run tb_X11_kind [] 12 0 [some (.inr (.inr (0, 11, 72))), some (.inl x1)] [] m = F_X11_kind x1 m := by rfl
theorem ct_X11_kind : pj_Ct pj_eI y_X11_kind c_X11_kind 2 (some .int) 3 W_X11_kind := by
  refine pj_ct_of (by decide +kernel) ?_ ?_
  · intro as m r h
    unfold W_X11_kind at h
    split at h
    · simp [pj_l0]
    · cases h
  · intro G A P S Z C as m r h hR
    unfold W_X11_kind at h
    split at h
    · split at h
      · rename_i hbq
        simp only [Bool.and_eq_true, Nat.beq_eq] at hbq
        obtain ⟨rfl, rfl, rfl⟩ := hbq
        exact pj_run_ok (sd_X11_kind C) (fun q h => by cases h) 12 0 _ _ _ _ ((eq_X11_kind _ _).trans h) hR
      · cases h
    · cases h
/-! AlikeStepsModel.as(II)I -/
abbrev c_X11_as : ByteArray := prog_13_method_85_code
def y_X11_as : MethodName := ⟨RX11, "as", "(II)I"⟩
noncomputable def J_X11_as_59 (x1 : Int32) (m : pj_M) : Option (Int32 × pj_M) := (if (0 : Int32) = 0 then ((F_X11_found 3 m).bind fun q1 => (some (q1.1, q1.2))) else ((F_X11_well x1 m).bind fun q2 => (some (q2.1, q2.2))))
noncomputable def J_X11_as_55 (x1 : Int32) (m : pj_M) : Option (Int32 × pj_M) := (if (1 : Int32) = 0 then ((F_X11_found 3 m).bind fun q1 => (some (q1.1, q1.2))) else ((F_X11_well x1 m).bind fun q2 => (some (q2.1, q2.2))))
noncomputable def F_X11_as (x1 : Int32) (x2 : Int32) (m : pj_M) : Option (Int32 × pj_M) := ((F_X11_isState x1 m).bind fun q1 => (if q1.1 = 0 then (some ((-1000001), q1.2)) else ((F_X11_in x2 0 5 q1.2).bind fun q2 => (if q2.1 = 0 then (some ((-1000001), q2.2)) else ((F_X11_kindIn x1 q2.2).bind fun q3 => (if x2 = 0 then (J_X11_as_55 x1 q3.2) else (if x2 = q3.1 then (J_X11_as_55 x1 q3.2) else (if x2 = 1 then (if q3.1 < 4 then (J_X11_as_55 x1 q3.2) else (if x2 = 4 then (if q3.1 = 5 then (J_X11_as_55 x1 q3.2) else (J_X11_as_59 x1 q3.2)) else (J_X11_as_59 x1 q3.2))) else (if x2 = 4 then (if q3.1 = 5 then (J_X11_as_55 x1 q3.2) else (J_X11_as_59 x1 q3.2)) else (J_X11_as_59 x1 q3.2))))))))))
noncomputable def W_X11_as : List pj_V → pj_M → Option (Int32 × pj_M) := fun as m => match as with
  | [.inr (.inr (t0, w0, a0)), .inl x1, .inl x2] => (match Nat.beq t0 0 && (Nat.beq w0 11 && (Nat.beq a0 72)) with
    | true => F_X11_as x1 x2 m
    | false => none)
  | _ => none
noncomputable def tb_X11_as_0 : List (Nat × pj_T (Int32 × pj_M)) := [(0, qs_lda 0 1), (1, qs_ldi 1 2), (2, qs_vI 11 2 W_X11_isState 5), (5, qs_ifeq 17 8), (8, qs_ldi 2 9), (9, qs_ci 0 10), (10, qs_ci 5 11), (11, qs_sI 3 W_X11_in 14), (14, qs_ifne 20 17), (17, qs_ci (-1000001) 19), (19, qs_iret), (20, qs_lda 0 21), (21, qs_ldi 1 22), (22, qs_vI 11 2 W_X11_kindIn 25), (25, qs_sti 3 26), (26, qs_ldi 2 27), (27, qs_ifeq 55 30), (30, qs_ldi 2 31), (31, qs_ldi 3 32), (32, qs_iceq 55 35), (35, qs_ldi 2 36), (36, qs_ci 1 37), (37, qs_icne 45 40), (40, qs_ldi 3 41), (41, qs_ci 4 42), (42, qs_iclt 55 45), (45, qs_ldi 2 46), (46, qs_ci 4 47), (47, qs_icne 59 50), (50, qs_ldi 3 51), (51, qs_ci 5 52), (52, qs_icne 59 55), (55, qs_ci 1 56), (56, qs_go 60), (59, qs_ci 0 60), (60, qs_sti 4 62), (62, qs_ldi 4 64), (64, qs_ifeq 75 67), (67, qs_lda 0 68), (68, qs_ldi 1 69)]
noncomputable def tb_X11_as_1 : List (Nat × pj_T (Int32 × pj_M)) := [(69, qs_vI 11 2 W_X11_well 72), (72, qs_go 80), (75, qs_lda 0 76), (76, qs_ci 3 77), (77, qs_vI 11 2 W_X11_found 80), (80, qs_iret)]
noncomputable def tb_X11_as : List (Nat × pj_T (Int32 × pj_M)) := tb_X11_as_0 ++ (tb_X11_as_1)
theorem mv_X11_as : pj_mv y_X11_as c_X11_as 5 (some .int) 2 := ⟨⟨cw_1447, cw_1445, cw_1446, cw_92⟩, by decide +kernel, by decide⟩
set_option maxRecDepth 20000 in
theorem sd_X11_as_0 {G : pj_E} {A : Nat → Prop} {P : pj_P} {S : pj_U} {Z : pj_Z} (C : pj_C (G, A, (c_X11_as, y_X11_as.cls, 5, (some .int), 3), P, S, Z)) : ∀ q ∈ tb_X11_as_0, pj_S (G, A, (c_X11_as, y_X11_as.cls, 5, (some .int), 3), P, S, Z) pj_eI q.1 q.2 :=
  List.forall_mem_cons.mpr ⟨qz_aload_n C (show decode c_X11_as 0 = .ok (.aload_n 0, 1) by decide +kernel) rfl,
  List.forall_mem_cons.mpr ⟨qz_iload_n C (show decode c_X11_as 1 = .ok (.iload_n 1, 1) by decide +kernel) rfl,
  List.forall_mem_cons.mpr ⟨qz_vI C (show decode c_X11_as 2 = .ok (.invokevirtual 225, 3) by decide +kernel) ct_X11_isState mv_X11_isState cw_1224 vcX11 (show 2 < 3 by omega),
  List.forall_mem_cons.mpr ⟨qz_ifeq C (show decode c_X11_as 5 = .ok (.ifCond .eq 12, 3) by decide +kernel) (by decide),
  List.forall_mem_cons.mpr ⟨qz_iload_n C (show decode c_X11_as 8 = .ok (.iload_n 2, 1) by decide +kernel) rfl,
  List.forall_mem_cons.mpr ⟨qz_iconst C (show decode c_X11_as 9 = .ok (.iconst 0, 1) by decide +kernel) (by decide +kernel),
  List.forall_mem_cons.mpr ⟨qz_iconst C (show decode c_X11_as 10 = .ok (.iconst 5, 1) by decide +kernel) (by decide +kernel),
  List.forall_mem_cons.mpr ⟨qz_sI C (show decode c_X11_as 11 = .ok (.invokestatic 84, 3) by decide +kernel) ct_X11_in mv_X11_in (Or.inl cw_1126) (show 1 < 3 by omega),
  List.forall_mem_cons.mpr ⟨qz_ifne C (show decode c_X11_as 14 = .ok (.ifCond .ne 6, 3) by decide +kernel) (by decide),
  List.forall_mem_cons.mpr ⟨qz_ldc C (show decode c_X11_as 17 = .ok (.ldc 92, 2) by decide +kernel) cw_1129,
  List.forall_mem_cons.mpr ⟨qz_iret C (show decode c_X11_as 19 = .ok (.ireturn, 1) by decide +kernel) rfl,
  List.forall_mem_cons.mpr ⟨qz_aload_n C (show decode c_X11_as 20 = .ok (.aload_n 0, 1) by decide +kernel) rfl,
  List.forall_mem_cons.mpr ⟨qz_iload_n C (show decode c_X11_as 21 = .ok (.iload_n 1, 1) by decide +kernel) rfl,
  List.forall_mem_cons.mpr ⟨qz_vI C (show decode c_X11_as 22 = .ok (.invokevirtual 291, 3) by decide +kernel) ct_X11_kindIn mv_X11_kindIn cw_1440 vcX11 (show 1 < 3 by omega),
  List.forall_mem_cons.mpr ⟨qz_istore_n C (show decode c_X11_as 25 = .ok (.istore_n 3, 1) by decide +kernel) rfl,
  List.forall_mem_cons.mpr ⟨qz_iload_n C (show decode c_X11_as 26 = .ok (.iload_n 2, 1) by decide +kernel) rfl,
  List.forall_mem_cons.mpr ⟨qz_ifeq C (show decode c_X11_as 27 = .ok (.ifCond .eq 28, 3) by decide +kernel) (by decide),
  List.forall_mem_cons.mpr ⟨qz_iload_n C (show decode c_X11_as 30 = .ok (.iload_n 2, 1) by decide +kernel) rfl,
  List.forall_mem_cons.mpr ⟨qz_iload_n C (show decode c_X11_as 31 = .ok (.iload_n 3, 1) by decide +kernel) rfl,
  List.forall_mem_cons.mpr ⟨qz_iceq C (show decode c_X11_as 32 = .ok (.if_icmp .eq 23, 3) by decide +kernel) (by decide),
  List.forall_mem_cons.mpr ⟨qz_iload_n C (show decode c_X11_as 35 = .ok (.iload_n 2, 1) by decide +kernel) rfl,
  List.forall_mem_cons.mpr ⟨qz_iconst C (show decode c_X11_as 36 = .ok (.iconst 1, 1) by decide +kernel) (by decide +kernel),
  List.forall_mem_cons.mpr ⟨qz_icne C (show decode c_X11_as 37 = .ok (.if_icmp .ne 8, 3) by decide +kernel) (by decide),
  List.forall_mem_cons.mpr ⟨qz_iload_n C (show decode c_X11_as 40 = .ok (.iload_n 3, 1) by decide +kernel) rfl,
  List.forall_mem_cons.mpr ⟨qz_iconst C (show decode c_X11_as 41 = .ok (.iconst 4, 1) by decide +kernel) (by decide +kernel),
  List.forall_mem_cons.mpr ⟨qz_iclt C (show decode c_X11_as 42 = .ok (.if_icmp .lt 13, 3) by decide +kernel) (by decide),
  List.forall_mem_cons.mpr ⟨qz_iload_n C (show decode c_X11_as 45 = .ok (.iload_n 2, 1) by decide +kernel) rfl,
  List.forall_mem_cons.mpr ⟨qz_iconst C (show decode c_X11_as 46 = .ok (.iconst 4, 1) by decide +kernel) (by decide +kernel),
  List.forall_mem_cons.mpr ⟨qz_icne C (show decode c_X11_as 47 = .ok (.if_icmp .ne 12, 3) by decide +kernel) (by decide),
  List.forall_mem_cons.mpr ⟨qz_iload_n C (show decode c_X11_as 50 = .ok (.iload_n 3, 1) by decide +kernel) rfl,
  List.forall_mem_cons.mpr ⟨qz_iconst C (show decode c_X11_as 51 = .ok (.iconst 5, 1) by decide +kernel) (by decide +kernel),
  List.forall_mem_cons.mpr ⟨qz_icne C (show decode c_X11_as 52 = .ok (.if_icmp .ne 7, 3) by decide +kernel) (by decide),
  List.forall_mem_cons.mpr ⟨qz_iconst C (show decode c_X11_as 55 = .ok (.iconst 1, 1) by decide +kernel) (by decide +kernel),
  List.forall_mem_cons.mpr ⟨qz_goto C (show decode c_X11_as 56 = .ok (.goto 4, 3) by decide +kernel) (by decide),
  List.forall_mem_cons.mpr ⟨qz_iconst C (show decode c_X11_as 59 = .ok (.iconst 0, 1) by decide +kernel) (by decide +kernel),
  List.forall_mem_cons.mpr ⟨qz_istore C (show decode c_X11_as 60 = .ok (.istore 4, 2) by decide +kernel),
  List.forall_mem_cons.mpr ⟨qz_iload C (show decode c_X11_as 62 = .ok (.iload 4, 2) by decide +kernel),
  List.forall_mem_cons.mpr ⟨qz_ifeq C (show decode c_X11_as 64 = .ok (.ifCond .eq 11, 3) by decide +kernel) (by decide),
  List.forall_mem_cons.mpr ⟨qz_aload_n C (show decode c_X11_as 67 = .ok (.aload_n 0, 1) by decide +kernel) rfl,
  List.forall_mem_cons.mpr ⟨qz_iload_n C (show decode c_X11_as 68 = .ok (.iload_n 1, 1) by decide +kernel) rfl,
  (fun q h => by cases h)⟩⟩⟩⟩⟩⟩⟩⟩⟩⟩⟩⟩⟩⟩⟩⟩⟩⟩⟩⟩⟩⟩⟩⟩⟩⟩⟩⟩⟩⟩⟩⟩⟩⟩⟩⟩⟩⟩⟩⟩
set_option maxRecDepth 20000 in
theorem sd_X11_as_1 {G : pj_E} {A : Nat → Prop} {P : pj_P} {S : pj_U} {Z : pj_Z} (C : pj_C (G, A, (c_X11_as, y_X11_as.cls, 5, (some .int), 3), P, S, Z)) : ∀ q ∈ tb_X11_as_1, pj_S (G, A, (c_X11_as, y_X11_as.cls, 5, (some .int), 3), P, S, Z) pj_eI q.1 q.2 :=
  List.forall_mem_cons.mpr ⟨qz_vI C (show decode c_X11_as 69 = .ok (.invokevirtual 97, 3) by decide +kernel) ct_X11_well mv_X11_well cw_1135 vcX11 (show 1 < 3 by omega),
  List.forall_mem_cons.mpr ⟨qz_goto C (show decode c_X11_as 72 = .ok (.goto 8, 3) by decide +kernel) (by decide),
  List.forall_mem_cons.mpr ⟨qz_aload_n C (show decode c_X11_as 75 = .ok (.aload_n 0, 1) by decide +kernel) rfl,
  List.forall_mem_cons.mpr ⟨qz_iconst C (show decode c_X11_as 76 = .ok (.iconst 3, 1) by decide +kernel) (by decide +kernel),
  List.forall_mem_cons.mpr ⟨qz_vI C (show decode c_X11_as 77 = .ok (.invokevirtual 93, 3) by decide +kernel) ct_X11_found mv_X11_found cw_1130 vcX11 (show 1 < 3 by omega),
  List.forall_mem_cons.mpr ⟨qz_iret C (show decode c_X11_as 80 = .ok (.ireturn, 1) by decide +kernel) rfl,
  (fun q h => by cases h)⟩⟩⟩⟩⟩⟩
theorem sd_X11_as {G : pj_E} {A : Nat → Prop} {P : pj_P} {S : pj_U} {Z : pj_Z} (C : pj_C (G, A, (c_X11_as, y_X11_as.cls, 5, (some .int), 3), P, S, Z)) : ∀ q ∈ tb_X11_as, pj_S (G, A, (c_X11_as, y_X11_as.cls, 5, (some .int), 3), P, S, Z) pj_eI q.1 q.2 := List.forall_mem_append.mpr ⟨sd_X11_as_0 C, sd_X11_as_1 C⟩
noncomputable def C_X11_as_59 (f : Int32 → pj_M → Option (Int32 × pj_M)) : pj_N (Int32 × pj_M) := fun L st m => match L, st with
  | [some (.inr (.inr (t0, w0, a0))), some (.inl x1), _, _, _], [] => (match Nat.beq t0 0 && (Nat.beq w0 11 && (Nat.beq a0 72)) with
    | true => f x1 m
    | false => none)
  | _, _ => none
noncomputable def C_X11_as_55 (f : Int32 → pj_M → Option (Int32 × pj_M)) : pj_N (Int32 × pj_M) := fun L st m => match L, st with
  | [some (.inr (.inr (t0, w0, a0))), some (.inl x1), _, _, _], [] => (match Nat.beq t0 0 && (Nat.beq w0 11 && (Nat.beq a0 72)) with
    | true => f x1 m
    | false => none)
  | _, _ => none
set_option maxRecDepth 20000 in
theorem eq_X11_as_59 (x1 : Int32) (d2 d3 d4 : Option pj_V) (m : pj_M) : pj_run tb_X11_as [] 48 59 [some (.inr (.inr (0, 11, 72))), some (.inl x1), d2, d3, d4] [] m = J_X11_as_59 x1 m := by rfl
theorem sg_X11_as_59 {G : pj_E} {A : Nat → Prop} {P : pj_P} {S : pj_U} {Z : pj_Z} (C : pj_C (G, A, (c_X11_as, y_X11_as.cls, 5, (some .int), 3), P, S, Z)) : pj_G (G, A, (c_X11_as, y_X11_as.cls, 5, (some .int), 3), P, S, Z) pj_eI 59 (C_X11_as_59 (J_X11_as_59)) := by
  intro L st m r h hR
  unfold C_X11_as_59 at h
  split at h
  · split at h
    · rename_i hbq
      simp only [Bool.and_eq_true, Nat.beq_eq] at hbq
      obtain ⟨rfl, rfl, rfl⟩ := hbq
      exact pj_run_ok (sd_X11_as C) (fun q h => by cases h) 48 59 _ _ _ _ ((eq_X11_as_59 _ _ _ _ _).trans h) hR
    · cases h
  · cases h
set_option maxRecDepth 20000 in
theorem eq_X11_as_55 (x1 : Int32) (d2 d3 d4 : Option pj_V) (m : pj_M) : pj_run tb_X11_as [] 48 55 [some (.inr (.inr (0, 11, 72))), some (.inl x1), d2, d3, d4] [] m = J_X11_as_55 x1 m := by rfl
theorem sg_X11_as_55 {G : pj_E} {A : Nat → Prop} {P : pj_P} {S : pj_U} {Z : pj_Z} (C : pj_C (G, A, (c_X11_as, y_X11_as.cls, 5, (some .int), 3), P, S, Z)) : pj_G (G, A, (c_X11_as, y_X11_as.cls, 5, (some .int), 3), P, S, Z) pj_eI 55 (C_X11_as_55 (J_X11_as_55)) := by
  intro L st m r h hR
  unfold C_X11_as_55 at h
  split at h
  · split at h
    · rename_i hbq
      simp only [Bool.and_eq_true, Nat.beq_eq] at hbq
      obtain ⟨rfl, rfl, rfl⟩ := hbq
      exact pj_run_ok (sd_X11_as C) (fun q h => by cases h) 48 55 _ _ _ _ ((eq_X11_as_55 _ _ _ _ _).trans h) hR
    · cases h
  · cases h
set_option maxRecDepth 20000 in
theorem eq_X11_as (x1 : Int32) (x2 : Int32) (m : pj_M) : pj_run tb_X11_as [(55, C_X11_as_55 (J_X11_as_55 )), (59, C_X11_as_59 (J_X11_as_59 ))] 48 0 [some (.inr (.inr (0, 11, 72))), some (.inl x1), some (.inl x2), none, none] [] m = F_X11_as x1 x2 m := by rfl
theorem ct_X11_as : pj_Ct pj_eI y_X11_as c_X11_as 5 (some .int) 3 W_X11_as := by
  refine pj_ct_of (by decide +kernel) ?_ ?_
  · intro as m r h
    unfold W_X11_as at h
    split at h
    · simp [pj_l0]
    · cases h
  · intro G A P S Z C as m r h hR
    unfold W_X11_as at h
    split at h
    · split at h
      · rename_i hbq
        simp only [Bool.and_eq_true, Nat.beq_eq] at hbq
        obtain ⟨rfl, rfl, rfl⟩ := hbq
        exact pj_run_ok (sd_X11_as C) (List.forall_mem_cons.mpr ⟨sg_X11_as_55 C , List.forall_mem_cons.mpr ⟨sg_X11_as_59 C , fun q h => by cases h⟩⟩) 48 0 _ _ _ _ ((eq_X11_as _ _ _).trans h) hR
      · cases h
    · cases h
/-! AlikeStepsModel.traces(I)V -/
abbrev c_X11_traces : ByteArray := prog_13_method_86_code
def y_X11_traces : MethodName := ⟨RX11, "traces", "(I)V"⟩
noncomputable def F_X11_traces (x1 : Int32) (m : pj_M) : Option (pj_M) := (if (m.1 72 32) < 16 then (if (m.1 72 32) < 0 ∨ 16 ≤ (m.1 72 32).toNatClampNeg then none else (some (pj_wr (pj_wr m 94 (m.1 72 32).toNatClampNeg x1) 72 32 (((pj_wr m 94 (m.1 72 32).toNatClampNeg x1).1 72 32) + 1)))) else (some m))
noncomputable def W_X11_traces : List pj_V → pj_M → Option (pj_M) := fun as m => match as with
  | [.inr (.inr (t0, w0, a0)), .inl x1] => (match Nat.beq t0 0 && (Nat.beq w0 11 && (Nat.beq a0 72)) with
    | true => F_X11_traces x1 m
    | false => none)
  | _ => none
noncomputable def tb_X11_traces_0 : List (Nat × pj_T (pj_M)) := [(0, qs_lda 0 1), (1, qs_gf 11 32 4), (4, qs_ci 16 6), (6, qs_icge 29 9), (9, qs_lda 0 10), (10, qs_gf 11 31 13), (13, qs_lda 0 14), (14, qs_gf 11 32 17), (17, qs_ldi 1 18), (18, qs_iast 19), (19, qs_lda 0 20), (20, qs_dup 21), (21, qs_gf 11 32 24), (24, qs_ci 1 25), (25, qs_b2 (fun x y => x + y) 26), (26, qs_pf 11 32 29), (29, qs_vret)]
noncomputable abbrev tb_X11_traces : List (Nat × pj_T (pj_M)) := tb_X11_traces_0
theorem mv_X11_traces : pj_mv y_X11_traces c_X11_traces 2 none 1 := ⟨⟨cw_1459, cw_1458, cw_75, cw_92⟩, by decide +kernel, by decide⟩
set_option maxRecDepth 20000 in
theorem sd_X11_traces_0 {G : pj_E} {A : Nat → Prop} {P : pj_P} {S : pj_U} {Z : pj_Z} (C : pj_C (G, A, (c_X11_traces, y_X11_traces.cls, 2, none, 1), P, S, Z)) : ∀ q ∈ tb_X11_traces_0, pj_S (G, A, (c_X11_traces, y_X11_traces.cls, 2, none, 1), P, S, Z) pj_eV q.1 q.2 :=
  List.forall_mem_cons.mpr ⟨qz_aload_n C (show decode c_X11_traces 0 = .ok (.aload_n 0, 1) by decide +kernel) rfl,
  List.forall_mem_cons.mpr ⟨qz_gf (k := 32) C (show decode c_X11_traces 1 = .ok (.getfield 294, 3) by decide +kernel) vcX11 wiX11 (by decide) cw_1050,
  List.forall_mem_cons.mpr ⟨qz_bipush C (show decode c_X11_traces 4 = .ok (.bipush 16, 2) by decide +kernel) (by decide +kernel),
  List.forall_mem_cons.mpr ⟨qz_icge C (show decode c_X11_traces 6 = .ok (.if_icmp .ge 23, 3) by decide +kernel) (by decide),
  List.forall_mem_cons.mpr ⟨qz_aload_n C (show decode c_X11_traces 9 = .ok (.aload_n 0, 1) by decide +kernel) rfl,
  List.forall_mem_cons.mpr ⟨qz_gf (k := 31) C (show decode c_X11_traces 10 = .ok (.getfield 75, 3) by decide +kernel) vcX11 wiX11 (by decide) cw_1049,
  List.forall_mem_cons.mpr ⟨qz_aload_n C (show decode c_X11_traces 13 = .ok (.aload_n 0, 1) by decide +kernel) rfl,
  List.forall_mem_cons.mpr ⟨qz_gf (k := 32) C (show decode c_X11_traces 14 = .ok (.getfield 294, 3) by decide +kernel) vcX11 wiX11 (by decide) cw_1050,
  List.forall_mem_cons.mpr ⟨qz_iload_n C (show decode c_X11_traces 17 = .ok (.iload_n 1, 1) by decide +kernel) rfl,
  List.forall_mem_cons.mpr ⟨qz_iast C (show decode c_X11_traces 18 = .ok (.iastore, 1) by decide +kernel),
  List.forall_mem_cons.mpr ⟨qz_aload_n C (show decode c_X11_traces 19 = .ok (.aload_n 0, 1) by decide +kernel) rfl,
  List.forall_mem_cons.mpr ⟨qz_dup C (show decode c_X11_traces 20 = .ok (.dup, 1) by decide +kernel),
  List.forall_mem_cons.mpr ⟨qz_gf (k := 32) C (show decode c_X11_traces 21 = .ok (.getfield 294, 3) by decide +kernel) vcX11 wiX11 (by decide) cw_1050,
  List.forall_mem_cons.mpr ⟨qz_iconst C (show decode c_X11_traces 24 = .ok (.iconst 1, 1) by decide +kernel) (by decide +kernel),
  List.forall_mem_cons.mpr ⟨qz_iadd C (show decode c_X11_traces 25 = .ok (.iadd, 1) by decide +kernel),
  List.forall_mem_cons.mpr ⟨qz_pf (k := 32) C (show decode c_X11_traces 26 = .ok (.putfield 294, 3) by decide +kernel) vcX11 wiX11 tyX11_ok nmX11 (by decide) cw_1050 rfl rfl,
  List.forall_mem_cons.mpr ⟨qz_vret C (show decode c_X11_traces 29 = .ok (.return_, 1) by decide +kernel) rfl,
  (fun q h => by cases h)⟩⟩⟩⟩⟩⟩⟩⟩⟩⟩⟩⟩⟩⟩⟩⟩⟩
theorem sd_X11_traces {G : pj_E} {A : Nat → Prop} {P : pj_P} {S : pj_U} {Z : pj_Z} (C : pj_C (G, A, (c_X11_traces, y_X11_traces.cls, 2, none, 1), P, S, Z)) : ∀ q ∈ tb_X11_traces, pj_S (G, A, (c_X11_traces, y_X11_traces.cls, 2, none, 1), P, S, Z) pj_eV q.1 q.2 := sd_X11_traces_0 C
set_option maxRecDepth 20000 in
theorem eq_X11_traces (x1 : Int32) (m : pj_M) : pj_run tb_X11_traces [] 19 0 [some (.inr (.inr (0, 11, 72))), some (.inl x1)] [] m = F_X11_traces x1 m := by rfl
theorem ct_X11_traces : pj_Ct pj_eV y_X11_traces c_X11_traces 2 none 1 W_X11_traces := by
  refine pj_ct_of (by decide +kernel) ?_ ?_
  · intro as m r h
    unfold W_X11_traces at h
    split at h
    · simp [pj_l0]
    · cases h
  · intro G A P S Z C as m r h hR
    unfold W_X11_traces at h
    split at h
    · split at h
      · rename_i hbq
        simp only [Bool.and_eq_true, Nat.beq_eq] at hbq
        obtain ⟨rfl, rfl, rfl⟩ := hbq
        exact pj_run_ok (sd_X11_traces C) (fun q h => by cases h) 19 0 _ _ _ _ ((eq_X11_traces _ _).trans h) hR
      · cases h
    · cases h
/-! AlikeStepsModel.placeMark(I)I -/
abbrev c_X11_placeMark : ByteArray := prog_13_method_87_code
def y_X11_placeMark : MethodName := ⟨RX11, "placeMark", "(I)I"⟩
noncomputable def J_X11_placeMark_27 (x1 : Int32) (x2 : Int32) (m : pj_M) : Option (Int32 × pj_M) := ((F_X11_traces 21 m).bind fun q1 => ((F_X11_traces 20 q1).bind fun q2 => ((F_X11_blockOf 0 x1 q2).bind fun q3 => (if x2 = 2 then (some (2 * (x1 + q3.1), q3.2)) else (if x2 = 3 then (some ((x1 + q3.1) - 1000, q3.2)) else (some (x1 + q3.1, q3.2)))))))
noncomputable def F_X11_placeMark (x1 : Int32) (m : pj_M) : Option (Int32 × pj_M) := ((F_X11_kindIn x1 m).bind fun q1 => (if q1.1 = 1 then (J_X11_placeMark_27 x1 q1.1 q1.2) else (if q1.1 = 2 then ((F_X11_traces 24 q1.2).bind fun q3 => (J_X11_placeMark_27 x1 q1.1 q3)) else ((F_X11_traces 22 q1.2).bind fun q2 => (J_X11_placeMark_27 x1 q1.1 q2)))))
noncomputable def W_X11_placeMark : List pj_V → pj_M → Option (Int32 × pj_M) := fun as m => match as with
  | [.inr (.inr (t0, w0, a0)), .inl x1] => (match Nat.beq t0 0 && (Nat.beq w0 11 && (Nat.beq a0 72)) with
    | true => F_X11_placeMark x1 m
    | false => none)
  | _ => none
noncomputable def tb_X11_placeMark_0 : List (Nat × pj_T (Int32 × pj_M)) := [(0, qs_lda 0 1), (1, qs_ldi 1 2), (2, qs_vI 11 2 W_X11_kindIn 5), (5, qs_sti 2 6), (6, qs_ldi 2 7), (7, qs_ci 1 8), (8, qs_iceq 27 11), (11, qs_lda 0 12), (12, qs_ldi 2 13), (13, qs_ci 2 14), (14, qs_icne 22 17), (17, qs_ci 24 19), (19, qs_go 24), (22, qs_ci 22 24), (24, qs_vV 11 2 W_X11_traces 27), (27, qs_lda 0 28), (28, qs_ci 21 30), (30, qs_vV 11 2 W_X11_traces 33), (33, qs_lda 0 34), (34, qs_ci 20 36), (36, qs_vV 11 2 W_X11_traces 39), (39, qs_ldi 1 40), (40, qs_lda 0 41), (41, qs_ci 0 42), (42, qs_ldi 1 43), (43, qs_vI 11 3 W_X11_blockOf 46), (46, qs_b2 (fun x y => x + y) 47), (47, qs_sti 3 48), (48, qs_ldi 2 49), (49, qs_ci 2 50), (50, qs_icne 59 53), (53, qs_ci 2 54), (54, qs_ldi 3 55), (55, qs_b2 (fun x y => x * y) 56), (56, qs_go 73), (59, qs_ldi 2 60), (60, qs_ci 3 61), (61, qs_icne 72 64), (64, qs_ldi 3 65), (65, qs_ci 1000 68)]
noncomputable def tb_X11_placeMark_1 : List (Nat × pj_T (Int32 × pj_M)) := [(68, qs_b2 (fun x y => x - y) 69), (69, qs_go 73), (72, qs_ldi 3 73), (73, qs_iret)]
noncomputable def tb_X11_placeMark : List (Nat × pj_T (Int32 × pj_M)) := tb_X11_placeMark_0 ++ (tb_X11_placeMark_1)
theorem mv_X11_placeMark : pj_mv y_X11_placeMark c_X11_placeMark 4 (some .int) 1 := ⟨⟨cw_1471, cw_1470, cw_78, cw_92⟩, by decide +kernel, by decide⟩
set_option maxRecDepth 20000 in
theorem sd_X11_placeMark_0 {G : pj_E} {A : Nat → Prop} {P : pj_P} {S : pj_U} {Z : pj_Z} (C : pj_C (G, A, (c_X11_placeMark, y_X11_placeMark.cls, 4, (some .int), 7), P, S, Z)) : ∀ q ∈ tb_X11_placeMark_0, pj_S (G, A, (c_X11_placeMark, y_X11_placeMark.cls, 4, (some .int), 7), P, S, Z) pj_eI q.1 q.2 :=
  List.forall_mem_cons.mpr ⟨qz_aload_n C (show decode c_X11_placeMark 0 = .ok (.aload_n 0, 1) by decide +kernel) rfl,
  List.forall_mem_cons.mpr ⟨qz_iload_n C (show decode c_X11_placeMark 1 = .ok (.iload_n 1, 1) by decide +kernel) rfl,
  List.forall_mem_cons.mpr ⟨qz_vI C (show decode c_X11_placeMark 2 = .ok (.invokevirtual 291, 3) by decide +kernel) ct_X11_kindIn mv_X11_kindIn cw_1440 vcX11 (show 1 < 7 by omega),
  List.forall_mem_cons.mpr ⟨qz_istore_n C (show decode c_X11_placeMark 5 = .ok (.istore_n 2, 1) by decide +kernel) rfl,
  List.forall_mem_cons.mpr ⟨qz_iload_n C (show decode c_X11_placeMark 6 = .ok (.iload_n 2, 1) by decide +kernel) rfl,
  List.forall_mem_cons.mpr ⟨qz_iconst C (show decode c_X11_placeMark 7 = .ok (.iconst 1, 1) by decide +kernel) (by decide +kernel),
  List.forall_mem_cons.mpr ⟨qz_iceq C (show decode c_X11_placeMark 8 = .ok (.if_icmp .eq 19, 3) by decide +kernel) (by decide),
  List.forall_mem_cons.mpr ⟨qz_aload_n C (show decode c_X11_placeMark 11 = .ok (.aload_n 0, 1) by decide +kernel) rfl,
  List.forall_mem_cons.mpr ⟨qz_iload_n C (show decode c_X11_placeMark 12 = .ok (.iload_n 2, 1) by decide +kernel) rfl,
  List.forall_mem_cons.mpr ⟨qz_iconst C (show decode c_X11_placeMark 13 = .ok (.iconst 2, 1) by decide +kernel) (by decide +kernel),
  List.forall_mem_cons.mpr ⟨qz_icne C (show decode c_X11_placeMark 14 = .ok (.if_icmp .ne 8, 3) by decide +kernel) (by decide),
  List.forall_mem_cons.mpr ⟨qz_bipush C (show decode c_X11_placeMark 17 = .ok (.bipush 24, 2) by decide +kernel) (by decide +kernel),
  List.forall_mem_cons.mpr ⟨qz_goto C (show decode c_X11_placeMark 19 = .ok (.goto 5, 3) by decide +kernel) (by decide),
  List.forall_mem_cons.mpr ⟨qz_bipush C (show decode c_X11_placeMark 22 = .ok (.bipush 22, 2) by decide +kernel) (by decide +kernel),
  List.forall_mem_cons.mpr ⟨qz_vV C (show decode c_X11_placeMark 24 = .ok (.invokevirtual 297, 3) by decide +kernel) ct_X11_traces mv_X11_traces cw_1456 vcX11 (show 1 < 7 by omega),
  List.forall_mem_cons.mpr ⟨qz_aload_n C (show decode c_X11_placeMark 27 = .ok (.aload_n 0, 1) by decide +kernel) rfl,
  List.forall_mem_cons.mpr ⟨qz_bipush C (show decode c_X11_placeMark 28 = .ok (.bipush 21, 2) by decide +kernel) (by decide +kernel),
  List.forall_mem_cons.mpr ⟨qz_vV C (show decode c_X11_placeMark 30 = .ok (.invokevirtual 297, 3) by decide +kernel) ct_X11_traces mv_X11_traces cw_1456 vcX11 (show 1 < 7 by omega),
  List.forall_mem_cons.mpr ⟨qz_aload_n C (show decode c_X11_placeMark 33 = .ok (.aload_n 0, 1) by decide +kernel) rfl,
  List.forall_mem_cons.mpr ⟨qz_bipush C (show decode c_X11_placeMark 34 = .ok (.bipush 20, 2) by decide +kernel) (by decide +kernel),
  List.forall_mem_cons.mpr ⟨qz_vV C (show decode c_X11_placeMark 36 = .ok (.invokevirtual 297, 3) by decide +kernel) ct_X11_traces mv_X11_traces cw_1456 vcX11 (show 1 < 7 by omega),
  List.forall_mem_cons.mpr ⟨qz_iload_n C (show decode c_X11_placeMark 39 = .ok (.iload_n 1, 1) by decide +kernel) rfl,
  List.forall_mem_cons.mpr ⟨qz_aload_n C (show decode c_X11_placeMark 40 = .ok (.aload_n 0, 1) by decide +kernel) rfl,
  List.forall_mem_cons.mpr ⟨qz_iconst C (show decode c_X11_placeMark 41 = .ok (.iconst 0, 1) by decide +kernel) (by decide +kernel),
  List.forall_mem_cons.mpr ⟨qz_iload_n C (show decode c_X11_placeMark 42 = .ok (.iload_n 1, 1) by decide +kernel) rfl,
  List.forall_mem_cons.mpr ⟨qz_vI C (show decode c_X11_placeMark 43 = .ok (.invokevirtual 242, 3) by decide +kernel) ct_X11_blockOf mv_X11_blockOf cw_1296 vcX11 (show 6 < 7 by omega),
  List.forall_mem_cons.mpr ⟨qz_iadd C (show decode c_X11_placeMark 46 = .ok (.iadd, 1) by decide +kernel),
  List.forall_mem_cons.mpr ⟨qz_istore_n C (show decode c_X11_placeMark 47 = .ok (.istore_n 3, 1) by decide +kernel) rfl,
  List.forall_mem_cons.mpr ⟨qz_iload_n C (show decode c_X11_placeMark 48 = .ok (.iload_n 2, 1) by decide +kernel) rfl,
  List.forall_mem_cons.mpr ⟨qz_iconst C (show decode c_X11_placeMark 49 = .ok (.iconst 2, 1) by decide +kernel) (by decide +kernel),
  List.forall_mem_cons.mpr ⟨qz_icne C (show decode c_X11_placeMark 50 = .ok (.if_icmp .ne 9, 3) by decide +kernel) (by decide),
  List.forall_mem_cons.mpr ⟨qz_iconst C (show decode c_X11_placeMark 53 = .ok (.iconst 2, 1) by decide +kernel) (by decide +kernel),
  List.forall_mem_cons.mpr ⟨qz_iload_n C (show decode c_X11_placeMark 54 = .ok (.iload_n 3, 1) by decide +kernel) rfl,
  List.forall_mem_cons.mpr ⟨qz_imul C (show decode c_X11_placeMark 55 = .ok (.imul, 1) by decide +kernel),
  List.forall_mem_cons.mpr ⟨qz_goto C (show decode c_X11_placeMark 56 = .ok (.goto 17, 3) by decide +kernel) (by decide),
  List.forall_mem_cons.mpr ⟨qz_iload_n C (show decode c_X11_placeMark 59 = .ok (.iload_n 2, 1) by decide +kernel) rfl,
  List.forall_mem_cons.mpr ⟨qz_iconst C (show decode c_X11_placeMark 60 = .ok (.iconst 3, 1) by decide +kernel) (by decide +kernel),
  List.forall_mem_cons.mpr ⟨qz_icne C (show decode c_X11_placeMark 61 = .ok (.if_icmp .ne 11, 3) by decide +kernel) (by decide),
  List.forall_mem_cons.mpr ⟨qz_iload_n C (show decode c_X11_placeMark 64 = .ok (.iload_n 3, 1) by decide +kernel) rfl,
  List.forall_mem_cons.mpr ⟨qz_sipush C (show decode c_X11_placeMark 65 = .ok (.sipush 1000, 3) by decide +kernel) (by decide +kernel),
  (fun q h => by cases h)⟩⟩⟩⟩⟩⟩⟩⟩⟩⟩⟩⟩⟩⟩⟩⟩⟩⟩⟩⟩⟩⟩⟩⟩⟩⟩⟩⟩⟩⟩⟩⟩⟩⟩⟩⟩⟩⟩⟩⟩
set_option maxRecDepth 20000 in
theorem sd_X11_placeMark_1 {G : pj_E} {A : Nat → Prop} {P : pj_P} {S : pj_U} {Z : pj_Z} (C : pj_C (G, A, (c_X11_placeMark, y_X11_placeMark.cls, 4, (some .int), 7), P, S, Z)) : ∀ q ∈ tb_X11_placeMark_1, pj_S (G, A, (c_X11_placeMark, y_X11_placeMark.cls, 4, (some .int), 7), P, S, Z) pj_eI q.1 q.2 :=
  List.forall_mem_cons.mpr ⟨qz_isub C (show decode c_X11_placeMark 68 = .ok (.isub, 1) by decide +kernel),
  List.forall_mem_cons.mpr ⟨qz_goto C (show decode c_X11_placeMark 69 = .ok (.goto 4, 3) by decide +kernel) (by decide),
  List.forall_mem_cons.mpr ⟨qz_iload_n C (show decode c_X11_placeMark 72 = .ok (.iload_n 3, 1) by decide +kernel) rfl,
  List.forall_mem_cons.mpr ⟨qz_iret C (show decode c_X11_placeMark 73 = .ok (.ireturn, 1) by decide +kernel) rfl,
  (fun q h => by cases h)⟩⟩⟩⟩
theorem sd_X11_placeMark {G : pj_E} {A : Nat → Prop} {P : pj_P} {S : pj_U} {Z : pj_Z} (C : pj_C (G, A, (c_X11_placeMark, y_X11_placeMark.cls, 4, (some .int), 7), P, S, Z)) : ∀ q ∈ tb_X11_placeMark, pj_S (G, A, (c_X11_placeMark, y_X11_placeMark.cls, 4, (some .int), 7), P, S, Z) pj_eI q.1 q.2 := List.forall_mem_append.mpr ⟨sd_X11_placeMark_0 C, sd_X11_placeMark_1 C⟩
noncomputable def C_X11_placeMark_27 (f : Int32 → Int32 → pj_M → Option (Int32 × pj_M)) : pj_N (Int32 × pj_M) := fun L st m => match L, st with
  | [some (.inr (.inr (t0, w0, a0))), some (.inl x1), some (.inl x2), _], [] => (match Nat.beq t0 0 && (Nat.beq w0 11 && (Nat.beq a0 72)) with
    | true => f x1 x2 m
    | false => none)
  | _, _ => none
set_option maxRecDepth 20000 in
theorem eq_X11_placeMark_27 (x1 : Int32) (x2 : Int32) (d3 : Option pj_V) (m : pj_M) : pj_run tb_X11_placeMark [] 46 27 [some (.inr (.inr (0, 11, 72))), some (.inl x1), some (.inl x2), d3] [] m = J_X11_placeMark_27 x1 x2 m := by rfl
theorem sg_X11_placeMark_27 {G : pj_E} {A : Nat → Prop} {P : pj_P} {S : pj_U} {Z : pj_Z} (C : pj_C (G, A, (c_X11_placeMark, y_X11_placeMark.cls, 4, (some .int), 7), P, S, Z)) : pj_G (G, A, (c_X11_placeMark, y_X11_placeMark.cls, 4, (some .int), 7), P, S, Z) pj_eI 27 (C_X11_placeMark_27 (J_X11_placeMark_27)) := by
  intro L st m r h hR
  unfold C_X11_placeMark_27 at h
  split at h
  · split at h
    · rename_i hbq
      simp only [Bool.and_eq_true, Nat.beq_eq] at hbq
      obtain ⟨rfl, rfl, rfl⟩ := hbq
      exact pj_run_ok (sd_X11_placeMark C) (fun q h => by cases h) 46 27 _ _ _ _ ((eq_X11_placeMark_27 _ _ _ _).trans h) hR
    · cases h
  · cases h
set_option maxRecDepth 20000 in
theorem eq_X11_placeMark (x1 : Int32) (m : pj_M) : pj_run tb_X11_placeMark [(27, C_X11_placeMark_27 (J_X11_placeMark_27 ))] 46 0 [some (.inr (.inr (0, 11, 72))), some (.inl x1), none, none] [] m = F_X11_placeMark x1 m := by rfl
theorem ct_X11_placeMark : pj_Ct pj_eI y_X11_placeMark c_X11_placeMark 4 (some .int) 7 W_X11_placeMark := by
  refine pj_ct_of (by decide +kernel) ?_ ?_
  · intro as m r h
    unfold W_X11_placeMark at h
    split at h
    · simp [pj_l0]
    · cases h
  · intro G A P S Z C as m r h hR
    unfold W_X11_placeMark at h
    split at h
    · split at h
      · rename_i hbq
        simp only [Bool.and_eq_true, Nat.beq_eq] at hbq
        obtain ⟨rfl, rfl, rfl⟩ := hbq
        exact pj_run_ok (sd_X11_placeMark C) (List.forall_mem_cons.mpr ⟨sg_X11_placeMark_27 C , fun q h => by cases h⟩) 46 0 _ _ _ _ ((eq_X11_placeMark _ _).trans h) hR
      · cases h
    · cases h
/-! AlikeStepsModel.doorSize(I)I -/
abbrev c_X11_doorSize : ByteArray := prog_13_method_88_code
def y_X11_doorSize : MethodName := ⟨RX11, "doorSize", "(I)I"⟩
noncomputable def J_X11_doorSize_25 (x1 : Int32) (x2 : Int32) (m : pj_M) : Option (Int32 × pj_M) := ((F_X11_traces 13 m).bind fun q1 => ((F_X11_traces 10 q1).bind fun q2 => ((F_X11_pairs x1 q2).bind fun q3 => (if x2 = 0 then (some (q3.1 - 100, q3.2)) else (some (2 * (q3.1 - 100), q3.2))))))
noncomputable def F_X11_doorSize (x1 : Int32) (m : pj_M) : Option (Int32 × pj_M) := ((F_X11_kindIn x1 m).bind fun q1 => (if q1.1 = 5 then (if (1 : Int32) = 0 then (J_X11_doorSize_25 x1 1 q1.2) else ((F_X11_traces 14 q1.2).bind fun q3 => (J_X11_doorSize_25 x1 1 q3))) else (if (0 : Int32) = 0 then (J_X11_doorSize_25 x1 0 q1.2) else ((F_X11_traces 14 q1.2).bind fun q2 => (J_X11_doorSize_25 x1 0 q2)))))
noncomputable def W_X11_doorSize : List pj_V → pj_M → Option (Int32 × pj_M) := fun as m => match as with
  | [.inr (.inr (t0, w0, a0)), .inl x1] => (match Nat.beq t0 0 && (Nat.beq w0 11 && (Nat.beq a0 72)) with
    | true => F_X11_doorSize x1 m
    | false => none)
  | _ => none
noncomputable def tb_X11_doorSize_0 : List (Nat × pj_T (Int32 × pj_M)) := [(0, qs_lda 0 1), (1, qs_ldi 1 2), (2, qs_vI 11 2 W_X11_kindIn 5), (5, qs_ci 5 6), (6, qs_icne 13 9), (9, qs_ci 1 10), (10, qs_go 14), (13, qs_ci 0 14), (14, qs_sti 2 15), (15, qs_ldi 2 16), (16, qs_ifeq 25 19), (19, qs_lda 0 20), (20, qs_ci 14 22), (22, qs_vV 11 2 W_X11_traces 25), (25, qs_lda 0 26), (26, qs_ci 13 28), (28, qs_vV 11 2 W_X11_traces 31), (31, qs_lda 0 32), (32, qs_ci 10 34), (34, qs_vV 11 2 W_X11_traces 37), (37, qs_lda 0 38), (38, qs_ldi 1 39), (39, qs_vI 11 2 W_X11_pairs 42), (42, qs_ci 100 44), (44, qs_b2 (fun x y => x - y) 45), (45, qs_sti 3 46), (46, qs_ldi 2 47), (47, qs_ifeq 56 50), (50, qs_ci 2 51), (51, qs_ldi 3 52), (52, qs_b2 (fun x y => x * y) 53), (53, qs_go 57), (56, qs_ldi 3 57), (57, qs_iret)]
noncomputable abbrev tb_X11_doorSize : List (Nat × pj_T (Int32 × pj_M)) := tb_X11_doorSize_0
theorem mv_X11_doorSize : pj_mv y_X11_doorSize c_X11_doorSize 4 (some .int) 1 := ⟨⟨cw_1455, cw_1454, cw_74, cw_92⟩, by decide +kernel, by decide⟩
set_option maxRecDepth 20000 in
theorem sd_X11_doorSize_0 {G : pj_E} {A : Nat → Prop} {P : pj_P} {S : pj_U} {Z : pj_Z} (C : pj_C (G, A, (c_X11_doorSize, y_X11_doorSize.cls, 4, (some .int), 6), P, S, Z)) : ∀ q ∈ tb_X11_doorSize_0, pj_S (G, A, (c_X11_doorSize, y_X11_doorSize.cls, 4, (some .int), 6), P, S, Z) pj_eI q.1 q.2 :=
  List.forall_mem_cons.mpr ⟨qz_aload_n C (show decode c_X11_doorSize 0 = .ok (.aload_n 0, 1) by decide +kernel) rfl,
  List.forall_mem_cons.mpr ⟨qz_iload_n C (show decode c_X11_doorSize 1 = .ok (.iload_n 1, 1) by decide +kernel) rfl,
  List.forall_mem_cons.mpr ⟨qz_vI C (show decode c_X11_doorSize 2 = .ok (.invokevirtual 291, 3) by decide +kernel) ct_X11_kindIn mv_X11_kindIn cw_1440 vcX11 (show 1 < 6 by omega),
  List.forall_mem_cons.mpr ⟨qz_iconst C (show decode c_X11_doorSize 5 = .ok (.iconst 5, 1) by decide +kernel) (by decide +kernel),
  List.forall_mem_cons.mpr ⟨qz_icne C (show decode c_X11_doorSize 6 = .ok (.if_icmp .ne 7, 3) by decide +kernel) (by decide),
  List.forall_mem_cons.mpr ⟨qz_iconst C (show decode c_X11_doorSize 9 = .ok (.iconst 1, 1) by decide +kernel) (by decide +kernel),
  List.forall_mem_cons.mpr ⟨qz_goto C (show decode c_X11_doorSize 10 = .ok (.goto 4, 3) by decide +kernel) (by decide),
  List.forall_mem_cons.mpr ⟨qz_iconst C (show decode c_X11_doorSize 13 = .ok (.iconst 0, 1) by decide +kernel) (by decide +kernel),
  List.forall_mem_cons.mpr ⟨qz_istore_n C (show decode c_X11_doorSize 14 = .ok (.istore_n 2, 1) by decide +kernel) rfl,
  List.forall_mem_cons.mpr ⟨qz_iload_n C (show decode c_X11_doorSize 15 = .ok (.iload_n 2, 1) by decide +kernel) rfl,
  List.forall_mem_cons.mpr ⟨qz_ifeq C (show decode c_X11_doorSize 16 = .ok (.ifCond .eq 9, 3) by decide +kernel) (by decide),
  List.forall_mem_cons.mpr ⟨qz_aload_n C (show decode c_X11_doorSize 19 = .ok (.aload_n 0, 1) by decide +kernel) rfl,
  List.forall_mem_cons.mpr ⟨qz_bipush C (show decode c_X11_doorSize 20 = .ok (.bipush 14, 2) by decide +kernel) (by decide +kernel),
  List.forall_mem_cons.mpr ⟨qz_vV C (show decode c_X11_doorSize 22 = .ok (.invokevirtual 297, 3) by decide +kernel) ct_X11_traces mv_X11_traces cw_1456 vcX11 (show 1 < 6 by omega),
  List.forall_mem_cons.mpr ⟨qz_aload_n C (show decode c_X11_doorSize 25 = .ok (.aload_n 0, 1) by decide +kernel) rfl,
  List.forall_mem_cons.mpr ⟨qz_bipush C (show decode c_X11_doorSize 26 = .ok (.bipush 13, 2) by decide +kernel) (by decide +kernel),
  List.forall_mem_cons.mpr ⟨qz_vV C (show decode c_X11_doorSize 28 = .ok (.invokevirtual 297, 3) by decide +kernel) ct_X11_traces mv_X11_traces cw_1456 vcX11 (show 1 < 6 by omega),
  List.forall_mem_cons.mpr ⟨qz_aload_n C (show decode c_X11_doorSize 31 = .ok (.aload_n 0, 1) by decide +kernel) rfl,
  List.forall_mem_cons.mpr ⟨qz_bipush C (show decode c_X11_doorSize 32 = .ok (.bipush 10, 2) by decide +kernel) (by decide +kernel),
  List.forall_mem_cons.mpr ⟨qz_vV C (show decode c_X11_doorSize 34 = .ok (.invokevirtual 297, 3) by decide +kernel) ct_X11_traces mv_X11_traces cw_1456 vcX11 (show 1 < 6 by omega),
  List.forall_mem_cons.mpr ⟨qz_aload_n C (show decode c_X11_doorSize 37 = .ok (.aload_n 0, 1) by decide +kernel) rfl,
  List.forall_mem_cons.mpr ⟨qz_iload_n C (show decode c_X11_doorSize 38 = .ok (.iload_n 1, 1) by decide +kernel) rfl,
  List.forall_mem_cons.mpr ⟨qz_vI C (show decode c_X11_doorSize 39 = .ok (.invokevirtual 300, 3) by decide +kernel) ct_X11_pairs mv_X11_pairs cw_1460 vcX11 (show 5 < 6 by omega),
  List.forall_mem_cons.mpr ⟨qz_bipush C (show decode c_X11_doorSize 42 = .ok (.bipush 100, 2) by decide +kernel) (by decide +kernel),
  List.forall_mem_cons.mpr ⟨qz_isub C (show decode c_X11_doorSize 44 = .ok (.isub, 1) by decide +kernel),
  List.forall_mem_cons.mpr ⟨qz_istore_n C (show decode c_X11_doorSize 45 = .ok (.istore_n 3, 1) by decide +kernel) rfl,
  List.forall_mem_cons.mpr ⟨qz_iload_n C (show decode c_X11_doorSize 46 = .ok (.iload_n 2, 1) by decide +kernel) rfl,
  List.forall_mem_cons.mpr ⟨qz_ifeq C (show decode c_X11_doorSize 47 = .ok (.ifCond .eq 9, 3) by decide +kernel) (by decide),
  List.forall_mem_cons.mpr ⟨qz_iconst C (show decode c_X11_doorSize 50 = .ok (.iconst 2, 1) by decide +kernel) (by decide +kernel),
  List.forall_mem_cons.mpr ⟨qz_iload_n C (show decode c_X11_doorSize 51 = .ok (.iload_n 3, 1) by decide +kernel) rfl,
  List.forall_mem_cons.mpr ⟨qz_imul C (show decode c_X11_doorSize 52 = .ok (.imul, 1) by decide +kernel),
  List.forall_mem_cons.mpr ⟨qz_goto C (show decode c_X11_doorSize 53 = .ok (.goto 4, 3) by decide +kernel) (by decide),
  List.forall_mem_cons.mpr ⟨qz_iload_n C (show decode c_X11_doorSize 56 = .ok (.iload_n 3, 1) by decide +kernel) rfl,
  List.forall_mem_cons.mpr ⟨qz_iret C (show decode c_X11_doorSize 57 = .ok (.ireturn, 1) by decide +kernel) rfl,
  (fun q h => by cases h)⟩⟩⟩⟩⟩⟩⟩⟩⟩⟩⟩⟩⟩⟩⟩⟩⟩⟩⟩⟩⟩⟩⟩⟩⟩⟩⟩⟩⟩⟩⟩⟩⟩⟩
theorem sd_X11_doorSize {G : pj_E} {A : Nat → Prop} {P : pj_P} {S : pj_U} {Z : pj_Z} (C : pj_C (G, A, (c_X11_doorSize, y_X11_doorSize.cls, 4, (some .int), 6), P, S, Z)) : ∀ q ∈ tb_X11_doorSize, pj_S (G, A, (c_X11_doorSize, y_X11_doorSize.cls, 4, (some .int), 6), P, S, Z) pj_eI q.1 q.2 := sd_X11_doorSize_0 C
noncomputable def C_X11_doorSize_25 (f : Int32 → Int32 → pj_M → Option (Int32 × pj_M)) : pj_N (Int32 × pj_M) := fun L st m => match L, st with
  | [some (.inr (.inr (t0, w0, a0))), some (.inl x1), some (.inl x2), _], [] => (match Nat.beq t0 0 && (Nat.beq w0 11 && (Nat.beq a0 72)) with
    | true => f x1 x2 m
    | false => none)
  | _, _ => none
set_option maxRecDepth 20000 in
theorem eq_X11_doorSize_25 (x1 : Int32) (x2 : Int32) (d3 : Option pj_V) (m : pj_M) : pj_run tb_X11_doorSize [] 36 25 [some (.inr (.inr (0, 11, 72))), some (.inl x1), some (.inl x2), d3] [] m = J_X11_doorSize_25 x1 x2 m := by rfl
theorem sg_X11_doorSize_25 {G : pj_E} {A : Nat → Prop} {P : pj_P} {S : pj_U} {Z : pj_Z} (C : pj_C (G, A, (c_X11_doorSize, y_X11_doorSize.cls, 4, (some .int), 6), P, S, Z)) : pj_G (G, A, (c_X11_doorSize, y_X11_doorSize.cls, 4, (some .int), 6), P, S, Z) pj_eI 25 (C_X11_doorSize_25 (J_X11_doorSize_25)) := by
  intro L st m r h hR
  unfold C_X11_doorSize_25 at h
  split at h
  · split at h
    · rename_i hbq
      simp only [Bool.and_eq_true, Nat.beq_eq] at hbq
      obtain ⟨rfl, rfl, rfl⟩ := hbq
      exact pj_run_ok (sd_X11_doorSize C) (fun q h => by cases h) 36 25 _ _ _ _ ((eq_X11_doorSize_25 _ _ _ _).trans h) hR
    · cases h
  · cases h
set_option maxRecDepth 20000 in
theorem eq_X11_doorSize (x1 : Int32) (m : pj_M) : pj_run tb_X11_doorSize [(25, C_X11_doorSize_25 (J_X11_doorSize_25 ))] 36 0 [some (.inr (.inr (0, 11, 72))), some (.inl x1), none, none] [] m = F_X11_doorSize x1 m := by rfl
theorem ct_X11_doorSize : pj_Ct pj_eI y_X11_doorSize c_X11_doorSize 4 (some .int) 6 W_X11_doorSize := by
  refine pj_ct_of (by decide +kernel) ?_ ?_
  · intro as m r h
    unfold W_X11_doorSize at h
    split at h
    · simp [pj_l0]
    · cases h
  · intro G A P S Z C as m r h hR
    unfold W_X11_doorSize at h
    split at h
    · split at h
      · rename_i hbq
        simp only [Bool.and_eq_true, Nat.beq_eq] at hbq
        obtain ⟨rfl, rfl, rfl⟩ := hbq
        exact pj_run_ok (sd_X11_doorSize C) (List.forall_mem_cons.mpr ⟨sg_X11_doorSize_25 C , fun q h => by cases h⟩) 36 0 _ _ _ _ ((eq_X11_doorSize _ _).trans h) hR
      · cases h
    · cases h
/-! AlikeStepsModel.placeSize(I)I -/
abbrev c_X11_placeSize : ByteArray := prog_13_method_89_code
def y_X11_placeSize : MethodName := ⟨RX11, "placeSize", "(I)I"⟩
noncomputable def J_X11_placeSize_25 (x1 : Int32) (x2 : Int32) (m : pj_M) : Option (Int32 × pj_M) := ((F_X11_traces 11 m).bind fun q1 => ((F_X11_traces 10 q1).bind fun q2 => ((F_X11_pairs x1 q2).bind fun q3 => ((F_X11_placeMark x1 q3.2).bind fun q4 => (if x2 = 0 then (some (q3.1 + q4.1, q4.2)) else (some (-(q3.1 + q4.1), q4.2)))))))
noncomputable def F_X11_placeSize (x1 : Int32) (m : pj_M) : Option (Int32 × pj_M) := ((F_X11_kindIn x1 m).bind fun q1 => (if q1.1 = 2 then (if (1 : Int32) = 0 then (J_X11_placeSize_25 x1 1 q1.2) else ((F_X11_traces 12 q1.2).bind fun q3 => (J_X11_placeSize_25 x1 1 q3))) else (if (0 : Int32) = 0 then (J_X11_placeSize_25 x1 0 q1.2) else ((F_X11_traces 12 q1.2).bind fun q2 => (J_X11_placeSize_25 x1 0 q2)))))
noncomputable def W_X11_placeSize : List pj_V → pj_M → Option (Int32 × pj_M) := fun as m => match as with
  | [.inr (.inr (t0, w0, a0)), .inl x1] => (match Nat.beq t0 0 && (Nat.beq w0 11 && (Nat.beq a0 72)) with
    | true => F_X11_placeSize x1 m
    | false => none)
  | _ => none
noncomputable def tb_X11_placeSize_0 : List (Nat × pj_T (Int32 × pj_M)) := [(0, qs_lda 0 1), (1, qs_ldi 1 2), (2, qs_vI 11 2 W_X11_kindIn 5), (5, qs_ci 2 6), (6, qs_icne 13 9), (9, qs_ci 1 10), (10, qs_go 14), (13, qs_ci 0 14), (14, qs_sti 2 15), (15, qs_ldi 2 16), (16, qs_ifeq 25 19), (19, qs_lda 0 20), (20, qs_ci 12 22), (22, qs_vV 11 2 W_X11_traces 25), (25, qs_lda 0 26), (26, qs_ci 11 28), (28, qs_vV 11 2 W_X11_traces 31), (31, qs_lda 0 32), (32, qs_ci 10 34), (34, qs_vV 11 2 W_X11_traces 37), (37, qs_lda 0 38), (38, qs_ldi 1 39), (39, qs_vI 11 2 W_X11_pairs 42), (42, qs_lda 0 43), (43, qs_ldi 1 44), (44, qs_vI 11 2 W_X11_placeMark 47), (47, qs_b2 (fun x y => x + y) 48), (48, qs_sti 3 49), (49, qs_ldi 2 50), (50, qs_ifeq 58 53), (53, qs_ldi 3 54), (54, qs_u1 (fun x => -x) 55), (55, qs_go 59), (58, qs_ldi 3 59), (59, qs_iret)]
noncomputable abbrev tb_X11_placeSize : List (Nat × pj_T (Int32 × pj_M)) := tb_X11_placeSize_0
theorem mv_X11_placeSize : pj_mv y_X11_placeSize c_X11_placeSize 4 (some .int) 1 := ⟨⟨cw_1467, cw_1466, cw_77, cw_92⟩, by decide +kernel, by decide⟩
set_option maxRecDepth 20000 in
theorem sd_X11_placeSize_0 {G : pj_E} {A : Nat → Prop} {P : pj_P} {S : pj_U} {Z : pj_Z} (C : pj_C (G, A, (c_X11_placeSize, y_X11_placeSize.cls, 4, (some .int), 8), P, S, Z)) : ∀ q ∈ tb_X11_placeSize_0, pj_S (G, A, (c_X11_placeSize, y_X11_placeSize.cls, 4, (some .int), 8), P, S, Z) pj_eI q.1 q.2 :=
  List.forall_mem_cons.mpr ⟨qz_aload_n C (show decode c_X11_placeSize 0 = .ok (.aload_n 0, 1) by decide +kernel) rfl,
  List.forall_mem_cons.mpr ⟨qz_iload_n C (show decode c_X11_placeSize 1 = .ok (.iload_n 1, 1) by decide +kernel) rfl,
  List.forall_mem_cons.mpr ⟨qz_vI C (show decode c_X11_placeSize 2 = .ok (.invokevirtual 291, 3) by decide +kernel) ct_X11_kindIn mv_X11_kindIn cw_1440 vcX11 (show 1 < 8 by omega),
  List.forall_mem_cons.mpr ⟨qz_iconst C (show decode c_X11_placeSize 5 = .ok (.iconst 2, 1) by decide +kernel) (by decide +kernel),
  List.forall_mem_cons.mpr ⟨qz_icne C (show decode c_X11_placeSize 6 = .ok (.if_icmp .ne 7, 3) by decide +kernel) (by decide),
  List.forall_mem_cons.mpr ⟨qz_iconst C (show decode c_X11_placeSize 9 = .ok (.iconst 1, 1) by decide +kernel) (by decide +kernel),
  List.forall_mem_cons.mpr ⟨qz_goto C (show decode c_X11_placeSize 10 = .ok (.goto 4, 3) by decide +kernel) (by decide),
  List.forall_mem_cons.mpr ⟨qz_iconst C (show decode c_X11_placeSize 13 = .ok (.iconst 0, 1) by decide +kernel) (by decide +kernel),
  List.forall_mem_cons.mpr ⟨qz_istore_n C (show decode c_X11_placeSize 14 = .ok (.istore_n 2, 1) by decide +kernel) rfl,
  List.forall_mem_cons.mpr ⟨qz_iload_n C (show decode c_X11_placeSize 15 = .ok (.iload_n 2, 1) by decide +kernel) rfl,
  List.forall_mem_cons.mpr ⟨qz_ifeq C (show decode c_X11_placeSize 16 = .ok (.ifCond .eq 9, 3) by decide +kernel) (by decide),
  List.forall_mem_cons.mpr ⟨qz_aload_n C (show decode c_X11_placeSize 19 = .ok (.aload_n 0, 1) by decide +kernel) rfl,
  List.forall_mem_cons.mpr ⟨qz_bipush C (show decode c_X11_placeSize 20 = .ok (.bipush 12, 2) by decide +kernel) (by decide +kernel),
  List.forall_mem_cons.mpr ⟨qz_vV C (show decode c_X11_placeSize 22 = .ok (.invokevirtual 297, 3) by decide +kernel) ct_X11_traces mv_X11_traces cw_1456 vcX11 (show 1 < 8 by omega),
  List.forall_mem_cons.mpr ⟨qz_aload_n C (show decode c_X11_placeSize 25 = .ok (.aload_n 0, 1) by decide +kernel) rfl,
  List.forall_mem_cons.mpr ⟨qz_bipush C (show decode c_X11_placeSize 26 = .ok (.bipush 11, 2) by decide +kernel) (by decide +kernel),
  List.forall_mem_cons.mpr ⟨qz_vV C (show decode c_X11_placeSize 28 = .ok (.invokevirtual 297, 3) by decide +kernel) ct_X11_traces mv_X11_traces cw_1456 vcX11 (show 1 < 8 by omega),
  List.forall_mem_cons.mpr ⟨qz_aload_n C (show decode c_X11_placeSize 31 = .ok (.aload_n 0, 1) by decide +kernel) rfl,
  List.forall_mem_cons.mpr ⟨qz_bipush C (show decode c_X11_placeSize 32 = .ok (.bipush 10, 2) by decide +kernel) (by decide +kernel),
  List.forall_mem_cons.mpr ⟨qz_vV C (show decode c_X11_placeSize 34 = .ok (.invokevirtual 297, 3) by decide +kernel) ct_X11_traces mv_X11_traces cw_1456 vcX11 (show 1 < 8 by omega),
  List.forall_mem_cons.mpr ⟨qz_aload_n C (show decode c_X11_placeSize 37 = .ok (.aload_n 0, 1) by decide +kernel) rfl,
  List.forall_mem_cons.mpr ⟨qz_iload_n C (show decode c_X11_placeSize 38 = .ok (.iload_n 1, 1) by decide +kernel) rfl,
  List.forall_mem_cons.mpr ⟨qz_vI C (show decode c_X11_placeSize 39 = .ok (.invokevirtual 300, 3) by decide +kernel) ct_X11_pairs mv_X11_pairs cw_1460 vcX11 (show 5 < 8 by omega),
  List.forall_mem_cons.mpr ⟨qz_aload_n C (show decode c_X11_placeSize 42 = .ok (.aload_n 0, 1) by decide +kernel) rfl,
  List.forall_mem_cons.mpr ⟨qz_iload_n C (show decode c_X11_placeSize 43 = .ok (.iload_n 1, 1) by decide +kernel) rfl,
  List.forall_mem_cons.mpr ⟨qz_vI C (show decode c_X11_placeSize 44 = .ok (.invokevirtual 303, 3) by decide +kernel) ct_X11_placeMark mv_X11_placeMark cw_1468 vcX11 (show 7 < 8 by omega),
  List.forall_mem_cons.mpr ⟨qz_iadd C (show decode c_X11_placeSize 47 = .ok (.iadd, 1) by decide +kernel),
  List.forall_mem_cons.mpr ⟨qz_istore_n C (show decode c_X11_placeSize 48 = .ok (.istore_n 3, 1) by decide +kernel) rfl,
  List.forall_mem_cons.mpr ⟨qz_iload_n C (show decode c_X11_placeSize 49 = .ok (.iload_n 2, 1) by decide +kernel) rfl,
  List.forall_mem_cons.mpr ⟨qz_ifeq C (show decode c_X11_placeSize 50 = .ok (.ifCond .eq 8, 3) by decide +kernel) (by decide),
  List.forall_mem_cons.mpr ⟨qz_iload_n C (show decode c_X11_placeSize 53 = .ok (.iload_n 3, 1) by decide +kernel) rfl,
  List.forall_mem_cons.mpr ⟨qz_ineg C (show decode c_X11_placeSize 54 = .ok (.ineg, 1) by decide +kernel),
  List.forall_mem_cons.mpr ⟨qz_goto C (show decode c_X11_placeSize 55 = .ok (.goto 4, 3) by decide +kernel) (by decide),
  List.forall_mem_cons.mpr ⟨qz_iload_n C (show decode c_X11_placeSize 58 = .ok (.iload_n 3, 1) by decide +kernel) rfl,
  List.forall_mem_cons.mpr ⟨qz_iret C (show decode c_X11_placeSize 59 = .ok (.ireturn, 1) by decide +kernel) rfl,
  (fun q h => by cases h)⟩⟩⟩⟩⟩⟩⟩⟩⟩⟩⟩⟩⟩⟩⟩⟩⟩⟩⟩⟩⟩⟩⟩⟩⟩⟩⟩⟩⟩⟩⟩⟩⟩⟩⟩
theorem sd_X11_placeSize {G : pj_E} {A : Nat → Prop} {P : pj_P} {S : pj_U} {Z : pj_Z} (C : pj_C (G, A, (c_X11_placeSize, y_X11_placeSize.cls, 4, (some .int), 8), P, S, Z)) : ∀ q ∈ tb_X11_placeSize, pj_S (G, A, (c_X11_placeSize, y_X11_placeSize.cls, 4, (some .int), 8), P, S, Z) pj_eI q.1 q.2 := sd_X11_placeSize_0 C
noncomputable def C_X11_placeSize_25 (f : Int32 → Int32 → pj_M → Option (Int32 × pj_M)) : pj_N (Int32 × pj_M) := fun L st m => match L, st with
  | [some (.inr (.inr (t0, w0, a0))), some (.inl x1), some (.inl x2), _], [] => (match Nat.beq t0 0 && (Nat.beq w0 11 && (Nat.beq a0 72)) with
    | true => f x1 x2 m
    | false => none)
  | _, _ => none
set_option maxRecDepth 20000 in
theorem eq_X11_placeSize_25 (x1 : Int32) (x2 : Int32) (d3 : Option pj_V) (m : pj_M) : pj_run tb_X11_placeSize [] 37 25 [some (.inr (.inr (0, 11, 72))), some (.inl x1), some (.inl x2), d3] [] m = J_X11_placeSize_25 x1 x2 m := by rfl
theorem sg_X11_placeSize_25 {G : pj_E} {A : Nat → Prop} {P : pj_P} {S : pj_U} {Z : pj_Z} (C : pj_C (G, A, (c_X11_placeSize, y_X11_placeSize.cls, 4, (some .int), 8), P, S, Z)) : pj_G (G, A, (c_X11_placeSize, y_X11_placeSize.cls, 4, (some .int), 8), P, S, Z) pj_eI 25 (C_X11_placeSize_25 (J_X11_placeSize_25)) := by
  intro L st m r h hR
  unfold C_X11_placeSize_25 at h
  split at h
  · split at h
    · rename_i hbq
      simp only [Bool.and_eq_true, Nat.beq_eq] at hbq
      obtain ⟨rfl, rfl, rfl⟩ := hbq
      exact pj_run_ok (sd_X11_placeSize C) (fun q h => by cases h) 37 25 _ _ _ _ ((eq_X11_placeSize_25 _ _ _ _).trans h) hR
    · cases h
  · cases h
set_option maxRecDepth 20000 in
theorem eq_X11_placeSize (x1 : Int32) (m : pj_M) : pj_run tb_X11_placeSize [(25, C_X11_placeSize_25 (J_X11_placeSize_25 ))] 37 0 [some (.inr (.inr (0, 11, 72))), some (.inl x1), none, none] [] m = F_X11_placeSize x1 m := by rfl
theorem ct_X11_placeSize : pj_Ct pj_eI y_X11_placeSize c_X11_placeSize 4 (some .int) 8 W_X11_placeSize := by
  refine pj_ct_of (by decide +kernel) ?_ ?_
  · intro as m r h
    unfold W_X11_placeSize at h
    split at h
    · simp [pj_l0]
    · cases h
  · intro G A P S Z C as m r h hR
    unfold W_X11_placeSize at h
    split at h
    · split at h
      · rename_i hbq
        simp only [Bool.and_eq_true, Nat.beq_eq] at hbq
        obtain ⟨rfl, rfl, rfl⟩ := hbq
        exact pj_run_ok (sd_X11_placeSize C) (List.forall_mem_cons.mpr ⟨sg_X11_placeSize_25 C , fun q h => by cases h⟩) 37 0 _ _ _ _ ((eq_X11_placeSize _ _).trans h) hR
      · cases h
    · cases h
/-! AlikeStepsModel.doorMark(I)I -/
abbrev c_X11_doorMark : ByteArray := prog_13_method_90_code
def y_X11_doorMark : MethodName := ⟨RX11, "doorMark", "(I)I"⟩
noncomputable def F_X11_doorMark (x1 : Int32) (m : pj_M) : Option (Int32 × pj_M) := ((F_X11_traces 23 m).bind fun q1 => ((F_X11_traces 20 q1).bind fun q2 => ((F_X11_doorSize x1 q2).bind fun q3 => (some (x1 - q3.1, q3.2)))))
noncomputable def W_X11_doorMark : List pj_V → pj_M → Option (Int32 × pj_M) := fun as m => match as with
  | [.inr (.inr (t0, w0, a0)), .inl x1] => (match Nat.beq t0 0 && (Nat.beq w0 11 && (Nat.beq a0 72)) with
    | true => F_X11_doorMark x1 m
    | false => none)
  | _ => none
noncomputable def tb_X11_doorMark_0 : List (Nat × pj_T (Int32 × pj_M)) := [(0, qs_lda 0 1), (1, qs_ci 23 3), (3, qs_vV 11 2 W_X11_traces 6), (6, qs_lda 0 7), (7, qs_ci 20 9), (9, qs_vV 11 2 W_X11_traces 12), (12, qs_ldi 1 13), (13, qs_lda 0 14), (14, qs_ldi 1 15), (15, qs_vI 11 2 W_X11_doorSize 18), (18, qs_b2 (fun x y => x - y) 19), (19, qs_iret)]
noncomputable abbrev tb_X11_doorMark : List (Nat × pj_T (Int32 × pj_M)) := tb_X11_doorMark_0
theorem mv_X11_doorMark : pj_mv y_X11_doorMark c_X11_doorMark 2 (some .int) 1 := ⟨⟨cw_1475, cw_1474, cw_79, cw_92⟩, by decide +kernel, by decide⟩
set_option maxRecDepth 20000 in
theorem sd_X11_doorMark_0 {G : pj_E} {A : Nat → Prop} {P : pj_P} {S : pj_U} {Z : pj_Z} (C : pj_C (G, A, (c_X11_doorMark, y_X11_doorMark.cls, 2, (some .int), 7), P, S, Z)) : ∀ q ∈ tb_X11_doorMark_0, pj_S (G, A, (c_X11_doorMark, y_X11_doorMark.cls, 2, (some .int), 7), P, S, Z) pj_eI q.1 q.2 :=
  List.forall_mem_cons.mpr ⟨qz_aload_n C (show decode c_X11_doorMark 0 = .ok (.aload_n 0, 1) by decide +kernel) rfl,
  List.forall_mem_cons.mpr ⟨qz_bipush C (show decode c_X11_doorMark 1 = .ok (.bipush 23, 2) by decide +kernel) (by decide +kernel),
  List.forall_mem_cons.mpr ⟨qz_vV C (show decode c_X11_doorMark 3 = .ok (.invokevirtual 297, 3) by decide +kernel) ct_X11_traces mv_X11_traces cw_1456 vcX11 (show 1 < 7 by omega),
  List.forall_mem_cons.mpr ⟨qz_aload_n C (show decode c_X11_doorMark 6 = .ok (.aload_n 0, 1) by decide +kernel) rfl,
  List.forall_mem_cons.mpr ⟨qz_bipush C (show decode c_X11_doorMark 7 = .ok (.bipush 20, 2) by decide +kernel) (by decide +kernel),
  List.forall_mem_cons.mpr ⟨qz_vV C (show decode c_X11_doorMark 9 = .ok (.invokevirtual 297, 3) by decide +kernel) ct_X11_traces mv_X11_traces cw_1456 vcX11 (show 1 < 7 by omega),
  List.forall_mem_cons.mpr ⟨qz_iload_n C (show decode c_X11_doorMark 12 = .ok (.iload_n 1, 1) by decide +kernel) rfl,
  List.forall_mem_cons.mpr ⟨qz_aload_n C (show decode c_X11_doorMark 13 = .ok (.aload_n 0, 1) by decide +kernel) rfl,
  List.forall_mem_cons.mpr ⟨qz_iload_n C (show decode c_X11_doorMark 14 = .ok (.iload_n 1, 1) by decide +kernel) rfl,
  List.forall_mem_cons.mpr ⟨qz_vI C (show decode c_X11_doorMark 15 = .ok (.invokevirtual 306, 3) by decide +kernel) ct_X11_doorSize mv_X11_doorSize cw_1452 vcX11 (show 6 < 7 by omega),
  List.forall_mem_cons.mpr ⟨qz_isub C (show decode c_X11_doorMark 18 = .ok (.isub, 1) by decide +kernel),
  List.forall_mem_cons.mpr ⟨qz_iret C (show decode c_X11_doorMark 19 = .ok (.ireturn, 1) by decide +kernel) rfl,
  (fun q h => by cases h)⟩⟩⟩⟩⟩⟩⟩⟩⟩⟩⟩⟩
theorem sd_X11_doorMark {G : pj_E} {A : Nat → Prop} {P : pj_P} {S : pj_U} {Z : pj_Z} (C : pj_C (G, A, (c_X11_doorMark, y_X11_doorMark.cls, 2, (some .int), 7), P, S, Z)) : ∀ q ∈ tb_X11_doorMark, pj_S (G, A, (c_X11_doorMark, y_X11_doorMark.cls, 2, (some .int), 7), P, S, Z) pj_eI q.1 q.2 := sd_X11_doorMark_0 C
set_option maxRecDepth 20000 in
theorem eq_X11_doorMark (x1 : Int32) (m : pj_M) : pj_run tb_X11_doorMark [] 14 0 [some (.inr (.inr (0, 11, 72))), some (.inl x1)] [] m = F_X11_doorMark x1 m := by rfl
theorem ct_X11_doorMark : pj_Ct pj_eI y_X11_doorMark c_X11_doorMark 2 (some .int) 7 W_X11_doorMark := by
  refine pj_ct_of (by decide +kernel) ?_ ?_
  · intro as m r h
    unfold W_X11_doorMark at h
    split at h
    · simp [pj_l0]
    · cases h
  · intro G A P S Z C as m r h hR
    unfold W_X11_doorMark at h
    split at h
    · split at h
      · rename_i hbq
        simp only [Bool.and_eq_true, Nat.beq_eq] at hbq
        obtain ⟨rfl, rfl, rfl⟩ := hbq
        exact pj_run_ok (sd_X11_doorMark C) (fun q h => by cases h) 14 0 _ _ _ _ ((eq_X11_doorMark _ _).trans h) hR
      · cases h
    · cases h
/-! AlikeStepsModel.ask(II)I -/
abbrev c_X11_ask : ByteArray := prog_13_method_91_code
def y_X11_ask : MethodName := ⟨RX11, "ask", "(II)I"⟩
noncomputable def J_X11_ask_39 (x1 : Int32) (x2 : Int32) (s0 : Int32) (m : pj_M) : Option (Int32 × pj_M) := (if x2 = 0 then (if s0 = 0 then ((F_X11_placeSize x1 m).bind fun q3 => (some (q3.1, q3.2))) else ((F_X11_doorSize x1 m).bind fun q4 => (some (q4.1, q4.2)))) else (if s0 = 0 then ((F_X11_placeMark x1 m).bind fun q1 => (some (q1.1, q1.2))) else ((F_X11_doorMark x1 m).bind fun q2 => (some (q2.1, q2.2)))))
noncomputable def F_X11_ask (x1 : Int32) (x2 : Int32) (m : pj_M) : Option (Int32 × pj_M) := ((F_X11_isState x1 m).bind fun q1 => (if q1.1 = 0 then (some ((-1000001), q1.2)) else ((F_X11_in x2 0 1 q1.2).bind fun q2 => (if q2.1 = 0 then (some ((-1000001), q2.2)) else ((F_X11_kindIn x1 (pj_wr q2.2 72 32 0)).bind fun q3 => (if q3.1 < 4 then (J_X11_ask_39 x1 x2 0 q3.2) else (J_X11_ask_39 x1 x2 1 q3.2)))))))
noncomputable def W_X11_ask : List pj_V → pj_M → Option (Int32 × pj_M) := fun as m => match as with
  | [.inr (.inr (t0, w0, a0)), .inl x1, .inl x2] => (match Nat.beq t0 0 && (Nat.beq w0 11 && (Nat.beq a0 72)) with
    | true => F_X11_ask x1 x2 m
    | false => none)
  | _ => none
noncomputable def tb_X11_ask_0 : List (Nat × pj_T (Int32 × pj_M)) := [(0, qs_lda 0 1), (1, qs_ldi 1 2), (2, qs_vI 11 2 W_X11_isState 5), (5, qs_ifeq 17 8), (8, qs_ldi 2 9), (9, qs_ci 0 10), (10, qs_ci 1 11), (11, qs_sI 3 W_X11_in 14), (14, qs_ifne 20 17), (17, qs_ci (-1000001) 19), (19, qs_iret), (20, qs_lda 0 21), (21, qs_ci 0 22), (22, qs_pf 11 32 25), (25, qs_lda 0 26), (26, qs_ldi 1 27), (27, qs_vI 11 2 W_X11_kindIn 30), (30, qs_ci 4 31), (31, qs_iclt 38 34), (34, qs_ci 1 35), (35, qs_go 39), (38, qs_ci 0 39), (39, qs_sti 3 40), (40, qs_ldi 2 41), (41, qs_ifne 62 44), (44, qs_ldi 3 45), (45, qs_ifeq 56 48), (48, qs_lda 0 49), (49, qs_ldi 1 50), (50, qs_vI 11 2 W_X11_doorSize 53), (53, qs_go 61), (56, qs_lda 0 57), (57, qs_ldi 1 58), (58, qs_vI 11 2 W_X11_placeSize 61), (61, qs_iret), (62, qs_ldi 3 63), (63, qs_ifeq 74 66), (66, qs_lda 0 67), (67, qs_ldi 1 68), (68, qs_vI 11 2 W_X11_doorMark 71)]
noncomputable def tb_X11_ask_1 : List (Nat × pj_T (Int32 × pj_M)) := [(71, qs_go 79), (74, qs_lda 0 75), (75, qs_ldi 1 76), (76, qs_vI 11 2 W_X11_placeMark 79), (79, qs_iret)]
noncomputable def tb_X11_ask : List (Nat × pj_T (Int32 × pj_M)) := tb_X11_ask_0 ++ (tb_X11_ask_1)
theorem mv_X11_ask : pj_mv y_X11_ask c_X11_ask 4 (some .int) 2 := ⟨⟨cw_1451, cw_1449, cw_1450, cw_92⟩, by decide +kernel, by decide⟩
set_option maxRecDepth 20000 in
theorem sd_X11_ask_0 {G : pj_E} {A : Nat → Prop} {P : pj_P} {S : pj_U} {Z : pj_Z} (C : pj_C (G, A, (c_X11_ask, y_X11_ask.cls, 4, (some .int), 9), P, S, Z)) : ∀ q ∈ tb_X11_ask_0, pj_S (G, A, (c_X11_ask, y_X11_ask.cls, 4, (some .int), 9), P, S, Z) pj_eI q.1 q.2 :=
  List.forall_mem_cons.mpr ⟨qz_aload_n C (show decode c_X11_ask 0 = .ok (.aload_n 0, 1) by decide +kernel) rfl,
  List.forall_mem_cons.mpr ⟨qz_iload_n C (show decode c_X11_ask 1 = .ok (.iload_n 1, 1) by decide +kernel) rfl,
  List.forall_mem_cons.mpr ⟨qz_vI C (show decode c_X11_ask 2 = .ok (.invokevirtual 225, 3) by decide +kernel) ct_X11_isState mv_X11_isState cw_1224 vcX11 (show 2 < 9 by omega),
  List.forall_mem_cons.mpr ⟨qz_ifeq C (show decode c_X11_ask 5 = .ok (.ifCond .eq 12, 3) by decide +kernel) (by decide),
  List.forall_mem_cons.mpr ⟨qz_iload_n C (show decode c_X11_ask 8 = .ok (.iload_n 2, 1) by decide +kernel) rfl,
  List.forall_mem_cons.mpr ⟨qz_iconst C (show decode c_X11_ask 9 = .ok (.iconst 0, 1) by decide +kernel) (by decide +kernel),
  List.forall_mem_cons.mpr ⟨qz_iconst C (show decode c_X11_ask 10 = .ok (.iconst 1, 1) by decide +kernel) (by decide +kernel),
  List.forall_mem_cons.mpr ⟨qz_sI C (show decode c_X11_ask 11 = .ok (.invokestatic 84, 3) by decide +kernel) ct_X11_in mv_X11_in (Or.inl cw_1126) (show 1 < 9 by omega),
  List.forall_mem_cons.mpr ⟨qz_ifne C (show decode c_X11_ask 14 = .ok (.ifCond .ne 6, 3) by decide +kernel) (by decide),
  List.forall_mem_cons.mpr ⟨qz_ldc C (show decode c_X11_ask 17 = .ok (.ldc 92, 2) by decide +kernel) cw_1129,
  List.forall_mem_cons.mpr ⟨qz_iret C (show decode c_X11_ask 19 = .ok (.ireturn, 1) by decide +kernel) rfl,
  List.forall_mem_cons.mpr ⟨qz_aload_n C (show decode c_X11_ask 20 = .ok (.aload_n 0, 1) by decide +kernel) rfl,
  List.forall_mem_cons.mpr ⟨qz_iconst C (show decode c_X11_ask 21 = .ok (.iconst 0, 1) by decide +kernel) (by decide +kernel),
  List.forall_mem_cons.mpr ⟨qz_pf (k := 32) C (show decode c_X11_ask 22 = .ok (.putfield 294, 3) by decide +kernel) vcX11 wiX11 tyX11_ok nmX11 (by decide) cw_1050 rfl rfl,
  List.forall_mem_cons.mpr ⟨qz_aload_n C (show decode c_X11_ask 25 = .ok (.aload_n 0, 1) by decide +kernel) rfl,
  List.forall_mem_cons.mpr ⟨qz_iload_n C (show decode c_X11_ask 26 = .ok (.iload_n 1, 1) by decide +kernel) rfl,
  List.forall_mem_cons.mpr ⟨qz_vI C (show decode c_X11_ask 27 = .ok (.invokevirtual 291, 3) by decide +kernel) ct_X11_kindIn mv_X11_kindIn cw_1440 vcX11 (show 1 < 9 by omega),
  List.forall_mem_cons.mpr ⟨qz_iconst C (show decode c_X11_ask 30 = .ok (.iconst 4, 1) by decide +kernel) (by decide +kernel),
  List.forall_mem_cons.mpr ⟨qz_iclt C (show decode c_X11_ask 31 = .ok (.if_icmp .lt 7, 3) by decide +kernel) (by decide),
  List.forall_mem_cons.mpr ⟨qz_iconst C (show decode c_X11_ask 34 = .ok (.iconst 1, 1) by decide +kernel) (by decide +kernel),
  List.forall_mem_cons.mpr ⟨qz_goto C (show decode c_X11_ask 35 = .ok (.goto 4, 3) by decide +kernel) (by decide),
  List.forall_mem_cons.mpr ⟨qz_iconst C (show decode c_X11_ask 38 = .ok (.iconst 0, 1) by decide +kernel) (by decide +kernel),
  List.forall_mem_cons.mpr ⟨qz_istore_n C (show decode c_X11_ask 39 = .ok (.istore_n 3, 1) by decide +kernel) rfl,
  List.forall_mem_cons.mpr ⟨qz_iload_n C (show decode c_X11_ask 40 = .ok (.iload_n 2, 1) by decide +kernel) rfl,
  List.forall_mem_cons.mpr ⟨qz_ifne C (show decode c_X11_ask 41 = .ok (.ifCond .ne 21, 3) by decide +kernel) (by decide),
  List.forall_mem_cons.mpr ⟨qz_iload_n C (show decode c_X11_ask 44 = .ok (.iload_n 3, 1) by decide +kernel) rfl,
  List.forall_mem_cons.mpr ⟨qz_ifeq C (show decode c_X11_ask 45 = .ok (.ifCond .eq 11, 3) by decide +kernel) (by decide),
  List.forall_mem_cons.mpr ⟨qz_aload_n C (show decode c_X11_ask 48 = .ok (.aload_n 0, 1) by decide +kernel) rfl,
  List.forall_mem_cons.mpr ⟨qz_iload_n C (show decode c_X11_ask 49 = .ok (.iload_n 1, 1) by decide +kernel) rfl,
  List.forall_mem_cons.mpr ⟨qz_vI C (show decode c_X11_ask 50 = .ok (.invokevirtual 306, 3) by decide +kernel) ct_X11_doorSize mv_X11_doorSize cw_1452 vcX11 (show 6 < 9 by omega),
  List.forall_mem_cons.mpr ⟨qz_goto C (show decode c_X11_ask 53 = .ok (.goto 8, 3) by decide +kernel) (by decide),
  List.forall_mem_cons.mpr ⟨qz_aload_n C (show decode c_X11_ask 56 = .ok (.aload_n 0, 1) by decide +kernel) rfl,
  List.forall_mem_cons.mpr ⟨qz_iload_n C (show decode c_X11_ask 57 = .ok (.iload_n 1, 1) by decide +kernel) rfl,
  List.forall_mem_cons.mpr ⟨qz_vI C (show decode c_X11_ask 58 = .ok (.invokevirtual 309, 3) by decide +kernel) ct_X11_placeSize mv_X11_placeSize cw_1464 vcX11 (show 8 < 9 by omega),
  List.forall_mem_cons.mpr ⟨qz_iret C (show decode c_X11_ask 61 = .ok (.ireturn, 1) by decide +kernel) rfl,
  List.forall_mem_cons.mpr ⟨qz_iload_n C (show decode c_X11_ask 62 = .ok (.iload_n 3, 1) by decide +kernel) rfl,
  List.forall_mem_cons.mpr ⟨qz_ifeq C (show decode c_X11_ask 63 = .ok (.ifCond .eq 11, 3) by decide +kernel) (by decide),
  List.forall_mem_cons.mpr ⟨qz_aload_n C (show decode c_X11_ask 66 = .ok (.aload_n 0, 1) by decide +kernel) rfl,
  List.forall_mem_cons.mpr ⟨qz_iload_n C (show decode c_X11_ask 67 = .ok (.iload_n 1, 1) by decide +kernel) rfl,
  List.forall_mem_cons.mpr ⟨qz_vI C (show decode c_X11_ask 68 = .ok (.invokevirtual 312, 3) by decide +kernel) ct_X11_doorMark mv_X11_doorMark cw_1472 vcX11 (show 7 < 9 by omega),
  (fun q h => by cases h)⟩⟩⟩⟩⟩⟩⟩⟩⟩⟩⟩⟩⟩⟩⟩⟩⟩⟩⟩⟩⟩⟩⟩⟩⟩⟩⟩⟩⟩⟩⟩⟩⟩⟩⟩⟩⟩⟩⟩⟩
set_option maxRecDepth 20000 in
theorem sd_X11_ask_1 {G : pj_E} {A : Nat → Prop} {P : pj_P} {S : pj_U} {Z : pj_Z} (C : pj_C (G, A, (c_X11_ask, y_X11_ask.cls, 4, (some .int), 9), P, S, Z)) : ∀ q ∈ tb_X11_ask_1, pj_S (G, A, (c_X11_ask, y_X11_ask.cls, 4, (some .int), 9), P, S, Z) pj_eI q.1 q.2 :=
  List.forall_mem_cons.mpr ⟨qz_goto C (show decode c_X11_ask 71 = .ok (.goto 8, 3) by decide +kernel) (by decide),
  List.forall_mem_cons.mpr ⟨qz_aload_n C (show decode c_X11_ask 74 = .ok (.aload_n 0, 1) by decide +kernel) rfl,
  List.forall_mem_cons.mpr ⟨qz_iload_n C (show decode c_X11_ask 75 = .ok (.iload_n 1, 1) by decide +kernel) rfl,
  List.forall_mem_cons.mpr ⟨qz_vI C (show decode c_X11_ask 76 = .ok (.invokevirtual 303, 3) by decide +kernel) ct_X11_placeMark mv_X11_placeMark cw_1468 vcX11 (show 7 < 9 by omega),
  List.forall_mem_cons.mpr ⟨qz_iret C (show decode c_X11_ask 79 = .ok (.ireturn, 1) by decide +kernel) rfl,
  (fun q h => by cases h)⟩⟩⟩⟩⟩
theorem sd_X11_ask {G : pj_E} {A : Nat → Prop} {P : pj_P} {S : pj_U} {Z : pj_Z} (C : pj_C (G, A, (c_X11_ask, y_X11_ask.cls, 4, (some .int), 9), P, S, Z)) : ∀ q ∈ tb_X11_ask, pj_S (G, A, (c_X11_ask, y_X11_ask.cls, 4, (some .int), 9), P, S, Z) pj_eI q.1 q.2 := List.forall_mem_append.mpr ⟨sd_X11_ask_0 C, sd_X11_ask_1 C⟩
noncomputable def C_X11_ask_39 (f : Int32 → Int32 → Int32 → pj_M → Option (Int32 × pj_M)) : pj_N (Int32 × pj_M) := fun L st m => match L, st with
  | [some (.inr (.inr (t0, w0, a0))), some (.inl x1), some (.inl x2), _], [.inl s0] => (match Nat.beq t0 0 && (Nat.beq w0 11 && (Nat.beq a0 72)) with
    | true => f x1 x2 s0 m
    | false => none)
  | _, _ => none
set_option maxRecDepth 20000 in
theorem eq_X11_ask_39 (x1 : Int32) (x2 : Int32) (s0 : Int32) (d3 : Option pj_V) (m : pj_M) : pj_run tb_X11_ask [] 47 39 [some (.inr (.inr (0, 11, 72))), some (.inl x1), some (.inl x2), d3] [.inl s0] m = J_X11_ask_39 x1 x2 s0 m := by rfl
theorem sg_X11_ask_39 {G : pj_E} {A : Nat → Prop} {P : pj_P} {S : pj_U} {Z : pj_Z} (C : pj_C (G, A, (c_X11_ask, y_X11_ask.cls, 4, (some .int), 9), P, S, Z)) : pj_G (G, A, (c_X11_ask, y_X11_ask.cls, 4, (some .int), 9), P, S, Z) pj_eI 39 (C_X11_ask_39 (J_X11_ask_39)) := by
  intro L st m r h hR
  unfold C_X11_ask_39 at h
  split at h
  · split at h
    · rename_i hbq
      simp only [Bool.and_eq_true, Nat.beq_eq] at hbq
      obtain ⟨rfl, rfl, rfl⟩ := hbq
      exact pj_run_ok (sd_X11_ask C) (fun q h => by cases h) 47 39 _ _ _ _ ((eq_X11_ask_39 _ _ _ _ _).trans h) hR
    · cases h
  · cases h
set_option maxRecDepth 20000 in
theorem eq_X11_ask (x1 : Int32) (x2 : Int32) (m : pj_M) : pj_run tb_X11_ask [(39, C_X11_ask_39 (J_X11_ask_39 ))] 47 0 [some (.inr (.inr (0, 11, 72))), some (.inl x1), some (.inl x2), none] [] m = F_X11_ask x1 x2 m := by rfl
theorem ct_X11_ask : pj_Ct pj_eI y_X11_ask c_X11_ask 4 (some .int) 9 W_X11_ask := by
  refine pj_ct_of (by decide +kernel) ?_ ?_
  · intro as m r h
    unfold W_X11_ask at h
    split at h
    · simp [pj_l0]
    · cases h
  · intro G A P S Z C as m r h hR
    unfold W_X11_ask at h
    split at h
    · split at h
      · rename_i hbq
        simp only [Bool.and_eq_true, Nat.beq_eq] at hbq
        obtain ⟨rfl, rfl, rfl⟩ := hbq
        exact pj_run_ok (sd_X11_ask C) (List.forall_mem_cons.mpr ⟨sg_X11_ask_39 C , fun q h => by cases h⟩) 47 0 _ _ _ _ ((eq_X11_ask _ _ _).trans h) hR
      · cases h
    · cases h
/-! AlikeStepsModel.trace(I)I -/
abbrev c_X11_trace : ByteArray := prog_13_method_92_code
def y_X11_trace : MethodName := ⟨RX11, "trace", "(I)I"⟩
noncomputable def F_X11_trace (x1 : Int32) (m : pj_M) : Option (Int32 × pj_M) := ((F_X11_in x1 0 ((m.1 72 32) - 1) m).bind fun q1 => (if q1.1 = 0 then (some ((-1000000), q1.2)) else (if x1 < 0 ∨ 16 ≤ x1.toNatClampNeg then none else (some (q1.2.1 94 x1.toNatClampNeg, q1.2)))))
noncomputable def W_X11_trace : List pj_V → pj_M → Option (Int32 × pj_M) := fun as m => match as with
  | [.inr (.inr (t0, w0, a0)), .inl x1] => (match Nat.beq t0 0 && (Nat.beq w0 11 && (Nat.beq a0 72)) with
    | true => F_X11_trace x1 m
    | false => none)
  | _ => none
noncomputable def tb_X11_trace_0 : List (Nat × pj_T (Int32 × pj_M)) := [(0, qs_ldi 1 1), (1, qs_ci 0 2), (2, qs_lda 0 3), (3, qs_gf 11 32 6), (6, qs_ci 1 7), (7, qs_b2 (fun x y => x - y) 8), (8, qs_sI 3 W_X11_in 11), (11, qs_ifeq 23 14), (14, qs_lda 0 15), (15, qs_gf 11 31 18), (18, qs_ldi 1 19), (19, qs_iald 20), (20, qs_go 25), (23, qs_ci (-1000000) 25), (25, qs_iret)]
noncomputable abbrev tb_X11_trace : List (Nat × pj_T (Int32 × pj_M)) := tb_X11_trace_0
theorem mv_X11_trace : pj_mv y_X11_trace c_X11_trace 2 (some .int) 1 := ⟨⟨cw_1479, cw_1477, cw_1478, cw_92⟩, by decide +kernel, by decide⟩
set_option maxRecDepth 20000 in
theorem sd_X11_trace_0 {G : pj_E} {A : Nat → Prop} {P : pj_P} {S : pj_U} {Z : pj_Z} (C : pj_C (G, A, (c_X11_trace, y_X11_trace.cls, 2, (some .int), 2), P, S, Z)) : ∀ q ∈ tb_X11_trace_0, pj_S (G, A, (c_X11_trace, y_X11_trace.cls, 2, (some .int), 2), P, S, Z) pj_eI q.1 q.2 :=
  List.forall_mem_cons.mpr ⟨qz_iload_n C (show decode c_X11_trace 0 = .ok (.iload_n 1, 1) by decide +kernel) rfl,
  List.forall_mem_cons.mpr ⟨qz_iconst C (show decode c_X11_trace 1 = .ok (.iconst 0, 1) by decide +kernel) (by decide +kernel),
  List.forall_mem_cons.mpr ⟨qz_aload_n C (show decode c_X11_trace 2 = .ok (.aload_n 0, 1) by decide +kernel) rfl,
  List.forall_mem_cons.mpr ⟨qz_gf (k := 32) C (show decode c_X11_trace 3 = .ok (.getfield 294, 3) by decide +kernel) vcX11 wiX11 (by decide) cw_1050,
  List.forall_mem_cons.mpr ⟨qz_iconst C (show decode c_X11_trace 6 = .ok (.iconst 1, 1) by decide +kernel) (by decide +kernel),
  List.forall_mem_cons.mpr ⟨qz_isub C (show decode c_X11_trace 7 = .ok (.isub, 1) by decide +kernel),
  List.forall_mem_cons.mpr ⟨qz_sI C (show decode c_X11_trace 8 = .ok (.invokestatic 84, 3) by decide +kernel) ct_X11_in mv_X11_in (Or.inl cw_1126) (show 1 < 2 by omega),
  List.forall_mem_cons.mpr ⟨qz_ifeq C (show decode c_X11_trace 11 = .ok (.ifCond .eq 12, 3) by decide +kernel) (by decide),
  List.forall_mem_cons.mpr ⟨qz_aload_n C (show decode c_X11_trace 14 = .ok (.aload_n 0, 1) by decide +kernel) rfl,
  List.forall_mem_cons.mpr ⟨qz_gf (k := 31) C (show decode c_X11_trace 15 = .ok (.getfield 75, 3) by decide +kernel) vcX11 wiX11 (by decide) cw_1049,
  List.forall_mem_cons.mpr ⟨qz_iload_n C (show decode c_X11_trace 18 = .ok (.iload_n 1, 1) by decide +kernel) rfl,
  List.forall_mem_cons.mpr ⟨qz_iald C (show decode c_X11_trace 19 = .ok (.iaload, 1) by decide +kernel),
  List.forall_mem_cons.mpr ⟨qz_goto C (show decode c_X11_trace 20 = .ok (.goto 5, 3) by decide +kernel) (by decide),
  List.forall_mem_cons.mpr ⟨qz_ldc C (show decode c_X11_trace 23 = .ok (.ldc 78, 2) by decide +kernel) cw_1017,
  List.forall_mem_cons.mpr ⟨qz_iret C (show decode c_X11_trace 25 = .ok (.ireturn, 1) by decide +kernel) rfl,
  (fun q h => by cases h)⟩⟩⟩⟩⟩⟩⟩⟩⟩⟩⟩⟩⟩⟩⟩
theorem sd_X11_trace {G : pj_E} {A : Nat → Prop} {P : pj_P} {S : pj_U} {Z : pj_Z} (C : pj_C (G, A, (c_X11_trace, y_X11_trace.cls, 2, (some .int), 2), P, S, Z)) : ∀ q ∈ tb_X11_trace, pj_S (G, A, (c_X11_trace, y_X11_trace.cls, 2, (some .int), 2), P, S, Z) pj_eI q.1 q.2 := sd_X11_trace_0 C
set_option maxRecDepth 20000 in
theorem eq_X11_trace (x1 : Int32) (m : pj_M) : pj_run tb_X11_trace [] 17 0 [some (.inr (.inr (0, 11, 72))), some (.inl x1)] [] m = F_X11_trace x1 m := by rfl
theorem ct_X11_trace : pj_Ct pj_eI y_X11_trace c_X11_trace 2 (some .int) 2 W_X11_trace := by
  refine pj_ct_of (by decide +kernel) ?_ ?_
  · intro as m r h
    unfold W_X11_trace at h
    split at h
    · simp [pj_l0]
    · cases h
  · intro G A P S Z C as m r h hR
    unfold W_X11_trace at h
    split at h
    · split at h
      · rename_i hbq
        simp only [Bool.and_eq_true, Nat.beq_eq] at hbq
        obtain ⟨rfl, rfl, rfl⟩ := hbq
        exact pj_run_ok (sd_X11_trace C) (fun q h => by cases h) 17 0 _ _ _ _ ((eq_X11_trace _ _).trans h) hR
      · cases h
    · cases h
/-! AlikeStepsModel.count(I)I -/
abbrev c_X11_count : ByteArray := prog_13_method_93_code
def y_X11_count : MethodName := ⟨RX11, "count", "(I)I"⟩
noncomputable def H_X11_count_88 : Nat → Int32 → Int32 → pj_M → Option (Int32 × pj_M)
  | 0, _, _, _ => none
  | n1 + 1, x2, x3, m => (if (0 : Int32) < 0 ∨ 72 ≤ (0 : Int32).toNatClampNeg then none else (if x3 < (m.1 78 (0 : Int32).toNatClampNeg) then (if (2 + x3) < 0 ∨ 72 ≤ (2 + x3).toNatClampNeg then none else (if (m.1 78 (2 + x3).toNatClampNeg) = 2 then (H_X11_count_88 n1 (x2 ||| (1 <<< (x3 &&& 31))) (x3 + 1) m) else (if (2 + x3) < 0 ∨ 72 ≤ (2 + x3).toNatClampNeg then none else (if (m.1 78 (2 + x3).toNatClampNeg) = 5 then (H_X11_count_88 n1 (x2 ||| (1 <<< (x3 &&& 31))) (x3 + 1) m) else (H_X11_count_88 n1 (x2 ||| 0) (x3 + 1) m))))) else (some (x2, m))))
noncomputable def H_X11_count_42 : Nat → Int32 → Int32 → pj_M → Option (Int32 × pj_M)
  | 0, _, _, _ => none
  | n1 + 1, x2, x3, m => (if x3 < 8 then ((F_X11_isMissing x3 m).bind fun q1 => (if q1.1 = 0 then (H_X11_count_42 n1 (x2 + 1) (x3 + 1) q1.2) else (H_X11_count_42 n1 (x2 + 0) (x3 + 1) q1.2))) else (some (x2, m)))
noncomputable def F_X11_count (x1 : Int32) (m : pj_M) : Option (Int32 × pj_M) := (if x1 = 0 then (H_X11_count_42 pj_z 0 0 m) else (if x1 = 1 then (if (0 : Int32) < 0 ∨ 72 ≤ (0 : Int32).toNatClampNeg then none else (some (m.1 78 (0 : Int32).toNatClampNeg, m))) else (if x1 = 2 then (if (1 : Int32) < 0 ∨ 72 ≤ (1 : Int32).toNatClampNeg then none else (some (m.1 78 (1 : Int32).toNatClampNeg, m))) else (if x1 = 3 then (H_X11_count_88 pj_z 0 0 m) else (if x1 = 4 then (some (m.1 72 16, m)) else (if x1 = 5 then (some (m.1 72 6, m)) else (some ((-1000001), m))))))))
noncomputable def W_X11_count : List pj_V → pj_M → Option (Int32 × pj_M) := fun as m => match as with
  | [.inr (.inr (t0, w0, a0)), .inl x1] => (match Nat.beq t0 0 && (Nat.beq w0 11 && (Nat.beq a0 72)) with
    | true => F_X11_count x1 m
    | false => none)
  | _ => none
noncomputable def tb_X11_count_0 : List (Nat × pj_T (Int32 × pj_M)) := [(0, qs_ci 0 1), (1, qs_sti 2 2), (2, qs_ldi 1 3), (3, qs_sw [(0, 40), (1, 72), (2, 79), (3, 86), (4, 140), (5, 145)] 150), (40, qs_ci 0 41), (41, qs_sti 3 42), (42, qs_ldi 3 43), (43, qs_ci 8 45), (45, qs_icge 70 48), (48, qs_ldi 2 49), (49, qs_lda 0 50), (50, qs_ldi 3 51), (51, qs_vI 11 2 W_X11_isMissing 54), (54, qs_ifeq 61 57), (57, qs_ci 0 58), (58, qs_go 62), (61, qs_ci 1 62), (62, qs_b2 (fun x y => x + y) 63), (63, qs_sti 2 64), (64, qs_inc 3 1 67), (67, qs_go 42), (70, qs_ldi 2 71), (71, qs_iret), (72, qs_lda 0 73), (73, qs_gf 11 13 76), (76, qs_ci 0 77), (77, qs_iald 78), (78, qs_iret), (79, qs_lda 0 80), (80, qs_gf 11 13 83), (83, qs_ci 1 84), (84, qs_iald 85), (85, qs_iret), (86, qs_ci 0 87), (87, qs_sti 3 88), (88, qs_ldi 3 89), (89, qs_lda 0 90), (90, qs_gf 11 13 93), (93, qs_ci 0 94), (94, qs_iald 95)]
noncomputable def tb_X11_count_1 : List (Nat × pj_T (Int32 × pj_M)) := [(95, qs_icge 138 98), (98, qs_ldi 2 99), (99, qs_lda 0 100), (100, qs_gf 11 13 103), (103, qs_ci 2 104), (104, qs_ldi 3 105), (105, qs_b2 (fun x y => x + y) 106), (106, qs_iald 107), (107, qs_ci 2 108), (108, qs_iceq 123 111), (111, qs_lda 0 112), (112, qs_gf 11 13 115), (115, qs_ci 2 116), (116, qs_ldi 3 117), (117, qs_b2 (fun x y => x + y) 118), (118, qs_iald 119), (119, qs_ci 5 120), (120, qs_icne 129 123), (123, qs_ci 1 124), (124, qs_ldi 3 125), (125, qs_b2 (fun x y => x <<< (y &&& 31)) 126), (126, qs_go 130), (129, qs_ci 0 130), (130, qs_b2 (fun x y => x ||| y) 131), (131, qs_sti 2 132), (132, qs_inc 3 1 135), (135, qs_go 88), (138, qs_ldi 2 139), (139, qs_iret), (140, qs_lda 0 141), (141, qs_gf 11 16 144), (144, qs_iret), (145, qs_lda 0 146), (146, qs_gf 11 6 149), (149, qs_iret), (150, qs_ci (-1000001) 152), (152, qs_iret)]
noncomputable def tb_X11_count : List (Nat × pj_T (Int32 × pj_M)) := tb_X11_count_0 ++ (tb_X11_count_1)
theorem mv_X11_count : pj_mv y_X11_count c_X11_count 4 (some .int) 1 := ⟨⟨cw_1483, cw_1481, cw_1482, cw_92⟩, by decide +kernel, by decide⟩
set_option maxRecDepth 20000 in
theorem sd_X11_count_0 {G : pj_E} {A : Nat → Prop} {P : pj_P} {S : pj_U} {Z : pj_Z} (C : pj_C (G, A, (c_X11_count, y_X11_count.cls, 4, (some .int), 2), P, S, Z)) : ∀ q ∈ tb_X11_count_0, pj_S (G, A, (c_X11_count, y_X11_count.cls, 4, (some .int), 2), P, S, Z) pj_eI q.1 q.2 :=
  List.forall_mem_cons.mpr ⟨qz_iconst C (show decode c_X11_count 0 = .ok (.iconst 0, 1) by decide +kernel) (by decide +kernel),
  List.forall_mem_cons.mpr ⟨qz_istore_n C (show decode c_X11_count 1 = .ok (.istore_n 2, 1) by decide +kernel) rfl,
  List.forall_mem_cons.mpr ⟨qz_iload_n C (show decode c_X11_count 2 = .ok (.iload_n 1, 1) by decide +kernel) rfl,
  List.forall_mem_cons.mpr ⟨qz_tsw C (show decode c_X11_count 3 = .ok (.tableswitch 147 0 5 #[37, 69, 76, 83, 137, 142], 37) by decide +kernel) (by decide +kernel),
  List.forall_mem_cons.mpr ⟨qz_iconst C (show decode c_X11_count 40 = .ok (.iconst 0, 1) by decide +kernel) (by decide +kernel),
  List.forall_mem_cons.mpr ⟨qz_istore_n C (show decode c_X11_count 41 = .ok (.istore_n 3, 1) by decide +kernel) rfl,
  List.forall_mem_cons.mpr ⟨qz_iload_n C (show decode c_X11_count 42 = .ok (.iload_n 3, 1) by decide +kernel) rfl,
  List.forall_mem_cons.mpr ⟨qz_bipush C (show decode c_X11_count 43 = .ok (.bipush 8, 2) by decide +kernel) (by decide +kernel),
  List.forall_mem_cons.mpr ⟨qz_icge C (show decode c_X11_count 45 = .ok (.if_icmp .ge 25, 3) by decide +kernel) (by decide),
  List.forall_mem_cons.mpr ⟨qz_iload_n C (show decode c_X11_count 48 = .ok (.iload_n 2, 1) by decide +kernel) rfl,
  List.forall_mem_cons.mpr ⟨qz_aload_n C (show decode c_X11_count 49 = .ok (.aload_n 0, 1) by decide +kernel) rfl,
  List.forall_mem_cons.mpr ⟨qz_iload_n C (show decode c_X11_count 50 = .ok (.iload_n 3, 1) by decide +kernel) rfl,
  List.forall_mem_cons.mpr ⟨qz_vI C (show decode c_X11_count 51 = .ok (.invokevirtual 100, 3) by decide +kernel) ct_X11_isMissing mv_X11_isMissing cw_1143 vcX11 (show 1 < 2 by omega),
  List.forall_mem_cons.mpr ⟨qz_ifeq C (show decode c_X11_count 54 = .ok (.ifCond .eq 7, 3) by decide +kernel) (by decide),
  List.forall_mem_cons.mpr ⟨qz_iconst C (show decode c_X11_count 57 = .ok (.iconst 0, 1) by decide +kernel) (by decide +kernel),
  List.forall_mem_cons.mpr ⟨qz_goto C (show decode c_X11_count 58 = .ok (.goto 4, 3) by decide +kernel) (by decide),
  List.forall_mem_cons.mpr ⟨qz_iconst C (show decode c_X11_count 61 = .ok (.iconst 1, 1) by decide +kernel) (by decide +kernel),
  List.forall_mem_cons.mpr ⟨qz_iadd C (show decode c_X11_count 62 = .ok (.iadd, 1) by decide +kernel),
  List.forall_mem_cons.mpr ⟨qz_istore_n C (show decode c_X11_count 63 = .ok (.istore_n 2, 1) by decide +kernel) rfl,
  List.forall_mem_cons.mpr ⟨qz_iinc C (show decode c_X11_count 64 = .ok (.iinc 3 1, 3) by decide +kernel) (by decide +kernel),
  List.forall_mem_cons.mpr ⟨qz_goto C (show decode c_X11_count 67 = .ok (.goto (-25), 3) by decide +kernel) (by decide),
  List.forall_mem_cons.mpr ⟨qz_iload_n C (show decode c_X11_count 70 = .ok (.iload_n 2, 1) by decide +kernel) rfl,
  List.forall_mem_cons.mpr ⟨qz_iret C (show decode c_X11_count 71 = .ok (.ireturn, 1) by decide +kernel) rfl,
  List.forall_mem_cons.mpr ⟨qz_aload_n C (show decode c_X11_count 72 = .ok (.aload_n 0, 1) by decide +kernel) rfl,
  List.forall_mem_cons.mpr ⟨qz_gf (k := 13) C (show decode c_X11_count 73 = .ok (.getfield 25, 3) by decide +kernel) vcX11 wiX11 (by decide) cw_1031,
  List.forall_mem_cons.mpr ⟨qz_iconst C (show decode c_X11_count 76 = .ok (.iconst 0, 1) by decide +kernel) (by decide +kernel),
  List.forall_mem_cons.mpr ⟨qz_iald C (show decode c_X11_count 77 = .ok (.iaload, 1) by decide +kernel),
  List.forall_mem_cons.mpr ⟨qz_iret C (show decode c_X11_count 78 = .ok (.ireturn, 1) by decide +kernel) rfl,
  List.forall_mem_cons.mpr ⟨qz_aload_n C (show decode c_X11_count 79 = .ok (.aload_n 0, 1) by decide +kernel) rfl,
  List.forall_mem_cons.mpr ⟨qz_gf (k := 13) C (show decode c_X11_count 80 = .ok (.getfield 25, 3) by decide +kernel) vcX11 wiX11 (by decide) cw_1031,
  List.forall_mem_cons.mpr ⟨qz_iconst C (show decode c_X11_count 83 = .ok (.iconst 1, 1) by decide +kernel) (by decide +kernel),
  List.forall_mem_cons.mpr ⟨qz_iald C (show decode c_X11_count 84 = .ok (.iaload, 1) by decide +kernel),
  List.forall_mem_cons.mpr ⟨qz_iret C (show decode c_X11_count 85 = .ok (.ireturn, 1) by decide +kernel) rfl,
  List.forall_mem_cons.mpr ⟨qz_iconst C (show decode c_X11_count 86 = .ok (.iconst 0, 1) by decide +kernel) (by decide +kernel),
  List.forall_mem_cons.mpr ⟨qz_istore_n C (show decode c_X11_count 87 = .ok (.istore_n 3, 1) by decide +kernel) rfl,
  List.forall_mem_cons.mpr ⟨qz_iload_n C (show decode c_X11_count 88 = .ok (.iload_n 3, 1) by decide +kernel) rfl,
  List.forall_mem_cons.mpr ⟨qz_aload_n C (show decode c_X11_count 89 = .ok (.aload_n 0, 1) by decide +kernel) rfl,
  List.forall_mem_cons.mpr ⟨qz_gf (k := 13) C (show decode c_X11_count 90 = .ok (.getfield 25, 3) by decide +kernel) vcX11 wiX11 (by decide) cw_1031,
  List.forall_mem_cons.mpr ⟨qz_iconst C (show decode c_X11_count 93 = .ok (.iconst 0, 1) by decide +kernel) (by decide +kernel),
  List.forall_mem_cons.mpr ⟨qz_iald C (show decode c_X11_count 94 = .ok (.iaload, 1) by decide +kernel),
  (fun q h => by cases h)⟩⟩⟩⟩⟩⟩⟩⟩⟩⟩⟩⟩⟩⟩⟩⟩⟩⟩⟩⟩⟩⟩⟩⟩⟩⟩⟩⟩⟩⟩⟩⟩⟩⟩⟩⟩⟩⟩⟩⟩
set_option maxRecDepth 20000 in
theorem sd_X11_count_1 {G : pj_E} {A : Nat → Prop} {P : pj_P} {S : pj_U} {Z : pj_Z} (C : pj_C (G, A, (c_X11_count, y_X11_count.cls, 4, (some .int), 2), P, S, Z)) : ∀ q ∈ tb_X11_count_1, pj_S (G, A, (c_X11_count, y_X11_count.cls, 4, (some .int), 2), P, S, Z) pj_eI q.1 q.2 :=
  List.forall_mem_cons.mpr ⟨qz_icge C (show decode c_X11_count 95 = .ok (.if_icmp .ge 43, 3) by decide +kernel) (by decide),
  List.forall_mem_cons.mpr ⟨qz_iload_n C (show decode c_X11_count 98 = .ok (.iload_n 2, 1) by decide +kernel) rfl,
  List.forall_mem_cons.mpr ⟨qz_aload_n C (show decode c_X11_count 99 = .ok (.aload_n 0, 1) by decide +kernel) rfl,
  List.forall_mem_cons.mpr ⟨qz_gf (k := 13) C (show decode c_X11_count 100 = .ok (.getfield 25, 3) by decide +kernel) vcX11 wiX11 (by decide) cw_1031,
  List.forall_mem_cons.mpr ⟨qz_iconst C (show decode c_X11_count 103 = .ok (.iconst 2, 1) by decide +kernel) (by decide +kernel),
  List.forall_mem_cons.mpr ⟨qz_iload_n C (show decode c_X11_count 104 = .ok (.iload_n 3, 1) by decide +kernel) rfl,
  List.forall_mem_cons.mpr ⟨qz_iadd C (show decode c_X11_count 105 = .ok (.iadd, 1) by decide +kernel),
  List.forall_mem_cons.mpr ⟨qz_iald C (show decode c_X11_count 106 = .ok (.iaload, 1) by decide +kernel),
  List.forall_mem_cons.mpr ⟨qz_iconst C (show decode c_X11_count 107 = .ok (.iconst 2, 1) by decide +kernel) (by decide +kernel),
  List.forall_mem_cons.mpr ⟨qz_iceq C (show decode c_X11_count 108 = .ok (.if_icmp .eq 15, 3) by decide +kernel) (by decide),
  List.forall_mem_cons.mpr ⟨qz_aload_n C (show decode c_X11_count 111 = .ok (.aload_n 0, 1) by decide +kernel) rfl,
  List.forall_mem_cons.mpr ⟨qz_gf (k := 13) C (show decode c_X11_count 112 = .ok (.getfield 25, 3) by decide +kernel) vcX11 wiX11 (by decide) cw_1031,
  List.forall_mem_cons.mpr ⟨qz_iconst C (show decode c_X11_count 115 = .ok (.iconst 2, 1) by decide +kernel) (by decide +kernel),
  List.forall_mem_cons.mpr ⟨qz_iload_n C (show decode c_X11_count 116 = .ok (.iload_n 3, 1) by decide +kernel) rfl,
  List.forall_mem_cons.mpr ⟨qz_iadd C (show decode c_X11_count 117 = .ok (.iadd, 1) by decide +kernel),
  List.forall_mem_cons.mpr ⟨qz_iald C (show decode c_X11_count 118 = .ok (.iaload, 1) by decide +kernel),
  List.forall_mem_cons.mpr ⟨qz_iconst C (show decode c_X11_count 119 = .ok (.iconst 5, 1) by decide +kernel) (by decide +kernel),
  List.forall_mem_cons.mpr ⟨qz_icne C (show decode c_X11_count 120 = .ok (.if_icmp .ne 9, 3) by decide +kernel) (by decide),
  List.forall_mem_cons.mpr ⟨qz_iconst C (show decode c_X11_count 123 = .ok (.iconst 1, 1) by decide +kernel) (by decide +kernel),
  List.forall_mem_cons.mpr ⟨qz_iload_n C (show decode c_X11_count 124 = .ok (.iload_n 3, 1) by decide +kernel) rfl,
  List.forall_mem_cons.mpr ⟨qz_ishl C (show decode c_X11_count 125 = .ok (.ishl, 1) by decide +kernel),
  List.forall_mem_cons.mpr ⟨qz_goto C (show decode c_X11_count 126 = .ok (.goto 4, 3) by decide +kernel) (by decide),
  List.forall_mem_cons.mpr ⟨qz_iconst C (show decode c_X11_count 129 = .ok (.iconst 0, 1) by decide +kernel) (by decide +kernel),
  List.forall_mem_cons.mpr ⟨qz_ior C (show decode c_X11_count 130 = .ok (.ior, 1) by decide +kernel),
  List.forall_mem_cons.mpr ⟨qz_istore_n C (show decode c_X11_count 131 = .ok (.istore_n 2, 1) by decide +kernel) rfl,
  List.forall_mem_cons.mpr ⟨qz_iinc C (show decode c_X11_count 132 = .ok (.iinc 3 1, 3) by decide +kernel) (by decide +kernel),
  List.forall_mem_cons.mpr ⟨qz_goto C (show decode c_X11_count 135 = .ok (.goto (-47), 3) by decide +kernel) (by decide),
  List.forall_mem_cons.mpr ⟨qz_iload_n C (show decode c_X11_count 138 = .ok (.iload_n 2, 1) by decide +kernel) rfl,
  List.forall_mem_cons.mpr ⟨qz_iret C (show decode c_X11_count 139 = .ok (.ireturn, 1) by decide +kernel) rfl,
  List.forall_mem_cons.mpr ⟨qz_aload_n C (show decode c_X11_count 140 = .ok (.aload_n 0, 1) by decide +kernel) rfl,
  List.forall_mem_cons.mpr ⟨qz_gf (k := 16) C (show decode c_X11_count 141 = .ok (.getfield 170, 3) by decide +kernel) vcX11 wiX11 (by decide) cw_1034,
  List.forall_mem_cons.mpr ⟨qz_iret C (show decode c_X11_count 144 = .ok (.ireturn, 1) by decide +kernel) rfl,
  List.forall_mem_cons.mpr ⟨qz_aload_n C (show decode c_X11_count 145 = .ok (.aload_n 0, 1) by decide +kernel) rfl,
  List.forall_mem_cons.mpr ⟨qz_gf (k := 6) C (show decode c_X11_count 146 = .ok (.getfield 110, 3) by decide +kernel) vcX11 wiX11 (by decide) cw_1024,
  List.forall_mem_cons.mpr ⟨qz_iret C (show decode c_X11_count 149 = .ok (.ireturn, 1) by decide +kernel) rfl,
  List.forall_mem_cons.mpr ⟨qz_ldc C (show decode c_X11_count 150 = .ok (.ldc 92, 2) by decide +kernel) cw_1129,
  List.forall_mem_cons.mpr ⟨qz_iret C (show decode c_X11_count 152 = .ok (.ireturn, 1) by decide +kernel) rfl,
  (fun q h => by cases h)⟩⟩⟩⟩⟩⟩⟩⟩⟩⟩⟩⟩⟩⟩⟩⟩⟩⟩⟩⟩⟩⟩⟩⟩⟩⟩⟩⟩⟩⟩⟩⟩⟩⟩⟩⟩⟩
theorem sd_X11_count {G : pj_E} {A : Nat → Prop} {P : pj_P} {S : pj_U} {Z : pj_Z} (C : pj_C (G, A, (c_X11_count, y_X11_count.cls, 4, (some .int), 2), P, S, Z)) : ∀ q ∈ tb_X11_count, pj_S (G, A, (c_X11_count, y_X11_count.cls, 4, (some .int), 2), P, S, Z) pj_eI q.1 q.2 := List.forall_mem_append.mpr ⟨sd_X11_count_0 C, sd_X11_count_1 C⟩
noncomputable def C_X11_count_88 (f : Int32 → Int32 → pj_M → Option (Int32 × pj_M)) : pj_N (Int32 × pj_M) := fun L st m => match L, st with
  | [some (.inr (.inr (t0, w0, a0))), _, some (.inl x2), some (.inl x3)], [] => (match Nat.beq t0 0 && (Nat.beq w0 11 && (Nat.beq a0 72)) with
    | true => f x2 x3 m
    | false => none)
  | _, _ => none
noncomputable def C_X11_count_42 (f : Int32 → Int32 → pj_M → Option (Int32 × pj_M)) : pj_N (Int32 × pj_M) := fun L st m => match L, st with
  | [some (.inr (.inr (t0, w0, a0))), _, some (.inl x2), some (.inl x3)], [] => (match Nat.beq t0 0 && (Nat.beq w0 11 && (Nat.beq a0 72)) with
    | true => f x2 x3 m
    | false => none)
  | _, _ => none
set_option maxRecDepth 20000 in
theorem eq_X11_count_88 (n1 : Nat) (x2 : Int32) (x3 : Int32) (d1 : Option pj_V) (m : pj_M) : pj_run tb_X11_count [(88, C_X11_count_88 (H_X11_count_88 n1))] 79 88 [some (.inr (.inr (0, 11, 72))), d1, some (.inl x2), some (.inl x3)] [] m = H_X11_count_88 (n1 + 1) x2 x3 m := by rfl
theorem sg_X11_count_88 {G : pj_E} {A : Nat → Prop} {P : pj_P} {S : pj_U} {Z : pj_Z} (C : pj_C (G, A, (c_X11_count, y_X11_count.cls, 4, (some .int), 2), P, S, Z)) : ∀ n1, pj_G (G, A, (c_X11_count, y_X11_count.cls, 4, (some .int), 2), P, S, Z) pj_eI 88 (C_X11_count_88 (H_X11_count_88 n1)) := by
  intro n1
  induction n1 with
  | zero =>
    intro L st m r h hR
    unfold C_X11_count_88 at h
    split at h
    · split at h
      · cases h
      · cases h
    · cases h
  | succ n1 ih1 =>
    intro L st m r h hR
    unfold C_X11_count_88 at h
    split at h
    · split at h
      · rename_i hbq
        simp only [Bool.and_eq_true, Nat.beq_eq] at hbq
        obtain ⟨rfl, rfl, rfl⟩ := hbq
        exact pj_run_ok (sd_X11_count C) (List.forall_mem_cons.mpr ⟨ih1, fun q h => by cases h⟩) 79 88 _ _ _ _ ((eq_X11_count_88 _ _ _ _ _).trans h) hR
      · cases h
    · cases h
set_option maxRecDepth 20000 in
theorem eq_X11_count_42 (n1 : Nat) (x2 : Int32) (x3 : Int32) (d1 : Option pj_V) (m : pj_M) : pj_run tb_X11_count [(42, C_X11_count_42 (H_X11_count_42 n1))] 79 42 [some (.inr (.inr (0, 11, 72))), d1, some (.inl x2), some (.inl x3)] [] m = H_X11_count_42 (n1 + 1) x2 x3 m := by rfl
theorem sg_X11_count_42 {G : pj_E} {A : Nat → Prop} {P : pj_P} {S : pj_U} {Z : pj_Z} (C : pj_C (G, A, (c_X11_count, y_X11_count.cls, 4, (some .int), 2), P, S, Z)) : ∀ n1, pj_G (G, A, (c_X11_count, y_X11_count.cls, 4, (some .int), 2), P, S, Z) pj_eI 42 (C_X11_count_42 (H_X11_count_42 n1)) := by
  intro n1
  induction n1 with
  | zero =>
    intro L st m r h hR
    unfold C_X11_count_42 at h
    split at h
    · split at h
      · cases h
      · cases h
    · cases h
  | succ n1 ih1 =>
    intro L st m r h hR
    unfold C_X11_count_42 at h
    split at h
    · split at h
      · rename_i hbq
        simp only [Bool.and_eq_true, Nat.beq_eq] at hbq
        obtain ⟨rfl, rfl, rfl⟩ := hbq
        exact pj_run_ok (sd_X11_count C) (List.forall_mem_cons.mpr ⟨ih1, fun q h => by cases h⟩) 79 42 _ _ _ _ ((eq_X11_count_42 _ _ _ _ _).trans h) hR
      · cases h
    · cases h
set_option maxRecDepth 20000 in
theorem eq_X11_count (x1 : Int32) (m : pj_M) : pj_run tb_X11_count [(42, C_X11_count_42 (H_X11_count_42  pj_z)), (88, C_X11_count_88 (H_X11_count_88  pj_z))] 79 0 [some (.inr (.inr (0, 11, 72))), some (.inl x1), none, none] [] m = F_X11_count x1 m := by rfl
theorem ct_X11_count : pj_Ct pj_eI y_X11_count c_X11_count 4 (some .int) 2 W_X11_count := by
  refine pj_ct_of (by decide +kernel) ?_ ?_
  · intro as m r h
    unfold W_X11_count at h
    split at h
    · simp [pj_l0]
    · cases h
  · intro G A P S Z C as m r h hR
    unfold W_X11_count at h
    split at h
    · split at h
      · rename_i hbq
        simp only [Bool.and_eq_true, Nat.beq_eq] at hbq
        obtain ⟨rfl, rfl, rfl⟩ := hbq
        exact pj_run_ok (sd_X11_count C) (List.forall_mem_cons.mpr ⟨sg_X11_count_42 C  pj_z, List.forall_mem_cons.mpr ⟨sg_X11_count_88 C  pj_z, fun q h => by cases h⟩⟩) 79 0 _ _ _ _ ((eq_X11_count _ _).trans h) hR
      · cases h
    · cases h
/-! AlikeStepsModel.status()I -/
abbrev c_X11_status : ByteArray := prog_13_method_94_code
def y_X11_status : MethodName := ⟨RX11, "status", "()I"⟩
noncomputable def F_X11_status (m : pj_M) : Option (Int32 × pj_M) := (some (m.1 72 4, m))
noncomputable def W_X11_status : List pj_V → pj_M → Option (Int32 × pj_M) := fun as m => match as with
  | [.inr (.inr (t0, w0, a0))] => (match Nat.beq t0 0 && (Nat.beq w0 11 && (Nat.beq a0 72)) with
    | true => F_X11_status m
    | false => none)
  | _ => none
noncomputable def tb_X11_status_0 : List (Nat × pj_T (Int32 × pj_M)) := [(0, qs_lda 0 1), (1, qs_gf 11 4 4), (4, qs_iret)]
noncomputable abbrev tb_X11_status : List (Nat × pj_T (Int32 × pj_M)) := tb_X11_status_0
theorem mv_X11_status : pj_mv y_X11_status c_X11_status 1 (some .int) 0 := ⟨⟨cw_1487, cw_1485, cw_1486, cw_92⟩, by decide +kernel, by decide⟩
set_option maxRecDepth 20000 in
theorem sd_X11_status_0 {G : pj_E} {A : Nat → Prop} {P : pj_P} {S : pj_U} {Z : pj_Z} (C : pj_C (G, A, (c_X11_status, y_X11_status.cls, 1, (some .int), 1), P, S, Z)) : ∀ q ∈ tb_X11_status_0, pj_S (G, A, (c_X11_status, y_X11_status.cls, 1, (some .int), 1), P, S, Z) pj_eI q.1 q.2 :=
  List.forall_mem_cons.mpr ⟨qz_aload_n C (show decode c_X11_status 0 = .ok (.aload_n 0, 1) by decide +kernel) rfl,
  List.forall_mem_cons.mpr ⟨qz_gf (k := 4) C (show decode c_X11_status 1 = .ok (.getfield 79, 3) by decide +kernel) vcX11 wiX11 (by decide) cw_1022,
  List.forall_mem_cons.mpr ⟨qz_iret C (show decode c_X11_status 4 = .ok (.ireturn, 1) by decide +kernel) rfl,
  (fun q h => by cases h)⟩⟩⟩
theorem sd_X11_status {G : pj_E} {A : Nat → Prop} {P : pj_P} {S : pj_U} {Z : pj_Z} (C : pj_C (G, A, (c_X11_status, y_X11_status.cls, 1, (some .int), 1), P, S, Z)) : ∀ q ∈ tb_X11_status, pj_S (G, A, (c_X11_status, y_X11_status.cls, 1, (some .int), 1), P, S, Z) pj_eI q.1 q.2 := sd_X11_status_0 C
set_option maxRecDepth 20000 in
theorem eq_X11_status (m : pj_M) : pj_run tb_X11_status [] 5 0 [some (.inr (.inr (0, 11, 72)))] [] m = F_X11_status m := by rfl
theorem ct_X11_status : pj_Ct pj_eI y_X11_status c_X11_status 1 (some .int) 1 W_X11_status := by
  refine pj_ct_of (by decide +kernel) ?_ ?_
  · intro as m r h
    unfold W_X11_status at h
    split at h
    · simp [pj_l0]
    · cases h
  · intro G A P S Z C as m r h hR
    unfold W_X11_status at h
    split at h
    · split at h
      · rename_i hbq
        simp only [Bool.and_eq_true, Nat.beq_eq] at hbq
        obtain ⟨rfl, rfl, rfl⟩ := hbq
        exact pj_run_ok (sd_X11_status C) (fun q h => by cases h) 5 0 _ _ _ _ ((eq_X11_status _).trans h) hR
      · cases h
    · cases h
