/-! AlikeStepsModel.isLetter(I)Z -/
abbrev c_X11_isLetter : ByteArray := prog_13_method_33_code
def y_X11_isLetter : MethodName := ⟨RX11, "isLetter", "(I)Z"⟩
noncomputable def F_X11_isLetter (x0 : Int32) (m : pj_M) : Option (Int32 × pj_M) := ((F_X11_in x0 0 3 m).bind fun q1 => (if q1.1 = 0 then (some (0, q1.2)) else (if q1.1 = 1 then (some (1, q1.2)) else none)))
noncomputable def W_X11_isLetter : List pj_V → pj_M → Option (Int32 × pj_M) := fun as m => match as with
  | [.inl x0] => F_X11_isLetter x0 m
  | _ => none
noncomputable def tb_X11_isLetter_0 : List (Nat × pj_T (Int32 × pj_M)) := [(0, qs_ldi 0 1), (1, qs_ci 0 2), (2, qs_ci 3 3), (3, qs_sI 3 W_X11_in 6), (6, qs_zret)]
noncomputable abbrev tb_X11_isLetter : List (Nat × pj_T (Int32 × pj_M)) := tb_X11_isLetter_0
theorem mv_X11_isLetter : pj_ms y_X11_isLetter c_X11_isLetter 1 (some .boolean) 1 := ⟨⟨cw_1223, cw_1222, cw_92⟩, by decide +kernel, by decide⟩
set_option maxRecDepth 20000 in
theorem sd_X11_isLetter_0 {G : pj_E} {A : Nat → Prop} {P : pj_P} {S : pj_U} {Z : pj_Z} (C : pj_C (G, A, (c_X11_isLetter, y_X11_isLetter.cls, 1, (some .boolean), 2), P, S, Z)) : ∀ q ∈ tb_X11_isLetter_0, pj_S (G, A, (c_X11_isLetter, y_X11_isLetter.cls, 1, (some .boolean), 2), P, S, Z) pj_eI q.1 q.2 :=
  List.forall_mem_cons.mpr ⟨qz_iload_n C (show decode c_X11_isLetter 0 = .ok (.iload_n 0, 1) by decide +kernel) rfl,
  List.forall_mem_cons.mpr ⟨qz_iconst C (show decode c_X11_isLetter 1 = .ok (.iconst 0, 1) by decide +kernel) (by decide +kernel),
  List.forall_mem_cons.mpr ⟨qz_iconst C (show decode c_X11_isLetter 2 = .ok (.iconst 3, 1) by decide +kernel) (by decide +kernel),
  List.forall_mem_cons.mpr ⟨qz_sI C (show decode c_X11_isLetter 3 = .ok (.invokestatic 84, 3) by decide +kernel) ct_X11_in mv_X11_in (Or.inl cw_1126) (show 1 < 2 by omega),
  List.forall_mem_cons.mpr ⟨qz_zret C (show decode c_X11_isLetter 6 = .ok (.ireturn, 1) by decide +kernel) rfl,
  (fun q h => by cases h)⟩⟩⟩⟩⟩
theorem sd_X11_isLetter {G : pj_E} {A : Nat → Prop} {P : pj_P} {S : pj_U} {Z : pj_Z} (C : pj_C (G, A, (c_X11_isLetter, y_X11_isLetter.cls, 1, (some .boolean), 2), P, S, Z)) : ∀ q ∈ tb_X11_isLetter, pj_S (G, A, (c_X11_isLetter, y_X11_isLetter.cls, 1, (some .boolean), 2), P, S, Z) pj_eI q.1 q.2 := sd_X11_isLetter_0 C
set_option maxRecDepth 20000 in
theorem eq_X11_isLetter (x0 : Int32) (m : pj_M) : pj_run tb_X11_isLetter [] 7 0 [some (.inl x0)] [] m = F_X11_isLetter x0 m := by rfl
theorem ct_X11_isLetter : pj_Ct pj_eI y_X11_isLetter c_X11_isLetter 1 (some .boolean) 2 W_X11_isLetter := by
  refine pj_ct_of (by decide +kernel) ?_ ?_
  · intro as m r h
    unfold W_X11_isLetter at h
    split at h
    · simp [pj_l0]
    · cases h
  · intro G A P S Z C as m r h hR
    unfold W_X11_isLetter at h
    split at h
    · exact pj_run_ok (sd_X11_isLetter C) (fun q h => by cases h) 7 0 _ _ _ _ ((eq_X11_isLetter _ _).trans h) hR
    · cases h
/-! AlikeStepsModel.states()I -/
abbrev c_X11_states : ByteArray := prog_13_method_34_code
def y_X11_states : MethodName := ⟨RX11, "states", "()I"⟩
noncomputable def F_X11_states (m : pj_M) : Option (Int32 × pj_M) := (if (0 : Int32) < 0 ∨ 72 ≤ (0 : Int32).toNatClampNeg then none else (some (m.1 83 (0 : Int32).toNatClampNeg, m)))
noncomputable def W_X11_states : List pj_V → pj_M → Option (Int32 × pj_M) := fun as m => match as with
  | [.inr (.inr (t0, w0, a0))] => (match Nat.beq t0 0 && (Nat.beq w0 11 && (Nat.beq a0 72)) with
    | true => F_X11_states m
    | false => none)
  | _ => none
noncomputable def tb_X11_states_0 : List (Nat × pj_T (Int32 × pj_M)) := [(0, qs_lda 0 1), (1, qs_gf 11 19 4), (4, qs_ci 0 5), (5, qs_iald 6), (6, qs_iret)]
noncomputable abbrev tb_X11_states : List (Nat × pj_T (Int32 × pj_M)) := tb_X11_states_0
theorem mv_X11_states : pj_mv y_X11_states c_X11_states 1 (some .int) 0 := ⟨⟨cw_1272, cw_1271, cw_49, cw_92⟩, by decide +kernel, by decide⟩
set_option maxRecDepth 20000 in
theorem sd_X11_states_0 {G : pj_E} {A : Nat → Prop} {P : pj_P} {S : pj_U} {Z : pj_Z} (C : pj_C (G, A, (c_X11_states, y_X11_states.cls, 1, (some .int), 1), P, S, Z)) : ∀ q ∈ tb_X11_states_0, pj_S (G, A, (c_X11_states, y_X11_states.cls, 1, (some .int), 1), P, S, Z) pj_eI q.1 q.2 :=
  List.forall_mem_cons.mpr ⟨qz_aload_n C (show decode c_X11_states 0 = .ok (.aload_n 0, 1) by decide +kernel) rfl,
  List.forall_mem_cons.mpr ⟨qz_gf (k := 19) C (show decode c_X11_states 1 = .ok (.getfield 41, 3) by decide +kernel) vcX11 wiX11 (by decide) cw_1037,
  List.forall_mem_cons.mpr ⟨qz_iconst C (show decode c_X11_states 4 = .ok (.iconst 0, 1) by decide +kernel) (by decide +kernel),
  List.forall_mem_cons.mpr ⟨qz_iald C (show decode c_X11_states 5 = .ok (.iaload, 1) by decide +kernel),
  List.forall_mem_cons.mpr ⟨qz_iret C (show decode c_X11_states 6 = .ok (.ireturn, 1) by decide +kernel) rfl,
  (fun q h => by cases h)⟩⟩⟩⟩⟩
theorem sd_X11_states {G : pj_E} {A : Nat → Prop} {P : pj_P} {S : pj_U} {Z : pj_Z} (C : pj_C (G, A, (c_X11_states, y_X11_states.cls, 1, (some .int), 1), P, S, Z)) : ∀ q ∈ tb_X11_states, pj_S (G, A, (c_X11_states, y_X11_states.cls, 1, (some .int), 1), P, S, Z) pj_eI q.1 q.2 := sd_X11_states_0 C
set_option maxRecDepth 20000 in
theorem eq_X11_states (m : pj_M) : pj_run tb_X11_states [] 7 0 [some (.inr (.inr (0, 11, 72)))] [] m = F_X11_states m := by rfl
theorem ct_X11_states : pj_Ct pj_eI y_X11_states c_X11_states 1 (some .int) 1 W_X11_states := by
  refine pj_ct_of (by decide +kernel) ?_ ?_
  · intro as m r h
    unfold W_X11_states at h
    split at h
    · simp [pj_l0]
    · cases h
  · intro G A P S Z C as m r h hR
    unfold W_X11_states at h
    split at h
    · split at h
      · rename_i hbq
        simp only [Bool.and_eq_true, Nat.beq_eq] at hbq
        obtain ⟨rfl, rfl, rfl⟩ := hbq
        exact pj_run_ok (sd_X11_states C) (fun q h => by cases h) 7 0 _ _ _ _ ((eq_X11_states _).trans h) hR
      · cases h
    · cases h
/-! AlikeStepsModel.isMarked(I)Z -/
abbrev c_X11_isMarked : ByteArray := prog_13_method_35_code
def y_X11_isMarked : MethodName := ⟨RX11, "isMarked", "(I)Z"⟩
noncomputable def F_X11_isMarked (x1 : Int32) (m : pj_M) : Option (Int32 × pj_M) := (if (2 + x1) < 0 ∨ 72 ≤ (2 + x1).toNatClampNeg then none else (if (m.1 83 (2 + x1).toNatClampNeg) = 2 then (some (1, m)) else (if (2 + x1) < 0 ∨ 72 ≤ (2 + x1).toNatClampNeg then none else (if (m.1 83 (2 + x1).toNatClampNeg) = 5 then (some (1, m)) else (some (0, m))))))
noncomputable def W_X11_isMarked : List pj_V → pj_M → Option (Int32 × pj_M) := fun as m => match as with
  | [.inr (.inr (t0, w0, a0)), .inl x1] => (match Nat.beq t0 0 && (Nat.beq w0 11 && (Nat.beq a0 72)) with
    | true => F_X11_isMarked x1 m
    | false => none)
  | _ => none
noncomputable def tb_X11_isMarked_0 : List (Nat × pj_T (Int32 × pj_M)) := [(0, qs_lda 0 1), (1, qs_gf 11 19 4), (4, qs_ci 2 5), (5, qs_ldi 1 6), (6, qs_b2 (fun x y => x + y) 7), (7, qs_iald 8), (8, qs_ci 2 9), (9, qs_iceq 24 12), (12, qs_lda 0 13), (13, qs_gf 11 19 16), (16, qs_ci 2 17), (17, qs_ldi 1 18), (18, qs_b2 (fun x y => x + y) 19), (19, qs_iald 20), (20, qs_ci 5 21), (21, qs_icne 28 24), (24, qs_ci 1 25), (25, qs_go 29), (28, qs_ci 0 29), (29, qs_zret)]
noncomputable abbrev tb_X11_isMarked : List (Nat × pj_T (Int32 × pj_M)) := tb_X11_isMarked_0
theorem mv_X11_isMarked : pj_mv y_X11_isMarked c_X11_isMarked 2 (some .boolean) 1 := ⟨⟨cw_1307, cw_1306, cw_56, cw_92⟩, by decide +kernel, by decide⟩
set_option maxRecDepth 20000 in
theorem sd_X11_isMarked_0 {G : pj_E} {A : Nat → Prop} {P : pj_P} {S : pj_U} {Z : pj_Z} (C : pj_C (G, A, (c_X11_isMarked, y_X11_isMarked.cls, 2, (some .boolean), 1), P, S, Z)) : ∀ q ∈ tb_X11_isMarked_0, pj_S (G, A, (c_X11_isMarked, y_X11_isMarked.cls, 2, (some .boolean), 1), P, S, Z) pj_eI q.1 q.2 :=
  List.forall_mem_cons.mpr ⟨qz_aload_n C (show decode c_X11_isMarked 0 = .ok (.aload_n 0, 1) by decide +kernel) rfl,
  List.forall_mem_cons.mpr ⟨qz_gf (k := 19) C (show decode c_X11_isMarked 1 = .ok (.getfield 41, 3) by decide +kernel) vcX11 wiX11 (by decide) cw_1037,
  List.forall_mem_cons.mpr ⟨qz_iconst C (show decode c_X11_isMarked 4 = .ok (.iconst 2, 1) by decide +kernel) (by decide +kernel),
  List.forall_mem_cons.mpr ⟨qz_iload_n C (show decode c_X11_isMarked 5 = .ok (.iload_n 1, 1) by decide +kernel) rfl,
  List.forall_mem_cons.mpr ⟨qz_iadd C (show decode c_X11_isMarked 6 = .ok (.iadd, 1) by decide +kernel),
  List.forall_mem_cons.mpr ⟨qz_iald C (show decode c_X11_isMarked 7 = .ok (.iaload, 1) by decide +kernel),
  List.forall_mem_cons.mpr ⟨qz_iconst C (show decode c_X11_isMarked 8 = .ok (.iconst 2, 1) by decide +kernel) (by decide +kernel),
  List.forall_mem_cons.mpr ⟨qz_iceq C (show decode c_X11_isMarked 9 = .ok (.if_icmp .eq 15, 3) by decide +kernel) (by decide),
  List.forall_mem_cons.mpr ⟨qz_aload_n C (show decode c_X11_isMarked 12 = .ok (.aload_n 0, 1) by decide +kernel) rfl,
  List.forall_mem_cons.mpr ⟨qz_gf (k := 19) C (show decode c_X11_isMarked 13 = .ok (.getfield 41, 3) by decide +kernel) vcX11 wiX11 (by decide) cw_1037,
  List.forall_mem_cons.mpr ⟨qz_iconst C (show decode c_X11_isMarked 16 = .ok (.iconst 2, 1) by decide +kernel) (by decide +kernel),
  List.forall_mem_cons.mpr ⟨qz_iload_n C (show decode c_X11_isMarked 17 = .ok (.iload_n 1, 1) by decide +kernel) rfl,
  List.forall_mem_cons.mpr ⟨qz_iadd C (show decode c_X11_isMarked 18 = .ok (.iadd, 1) by decide +kernel),
  List.forall_mem_cons.mpr ⟨qz_iald C (show decode c_X11_isMarked 19 = .ok (.iaload, 1) by decide +kernel),
  List.forall_mem_cons.mpr ⟨qz_iconst C (show decode c_X11_isMarked 20 = .ok (.iconst 5, 1) by decide +kernel) (by decide +kernel),
  List.forall_mem_cons.mpr ⟨qz_icne C (show decode c_X11_isMarked 21 = .ok (.if_icmp .ne 7, 3) by decide +kernel) (by decide),
  List.forall_mem_cons.mpr ⟨qz_iconst C (show decode c_X11_isMarked 24 = .ok (.iconst 1, 1) by decide +kernel) (by decide +kernel),
  List.forall_mem_cons.mpr ⟨qz_goto C (show decode c_X11_isMarked 25 = .ok (.goto 4, 3) by decide +kernel) (by decide),
  List.forall_mem_cons.mpr ⟨qz_iconst C (show decode c_X11_isMarked 28 = .ok (.iconst 0, 1) by decide +kernel) (by decide +kernel),
  List.forall_mem_cons.mpr ⟨qz_zret C (show decode c_X11_isMarked 29 = .ok (.ireturn, 1) by decide +kernel) rfl,
  (fun q h => by cases h)⟩⟩⟩⟩⟩⟩⟩⟩⟩⟩⟩⟩⟩⟩⟩⟩⟩⟩⟩⟩
theorem sd_X11_isMarked {G : pj_E} {A : Nat → Prop} {P : pj_P} {S : pj_U} {Z : pj_Z} (C : pj_C (G, A, (c_X11_isMarked, y_X11_isMarked.cls, 2, (some .boolean), 1), P, S, Z)) : ∀ q ∈ tb_X11_isMarked, pj_S (G, A, (c_X11_isMarked, y_X11_isMarked.cls, 2, (some .boolean), 1), P, S, Z) pj_eI q.1 q.2 := sd_X11_isMarked_0 C
set_option maxRecDepth 20000 in
theorem eq_X11_isMarked (x1 : Int32) (m : pj_M) : pj_run tb_X11_isMarked [] 22 0 [some (.inr (.inr (0, 11, 72))), some (.inl x1)] [] m = F_X11_isMarked x1 m := by rfl
theorem ct_X11_isMarked : pj_Ct pj_eI y_X11_isMarked c_X11_isMarked 2 (some .boolean) 1 W_X11_isMarked := by
  refine pj_ct_of (by decide +kernel) ?_ ?_
  · intro as m r h
    unfold W_X11_isMarked at h
    split at h
    · simp [pj_l0]
    · cases h
  · intro G A P S Z C as m r h hR
    unfold W_X11_isMarked at h
    split at h
    · split at h
      · rename_i hbq
        simp only [Bool.and_eq_true, Nat.beq_eq] at hbq
        obtain ⟨rfl, rfl, rfl⟩ := hbq
        exact pj_run_ok (sd_X11_isMarked C) (fun q h => by cases h) 22 0 _ _ _ _ ((eq_X11_isMarked _ _).trans h) hR
      · cases h
    · cases h
/-! AlikeStepsModel.goesFrom(III)V -/
abbrev c_X11_goesFrom : ByteArray := prog_13_method_36_code
def y_X11_goesFrom : MethodName := ⟨RX11, "goesFrom", "(III)V"⟩
noncomputable def F_X11_goesFrom (x1 : Int32) (x2 : Int32) (x3 : Int32) (m : pj_M) : Option (pj_M) := (if (2 + x1) < 0 ∨ 72 ≤ (2 + x1).toNatClampNeg then none else (if (m.1 83 (2 + x1).toNatClampNeg) = 3 then (some m) else (if ((10 * x2) + x1) < 0 ∨ 40 ≤ ((10 * x2) + x1).toNatClampNeg then none else (if ((10 * x2) + x1) < 0 ∨ 40 ≤ ((10 * x2) + x1).toNatClampNeg then none else (some (pj_wr m 84 ((10 * x2) + x1).toNatClampNeg ((m.1 84 ((10 * x2) + x1).toNatClampNeg) ||| (1 <<< (x3 &&& 31)))))))))
noncomputable def W_X11_goesFrom : List pj_V → pj_M → Option (pj_M) := fun as m => match as with
  | [.inr (.inr (t0, w0, a0)), .inl x1, .inl x2, .inl x3] => (match Nat.beq t0 0 && (Nat.beq w0 11 && (Nat.beq a0 72)) with
    | true => F_X11_goesFrom x1 x2 x3 m
    | false => none)
  | _ => none
noncomputable def tb_X11_goesFrom_0 : List (Nat × pj_T (pj_M)) := [(0, qs_lda 0 1), (1, qs_gf 11 19 4), (4, qs_ci 2 5), (5, qs_ldi 1 6), (6, qs_b2 (fun x y => x + y) 7), (7, qs_iald 8), (8, qs_ci 3 9), (9, qs_iceq 29 12), (12, qs_lda 0 13), (13, qs_gf 11 20 16), (16, qs_ci 10 18), (18, qs_ldi 2 19), (19, qs_b2 (fun x y => x * y) 20), (20, qs_ldi 1 21), (21, qs_b2 (fun x y => x + y) 22), (22, qs_dup2 23), (23, qs_iald 24), (24, qs_ci 1 25), (25, qs_ldi 3 26), (26, qs_b2 (fun x y => x <<< (y &&& 31)) 27), (27, qs_b2 (fun x y => x ||| y) 28), (28, qs_iast 29), (29, qs_vret)]
noncomputable abbrev tb_X11_goesFrom : List (Nat × pj_T (pj_M)) := tb_X11_goesFrom_0
theorem mv_X11_goesFrom : pj_mv y_X11_goesFrom c_X11_goesFrom 4 none 3 := ⟨⟨cw_1268, cw_1267, cw_48, cw_92⟩, by decide +kernel, by decide⟩
set_option maxRecDepth 20000 in
theorem sd_X11_goesFrom_0 {G : pj_E} {A : Nat → Prop} {P : pj_P} {S : pj_U} {Z : pj_Z} (C : pj_C (G, A, (c_X11_goesFrom, y_X11_goesFrom.cls, 4, none, 1), P, S, Z)) : ∀ q ∈ tb_X11_goesFrom_0, pj_S (G, A, (c_X11_goesFrom, y_X11_goesFrom.cls, 4, none, 1), P, S, Z) pj_eV q.1 q.2 :=
  List.forall_mem_cons.mpr ⟨qz_aload_n C (show decode c_X11_goesFrom 0 = .ok (.aload_n 0, 1) by decide +kernel) rfl,
  List.forall_mem_cons.mpr ⟨qz_gf (k := 19) C (show decode c_X11_goesFrom 1 = .ok (.getfield 41, 3) by decide +kernel) vcX11 wiX11 (by decide) cw_1037,
  List.forall_mem_cons.mpr ⟨qz_iconst C (show decode c_X11_goesFrom 4 = .ok (.iconst 2, 1) by decide +kernel) (by decide +kernel),
  List.forall_mem_cons.mpr ⟨qz_iload_n C (show decode c_X11_goesFrom 5 = .ok (.iload_n 1, 1) by decide +kernel) rfl,
  List.forall_mem_cons.mpr ⟨qz_iadd C (show decode c_X11_goesFrom 6 = .ok (.iadd, 1) by decide +kernel),
  List.forall_mem_cons.mpr ⟨qz_iald C (show decode c_X11_goesFrom 7 = .ok (.iaload, 1) by decide +kernel),
  List.forall_mem_cons.mpr ⟨qz_iconst C (show decode c_X11_goesFrom 8 = .ok (.iconst 3, 1) by decide +kernel) (by decide +kernel),
  List.forall_mem_cons.mpr ⟨qz_iceq C (show decode c_X11_goesFrom 9 = .ok (.if_icmp .eq 20, 3) by decide +kernel) (by decide),
  List.forall_mem_cons.mpr ⟨qz_aload_n C (show decode c_X11_goesFrom 12 = .ok (.aload_n 0, 1) by decide +kernel) rfl,
  List.forall_mem_cons.mpr ⟨qz_gf (k := 20) C (show decode c_X11_goesFrom 13 = .ok (.getfield 44, 3) by decide +kernel) vcX11 wiX11 (by decide) cw_1038,
  List.forall_mem_cons.mpr ⟨qz_bipush C (show decode c_X11_goesFrom 16 = .ok (.bipush 10, 2) by decide +kernel) (by decide +kernel),
  List.forall_mem_cons.mpr ⟨qz_iload_n C (show decode c_X11_goesFrom 18 = .ok (.iload_n 2, 1) by decide +kernel) rfl,
  List.forall_mem_cons.mpr ⟨qz_imul C (show decode c_X11_goesFrom 19 = .ok (.imul, 1) by decide +kernel),
  List.forall_mem_cons.mpr ⟨qz_iload_n C (show decode c_X11_goesFrom 20 = .ok (.iload_n 1, 1) by decide +kernel) rfl,
  List.forall_mem_cons.mpr ⟨qz_iadd C (show decode c_X11_goesFrom 21 = .ok (.iadd, 1) by decide +kernel),
  List.forall_mem_cons.mpr ⟨qz_dup2 C (show decode c_X11_goesFrom 22 = .ok (.dup2, 1) by decide +kernel),
  List.forall_mem_cons.mpr ⟨qz_iald C (show decode c_X11_goesFrom 23 = .ok (.iaload, 1) by decide +kernel),
  List.forall_mem_cons.mpr ⟨qz_iconst C (show decode c_X11_goesFrom 24 = .ok (.iconst 1, 1) by decide +kernel) (by decide +kernel),
  List.forall_mem_cons.mpr ⟨qz_iload_n C (show decode c_X11_goesFrom 25 = .ok (.iload_n 3, 1) by decide +kernel) rfl,
  List.forall_mem_cons.mpr ⟨qz_ishl C (show decode c_X11_goesFrom 26 = .ok (.ishl, 1) by decide +kernel),
  List.forall_mem_cons.mpr ⟨qz_ior C (show decode c_X11_goesFrom 27 = .ok (.ior, 1) by decide +kernel),
  List.forall_mem_cons.mpr ⟨qz_iast C (show decode c_X11_goesFrom 28 = .ok (.iastore, 1) by decide +kernel),
  List.forall_mem_cons.mpr ⟨qz_vret C (show decode c_X11_goesFrom 29 = .ok (.return_, 1) by decide +kernel) rfl,
  (fun q h => by cases h)⟩⟩⟩⟩⟩⟩⟩⟩⟩⟩⟩⟩⟩⟩⟩⟩⟩⟩⟩⟩⟩⟩⟩
theorem sd_X11_goesFrom {G : pj_E} {A : Nat → Prop} {P : pj_P} {S : pj_U} {Z : pj_Z} (C : pj_C (G, A, (c_X11_goesFrom, y_X11_goesFrom.cls, 4, none, 1), P, S, Z)) : ∀ q ∈ tb_X11_goesFrom, pj_S (G, A, (c_X11_goesFrom, y_X11_goesFrom.cls, 4, none, 1), P, S, Z) pj_eV q.1 q.2 := sd_X11_goesFrom_0 C
set_option maxRecDepth 20000 in
theorem eq_X11_goesFrom (x1 : Int32) (x2 : Int32) (x3 : Int32) (m : pj_M) : pj_run tb_X11_goesFrom [] 25 0 [some (.inr (.inr (0, 11, 72))), some (.inl x1), some (.inl x2), some (.inl x3)] [] m = F_X11_goesFrom x1 x2 x3 m := by rfl
theorem ct_X11_goesFrom : pj_Ct pj_eV y_X11_goesFrom c_X11_goesFrom 4 none 1 W_X11_goesFrom := by
  refine pj_ct_of (by decide +kernel) ?_ ?_
  · intro as m r h
    unfold W_X11_goesFrom at h
    split at h
    · simp [pj_l0]
    · cases h
  · intro G A P S Z C as m r h hR
    unfold W_X11_goesFrom at h
    split at h
    · split at h
      · rename_i hbq
        simp only [Bool.and_eq_true, Nat.beq_eq] at hbq
        obtain ⟨rfl, rfl, rfl⟩ := hbq
        exact pj_run_ok (sd_X11_goesFrom C) (fun q h => by cases h) 25 0 _ _ _ _ ((eq_X11_goesFrom _ _ _ _).trans h) hR
      · cases h
    · cases h
/-! AlikeStepsModel.to(II)I -/
abbrev c_X11_to : ByteArray := prog_13_method_39_code
def y_X11_to : MethodName := ⟨RX11, "to", "(II)I"⟩
noncomputable def H_X11_to_5 : Nat → Int32 → Int32 → Int32 → Int32 → pj_M → Option (Int32 × pj_M)
  | 0, _, _, _, _, _ => none
  | n1 + 1, x1, x2, x3, x4, m => ((F_X11_states m).bind fun q1 => (if x4 < q1.1 then ((F_X11_has x1 x4 q1.2).bind fun q2 => (if q2.1 = 0 then (H_X11_to_5 n1 x1 x2 (x3 ||| 0) (x4 + 1) q2.2) else (if ((10 * x2) + x4) < 0 ∨ 40 ≤ ((10 * x2) + x4).toNatClampNeg then none else (H_X11_to_5 n1 x1 x2 (x3 ||| (q2.2.1 84 ((10 * x2) + x4).toNatClampNeg)) (x4 + 1) q2.2)))) else (some (x3, q1.2))))
noncomputable def F_X11_to (x1 : Int32) (x2 : Int32) (m : pj_M) : Option (Int32 × pj_M) := (H_X11_to_5 pj_z x1 x2 0 0 m)
noncomputable def W_X11_to : List pj_V → pj_M → Option (Int32 × pj_M) := fun as m => match as with
  | [.inr (.inr (t0, w0, a0)), .inl x1, .inl x2] => (match Nat.beq t0 0 && (Nat.beq w0 11 && (Nat.beq a0 72)) with
    | true => F_X11_to x1 x2 m
    | false => none)
  | _ => none
noncomputable def tb_X11_to_0 : List (Nat × pj_T (Int32 × pj_M)) := [(0, qs_ci 0 1), (1, qs_sti 3 2), (2, qs_ci 0 3), (3, qs_sti 4 5), (5, qs_ldi 4 7), (7, qs_lda 0 8), (8, qs_vI 11 1 W_X11_states 11), (11, qs_icge 48 14), (14, qs_ldi 3 15), (15, qs_ldi 1 16), (16, qs_ldi 4 18), (18, qs_sI 2 W_X11_has 21), (21, qs_ifeq 39 24), (24, qs_lda 0 25), (25, qs_gf 11 20 28), (28, qs_ci 10 30), (30, qs_ldi 2 31), (31, qs_b2 (fun x y => x * y) 32), (32, qs_ldi 4 34), (34, qs_b2 (fun x y => x + y) 35), (35, qs_iald 36), (36, qs_go 40), (39, qs_ci 0 40), (40, qs_b2 (fun x y => x ||| y) 41), (41, qs_sti 3 42), (42, qs_inc 4 1 45), (45, qs_go 5), (48, qs_ldi 3 49), (49, qs_iret)]
noncomputable abbrev tb_X11_to : List (Nat × pj_T (Int32 × pj_M)) := tb_X11_to_0
theorem mv_X11_to : pj_mv y_X11_to c_X11_to 5 (some .int) 2 := ⟨⟨cw_1280, cw_1279, cw_51, cw_92⟩, by decide +kernel, by decide⟩
set_option maxRecDepth 20000 in
theorem sd_X11_to_0 {G : pj_E} {A : Nat → Prop} {P : pj_P} {S : pj_U} {Z : pj_Z} (C : pj_C (G, A, (c_X11_to, y_X11_to.cls, 5, (some .int), 2), P, S, Z)) : ∀ q ∈ tb_X11_to_0, pj_S (G, A, (c_X11_to, y_X11_to.cls, 5, (some .int), 2), P, S, Z) pj_eI q.1 q.2 :=
  List.forall_mem_cons.mpr ⟨qz_iconst C (show decode c_X11_to 0 = .ok (.iconst 0, 1) by decide +kernel) (by decide +kernel),
  List.forall_mem_cons.mpr ⟨qz_istore_n C (show decode c_X11_to 1 = .ok (.istore_n 3, 1) by decide +kernel) rfl,
  List.forall_mem_cons.mpr ⟨qz_iconst C (show decode c_X11_to 2 = .ok (.iconst 0, 1) by decide +kernel) (by decide +kernel),
  List.forall_mem_cons.mpr ⟨qz_istore C (show decode c_X11_to 3 = .ok (.istore 4, 2) by decide +kernel),
  List.forall_mem_cons.mpr ⟨qz_iload C (show decode c_X11_to 5 = .ok (.iload 4, 2) by decide +kernel),
  List.forall_mem_cons.mpr ⟨qz_aload_n C (show decode c_X11_to 7 = .ok (.aload_n 0, 1) by decide +kernel) rfl,
  List.forall_mem_cons.mpr ⟨qz_vI C (show decode c_X11_to 8 = .ok (.invokevirtual 177, 3) by decide +kernel) ct_X11_states mv_X11_states cw_1269 vcX11 (show 1 < 2 by omega),
  List.forall_mem_cons.mpr ⟨qz_icge C (show decode c_X11_to 11 = .ok (.if_icmp .ge 37, 3) by decide +kernel) (by decide),
  List.forall_mem_cons.mpr ⟨qz_iload_n C (show decode c_X11_to 14 = .ok (.iload_n 3, 1) by decide +kernel) rfl,
  List.forall_mem_cons.mpr ⟨qz_iload_n C (show decode c_X11_to 15 = .ok (.iload_n 1, 1) by decide +kernel) rfl,
  List.forall_mem_cons.mpr ⟨qz_iload C (show decode c_X11_to 16 = .ok (.iload 4, 2) by decide +kernel),
  List.forall_mem_cons.mpr ⟨qz_sI C (show decode c_X11_to 18 = .ok (.invokestatic 187, 3) by decide +kernel) ct_X11_has mv_X11_has (Or.inl cw_1281) (show 1 < 2 by omega),
  List.forall_mem_cons.mpr ⟨qz_ifeq C (show decode c_X11_to 21 = .ok (.ifCond .eq 18, 3) by decide +kernel) (by decide),
  List.forall_mem_cons.mpr ⟨qz_aload_n C (show decode c_X11_to 24 = .ok (.aload_n 0, 1) by decide +kernel) rfl,
  List.forall_mem_cons.mpr ⟨qz_gf (k := 20) C (show decode c_X11_to 25 = .ok (.getfield 44, 3) by decide +kernel) vcX11 wiX11 (by decide) cw_1038,
  List.forall_mem_cons.mpr ⟨qz_bipush C (show decode c_X11_to 28 = .ok (.bipush 10, 2) by decide +kernel) (by decide +kernel),
  List.forall_mem_cons.mpr ⟨qz_iload_n C (show decode c_X11_to 30 = .ok (.iload_n 2, 1) by decide +kernel) rfl,
  List.forall_mem_cons.mpr ⟨qz_imul C (show decode c_X11_to 31 = .ok (.imul, 1) by decide +kernel),
  List.forall_mem_cons.mpr ⟨qz_iload C (show decode c_X11_to 32 = .ok (.iload 4, 2) by decide +kernel),
  List.forall_mem_cons.mpr ⟨qz_iadd C (show decode c_X11_to 34 = .ok (.iadd, 1) by decide +kernel),
  List.forall_mem_cons.mpr ⟨qz_iald C (show decode c_X11_to 35 = .ok (.iaload, 1) by decide +kernel),
  List.forall_mem_cons.mpr ⟨qz_goto C (show decode c_X11_to 36 = .ok (.goto 4, 3) by decide +kernel) (by decide),
  List.forall_mem_cons.mpr ⟨qz_iconst C (show decode c_X11_to 39 = .ok (.iconst 0, 1) by decide +kernel) (by decide +kernel),
  List.forall_mem_cons.mpr ⟨qz_ior C (show decode c_X11_to 40 = .ok (.ior, 1) by decide +kernel),
  List.forall_mem_cons.mpr ⟨qz_istore_n C (show decode c_X11_to 41 = .ok (.istore_n 3, 1) by decide +kernel) rfl,
  List.forall_mem_cons.mpr ⟨qz_iinc C (show decode c_X11_to 42 = .ok (.iinc 4 1, 3) by decide +kernel) (by decide +kernel),
  List.forall_mem_cons.mpr ⟨qz_goto C (show decode c_X11_to 45 = .ok (.goto (-40), 3) by decide +kernel) (by decide),
  List.forall_mem_cons.mpr ⟨qz_iload_n C (show decode c_X11_to 48 = .ok (.iload_n 3, 1) by decide +kernel) rfl,
  List.forall_mem_cons.mpr ⟨qz_iret C (show decode c_X11_to 49 = .ok (.ireturn, 1) by decide +kernel) rfl,
  (fun q h => by cases h)⟩⟩⟩⟩⟩⟩⟩⟩⟩⟩⟩⟩⟩⟩⟩⟩⟩⟩⟩⟩⟩⟩⟩⟩⟩⟩⟩⟩⟩
theorem sd_X11_to {G : pj_E} {A : Nat → Prop} {P : pj_P} {S : pj_U} {Z : pj_Z} (C : pj_C (G, A, (c_X11_to, y_X11_to.cls, 5, (some .int), 2), P, S, Z)) : ∀ q ∈ tb_X11_to, pj_S (G, A, (c_X11_to, y_X11_to.cls, 5, (some .int), 2), P, S, Z) pj_eI q.1 q.2 := sd_X11_to_0 C
noncomputable def C_X11_to_5 (f : Int32 → Int32 → Int32 → Int32 → pj_M → Option (Int32 × pj_M)) : pj_N (Int32 × pj_M) := fun L st m => match L, st with
  | [some (.inr (.inr (t0, w0, a0))), some (.inl x1), some (.inl x2), some (.inl x3), some (.inl x4)], [] => (match Nat.beq t0 0 && (Nat.beq w0 11 && (Nat.beq a0 72)) with
    | true => f x1 x2 x3 x4 m
    | false => none)
  | _, _ => none
set_option maxRecDepth 20000 in
theorem eq_X11_to_5 (n1 : Nat) (x1 : Int32) (x2 : Int32) (x3 : Int32) (x4 : Int32) (m : pj_M) : pj_run tb_X11_to [(5, C_X11_to_5 (H_X11_to_5 n1))] 31 5 [some (.inr (.inr (0, 11, 72))), some (.inl x1), some (.inl x2), some (.inl x3), some (.inl x4)] [] m = H_X11_to_5 (n1 + 1) x1 x2 x3 x4 m := by rfl
theorem sg_X11_to_5 {G : pj_E} {A : Nat → Prop} {P : pj_P} {S : pj_U} {Z : pj_Z} (C : pj_C (G, A, (c_X11_to, y_X11_to.cls, 5, (some .int), 2), P, S, Z)) : ∀ n1, pj_G (G, A, (c_X11_to, y_X11_to.cls, 5, (some .int), 2), P, S, Z) pj_eI 5 (C_X11_to_5 (H_X11_to_5 n1)) := by
  intro n1
  induction n1 with
  | zero =>
    intro L st m r h hR
    unfold C_X11_to_5 at h
    split at h
    · split at h
      · cases h
      · cases h
    · cases h
  | succ n1 ih1 =>
    intro L st m r h hR
    unfold C_X11_to_5 at h
    split at h
    · split at h
      · rename_i hbq
        simp only [Bool.and_eq_true, Nat.beq_eq] at hbq
        obtain ⟨rfl, rfl, rfl⟩ := hbq
        exact pj_run_ok (sd_X11_to C) (List.forall_mem_cons.mpr ⟨ih1, fun q h => by cases h⟩) 31 5 _ _ _ _ ((eq_X11_to_5 _ _ _ _ _ _).trans h) hR
      · cases h
    · cases h
set_option maxRecDepth 20000 in
theorem eq_X11_to (x1 : Int32) (x2 : Int32) (m : pj_M) : pj_run tb_X11_to [(5, C_X11_to_5 (H_X11_to_5  pj_z))] 31 0 [some (.inr (.inr (0, 11, 72))), some (.inl x1), some (.inl x2), none, none] [] m = F_X11_to x1 x2 m := by rfl
theorem ct_X11_to : pj_Ct pj_eI y_X11_to c_X11_to 5 (some .int) 2 W_X11_to := by
  refine pj_ct_of (by decide +kernel) ?_ ?_
  · intro as m r h
    unfold W_X11_to at h
    split at h
    · simp [pj_l0]
    · cases h
  · intro G A P S Z C as m r h hR
    unfold W_X11_to at h
    split at h
    · split at h
      · rename_i hbq
        simp only [Bool.and_eq_true, Nat.beq_eq] at hbq
        obtain ⟨rfl, rfl, rfl⟩ := hbq
        exact pj_run_ok (sd_X11_to C) (List.forall_mem_cons.mpr ⟨sg_X11_to_5 C  pj_z, fun q h => by cases h⟩) 31 0 _ _ _ _ ((eq_X11_to _ _ _).trans h) hR
      · cases h
    · cases h
/-! AlikeStepsModel.reaches(II)I -/
abbrev c_X11_reaches : ByteArray := prog_13_method_38_code
def y_X11_reaches : MethodName := ⟨RX11, "reaches", "(II)I"⟩
noncomputable def H_X11_reaches_5 : Nat → Int32 → Int32 → Int32 → pj_M → Option (Int32 × pj_M)
  | 0, _, _, _, _ => none
  | n1 + 1, x2, x3, x4, m => (if x4 = 0 then (some (x3, m)) else ((F_X11_to x3 0 m).bind fun q1 => (if (x3 ||| (q1.1 &&& x2)) = x3 then (H_X11_reaches_5 n1 x2 (x3 ||| (q1.1 &&& x2)) 0 q1.2) else (H_X11_reaches_5 n1 x2 (x3 ||| (q1.1 &&& x2)) 1 q1.2))))
noncomputable def F_X11_reaches (x1 : Int32) (x2 : Int32) (m : pj_M) : Option (Int32 × pj_M) := (H_X11_reaches_5 pj_z x2 x1 1 m)
noncomputable def W_X11_reaches : List pj_V → pj_M → Option (Int32 × pj_M) := fun as m => match as with
  | [.inr (.inr (t0, w0, a0)), .inl x1, .inl x2] => (match Nat.beq t0 0 && (Nat.beq w0 11 && (Nat.beq a0 72)) with
    | true => F_X11_reaches x1 x2 m
    | false => none)
  | _ => none
noncomputable def tb_X11_reaches_0 : List (Nat × pj_T (Int32 × pj_M)) := [(0, qs_ldi 1 1), (1, qs_sti 3 2), (2, qs_ci 1 3), (3, qs_sti 4 5), (5, qs_ldi 4 7), (7, qs_ifeq 41 10), (10, qs_ldi 3 11), (11, qs_lda 0 12), (12, qs_ldi 3 13), (13, qs_ci 0 14), (14, qs_vI 11 3 W_X11_to 17), (17, qs_ldi 2 18), (18, qs_b2 (fun x y => x &&& y) 19), (19, qs_b2 (fun x y => x ||| y) 20), (20, qs_sti 5 22), (22, qs_ldi 5 24), (24, qs_ldi 3 25), (25, qs_iceq 32 28), (28, qs_ci 1 29), (29, qs_go 33), (32, qs_ci 0 33), (33, qs_sti 4 35), (35, qs_ldi 5 37), (37, qs_sti 3 38), (38, qs_go 5), (41, qs_ldi 3 42), (42, qs_iret)]
noncomputable abbrev tb_X11_reaches : List (Nat × pj_T (Int32 × pj_M)) := tb_X11_reaches_0
theorem mv_X11_reaches : pj_mv y_X11_reaches c_X11_reaches 6 (some .int) 2 := ⟨⟨cw_1276, cw_1275, cw_50, cw_92⟩, by decide +kernel, by decide⟩
set_option maxRecDepth 20000 in
theorem sd_X11_reaches_0 {G : pj_E} {A : Nat → Prop} {P : pj_P} {S : pj_U} {Z : pj_Z} (C : pj_C (G, A, (c_X11_reaches, y_X11_reaches.cls, 6, (some .int), 3), P, S, Z)) : ∀ q ∈ tb_X11_reaches_0, pj_S (G, A, (c_X11_reaches, y_X11_reaches.cls, 6, (some .int), 3), P, S, Z) pj_eI q.1 q.2 :=
  List.forall_mem_cons.mpr ⟨qz_iload_n C (show decode c_X11_reaches 0 = .ok (.iload_n 1, 1) by decide +kernel) rfl,
  List.forall_mem_cons.mpr ⟨qz_istore_n C (show decode c_X11_reaches 1 = .ok (.istore_n 3, 1) by decide +kernel) rfl,
  List.forall_mem_cons.mpr ⟨qz_iconst C (show decode c_X11_reaches 2 = .ok (.iconst 1, 1) by decide +kernel) (by decide +kernel),
  List.forall_mem_cons.mpr ⟨qz_istore C (show decode c_X11_reaches 3 = .ok (.istore 4, 2) by decide +kernel),
  List.forall_mem_cons.mpr ⟨qz_iload C (show decode c_X11_reaches 5 = .ok (.iload 4, 2) by decide +kernel),
  List.forall_mem_cons.mpr ⟨qz_ifeq C (show decode c_X11_reaches 7 = .ok (.ifCond .eq 34, 3) by decide +kernel) (by decide),
  List.forall_mem_cons.mpr ⟨qz_iload_n C (show decode c_X11_reaches 10 = .ok (.iload_n 3, 1) by decide +kernel) rfl,
  List.forall_mem_cons.mpr ⟨qz_aload_n C (show decode c_X11_reaches 11 = .ok (.aload_n 0, 1) by decide +kernel) rfl,
  List.forall_mem_cons.mpr ⟨qz_iload_n C (show decode c_X11_reaches 12 = .ok (.iload_n 3, 1) by decide +kernel) rfl,
  List.forall_mem_cons.mpr ⟨qz_iconst C (show decode c_X11_reaches 13 = .ok (.iconst 0, 1) by decide +kernel) (by decide +kernel),
  List.forall_mem_cons.mpr ⟨qz_vI C (show decode c_X11_reaches 14 = .ok (.invokevirtual 184, 3) by decide +kernel) ct_X11_to mv_X11_to cw_1277 vcX11 (show 2 < 3 by omega),
  List.forall_mem_cons.mpr ⟨qz_iload_n C (show decode c_X11_reaches 17 = .ok (.iload_n 2, 1) by decide +kernel) rfl,
  List.forall_mem_cons.mpr ⟨qz_iand C (show decode c_X11_reaches 18 = .ok (.iand, 1) by decide +kernel),
  List.forall_mem_cons.mpr ⟨qz_ior C (show decode c_X11_reaches 19 = .ok (.ior, 1) by decide +kernel),
  List.forall_mem_cons.mpr ⟨qz_istore C (show decode c_X11_reaches 20 = .ok (.istore 5, 2) by decide +kernel),
  List.forall_mem_cons.mpr ⟨qz_iload C (show decode c_X11_reaches 22 = .ok (.iload 5, 2) by decide +kernel),
  List.forall_mem_cons.mpr ⟨qz_iload_n C (show decode c_X11_reaches 24 = .ok (.iload_n 3, 1) by decide +kernel) rfl,
  List.forall_mem_cons.mpr ⟨qz_iceq C (show decode c_X11_reaches 25 = .ok (.if_icmp .eq 7, 3) by decide +kernel) (by decide),
  List.forall_mem_cons.mpr ⟨qz_iconst C (show decode c_X11_reaches 28 = .ok (.iconst 1, 1) by decide +kernel) (by decide +kernel),
  List.forall_mem_cons.mpr ⟨qz_goto C (show decode c_X11_reaches 29 = .ok (.goto 4, 3) by decide +kernel) (by decide),
  List.forall_mem_cons.mpr ⟨qz_iconst C (show decode c_X11_reaches 32 = .ok (.iconst 0, 1) by decide +kernel) (by decide +kernel),
  List.forall_mem_cons.mpr ⟨qz_istore C (show decode c_X11_reaches 33 = .ok (.istore 4, 2) by decide +kernel),
  List.forall_mem_cons.mpr ⟨qz_iload C (show decode c_X11_reaches 35 = .ok (.iload 5, 2) by decide +kernel),
  List.forall_mem_cons.mpr ⟨qz_istore_n C (show decode c_X11_reaches 37 = .ok (.istore_n 3, 1) by decide +kernel) rfl,
  List.forall_mem_cons.mpr ⟨qz_goto C (show decode c_X11_reaches 38 = .ok (.goto (-33), 3) by decide +kernel) (by decide),
  List.forall_mem_cons.mpr ⟨qz_iload_n C (show decode c_X11_reaches 41 = .ok (.iload_n 3, 1) by decide +kernel) rfl,
  List.forall_mem_cons.mpr ⟨qz_iret C (show decode c_X11_reaches 42 = .ok (.ireturn, 1) by decide +kernel) rfl,
  (fun q h => by cases h)⟩⟩⟩⟩⟩⟩⟩⟩⟩⟩⟩⟩⟩⟩⟩⟩⟩⟩⟩⟩⟩⟩⟩⟩⟩⟩⟩
theorem sd_X11_reaches {G : pj_E} {A : Nat → Prop} {P : pj_P} {S : pj_U} {Z : pj_Z} (C : pj_C (G, A, (c_X11_reaches, y_X11_reaches.cls, 6, (some .int), 3), P, S, Z)) : ∀ q ∈ tb_X11_reaches, pj_S (G, A, (c_X11_reaches, y_X11_reaches.cls, 6, (some .int), 3), P, S, Z) pj_eI q.1 q.2 := sd_X11_reaches_0 C
noncomputable def C_X11_reaches_5 (f : Int32 → Int32 → Int32 → pj_M → Option (Int32 × pj_M)) : pj_N (Int32 × pj_M) := fun L st m => match L, st with
  | [some (.inr (.inr (t0, w0, a0))), _, some (.inl x2), some (.inl x3), some (.inl x4), _], [] => (match Nat.beq t0 0 && (Nat.beq w0 11 && (Nat.beq a0 72)) with
    | true => f x2 x3 x4 m
    | false => none)
  | _, _ => none
set_option maxRecDepth 20000 in
theorem eq_X11_reaches_5 (n1 : Nat) (x2 : Int32) (x3 : Int32) (x4 : Int32) (d1 d5 : Option pj_V) (m : pj_M) : pj_run tb_X11_reaches [(5, C_X11_reaches_5 (H_X11_reaches_5 n1))] 29 5 [some (.inr (.inr (0, 11, 72))), d1, some (.inl x2), some (.inl x3), some (.inl x4), d5] [] m = H_X11_reaches_5 (n1 + 1) x2 x3 x4 m := by rfl
theorem sg_X11_reaches_5 {G : pj_E} {A : Nat → Prop} {P : pj_P} {S : pj_U} {Z : pj_Z} (C : pj_C (G, A, (c_X11_reaches, y_X11_reaches.cls, 6, (some .int), 3), P, S, Z)) : ∀ n1, pj_G (G, A, (c_X11_reaches, y_X11_reaches.cls, 6, (some .int), 3), P, S, Z) pj_eI 5 (C_X11_reaches_5 (H_X11_reaches_5 n1)) := by
  intro n1
  induction n1 with
  | zero =>
    intro L st m r h hR
    unfold C_X11_reaches_5 at h
    split at h
    · split at h
      · cases h
      · cases h
    · cases h
  | succ n1 ih1 =>
    intro L st m r h hR
    unfold C_X11_reaches_5 at h
    split at h
    · split at h
      · rename_i hbq
        simp only [Bool.and_eq_true, Nat.beq_eq] at hbq
        obtain ⟨rfl, rfl, rfl⟩ := hbq
        exact pj_run_ok (sd_X11_reaches C) (List.forall_mem_cons.mpr ⟨ih1, fun q h => by cases h⟩) 29 5 _ _ _ _ ((eq_X11_reaches_5 _ _ _ _ _ _ _).trans h) hR
      · cases h
    · cases h
set_option maxRecDepth 20000 in
theorem eq_X11_reaches (x1 : Int32) (x2 : Int32) (m : pj_M) : pj_run tb_X11_reaches [(5, C_X11_reaches_5 (H_X11_reaches_5  pj_z))] 29 0 [some (.inr (.inr (0, 11, 72))), some (.inl x1), some (.inl x2), none, none, none] [] m = F_X11_reaches x1 x2 m := by rfl
theorem ct_X11_reaches : pj_Ct pj_eI y_X11_reaches c_X11_reaches 6 (some .int) 3 W_X11_reaches := by
  refine pj_ct_of (by decide +kernel) ?_ ?_
  · intro as m r h
    unfold W_X11_reaches at h
    split at h
    · simp [pj_l0]
    · cases h
  · intro G A P S Z C as m r h hR
    unfold W_X11_reaches at h
    split at h
    · split at h
      · rename_i hbq
        simp only [Bool.and_eq_true, Nat.beq_eq] at hbq
        obtain ⟨rfl, rfl, rfl⟩ := hbq
        exact pj_run_ok (sd_X11_reaches C) (List.forall_mem_cons.mpr ⟨sg_X11_reaches_5 C  pj_z, fun q h => by cases h⟩) 29 0 _ _ _ _ ((eq_X11_reaches _ _ _).trans h) hR
      · cases h
    · cases h
/-! AlikeStepsModel.looks([II)V -/
abbrev c_X11_looks : ByteArray := prog_13_method_37_code
def y_X11_looks : MethodName := ⟨RX11, "looks", "([II)V"⟩
noncomputable def H_X11_looks_127 : Nat → Int32 → pj_M → Option (pj_M)
  | 0, _, _ => none
  | n1 + 1, x3, m => ((F_X11_states m).bind fun q1 => (if x3 < q1.1 then ((F_X11_reaches (1 <<< (x3 &&& 31)) 1023 q1.2).bind fun q2 => (if x3 < 0 ∨ 10 ≤ x3.toNatClampNeg then none else (H_X11_looks_127 n1 (x3 + 1) (pj_wr q2.2 85 x3.toNatClampNeg q2.1)))) else (some q1.2)))
noncomputable def H_X11_looks_33 : Nat → Int32 → pj_M → Option (pj_M)
  | 0, _, _ => none
  | n1 + 1, x3, m => (if (1 : Int32) < 0 ∨ 72 ≤ (1 : Int32).toNatClampNeg then none else (if x3 < (m.1 83 (1 : Int32).toNatClampNeg) then (if (12 + (3 * x3)) < 0 ∨ 72 ≤ (12 + (3 * x3)).toNatClampNeg then none else (if ((12 + (3 * x3)) + 1) < 0 ∨ 72 ≤ ((12 + (3 * x3)) + 1).toNatClampNeg then none else (if ((12 + (3 * x3)) + 2) < 0 ∨ 72 ≤ ((12 + (3 * x3)) + 2).toNatClampNeg then none else ((F_X11_goesFrom (m.1 83 ((12 + (3 * x3)) + 1).toNatClampNeg) (m.1 83 (12 + (3 * x3)).toNatClampNeg) (m.1 83 ((12 + (3 * x3)) + 2).toNatClampNeg) m).bind fun q1 => (if (2 + (m.1 83 ((12 + (3 * x3)) + 1).toNatClampNeg)) < 0 ∨ 72 ≤ (2 + (m.1 83 ((12 + (3 * x3)) + 1).toNatClampNeg)).toNatClampNeg then none else (if (q1.1 83 (2 + (m.1 83 ((12 + (3 * x3)) + 1).toNatClampNeg)).toNatClampNeg) < 4 then (H_X11_looks_33 n1 (x3 + 1) q1) else ((F_X11_goesFrom (m.1 83 ((12 + (3 * x3)) + 2).toNatClampNeg) (m.1 83 (12 + (3 * x3)).toNatClampNeg) (m.1 83 ((12 + (3 * x3)) + 1).toNatClampNeg) q1).bind fun q2 => (H_X11_looks_33 n1 (x3 + 1) q2)))))))) else (H_X11_looks_127 pj_z 0 m)))
noncomputable def H_X11_looks_12 : Nat → Int32 → pj_M → Option (pj_M)
  | 0, _, _ => none
  | n1 + 1, x3, m => (if x3 < 40 then (if x3 < 0 ∨ 40 ≤ x3.toNatClampNeg then none else (H_X11_looks_12 n1 (x3 + 1) (pj_wr m 84 x3.toNatClampNeg 0))) else (H_X11_looks_33 pj_z 0 m))
noncomputable def F_X11_looks (n1 : Nat) (a1 : Nat) (x2 : Int32) (m : pj_M) : Option (pj_M) := ((F_X11_copies n1 a1 x2 72 83 0 m).bind fun q1 => (H_X11_looks_12 pj_z 0 q1))
noncomputable def W_X11_looks : List pj_V → pj_M → Option (pj_M) := fun as m => match as with
  | [.inr (.inr (t0, w0, a0)), .inr (.inr (t1, n1, a1)), .inl x2] => (match Nat.beq t0 0 && (Nat.beq w0 11 && (Nat.beq a0 72 && (Nat.beq t1 1))) with
    | true => F_X11_looks n1 a1 x2 m
    | false => none)
  | _ => none
noncomputable def tb_X11_looks_0 : List (Nat × pj_T (pj_M)) := [(0, qs_lda 1 1), (1, qs_ldi 2 2), (2, qs_lda 0 3), (3, qs_gf 11 19 6), (6, qs_ci 0 7), (7, qs_sV 4 W_X11_copies 10), (10, qs_ci 0 11), (11, qs_sti 3 12), (12, qs_ldi 3 13), (13, qs_ci 40 15), (15, qs_icge 31 18), (18, qs_lda 0 19), (19, qs_gf 11 20 22), (22, qs_ldi 3 23), (23, qs_ci 0 24), (24, qs_iast 25), (25, qs_inc 3 1 28), (28, qs_go 12), (31, qs_ci 0 32), (32, qs_sti 3 33), (33, qs_ldi 3 34), (34, qs_lda 0 35), (35, qs_gf 11 19 38), (38, qs_ci 1 39), (39, qs_iald 40), (40, qs_icge 125 43), (43, qs_lda 0 44), (44, qs_gf 11 19 47), (47, qs_ci 12 49), (49, qs_ci 3 50), (50, qs_ldi 3 51), (51, qs_b2 (fun x y => x * y) 52), (52, qs_b2 (fun x y => x + y) 53), (53, qs_iald 54), (54, qs_sti 4 56), (56, qs_lda 0 57), (57, qs_gf 11 19 60), (60, qs_ci 12 62), (62, qs_ci 3 63), (63, qs_ldi 3 64)]
noncomputable def tb_X11_looks_1 : List (Nat × pj_T (pj_M)) := [(64, qs_b2 (fun x y => x * y) 65), (65, qs_b2 (fun x y => x + y) 66), (66, qs_ci 1 67), (67, qs_b2 (fun x y => x + y) 68), (68, qs_iald 69), (69, qs_sti 5 71), (71, qs_lda 0 72), (72, qs_gf 11 19 75), (75, qs_ci 12 77), (77, qs_ci 3 78), (78, qs_ldi 3 79), (79, qs_b2 (fun x y => x * y) 80), (80, qs_b2 (fun x y => x + y) 81), (81, qs_ci 2 82), (82, qs_b2 (fun x y => x + y) 83), (83, qs_iald 84), (84, qs_sti 6 86), (86, qs_lda 0 87), (87, qs_ldi 5 89), (89, qs_ldi 4 91), (91, qs_ldi 6 93), (93, qs_vV 11 4 W_X11_goesFrom 96), (96, qs_lda 0 97), (97, qs_gf 11 19 100), (100, qs_ci 2 101), (101, qs_ldi 5 103), (103, qs_b2 (fun x y => x + y) 104), (104, qs_iald 105), (105, qs_ci 4 106), (106, qs_iclt 119 109), (109, qs_lda 0 110), (110, qs_ldi 6 112), (112, qs_ldi 4 114), (114, qs_ldi 5 116), (116, qs_vV 11 4 W_X11_goesFrom 119), (119, qs_inc 3 1 122), (122, qs_go 33), (125, qs_ci 0 126), (126, qs_sti 3 127), (127, qs_ldi 3 128)]
noncomputable def tb_X11_looks_2 : List (Nat × pj_T (pj_M)) := [(128, qs_lda 0 129), (129, qs_vI 11 1 W_X11_states 132), (132, qs_icge 157 135), (135, qs_lda 0 136), (136, qs_gf 11 21 139), (139, qs_ldi 3 140), (140, qs_lda 0 141), (141, qs_ci 1 142), (142, qs_ldi 3 143), (143, qs_b2 (fun x y => x <<< (y &&& 31)) 144), (144, qs_ci 1023 147), (147, qs_vI 11 3 W_X11_reaches 150), (150, qs_iast 151), (151, qs_inc 3 1 154), (154, qs_go 127), (157, qs_vret)]
noncomputable def tb_X11_looks : List (Nat × pj_T (pj_M)) := tb_X11_looks_0 ++ (tb_X11_looks_1 ++ (tb_X11_looks_2))
theorem mv_X11_looks : pj_mv y_X11_looks c_X11_looks 7 none 2 := ⟨⟨cw_1264, cw_1263, cw_47, cw_92⟩, by decide +kernel, by decide⟩
set_option maxRecDepth 20000 in
theorem sd_X11_looks_0 {G : pj_E} {A : Nat → Prop} {P : pj_P} {S : pj_U} {Z : pj_Z} (C : pj_C (G, A, (c_X11_looks, y_X11_looks.cls, 7, none, 4), P, S, Z)) : ∀ q ∈ tb_X11_looks_0, pj_S (G, A, (c_X11_looks, y_X11_looks.cls, 7, none, 4), P, S, Z) pj_eV q.1 q.2 :=
  List.forall_mem_cons.mpr ⟨qz_aload_n C (show decode c_X11_looks 0 = .ok (.aload_n 1, 1) by decide +kernel) rfl,
  List.forall_mem_cons.mpr ⟨qz_iload_n C (show decode c_X11_looks 1 = .ok (.iload_n 2, 1) by decide +kernel) rfl,
  List.forall_mem_cons.mpr ⟨qz_aload_n C (show decode c_X11_looks 2 = .ok (.aload_n 0, 1) by decide +kernel) rfl,
  List.forall_mem_cons.mpr ⟨qz_gf (k := 19) C (show decode c_X11_looks 3 = .ok (.getfield 41, 3) by decide +kernel) vcX11 wiX11 (by decide) cw_1037,
  List.forall_mem_cons.mpr ⟨qz_iconst C (show decode c_X11_looks 6 = .ok (.iconst 0, 1) by decide +kernel) (by decide +kernel),
  List.forall_mem_cons.mpr ⟨qz_sV C (show decode c_X11_looks 7 = .ok (.invokestatic 166, 3) by decide +kernel) ct_X11_copies mv_X11_copies (Or.inl cw_1210) (show 1 < 4 by omega),
  List.forall_mem_cons.mpr ⟨qz_iconst C (show decode c_X11_looks 10 = .ok (.iconst 0, 1) by decide +kernel) (by decide +kernel),
  List.forall_mem_cons.mpr ⟨qz_istore_n C (show decode c_X11_looks 11 = .ok (.istore_n 3, 1) by decide +kernel) rfl,
  List.forall_mem_cons.mpr ⟨qz_iload_n C (show decode c_X11_looks 12 = .ok (.iload_n 3, 1) by decide +kernel) rfl,
  List.forall_mem_cons.mpr ⟨qz_bipush C (show decode c_X11_looks 13 = .ok (.bipush 40, 2) by decide +kernel) (by decide +kernel),
  List.forall_mem_cons.mpr ⟨qz_icge C (show decode c_X11_looks 15 = .ok (.if_icmp .ge 16, 3) by decide +kernel) (by decide),
  List.forall_mem_cons.mpr ⟨qz_aload_n C (show decode c_X11_looks 18 = .ok (.aload_n 0, 1) by decide +kernel) rfl,
  List.forall_mem_cons.mpr ⟨qz_gf (k := 20) C (show decode c_X11_looks 19 = .ok (.getfield 44, 3) by decide +kernel) vcX11 wiX11 (by decide) cw_1038,
  List.forall_mem_cons.mpr ⟨qz_iload_n C (show decode c_X11_looks 22 = .ok (.iload_n 3, 1) by decide +kernel) rfl,
  List.forall_mem_cons.mpr ⟨qz_iconst C (show decode c_X11_looks 23 = .ok (.iconst 0, 1) by decide +kernel) (by decide +kernel),
  List.forall_mem_cons.mpr ⟨qz_iast C (show decode c_X11_looks 24 = .ok (.iastore, 1) by decide +kernel),
  List.forall_mem_cons.mpr ⟨qz_iinc C (show decode c_X11_looks 25 = .ok (.iinc 3 1, 3) by decide +kernel) (by decide +kernel),
  List.forall_mem_cons.mpr ⟨qz_goto C (show decode c_X11_looks 28 = .ok (.goto (-16), 3) by decide +kernel) (by decide),
  List.forall_mem_cons.mpr ⟨qz_iconst C (show decode c_X11_looks 31 = .ok (.iconst 0, 1) by decide +kernel) (by decide +kernel),
  List.forall_mem_cons.mpr ⟨qz_istore_n C (show decode c_X11_looks 32 = .ok (.istore_n 3, 1) by decide +kernel) rfl,
  List.forall_mem_cons.mpr ⟨qz_iload_n C (show decode c_X11_looks 33 = .ok (.iload_n 3, 1) by decide +kernel) rfl,
  List.forall_mem_cons.mpr ⟨qz_aload_n C (show decode c_X11_looks 34 = .ok (.aload_n 0, 1) by decide +kernel) rfl,
  List.forall_mem_cons.mpr ⟨qz_gf (k := 19) C (show decode c_X11_looks 35 = .ok (.getfield 41, 3) by decide +kernel) vcX11 wiX11 (by decide) cw_1037,
  List.forall_mem_cons.mpr ⟨qz_iconst C (show decode c_X11_looks 38 = .ok (.iconst 1, 1) by decide +kernel) (by decide +kernel),
  List.forall_mem_cons.mpr ⟨qz_iald C (show decode c_X11_looks 39 = .ok (.iaload, 1) by decide +kernel),
  List.forall_mem_cons.mpr ⟨qz_icge C (show decode c_X11_looks 40 = .ok (.if_icmp .ge 85, 3) by decide +kernel) (by decide),
  List.forall_mem_cons.mpr ⟨qz_aload_n C (show decode c_X11_looks 43 = .ok (.aload_n 0, 1) by decide +kernel) rfl,
  List.forall_mem_cons.mpr ⟨qz_gf (k := 19) C (show decode c_X11_looks 44 = .ok (.getfield 41, 3) by decide +kernel) vcX11 wiX11 (by decide) cw_1037,
  List.forall_mem_cons.mpr ⟨qz_bipush C (show decode c_X11_looks 47 = .ok (.bipush 12, 2) by decide +kernel) (by decide +kernel),
  List.forall_mem_cons.mpr ⟨qz_iconst C (show decode c_X11_looks 49 = .ok (.iconst 3, 1) by decide +kernel) (by decide +kernel),
  List.forall_mem_cons.mpr ⟨qz_iload_n C (show decode c_X11_looks 50 = .ok (.iload_n 3, 1) by decide +kernel) rfl,
  List.forall_mem_cons.mpr ⟨qz_imul C (show decode c_X11_looks 51 = .ok (.imul, 1) by decide +kernel),
  List.forall_mem_cons.mpr ⟨qz_iadd C (show decode c_X11_looks 52 = .ok (.iadd, 1) by decide +kernel),
  List.forall_mem_cons.mpr ⟨qz_iald C (show decode c_X11_looks 53 = .ok (.iaload, 1) by decide +kernel),
  List.forall_mem_cons.mpr ⟨qz_istore C (show decode c_X11_looks 54 = .ok (.istore 4, 2) by decide +kernel),
  List.forall_mem_cons.mpr ⟨qz_aload_n C (show decode c_X11_looks 56 = .ok (.aload_n 0, 1) by decide +kernel) rfl,
  List.forall_mem_cons.mpr ⟨qz_gf (k := 19) C (show decode c_X11_looks 57 = .ok (.getfield 41, 3) by decide +kernel) vcX11 wiX11 (by decide) cw_1037,
  List.forall_mem_cons.mpr ⟨qz_bipush C (show decode c_X11_looks 60 = .ok (.bipush 12, 2) by decide +kernel) (by decide +kernel),
  List.forall_mem_cons.mpr ⟨qz_iconst C (show decode c_X11_looks 62 = .ok (.iconst 3, 1) by decide +kernel) (by decide +kernel),
  List.forall_mem_cons.mpr ⟨qz_iload_n C (show decode c_X11_looks 63 = .ok (.iload_n 3, 1) by decide +kernel) rfl,
  (fun q h => by cases h)⟩⟩⟩⟩⟩⟩⟩⟩⟩⟩⟩⟩⟩⟩⟩⟩⟩⟩⟩⟩⟩⟩⟩⟩⟩⟩⟩⟩⟩⟩⟩⟩⟩⟩⟩⟩⟩⟩⟩⟩
set_option maxRecDepth 20000 in
theorem sd_X11_looks_1 {G : pj_E} {A : Nat → Prop} {P : pj_P} {S : pj_U} {Z : pj_Z} (C : pj_C (G, A, (c_X11_looks, y_X11_looks.cls, 7, none, 4), P, S, Z)) : ∀ q ∈ tb_X11_looks_1, pj_S (G, A, (c_X11_looks, y_X11_looks.cls, 7, none, 4), P, S, Z) pj_eV q.1 q.2 :=
  List.forall_mem_cons.mpr ⟨qz_imul C (show decode c_X11_looks 64 = .ok (.imul, 1) by decide +kernel),
  List.forall_mem_cons.mpr ⟨qz_iadd C (show decode c_X11_looks 65 = .ok (.iadd, 1) by decide +kernel),
  List.forall_mem_cons.mpr ⟨qz_iconst C (show decode c_X11_looks 66 = .ok (.iconst 1, 1) by decide +kernel) (by decide +kernel),
  List.forall_mem_cons.mpr ⟨qz_iadd C (show decode c_X11_looks 67 = .ok (.iadd, 1) by decide +kernel),
  List.forall_mem_cons.mpr ⟨qz_iald C (show decode c_X11_looks 68 = .ok (.iaload, 1) by decide +kernel),
  List.forall_mem_cons.mpr ⟨qz_istore C (show decode c_X11_looks 69 = .ok (.istore 5, 2) by decide +kernel),
  List.forall_mem_cons.mpr ⟨qz_aload_n C (show decode c_X11_looks 71 = .ok (.aload_n 0, 1) by decide +kernel) rfl,
  List.forall_mem_cons.mpr ⟨qz_gf (k := 19) C (show decode c_X11_looks 72 = .ok (.getfield 41, 3) by decide +kernel) vcX11 wiX11 (by decide) cw_1037,
  List.forall_mem_cons.mpr ⟨qz_bipush C (show decode c_X11_looks 75 = .ok (.bipush 12, 2) by decide +kernel) (by decide +kernel),
  List.forall_mem_cons.mpr ⟨qz_iconst C (show decode c_X11_looks 77 = .ok (.iconst 3, 1) by decide +kernel) (by decide +kernel),
  List.forall_mem_cons.mpr ⟨qz_iload_n C (show decode c_X11_looks 78 = .ok (.iload_n 3, 1) by decide +kernel) rfl,
  List.forall_mem_cons.mpr ⟨qz_imul C (show decode c_X11_looks 79 = .ok (.imul, 1) by decide +kernel),
  List.forall_mem_cons.mpr ⟨qz_iadd C (show decode c_X11_looks 80 = .ok (.iadd, 1) by decide +kernel),
  List.forall_mem_cons.mpr ⟨qz_iconst C (show decode c_X11_looks 81 = .ok (.iconst 2, 1) by decide +kernel) (by decide +kernel),
  List.forall_mem_cons.mpr ⟨qz_iadd C (show decode c_X11_looks 82 = .ok (.iadd, 1) by decide +kernel),
  List.forall_mem_cons.mpr ⟨qz_iald C (show decode c_X11_looks 83 = .ok (.iaload, 1) by decide +kernel),
  List.forall_mem_cons.mpr ⟨qz_istore C (show decode c_X11_looks 84 = .ok (.istore 6, 2) by decide +kernel),
  List.forall_mem_cons.mpr ⟨qz_aload_n C (show decode c_X11_looks 86 = .ok (.aload_n 0, 1) by decide +kernel) rfl,
  List.forall_mem_cons.mpr ⟨qz_iload C (show decode c_X11_looks 87 = .ok (.iload 5, 2) by decide +kernel),
  List.forall_mem_cons.mpr ⟨qz_iload C (show decode c_X11_looks 89 = .ok (.iload 4, 2) by decide +kernel),
  List.forall_mem_cons.mpr ⟨qz_iload C (show decode c_X11_looks 91 = .ok (.iload 6, 2) by decide +kernel),
  List.forall_mem_cons.mpr ⟨qz_vV C (show decode c_X11_looks 93 = .ok (.invokevirtual 173, 3) by decide +kernel) ct_X11_goesFrom mv_X11_goesFrom cw_1265 vcX11 (show 1 < 4 by omega),
  List.forall_mem_cons.mpr ⟨qz_aload_n C (show decode c_X11_looks 96 = .ok (.aload_n 0, 1) by decide +kernel) rfl,
  List.forall_mem_cons.mpr ⟨qz_gf (k := 19) C (show decode c_X11_looks 97 = .ok (.getfield 41, 3) by decide +kernel) vcX11 wiX11 (by decide) cw_1037,
  List.forall_mem_cons.mpr ⟨qz_iconst C (show decode c_X11_looks 100 = .ok (.iconst 2, 1) by decide +kernel) (by decide +kernel),
  List.forall_mem_cons.mpr ⟨qz_iload C (show decode c_X11_looks 101 = .ok (.iload 5, 2) by decide +kernel),
  List.forall_mem_cons.mpr ⟨qz_iadd C (show decode c_X11_looks 103 = .ok (.iadd, 1) by decide +kernel),
  List.forall_mem_cons.mpr ⟨qz_iald C (show decode c_X11_looks 104 = .ok (.iaload, 1) by decide +kernel),
  List.forall_mem_cons.mpr ⟨qz_iconst C (show decode c_X11_looks 105 = .ok (.iconst 4, 1) by decide +kernel) (by decide +kernel),
  List.forall_mem_cons.mpr ⟨qz_iclt C (show decode c_X11_looks 106 = .ok (.if_icmp .lt 13, 3) by decide +kernel) (by decide),
  List.forall_mem_cons.mpr ⟨qz_aload_n C (show decode c_X11_looks 109 = .ok (.aload_n 0, 1) by decide +kernel) rfl,
  List.forall_mem_cons.mpr ⟨qz_iload C (show decode c_X11_looks 110 = .ok (.iload 6, 2) by decide +kernel),
  List.forall_mem_cons.mpr ⟨qz_iload C (show decode c_X11_looks 112 = .ok (.iload 4, 2) by decide +kernel),
  List.forall_mem_cons.mpr ⟨qz_iload C (show decode c_X11_looks 114 = .ok (.iload 5, 2) by decide +kernel),
  List.forall_mem_cons.mpr ⟨qz_vV C (show decode c_X11_looks 116 = .ok (.invokevirtual 173, 3) by decide +kernel) ct_X11_goesFrom mv_X11_goesFrom cw_1265 vcX11 (show 1 < 4 by omega),
  List.forall_mem_cons.mpr ⟨qz_iinc C (show decode c_X11_looks 119 = .ok (.iinc 3 1, 3) by decide +kernel) (by decide +kernel),
  List.forall_mem_cons.mpr ⟨qz_goto C (show decode c_X11_looks 122 = .ok (.goto (-89), 3) by decide +kernel) (by decide),
  List.forall_mem_cons.mpr ⟨qz_iconst C (show decode c_X11_looks 125 = .ok (.iconst 0, 1) by decide +kernel) (by decide +kernel),
  List.forall_mem_cons.mpr ⟨qz_istore_n C (show decode c_X11_looks 126 = .ok (.istore_n 3, 1) by decide +kernel) rfl,
  List.forall_mem_cons.mpr ⟨qz_iload_n C (show decode c_X11_looks 127 = .ok (.iload_n 3, 1) by decide +kernel) rfl,
  (fun q h => by cases h)⟩⟩⟩⟩⟩⟩⟩⟩⟩⟩⟩⟩⟩⟩⟩⟩⟩⟩⟩⟩⟩⟩⟩⟩⟩⟩⟩⟩⟩⟩⟩⟩⟩⟩⟩⟩⟩⟩⟩⟩
set_option maxRecDepth 20000 in
theorem sd_X11_looks_2 {G : pj_E} {A : Nat → Prop} {P : pj_P} {S : pj_U} {Z : pj_Z} (C : pj_C (G, A, (c_X11_looks, y_X11_looks.cls, 7, none, 4), P, S, Z)) : ∀ q ∈ tb_X11_looks_2, pj_S (G, A, (c_X11_looks, y_X11_looks.cls, 7, none, 4), P, S, Z) pj_eV q.1 q.2 :=
  List.forall_mem_cons.mpr ⟨qz_aload_n C (show decode c_X11_looks 128 = .ok (.aload_n 0, 1) by decide +kernel) rfl,
  List.forall_mem_cons.mpr ⟨qz_vI C (show decode c_X11_looks 129 = .ok (.invokevirtual 177, 3) by decide +kernel) ct_X11_states mv_X11_states cw_1269 vcX11 (show 1 < 4 by omega),
  List.forall_mem_cons.mpr ⟨qz_icge C (show decode c_X11_looks 132 = .ok (.if_icmp .ge 25, 3) by decide +kernel) (by decide),
  List.forall_mem_cons.mpr ⟨qz_aload_n C (show decode c_X11_looks 135 = .ok (.aload_n 0, 1) by decide +kernel) rfl,
  List.forall_mem_cons.mpr ⟨qz_gf (k := 21) C (show decode c_X11_looks 136 = .ok (.getfield 47, 3) by decide +kernel) vcX11 wiX11 (by decide) cw_1039,
  List.forall_mem_cons.mpr ⟨qz_iload_n C (show decode c_X11_looks 139 = .ok (.iload_n 3, 1) by decide +kernel) rfl,
  List.forall_mem_cons.mpr ⟨qz_aload_n C (show decode c_X11_looks 140 = .ok (.aload_n 0, 1) by decide +kernel) rfl,
  List.forall_mem_cons.mpr ⟨qz_iconst C (show decode c_X11_looks 141 = .ok (.iconst 1, 1) by decide +kernel) (by decide +kernel),
  List.forall_mem_cons.mpr ⟨qz_iload_n C (show decode c_X11_looks 142 = .ok (.iload_n 3, 1) by decide +kernel) rfl,
  List.forall_mem_cons.mpr ⟨qz_ishl C (show decode c_X11_looks 143 = .ok (.ishl, 1) by decide +kernel),
  List.forall_mem_cons.mpr ⟨qz_sipush C (show decode c_X11_looks 144 = .ok (.sipush 1023, 3) by decide +kernel) (by decide +kernel),
  List.forall_mem_cons.mpr ⟨qz_vI C (show decode c_X11_looks 147 = .ok (.invokevirtual 181, 3) by decide +kernel) ct_X11_reaches mv_X11_reaches cw_1273 vcX11 (show 3 < 4 by omega),
  List.forall_mem_cons.mpr ⟨qz_iast C (show decode c_X11_looks 150 = .ok (.iastore, 1) by decide +kernel),
  List.forall_mem_cons.mpr ⟨qz_iinc C (show decode c_X11_looks 151 = .ok (.iinc 3 1, 3) by decide +kernel) (by decide +kernel),
  List.forall_mem_cons.mpr ⟨qz_goto C (show decode c_X11_looks 154 = .ok (.goto (-27), 3) by decide +kernel) (by decide),
  List.forall_mem_cons.mpr ⟨qz_vret C (show decode c_X11_looks 157 = .ok (.return_, 1) by decide +kernel) rfl,
  (fun q h => by cases h)⟩⟩⟩⟩⟩⟩⟩⟩⟩⟩⟩⟩⟩⟩⟩⟩
theorem sd_X11_looks {G : pj_E} {A : Nat → Prop} {P : pj_P} {S : pj_U} {Z : pj_Z} (C : pj_C (G, A, (c_X11_looks, y_X11_looks.cls, 7, none, 4), P, S, Z)) : ∀ q ∈ tb_X11_looks, pj_S (G, A, (c_X11_looks, y_X11_looks.cls, 7, none, 4), P, S, Z) pj_eV q.1 q.2 := List.forall_mem_append.mpr ⟨sd_X11_looks_0 C, List.forall_mem_append.mpr ⟨sd_X11_looks_1 C, sd_X11_looks_2 C⟩⟩
noncomputable def C_X11_looks_127 (f : Int32 → pj_M → Option (pj_M)) : pj_N (pj_M) := fun L st m => match L, st with
  | [some (.inr (.inr (t0, w0, a0))), _, _, some (.inl x3), _, _, _], [] => (match Nat.beq t0 0 && (Nat.beq w0 11 && (Nat.beq a0 72)) with
    | true => f x3 m
    | false => none)
  | _, _ => none
noncomputable def C_X11_looks_33 (f : Int32 → pj_M → Option (pj_M)) : pj_N (pj_M) := fun L st m => match L, st with
  | [some (.inr (.inr (t0, w0, a0))), _, _, some (.inl x3), _, _, _], [] => (match Nat.beq t0 0 && (Nat.beq w0 11 && (Nat.beq a0 72)) with
    | true => f x3 m
    | false => none)
  | _, _ => none
noncomputable def C_X11_looks_12 (f : Int32 → pj_M → Option (pj_M)) : pj_N (pj_M) := fun L st m => match L, st with
  | [some (.inr (.inr (t0, w0, a0))), _, _, some (.inl x3), _, _, _], [] => (match Nat.beq t0 0 && (Nat.beq w0 11 && (Nat.beq a0 72)) with
    | true => f x3 m
    | false => none)
  | _, _ => none
set_option maxRecDepth 20000 in
theorem eq_X11_looks_127 (n1 : Nat) (x3 : Int32) (d1 d2 d4 d5 d6 : Option pj_V) (m : pj_M) : pj_run tb_X11_looks [(127, C_X11_looks_127 (H_X11_looks_127 n1))] 98 127 [some (.inr (.inr (0, 11, 72))), d1, d2, some (.inl x3), d4, d5, d6] [] m = H_X11_looks_127 (n1 + 1) x3 m := by rfl
theorem sg_X11_looks_127 {G : pj_E} {A : Nat → Prop} {P : pj_P} {S : pj_U} {Z : pj_Z} (C : pj_C (G, A, (c_X11_looks, y_X11_looks.cls, 7, none, 4), P, S, Z)) : ∀ n1, pj_G (G, A, (c_X11_looks, y_X11_looks.cls, 7, none, 4), P, S, Z) pj_eV 127 (C_X11_looks_127 (H_X11_looks_127 n1)) := by
  intro n1
  induction n1 with
  | zero =>
    intro L st m r h hR
    unfold C_X11_looks_127 at h
    split at h
    · split at h
      · cases h
      · cases h
    · cases h
  | succ n1 ih1 =>
    intro L st m r h hR
    unfold C_X11_looks_127 at h
    split at h
    · split at h
      · rename_i hbq
        simp only [Bool.and_eq_true, Nat.beq_eq] at hbq
        obtain ⟨rfl, rfl, rfl⟩ := hbq
        exact pj_run_ok (sd_X11_looks C) (List.forall_mem_cons.mpr ⟨ih1, fun q h => by cases h⟩) 98 127 _ _ _ _ ((eq_X11_looks_127 _ _ _ _ _ _ _ _).trans h) hR
      · cases h
    · cases h
set_option maxRecDepth 20000 in
theorem eq_X11_looks_33 (n1 : Nat) (x3 : Int32) (d1 d2 d4 d5 d6 : Option pj_V) (m : pj_M) : pj_run tb_X11_looks [(33, C_X11_looks_33 (H_X11_looks_33 n1)), (127, C_X11_looks_127 (H_X11_looks_127  pj_z))] 98 33 [some (.inr (.inr (0, 11, 72))), d1, d2, some (.inl x3), d4, d5, d6] [] m = H_X11_looks_33 (n1 + 1) x3 m := by rfl
theorem sg_X11_looks_33 {G : pj_E} {A : Nat → Prop} {P : pj_P} {S : pj_U} {Z : pj_Z} (C : pj_C (G, A, (c_X11_looks, y_X11_looks.cls, 7, none, 4), P, S, Z)) : ∀ n1, pj_G (G, A, (c_X11_looks, y_X11_looks.cls, 7, none, 4), P, S, Z) pj_eV 33 (C_X11_looks_33 (H_X11_looks_33 n1)) := by
  intro n1
  induction n1 with
  | zero =>
    intro L st m r h hR
    unfold C_X11_looks_33 at h
    split at h
    · split at h
      · cases h
      · cases h
    · cases h
  | succ n1 ih1 =>
    intro L st m r h hR
    unfold C_X11_looks_33 at h
    split at h
    · split at h
      · rename_i hbq
        simp only [Bool.and_eq_true, Nat.beq_eq] at hbq
        obtain ⟨rfl, rfl, rfl⟩ := hbq
        exact pj_run_ok (sd_X11_looks C) (List.forall_mem_cons.mpr ⟨ih1, List.forall_mem_cons.mpr ⟨sg_X11_looks_127 C  pj_z, fun q h => by cases h⟩⟩) 98 33 _ _ _ _ ((eq_X11_looks_33 _ _ _ _ _ _ _ _).trans h) hR
      · cases h
    · cases h
set_option maxRecDepth 20000 in
theorem eq_X11_looks_12 (n1 : Nat) (x3 : Int32) (d1 d2 d4 d5 d6 : Option pj_V) (m : pj_M) : pj_run tb_X11_looks [(12, C_X11_looks_12 (H_X11_looks_12 n1)), (33, C_X11_looks_33 (H_X11_looks_33  pj_z))] 98 12 [some (.inr (.inr (0, 11, 72))), d1, d2, some (.inl x3), d4, d5, d6] [] m = H_X11_looks_12 (n1 + 1) x3 m := by rfl
theorem sg_X11_looks_12 {G : pj_E} {A : Nat → Prop} {P : pj_P} {S : pj_U} {Z : pj_Z} (C : pj_C (G, A, (c_X11_looks, y_X11_looks.cls, 7, none, 4), P, S, Z)) : ∀ n1, pj_G (G, A, (c_X11_looks, y_X11_looks.cls, 7, none, 4), P, S, Z) pj_eV 12 (C_X11_looks_12 (H_X11_looks_12 n1)) := by
  intro n1
  induction n1 with
  | zero =>
    intro L st m r h hR
    unfold C_X11_looks_12 at h
    split at h
    · split at h
      · cases h
      · cases h
    · cases h
  | succ n1 ih1 =>
    intro L st m r h hR
    unfold C_X11_looks_12 at h
    split at h
    · split at h
      · rename_i hbq
        simp only [Bool.and_eq_true, Nat.beq_eq] at hbq
        obtain ⟨rfl, rfl, rfl⟩ := hbq
        exact pj_run_ok (sd_X11_looks C) (List.forall_mem_cons.mpr ⟨ih1, List.forall_mem_cons.mpr ⟨sg_X11_looks_33 C  pj_z, fun q h => by cases h⟩⟩) 98 12 _ _ _ _ ((eq_X11_looks_12 _ _ _ _ _ _ _ _).trans h) hR
      · cases h
    · cases h
set_option maxRecDepth 20000 in
theorem eq_X11_looks (n1 : Nat) (a1 : Nat) (x2 : Int32) (m : pj_M) : pj_run tb_X11_looks [(12, C_X11_looks_12 (H_X11_looks_12  pj_z))] 98 0 [some (.inr (.inr (0, 11, 72))), some (.inr (.inr (1, n1, a1))), some (.inl x2), none, none, none, none] [] m = F_X11_looks n1 a1 x2 m := by rfl
theorem ct_X11_looks : pj_Ct pj_eV y_X11_looks c_X11_looks 7 none 4 W_X11_looks := by
  refine pj_ct_of (by decide +kernel) ?_ ?_
  · intro as m r h
    unfold W_X11_looks at h
    split at h
    · simp [pj_l0]
    · cases h
  · intro G A P S Z C as m r h hR
    unfold W_X11_looks at h
    split at h
    · split at h
      · rename_i hbq
        simp only [Bool.and_eq_true, Nat.beq_eq] at hbq
        obtain ⟨rfl, rfl, rfl, rfl⟩ := hbq
        exact pj_run_ok (sd_X11_looks C) (List.forall_mem_cons.mpr ⟨sg_X11_looks_12 C  pj_z, fun q h => by cases h⟩) 98 0 _ _ _ _ ((eq_X11_looks _ _ _ _).trans h) hR
      · cases h
    · cases h
/-! AlikeStepsModel.close(I)I -/
abbrev c_X11_close : ByteArray := prog_13_method_40_code
def y_X11_close : MethodName := ⟨RX11, "close", "(I)I"⟩
noncomputable def H_X11_close_4 : Nat → Int32 → Int32 → Int32 → pj_M → Option (Int32 × pj_M)
  | 0, _, _, _, _ => none
  | n1 + 1, x1, x2, x3, m => ((F_X11_states m).bind fun q1 => (if x3 < q1.1 then ((F_X11_has x1 x3 q1.2).bind fun q2 => (if q2.1 = 0 then (H_X11_close_4 n1 x1 (x2 ||| 0) (x3 + 1) q2.2) else (if x3 < 0 ∨ 10 ≤ x3.toNatClampNeg then none else (H_X11_close_4 n1 x1 (x2 ||| (q2.2.1 85 x3.toNatClampNeg)) (x3 + 1) q2.2)))) else (some (x2, q1.2))))
noncomputable def F_X11_close (x1 : Int32) (m : pj_M) : Option (Int32 × pj_M) := (H_X11_close_4 pj_z x1 0 0 m)
noncomputable def W_X11_close : List pj_V → pj_M → Option (Int32 × pj_M) := fun as m => match as with
  | [.inr (.inr (t0, w0, a0)), .inl x1] => (match Nat.beq t0 0 && (Nat.beq w0 11 && (Nat.beq a0 72)) with
    | true => F_X11_close x1 m
    | false => none)
  | _ => none
noncomputable def tb_X11_close_0 : List (Nat × pj_T (Int32 × pj_M)) := [(0, qs_ci 0 1), (1, qs_sti 2 2), (2, qs_ci 0 3), (3, qs_sti 3 4), (4, qs_ldi 3 5), (5, qs_lda 0 6), (6, qs_vI 11 1 W_X11_states 9), (9, qs_icge 39 12), (12, qs_ldi 2 13), (13, qs_ldi 1 14), (14, qs_ldi 3 15), (15, qs_sI 2 W_X11_has 18), (18, qs_ifeq 30 21), (21, qs_lda 0 22), (22, qs_gf 11 21 25), (25, qs_ldi 3 26), (26, qs_iald 27), (27, qs_go 31), (30, qs_ci 0 31), (31, qs_b2 (fun x y => x ||| y) 32), (32, qs_sti 2 33), (33, qs_inc 3 1 36), (36, qs_go 4), (39, qs_ldi 2 40), (40, qs_iret)]
noncomputable abbrev tb_X11_close : List (Nat × pj_T (Int32 × pj_M)) := tb_X11_close_0
theorem mv_X11_close : pj_mv y_X11_close c_X11_close 4 (some .int) 1 := ⟨⟨cw_1291, cw_1290, cw_53, cw_92⟩, by decide +kernel, by decide⟩
set_option maxRecDepth 20000 in
theorem sd_X11_close_0 {G : pj_E} {A : Nat → Prop} {P : pj_P} {S : pj_U} {Z : pj_Z} (C : pj_C (G, A, (c_X11_close, y_X11_close.cls, 4, (some .int), 2), P, S, Z)) : ∀ q ∈ tb_X11_close_0, pj_S (G, A, (c_X11_close, y_X11_close.cls, 4, (some .int), 2), P, S, Z) pj_eI q.1 q.2 :=
  List.forall_mem_cons.mpr ⟨qz_iconst C (show decode c_X11_close 0 = .ok (.iconst 0, 1) by decide +kernel) (by decide +kernel),
  List.forall_mem_cons.mpr ⟨qz_istore_n C (show decode c_X11_close 1 = .ok (.istore_n 2, 1) by decide +kernel) rfl,
  List.forall_mem_cons.mpr ⟨qz_iconst C (show decode c_X11_close 2 = .ok (.iconst 0, 1) by decide +kernel) (by decide +kernel),
  List.forall_mem_cons.mpr ⟨qz_istore_n C (show decode c_X11_close 3 = .ok (.istore_n 3, 1) by decide +kernel) rfl,
  List.forall_mem_cons.mpr ⟨qz_iload_n C (show decode c_X11_close 4 = .ok (.iload_n 3, 1) by decide +kernel) rfl,
  List.forall_mem_cons.mpr ⟨qz_aload_n C (show decode c_X11_close 5 = .ok (.aload_n 0, 1) by decide +kernel) rfl,
  List.forall_mem_cons.mpr ⟨qz_vI C (show decode c_X11_close 6 = .ok (.invokevirtual 177, 3) by decide +kernel) ct_X11_states mv_X11_states cw_1269 vcX11 (show 1 < 2 by omega),
  List.forall_mem_cons.mpr ⟨qz_icge C (show decode c_X11_close 9 = .ok (.if_icmp .ge 30, 3) by decide +kernel) (by decide),
  List.forall_mem_cons.mpr ⟨qz_iload_n C (show decode c_X11_close 12 = .ok (.iload_n 2, 1) by decide +kernel) rfl,
  List.forall_mem_cons.mpr ⟨qz_iload_n C (show decode c_X11_close 13 = .ok (.iload_n 1, 1) by decide +kernel) rfl,
  List.forall_mem_cons.mpr ⟨qz_iload_n C (show decode c_X11_close 14 = .ok (.iload_n 3, 1) by decide +kernel) rfl,
  List.forall_mem_cons.mpr ⟨qz_sI C (show decode c_X11_close 15 = .ok (.invokestatic 187, 3) by decide +kernel) ct_X11_has mv_X11_has (Or.inl cw_1281) (show 1 < 2 by omega),
  List.forall_mem_cons.mpr ⟨qz_ifeq C (show decode c_X11_close 18 = .ok (.ifCond .eq 12, 3) by decide +kernel) (by decide),
  List.forall_mem_cons.mpr ⟨qz_aload_n C (show decode c_X11_close 21 = .ok (.aload_n 0, 1) by decide +kernel) rfl,
  List.forall_mem_cons.mpr ⟨qz_gf (k := 21) C (show decode c_X11_close 22 = .ok (.getfield 47, 3) by decide +kernel) vcX11 wiX11 (by decide) cw_1039,
  List.forall_mem_cons.mpr ⟨qz_iload_n C (show decode c_X11_close 25 = .ok (.iload_n 3, 1) by decide +kernel) rfl,
  List.forall_mem_cons.mpr ⟨qz_iald C (show decode c_X11_close 26 = .ok (.iaload, 1) by decide +kernel),
  List.forall_mem_cons.mpr ⟨qz_goto C (show decode c_X11_close 27 = .ok (.goto 4, 3) by decide +kernel) (by decide),
  List.forall_mem_cons.mpr ⟨qz_iconst C (show decode c_X11_close 30 = .ok (.iconst 0, 1) by decide +kernel) (by decide +kernel),
  List.forall_mem_cons.mpr ⟨qz_ior C (show decode c_X11_close 31 = .ok (.ior, 1) by decide +kernel),
  List.forall_mem_cons.mpr ⟨qz_istore_n C (show decode c_X11_close 32 = .ok (.istore_n 2, 1) by decide +kernel) rfl,
  List.forall_mem_cons.mpr ⟨qz_iinc C (show decode c_X11_close 33 = .ok (.iinc 3 1, 3) by decide +kernel) (by decide +kernel),
  List.forall_mem_cons.mpr ⟨qz_goto C (show decode c_X11_close 36 = .ok (.goto (-32), 3) by decide +kernel) (by decide),
  List.forall_mem_cons.mpr ⟨qz_iload_n C (show decode c_X11_close 39 = .ok (.iload_n 2, 1) by decide +kernel) rfl,
  List.forall_mem_cons.mpr ⟨qz_iret C (show decode c_X11_close 40 = .ok (.ireturn, 1) by decide +kernel) rfl,
  (fun q h => by cases h)⟩⟩⟩⟩⟩⟩⟩⟩⟩⟩⟩⟩⟩⟩⟩⟩⟩⟩⟩⟩⟩⟩⟩⟩⟩
theorem sd_X11_close {G : pj_E} {A : Nat → Prop} {P : pj_P} {S : pj_U} {Z : pj_Z} (C : pj_C (G, A, (c_X11_close, y_X11_close.cls, 4, (some .int), 2), P, S, Z)) : ∀ q ∈ tb_X11_close, pj_S (G, A, (c_X11_close, y_X11_close.cls, 4, (some .int), 2), P, S, Z) pj_eI q.1 q.2 := sd_X11_close_0 C
noncomputable def C_X11_close_4 (f : Int32 → Int32 → Int32 → pj_M → Option (Int32 × pj_M)) : pj_N (Int32 × pj_M) := fun L st m => match L, st with
  | [some (.inr (.inr (t0, w0, a0))), some (.inl x1), some (.inl x2), some (.inl x3)], [] => (match Nat.beq t0 0 && (Nat.beq w0 11 && (Nat.beq a0 72)) with
    | true => f x1 x2 x3 m
    | false => none)
  | _, _ => none
set_option maxRecDepth 20000 in
theorem eq_X11_close_4 (n1 : Nat) (x1 : Int32) (x2 : Int32) (x3 : Int32) (m : pj_M) : pj_run tb_X11_close [(4, C_X11_close_4 (H_X11_close_4 n1))] 27 4 [some (.inr (.inr (0, 11, 72))), some (.inl x1), some (.inl x2), some (.inl x3)] [] m = H_X11_close_4 (n1 + 1) x1 x2 x3 m := by rfl
theorem sg_X11_close_4 {G : pj_E} {A : Nat → Prop} {P : pj_P} {S : pj_U} {Z : pj_Z} (C : pj_C (G, A, (c_X11_close, y_X11_close.cls, 4, (some .int), 2), P, S, Z)) : ∀ n1, pj_G (G, A, (c_X11_close, y_X11_close.cls, 4, (some .int), 2), P, S, Z) pj_eI 4 (C_X11_close_4 (H_X11_close_4 n1)) := by
  intro n1
  induction n1 with
  | zero =>
    intro L st m r h hR
    unfold C_X11_close_4 at h
    split at h
    · split at h
      · cases h
      · cases h
    · cases h
  | succ n1 ih1 =>
    intro L st m r h hR
    unfold C_X11_close_4 at h
    split at h
    · split at h
      · rename_i hbq
        simp only [Bool.and_eq_true, Nat.beq_eq] at hbq
        obtain ⟨rfl, rfl, rfl⟩ := hbq
        exact pj_run_ok (sd_X11_close C) (List.forall_mem_cons.mpr ⟨ih1, fun q h => by cases h⟩) 27 4 _ _ _ _ ((eq_X11_close_4 _ _ _ _ _).trans h) hR
      · cases h
    · cases h
set_option maxRecDepth 20000 in
theorem eq_X11_close (x1 : Int32) (m : pj_M) : pj_run tb_X11_close [(4, C_X11_close_4 (H_X11_close_4  pj_z))] 27 0 [some (.inr (.inr (0, 11, 72))), some (.inl x1), none, none] [] m = F_X11_close x1 m := by rfl
theorem ct_X11_close : pj_Ct pj_eI y_X11_close c_X11_close 4 (some .int) 2 W_X11_close := by
  refine pj_ct_of (by decide +kernel) ?_ ?_
  · intro as m r h
    unfold W_X11_close at h
    split at h
    · simp [pj_l0]
    · cases h
  · intro G A P S Z C as m r h hR
    unfold W_X11_close at h
    split at h
    · split at h
      · rename_i hbq
        simp only [Bool.and_eq_true, Nat.beq_eq] at hbq
        obtain ⟨rfl, rfl, rfl⟩ := hbq
        exact pj_run_ok (sd_X11_close C) (List.forall_mem_cons.mpr ⟨sg_X11_close_4 C  pj_z, fun q h => by cases h⟩) 27 0 _ _ _ _ ((eq_X11_close _ _).trans h) hR
      · cases h
    · cases h
/-! AlikeStepsModel.moving(III)I -/
abbrev c_X11_moving : ByteArray := prog_13_method_41_code
def y_X11_moving : MethodName := ⟨RX11, "moving", "(III)I"⟩
noncomputable def F_X11_moving (x1 : Int32) (x2 : Int32) (x3 : Int32) (m : pj_M) : Option (Int32 × pj_M) := (if x1 = 1 then (if x3 = 0 then (if x2 < 0 ∨ 10 ≤ x2.toNatClampNeg then none else (some (m.1 85 x2.toNatClampNeg, m))) else (if x2 < 0 ∨ 10 ≤ x2.toNatClampNeg then none else ((F_X11_to (m.1 85 x2.toNatClampNeg) x3 m).bind fun q1 => ((F_X11_close q1.1 q1.2).bind fun q2 => (some (q2.1, q2.2)))))) else (if ((10 * x3) + x2) < 0 ∨ 40 ≤ ((10 * x3) + x2).toNatClampNeg then none else (some (m.1 84 ((10 * x3) + x2).toNatClampNeg, m))))
noncomputable def W_X11_moving : List pj_V → pj_M → Option (Int32 × pj_M) := fun as m => match as with
  | [.inr (.inr (t0, w0, a0)), .inl x1, .inl x2, .inl x3] => (match Nat.beq t0 0 && (Nat.beq w0 11 && (Nat.beq a0 72)) with
    | true => F_X11_moving x1 x2 x3 m
    | false => none)
  | _ => none
noncomputable def tb_X11_moving_0 : List (Nat × pj_T (Int32 × pj_M)) := [(0, qs_ldi 1 1), (1, qs_ci 1 2), (2, qs_iceq 17 5), (5, qs_lda 0 6), (6, qs_gf 11 20 9), (9, qs_ci 10 11), (11, qs_ldi 3 12), (12, qs_b2 (fun x y => x * y) 13), (13, qs_ldi 2 14), (14, qs_b2 (fun x y => x + y) 15), (15, qs_iald 16), (16, qs_iret), (17, qs_ldi 3 18), (18, qs_ifne 30 21), (21, qs_lda 0 22), (22, qs_gf 11 21 25), (25, qs_ldi 2 26), (26, qs_iald 27), (27, qs_go 45), (30, qs_lda 0 31), (31, qs_lda 0 32), (32, qs_lda 0 33), (33, qs_gf 11 21 36), (36, qs_ldi 2 37), (37, qs_iald 38), (38, qs_ldi 3 39), (39, qs_vI 11 3 W_X11_to 42), (42, qs_vI 11 2 W_X11_close 45), (45, qs_iret)]
noncomputable abbrev tb_X11_moving : List (Nat × pj_T (Int32 × pj_M)) := tb_X11_moving_0
theorem mv_X11_moving : pj_mv y_X11_moving c_X11_moving 4 (some .int) 3 := ⟨⟨cw_1287, cw_1286, cw_52, cw_92⟩, by decide +kernel, by decide⟩
set_option maxRecDepth 20000 in
theorem sd_X11_moving_0 {G : pj_E} {A : Nat → Prop} {P : pj_P} {S : pj_U} {Z : pj_Z} (C : pj_C (G, A, (c_X11_moving, y_X11_moving.cls, 4, (some .int), 3), P, S, Z)) : ∀ q ∈ tb_X11_moving_0, pj_S (G, A, (c_X11_moving, y_X11_moving.cls, 4, (some .int), 3), P, S, Z) pj_eI q.1 q.2 :=
  List.forall_mem_cons.mpr ⟨qz_iload_n C (show decode c_X11_moving 0 = .ok (.iload_n 1, 1) by decide +kernel) rfl,
  List.forall_mem_cons.mpr ⟨qz_iconst C (show decode c_X11_moving 1 = .ok (.iconst 1, 1) by decide +kernel) (by decide +kernel),
  List.forall_mem_cons.mpr ⟨qz_iceq C (show decode c_X11_moving 2 = .ok (.if_icmp .eq 15, 3) by decide +kernel) (by decide),
  List.forall_mem_cons.mpr ⟨qz_aload_n C (show decode c_X11_moving 5 = .ok (.aload_n 0, 1) by decide +kernel) rfl,
  List.forall_mem_cons.mpr ⟨qz_gf (k := 20) C (show decode c_X11_moving 6 = .ok (.getfield 44, 3) by decide +kernel) vcX11 wiX11 (by decide) cw_1038,
  List.forall_mem_cons.mpr ⟨qz_bipush C (show decode c_X11_moving 9 = .ok (.bipush 10, 2) by decide +kernel) (by decide +kernel),
  List.forall_mem_cons.mpr ⟨qz_iload_n C (show decode c_X11_moving 11 = .ok (.iload_n 3, 1) by decide +kernel) rfl,
  List.forall_mem_cons.mpr ⟨qz_imul C (show decode c_X11_moving 12 = .ok (.imul, 1) by decide +kernel),
  List.forall_mem_cons.mpr ⟨qz_iload_n C (show decode c_X11_moving 13 = .ok (.iload_n 2, 1) by decide +kernel) rfl,
  List.forall_mem_cons.mpr ⟨qz_iadd C (show decode c_X11_moving 14 = .ok (.iadd, 1) by decide +kernel),
  List.forall_mem_cons.mpr ⟨qz_iald C (show decode c_X11_moving 15 = .ok (.iaload, 1) by decide +kernel),
  List.forall_mem_cons.mpr ⟨qz_iret C (show decode c_X11_moving 16 = .ok (.ireturn, 1) by decide +kernel) rfl,
  List.forall_mem_cons.mpr ⟨qz_iload_n C (show decode c_X11_moving 17 = .ok (.iload_n 3, 1) by decide +kernel) rfl,
  List.forall_mem_cons.mpr ⟨qz_ifne C (show decode c_X11_moving 18 = .ok (.ifCond .ne 12, 3) by decide +kernel) (by decide),
  List.forall_mem_cons.mpr ⟨qz_aload_n C (show decode c_X11_moving 21 = .ok (.aload_n 0, 1) by decide +kernel) rfl,
  List.forall_mem_cons.mpr ⟨qz_gf (k := 21) C (show decode c_X11_moving 22 = .ok (.getfield 47, 3) by decide +kernel) vcX11 wiX11 (by decide) cw_1039,
  List.forall_mem_cons.mpr ⟨qz_iload_n C (show decode c_X11_moving 25 = .ok (.iload_n 2, 1) by decide +kernel) rfl,
  List.forall_mem_cons.mpr ⟨qz_iald C (show decode c_X11_moving 26 = .ok (.iaload, 1) by decide +kernel),
  List.forall_mem_cons.mpr ⟨qz_goto C (show decode c_X11_moving 27 = .ok (.goto 18, 3) by decide +kernel) (by decide),
  List.forall_mem_cons.mpr ⟨qz_aload_n C (show decode c_X11_moving 30 = .ok (.aload_n 0, 1) by decide +kernel) rfl,
  List.forall_mem_cons.mpr ⟨qz_aload_n C (show decode c_X11_moving 31 = .ok (.aload_n 0, 1) by decide +kernel) rfl,
  List.forall_mem_cons.mpr ⟨qz_aload_n C (show decode c_X11_moving 32 = .ok (.aload_n 0, 1) by decide +kernel) rfl,
  List.forall_mem_cons.mpr ⟨qz_gf (k := 21) C (show decode c_X11_moving 33 = .ok (.getfield 47, 3) by decide +kernel) vcX11 wiX11 (by decide) cw_1039,
  List.forall_mem_cons.mpr ⟨qz_iload_n C (show decode c_X11_moving 36 = .ok (.iload_n 2, 1) by decide +kernel) rfl,
  List.forall_mem_cons.mpr ⟨qz_iald C (show decode c_X11_moving 37 = .ok (.iaload, 1) by decide +kernel),
  List.forall_mem_cons.mpr ⟨qz_iload_n C (show decode c_X11_moving 38 = .ok (.iload_n 3, 1) by decide +kernel) rfl,
  List.forall_mem_cons.mpr ⟨qz_vI C (show decode c_X11_moving 39 = .ok (.invokevirtual 184, 3) by decide +kernel) ct_X11_to mv_X11_to cw_1277 vcX11 (show 2 < 3 by omega),
  List.forall_mem_cons.mpr ⟨qz_vI C (show decode c_X11_moving 42 = .ok (.invokevirtual 191, 3) by decide +kernel) ct_X11_close mv_X11_close cw_1288 vcX11 (show 2 < 3 by omega),
  List.forall_mem_cons.mpr ⟨qz_iret C (show decode c_X11_moving 45 = .ok (.ireturn, 1) by decide +kernel) rfl,
  (fun q h => by cases h)⟩⟩⟩⟩⟩⟩⟩⟩⟩⟩⟩⟩⟩⟩⟩⟩⟩⟩⟩⟩⟩⟩⟩⟩⟩⟩⟩⟩⟩
theorem sd_X11_moving {G : pj_E} {A : Nat → Prop} {P : pj_P} {S : pj_U} {Z : pj_Z} (C : pj_C (G, A, (c_X11_moving, y_X11_moving.cls, 4, (some .int), 3), P, S, Z)) : ∀ q ∈ tb_X11_moving, pj_S (G, A, (c_X11_moving, y_X11_moving.cls, 4, (some .int), 3), P, S, Z) pj_eI q.1 q.2 := sd_X11_moving_0 C
set_option maxRecDepth 20000 in
theorem eq_X11_moving (x1 : Int32) (x2 : Int32) (x3 : Int32) (m : pj_M) : pj_run tb_X11_moving [] 31 0 [some (.inr (.inr (0, 11, 72))), some (.inl x1), some (.inl x2), some (.inl x3)] [] m = F_X11_moving x1 x2 x3 m := by rfl
theorem ct_X11_moving : pj_Ct pj_eI y_X11_moving c_X11_moving 4 (some .int) 3 W_X11_moving := by
  refine pj_ct_of (by decide +kernel) ?_ ?_
  · intro as m r h
    unfold W_X11_moving at h
    split at h
    · simp [pj_l0]
    · cases h
  · intro G A P S Z C as m r h hR
    unfold W_X11_moving at h
    split at h
    · split at h
      · rename_i hbq
        simp only [Bool.and_eq_true, Nat.beq_eq] at hbq
        obtain ⟨rfl, rfl, rfl⟩ := hbq
        exact pj_run_ok (sd_X11_moving C) (fun q h => by cases h) 31 0 _ _ _ _ ((eq_X11_moving _ _ _ _).trans h) hR
      · cases h
    · cases h
/-! AlikeStepsModel.blockIn(II)I -/
abbrev c_X11_blockIn : ByteArray := prog_13_method_42_code
def y_X11_blockIn : MethodName := ⟨RX11, "blockIn", "(II)I"⟩
noncomputable def F_X11_blockIn (x1 : Int32) (x2 : Int32) (m : pj_M) : Option (Int32 × pj_M) := (if ((10 * x1) + x2) < 0 ∨ 220 ≤ ((10 * x1) + x2).toNatClampNeg then none else (some (m.1 86 ((10 * x1) + x2).toNatClampNeg, m)))
noncomputable def W_X11_blockIn : List pj_V → pj_M → Option (Int32 × pj_M) := fun as m => match as with
  | [.inr (.inr (t0, w0, a0)), .inl x1, .inl x2] => (match Nat.beq t0 0 && (Nat.beq w0 11 && (Nat.beq a0 72)) with
    | true => F_X11_blockIn x1 x2 m
    | false => none)
  | _ => none
noncomputable def tb_X11_blockIn_0 : List (Nat × pj_T (Int32 × pj_M)) := [(0, qs_lda 0 1), (1, qs_gf 11 22 4), (4, qs_ci 10 6), (6, qs_ldi 1 7), (7, qs_b2 (fun x y => x * y) 8), (8, qs_ldi 2 9), (9, qs_b2 (fun x y => x + y) 10), (10, qs_iald 11), (11, qs_iret)]
noncomputable abbrev tb_X11_blockIn : List (Nat × pj_T (Int32 × pj_M)) := tb_X11_blockIn_0
theorem mv_X11_blockIn : pj_mv y_X11_blockIn c_X11_blockIn 3 (some .int) 2 := ⟨⟨cw_1315, cw_1314, cw_58, cw_92⟩, by decide +kernel, by decide⟩
set_option maxRecDepth 20000 in
theorem sd_X11_blockIn_0 {G : pj_E} {A : Nat → Prop} {P : pj_P} {S : pj_U} {Z : pj_Z} (C : pj_C (G, A, (c_X11_blockIn, y_X11_blockIn.cls, 3, (some .int), 1), P, S, Z)) : ∀ q ∈ tb_X11_blockIn_0, pj_S (G, A, (c_X11_blockIn, y_X11_blockIn.cls, 3, (some .int), 1), P, S, Z) pj_eI q.1 q.2 :=
  List.forall_mem_cons.mpr ⟨qz_aload_n C (show decode c_X11_blockIn 0 = .ok (.aload_n 0, 1) by decide +kernel) rfl,
  List.forall_mem_cons.mpr ⟨qz_gf (k := 22) C (show decode c_X11_blockIn 1 = .ok (.getfield 50, 3) by decide +kernel) vcX11 wiX11 (by decide) cw_1040,
  List.forall_mem_cons.mpr ⟨qz_bipush C (show decode c_X11_blockIn 4 = .ok (.bipush 10, 2) by decide +kernel) (by decide +kernel),
  List.forall_mem_cons.mpr ⟨qz_iload_n C (show decode c_X11_blockIn 6 = .ok (.iload_n 1, 1) by decide +kernel) rfl,
  List.forall_mem_cons.mpr ⟨qz_imul C (show decode c_X11_blockIn 7 = .ok (.imul, 1) by decide +kernel),
  List.forall_mem_cons.mpr ⟨qz_iload_n C (show decode c_X11_blockIn 8 = .ok (.iload_n 2, 1) by decide +kernel) rfl,
  List.forall_mem_cons.mpr ⟨qz_iadd C (show decode c_X11_blockIn 9 = .ok (.iadd, 1) by decide +kernel),
  List.forall_mem_cons.mpr ⟨qz_iald C (show decode c_X11_blockIn 10 = .ok (.iaload, 1) by decide +kernel),
  List.forall_mem_cons.mpr ⟨qz_iret C (show decode c_X11_blockIn 11 = .ok (.ireturn, 1) by decide +kernel) rfl,
  (fun q h => by cases h)⟩⟩⟩⟩⟩⟩⟩⟩⟩
theorem sd_X11_blockIn {G : pj_E} {A : Nat → Prop} {P : pj_P} {S : pj_U} {Z : pj_Z} (C : pj_C (G, A, (c_X11_blockIn, y_X11_blockIn.cls, 3, (some .int), 1), P, S, Z)) : ∀ q ∈ tb_X11_blockIn, pj_S (G, A, (c_X11_blockIn, y_X11_blockIn.cls, 3, (some .int), 1), P, S, Z) pj_eI q.1 q.2 := sd_X11_blockIn_0 C
set_option maxRecDepth 20000 in
theorem eq_X11_blockIn (x1 : Int32) (x2 : Int32) (m : pj_M) : pj_run tb_X11_blockIn [] 11 0 [some (.inr (.inr (0, 11, 72))), some (.inl x1), some (.inl x2)] [] m = F_X11_blockIn x1 x2 m := by rfl
theorem ct_X11_blockIn : pj_Ct pj_eI y_X11_blockIn c_X11_blockIn 3 (some .int) 1 W_X11_blockIn := by
  refine pj_ct_of (by decide +kernel) ?_ ?_
  · intro as m r h
    unfold W_X11_blockIn at h
    split at h
    · simp [pj_l0]
    · cases h
  · intro G A P S Z C as m r h hR
    unfold W_X11_blockIn at h
    split at h
    · split at h
      · rename_i hbq
        simp only [Bool.and_eq_true, Nat.beq_eq] at hbq
        obtain ⟨rfl, rfl, rfl⟩ := hbq
        exact pj_run_ok (sd_X11_blockIn C) (fun q h => by cases h) 11 0 _ _ _ _ ((eq_X11_blockIn _ _ _).trans h) hR
      · cases h
    · cases h
/-! AlikeStepsModel.bitsOf(III)J -/
abbrev c_X11_bitsOf : ByteArray := prog_13_method_43_code
def y_X11_bitsOf : MethodName := ⟨RX11, "bitsOf", "(III)J"⟩
noncomputable def H_X11_bitsOf_6 : Nat → Int32 → Int32 → Int32 → Int64 → Int32 → pj_M → Option (Int64 × pj_M)
  | 0, _, _, _, _, _, _ => none
  | n1 + 1, x1, x2, x3, l4, x6, m => ((F_X11_states m).bind fun q1 => (if x6 < q1.1 then ((F_X11_has x2 x6 q1.2).bind fun q2 => (if q2.1 = 0 then (H_X11_bitsOf_6 n1 x1 x2 x3 (l4 ||| 0) (x6 + 1) q2.2) else ((F_X11_blockIn x3 x6 q2.2).bind fun q3 => (H_X11_bitsOf_6 n1 x1 x2 x3 (l4 ||| (1 <<< (((10 * x1) + q3.1).toInt64 &&& 63))) (x6 + 1) q3.2)))) else (some (l4, q1.2))))
noncomputable def F_X11_bitsOf (x1 : Int32) (x2 : Int32) (x3 : Int32) (m : pj_M) : Option (Int64 × pj_M) := (H_X11_bitsOf_6 pj_z x1 x2 x3 0 0 m)
noncomputable def W_X11_bitsOf : List pj_V → pj_M → Option (Int64 × pj_M) := fun as m => match as with
  | [.inr (.inr (t0, w0, a0)), .inl x1, .inl x2, .inl x3] => (match Nat.beq t0 0 && (Nat.beq w0 11 && (Nat.beq a0 72)) with
    | true => F_X11_bitsOf x1 x2 x3 m
    | false => none)
  | _ => none
noncomputable def tb_X11_bitsOf_0 : List (Nat × pj_T (Int64 × pj_M)) := [(0, qs_cl 0 1), (1, qs_stl 4 3), (3, qs_ci 0 4), (4, qs_sti 6 6), (6, qs_ldi 6 8), (8, qs_lda 0 9), (9, qs_vI 11 1 W_X11_states 12), (12, qs_icge 53 15), (15, qs_ldl 4 17), (17, qs_ldi 2 18), (18, qs_ldi 6 20), (20, qs_sI 2 W_X11_has 23), (23, qs_ifeq 43 26), (26, qs_cl 1 27), (27, qs_ci 10 29), (29, qs_ldi 1 30), (30, qs_b2 (fun x y => x * y) 31), (31, qs_lda 0 32), (32, qs_ldi 3 33), (33, qs_ldi 6 35), (35, qs_vI 11 3 W_X11_blockIn 38), (38, qs_b2 (fun x y => x + y) 39), (39, qs_lsh (fun x y => x <<< (y.toInt64 &&& 63)) 40), (40, qs_go 44), (43, qs_cl 0 44), (44, qs_l2 (fun x y => x ||| y) 45), (45, qs_stl 4 47), (47, qs_inc 6 1 50), (50, qs_go 6), (53, qs_ldl 4 55), (55, qs_lret)]
noncomputable abbrev tb_X11_bitsOf : List (Nat × pj_T (Int64 × pj_M)) := tb_X11_bitsOf_0
theorem mv_X11_bitsOf : pj_mv y_X11_bitsOf c_X11_bitsOf 7 (some .long) 3 := ⟨⟨cw_1327, cw_1326, cw_61, cw_92⟩, by decide +kernel, by decide⟩
set_option maxRecDepth 20000 in
theorem sd_X11_bitsOf_0 {G : pj_E} {A : Nat → Prop} {P : pj_P} {S : pj_U} {Z : pj_Z} (C : pj_C (G, A, (c_X11_bitsOf, y_X11_bitsOf.cls, 7, (some .long), 2), P, S, Z)) : ∀ q ∈ tb_X11_bitsOf_0, pj_S (G, A, (c_X11_bitsOf, y_X11_bitsOf.cls, 7, (some .long), 2), P, S, Z) pj_eL q.1 q.2 :=
  List.forall_mem_cons.mpr ⟨qz_lconst C (show decode c_X11_bitsOf 0 = .ok (.lconst 0, 1) by decide +kernel) (by decide +kernel),
  List.forall_mem_cons.mpr ⟨qz_lstore C (show decode c_X11_bitsOf 1 = .ok (.lstore 4, 2) by decide +kernel),
  List.forall_mem_cons.mpr ⟨qz_iconst C (show decode c_X11_bitsOf 3 = .ok (.iconst 0, 1) by decide +kernel) (by decide +kernel),
  List.forall_mem_cons.mpr ⟨qz_istore C (show decode c_X11_bitsOf 4 = .ok (.istore 6, 2) by decide +kernel),
  List.forall_mem_cons.mpr ⟨qz_iload C (show decode c_X11_bitsOf 6 = .ok (.iload 6, 2) by decide +kernel),
  List.forall_mem_cons.mpr ⟨qz_aload_n C (show decode c_X11_bitsOf 8 = .ok (.aload_n 0, 1) by decide +kernel) rfl,
  List.forall_mem_cons.mpr ⟨qz_vI C (show decode c_X11_bitsOf 9 = .ok (.invokevirtual 177, 3) by decide +kernel) ct_X11_states mv_X11_states cw_1269 vcX11 (show 1 < 2 by omega),
  List.forall_mem_cons.mpr ⟨qz_icge C (show decode c_X11_bitsOf 12 = .ok (.if_icmp .ge 41, 3) by decide +kernel) (by decide),
  List.forall_mem_cons.mpr ⟨qz_lload C (show decode c_X11_bitsOf 15 = .ok (.lload 4, 2) by decide +kernel),
  List.forall_mem_cons.mpr ⟨qz_iload_n C (show decode c_X11_bitsOf 17 = .ok (.iload_n 2, 1) by decide +kernel) rfl,
  List.forall_mem_cons.mpr ⟨qz_iload C (show decode c_X11_bitsOf 18 = .ok (.iload 6, 2) by decide +kernel),
  List.forall_mem_cons.mpr ⟨qz_sI C (show decode c_X11_bitsOf 20 = .ok (.invokestatic 187, 3) by decide +kernel) ct_X11_has mv_X11_has (Or.inl cw_1281) (show 1 < 2 by omega),
  List.forall_mem_cons.mpr ⟨qz_ifeq C (show decode c_X11_bitsOf 23 = .ok (.ifCond .eq 20, 3) by decide +kernel) (by decide),
  List.forall_mem_cons.mpr ⟨qz_lconst C (show decode c_X11_bitsOf 26 = .ok (.lconst 1, 1) by decide +kernel) (by decide +kernel),
  List.forall_mem_cons.mpr ⟨qz_bipush C (show decode c_X11_bitsOf 27 = .ok (.bipush 10, 2) by decide +kernel) (by decide +kernel),
  List.forall_mem_cons.mpr ⟨qz_iload_n C (show decode c_X11_bitsOf 29 = .ok (.iload_n 1, 1) by decide +kernel) rfl,
  List.forall_mem_cons.mpr ⟨qz_imul C (show decode c_X11_bitsOf 30 = .ok (.imul, 1) by decide +kernel),
  List.forall_mem_cons.mpr ⟨qz_aload_n C (show decode c_X11_bitsOf 31 = .ok (.aload_n 0, 1) by decide +kernel) rfl,
  List.forall_mem_cons.mpr ⟨qz_iload_n C (show decode c_X11_bitsOf 32 = .ok (.iload_n 3, 1) by decide +kernel) rfl,
  List.forall_mem_cons.mpr ⟨qz_iload C (show decode c_X11_bitsOf 33 = .ok (.iload 6, 2) by decide +kernel),
  List.forall_mem_cons.mpr ⟨qz_vI C (show decode c_X11_bitsOf 35 = .ok (.invokevirtual 194, 3) by decide +kernel) ct_X11_blockIn mv_X11_blockIn cw_1312 vcX11 (show 1 < 2 by omega),
  List.forall_mem_cons.mpr ⟨qz_iadd C (show decode c_X11_bitsOf 38 = .ok (.iadd, 1) by decide +kernel),
  List.forall_mem_cons.mpr ⟨qz_lshl C (show decode c_X11_bitsOf 39 = .ok (.lshl, 1) by decide +kernel),
  List.forall_mem_cons.mpr ⟨qz_goto C (show decode c_X11_bitsOf 40 = .ok (.goto 4, 3) by decide +kernel) (by decide),
  List.forall_mem_cons.mpr ⟨qz_lconst C (show decode c_X11_bitsOf 43 = .ok (.lconst 0, 1) by decide +kernel) (by decide +kernel),
  List.forall_mem_cons.mpr ⟨qz_lor C (show decode c_X11_bitsOf 44 = .ok (.lor, 1) by decide +kernel),
  List.forall_mem_cons.mpr ⟨qz_lstore C (show decode c_X11_bitsOf 45 = .ok (.lstore 4, 2) by decide +kernel),
  List.forall_mem_cons.mpr ⟨qz_iinc C (show decode c_X11_bitsOf 47 = .ok (.iinc 6 1, 3) by decide +kernel) (by decide +kernel),
  List.forall_mem_cons.mpr ⟨qz_goto C (show decode c_X11_bitsOf 50 = .ok (.goto (-44), 3) by decide +kernel) (by decide),
  List.forall_mem_cons.mpr ⟨qz_lload C (show decode c_X11_bitsOf 53 = .ok (.lload 4, 2) by decide +kernel),
  List.forall_mem_cons.mpr ⟨qz_lret C (show decode c_X11_bitsOf 55 = .ok (.lreturn, 1) by decide +kernel) rfl,
  (fun q h => by cases h)⟩⟩⟩⟩⟩⟩⟩⟩⟩⟩⟩⟩⟩⟩⟩⟩⟩⟩⟩⟩⟩⟩⟩⟩⟩⟩⟩⟩⟩⟩⟩
theorem sd_X11_bitsOf {G : pj_E} {A : Nat → Prop} {P : pj_P} {S : pj_U} {Z : pj_Z} (C : pj_C (G, A, (c_X11_bitsOf, y_X11_bitsOf.cls, 7, (some .long), 2), P, S, Z)) : ∀ q ∈ tb_X11_bitsOf, pj_S (G, A, (c_X11_bitsOf, y_X11_bitsOf.cls, 7, (some .long), 2), P, S, Z) pj_eL q.1 q.2 := sd_X11_bitsOf_0 C
noncomputable def C_X11_bitsOf_6 (f : Int32 → Int32 → Int32 → Int64 → Int32 → pj_M → Option (Int64 × pj_M)) : pj_N (Int64 × pj_M) := fun L st m => match L, st with
  | [some (.inr (.inr (t0, w0, a0))), some (.inl x1), some (.inl x2), some (.inl x3), some (.inr (.inl l4)), _, some (.inl x6)], [] => (match Nat.beq t0 0 && (Nat.beq w0 11 && (Nat.beq a0 72)) with
    | true => f x1 x2 x3 l4 x6 m
    | false => none)
  | _, _ => none
set_option maxRecDepth 20000 in
theorem eq_X11_bitsOf_6 (n1 : Nat) (x1 : Int32) (x2 : Int32) (x3 : Int32) (l4 : Int64) (x6 : Int32) (d5 : Option pj_V) (m : pj_M) : pj_run tb_X11_bitsOf [(6, C_X11_bitsOf_6 (H_X11_bitsOf_6 n1))] 33 6 [some (.inr (.inr (0, 11, 72))), some (.inl x1), some (.inl x2), some (.inl x3), some (.inr (.inl l4)), d5, some (.inl x6)] [] m = H_X11_bitsOf_6 (n1 + 1) x1 x2 x3 l4 x6 m := by rfl
theorem sg_X11_bitsOf_6 {G : pj_E} {A : Nat → Prop} {P : pj_P} {S : pj_U} {Z : pj_Z} (C : pj_C (G, A, (c_X11_bitsOf, y_X11_bitsOf.cls, 7, (some .long), 2), P, S, Z)) : ∀ n1, pj_G (G, A, (c_X11_bitsOf, y_X11_bitsOf.cls, 7, (some .long), 2), P, S, Z) pj_eL 6 (C_X11_bitsOf_6 (H_X11_bitsOf_6 n1)) := by
  intro n1
  induction n1 with
  | zero =>
    intro L st m r h hR
    unfold C_X11_bitsOf_6 at h
    split at h
    · split at h
      · cases h
      · cases h
    · cases h
  | succ n1 ih1 =>
    intro L st m r h hR
    unfold C_X11_bitsOf_6 at h
    split at h
    · split at h
      · rename_i hbq
        simp only [Bool.and_eq_true, Nat.beq_eq] at hbq
        obtain ⟨rfl, rfl, rfl⟩ := hbq
        exact pj_run_ok (sd_X11_bitsOf C) (List.forall_mem_cons.mpr ⟨ih1, fun q h => by cases h⟩) 33 6 _ _ _ _ ((eq_X11_bitsOf_6 _ _ _ _ _ _ _ _).trans h) hR
      · cases h
    · cases h
set_option maxRecDepth 20000 in
theorem eq_X11_bitsOf (x1 : Int32) (x2 : Int32) (x3 : Int32) (m : pj_M) : pj_run tb_X11_bitsOf [(6, C_X11_bitsOf_6 (H_X11_bitsOf_6  pj_z))] 33 0 [some (.inr (.inr (0, 11, 72))), some (.inl x1), some (.inl x2), some (.inl x3), none, none, none] [] m = F_X11_bitsOf x1 x2 x3 m := by rfl
theorem ct_X11_bitsOf : pj_Ct pj_eL y_X11_bitsOf c_X11_bitsOf 7 (some .long) 2 W_X11_bitsOf := by
  refine pj_ct_of (by decide +kernel) ?_ ?_
  · intro as m r h
    unfold W_X11_bitsOf at h
    split at h
    · simp [pj_l0]
    · cases h
  · intro G A P S Z C as m r h hR
    unfold W_X11_bitsOf at h
    split at h
    · split at h
      · rename_i hbq
        simp only [Bool.and_eq_true, Nat.beq_eq] at hbq
        obtain ⟨rfl, rfl, rfl⟩ := hbq
        exact pj_run_ok (sd_X11_bitsOf C) (List.forall_mem_cons.mpr ⟨sg_X11_bitsOf_6 C  pj_z, fun q h => by cases h⟩) 33 0 _ _ _ _ ((eq_X11_bitsOf _ _ _ _).trans h) hR
      · cases h
    · cases h
/-! AlikeStepsModel.alikeIn(II)I -/
abbrev c_X11_alikeIn : ByteArray := prog_13_method_44_code
def y_X11_alikeIn : MethodName := ⟨RX11, "alikeIn", "(II)I"⟩
noncomputable def H_X11_alikeIn_5 : Nat → Int32 → Int32 → Int32 → Int32 → pj_M → Option (Int32 × pj_M)
  | 0, _, _, _, _, _ => none
  | n1 + 1, x1, x2, x3, x4, m => ((F_X11_states m).bind fun q1 => (if x4 < q1.1 then ((F_X11_blockIn x1 x4 q1.2).bind fun q2 => ((F_X11_blockIn x1 x2 q2.2).bind fun q3 => (if q2.1 = q3.1 then (H_X11_alikeIn_5 n1 x1 x2 (x3 ||| (1 <<< (x4 &&& 31))) (x4 + 1) q3.2) else (H_X11_alikeIn_5 n1 x1 x2 (x3 ||| 0) (x4 + 1) q3.2)))) else (some (x3, q1.2))))
noncomputable def F_X11_alikeIn (x1 : Int32) (x2 : Int32) (m : pj_M) : Option (Int32 × pj_M) := (H_X11_alikeIn_5 pj_z x1 x2 0 0 m)
noncomputable def W_X11_alikeIn : List pj_V → pj_M → Option (Int32 × pj_M) := fun as m => match as with
  | [.inr (.inr (t0, w0, a0)), .inl x1, .inl x2] => (match Nat.beq t0 0 && (Nat.beq w0 11 && (Nat.beq a0 72)) with
    | true => F_X11_alikeIn x1 x2 m
    | false => none)
  | _ => none
noncomputable def tb_X11_alikeIn_0 : List (Nat × pj_T (Int32 × pj_M)) := [(0, qs_ci 0 1), (1, qs_sti 3 2), (2, qs_ci 0 3), (3, qs_sti 4 5), (5, qs_ldi 4 7), (7, qs_lda 0 8), (8, qs_vI 11 1 W_X11_states 11), (11, qs_icge 47 14), (14, qs_ldi 3 15), (15, qs_lda 0 16), (16, qs_ldi 1 17), (17, qs_ldi 4 19), (19, qs_vI 11 3 W_X11_blockIn 22), (22, qs_lda 0 23), (23, qs_ldi 1 24), (24, qs_ldi 2 25), (25, qs_vI 11 3 W_X11_blockIn 28), (28, qs_icne 38 31), (31, qs_ci 1 32), (32, qs_ldi 4 34), (34, qs_b2 (fun x y => x <<< (y &&& 31)) 35), (35, qs_go 39), (38, qs_ci 0 39), (39, qs_b2 (fun x y => x ||| y) 40), (40, qs_sti 3 41), (41, qs_inc 4 1 44), (44, qs_go 5), (47, qs_ldi 3 48), (48, qs_iret)]
noncomputable abbrev tb_X11_alikeIn : List (Nat × pj_T (Int32 × pj_M)) := tb_X11_alikeIn_0
theorem mv_X11_alikeIn : pj_mv y_X11_alikeIn c_X11_alikeIn 5 (some .int) 2 := ⟨⟨cw_1323, cw_1322, cw_60, cw_92⟩, by decide +kernel, by decide⟩
set_option maxRecDepth 20000 in
theorem sd_X11_alikeIn_0 {G : pj_E} {A : Nat → Prop} {P : pj_P} {S : pj_U} {Z : pj_Z} (C : pj_C (G, A, (c_X11_alikeIn, y_X11_alikeIn.cls, 5, (some .int), 2), P, S, Z)) : ∀ q ∈ tb_X11_alikeIn_0, pj_S (G, A, (c_X11_alikeIn, y_X11_alikeIn.cls, 5, (some .int), 2), P, S, Z) pj_eI q.1 q.2 :=
  List.forall_mem_cons.mpr ⟨qz_iconst C (show decode c_X11_alikeIn 0 = .ok (.iconst 0, 1) by decide +kernel) (by decide +kernel),
  List.forall_mem_cons.mpr ⟨qz_istore_n C (show decode c_X11_alikeIn 1 = .ok (.istore_n 3, 1) by decide +kernel) rfl,
  List.forall_mem_cons.mpr ⟨qz_iconst C (show decode c_X11_alikeIn 2 = .ok (.iconst 0, 1) by decide +kernel) (by decide +kernel),
  List.forall_mem_cons.mpr ⟨qz_istore C (show decode c_X11_alikeIn 3 = .ok (.istore 4, 2) by decide +kernel),
  List.forall_mem_cons.mpr ⟨qz_iload C (show decode c_X11_alikeIn 5 = .ok (.iload 4, 2) by decide +kernel),
  List.forall_mem_cons.mpr ⟨qz_aload_n C (show decode c_X11_alikeIn 7 = .ok (.aload_n 0, 1) by decide +kernel) rfl,
  List.forall_mem_cons.mpr ⟨qz_vI C (show decode c_X11_alikeIn 8 = .ok (.invokevirtual 177, 3) by decide +kernel) ct_X11_states mv_X11_states cw_1269 vcX11 (show 1 < 2 by omega),
  List.forall_mem_cons.mpr ⟨qz_icge C (show decode c_X11_alikeIn 11 = .ok (.if_icmp .ge 36, 3) by decide +kernel) (by decide),
  List.forall_mem_cons.mpr ⟨qz_iload_n C (show decode c_X11_alikeIn 14 = .ok (.iload_n 3, 1) by decide +kernel) rfl,
  List.forall_mem_cons.mpr ⟨qz_aload_n C (show decode c_X11_alikeIn 15 = .ok (.aload_n 0, 1) by decide +kernel) rfl,
  List.forall_mem_cons.mpr ⟨qz_iload_n C (show decode c_X11_alikeIn 16 = .ok (.iload_n 1, 1) by decide +kernel) rfl,
  List.forall_mem_cons.mpr ⟨qz_iload C (show decode c_X11_alikeIn 17 = .ok (.iload 4, 2) by decide +kernel),
  List.forall_mem_cons.mpr ⟨qz_vI C (show decode c_X11_alikeIn 19 = .ok (.invokevirtual 194, 3) by decide +kernel) ct_X11_blockIn mv_X11_blockIn cw_1312 vcX11 (show 1 < 2 by omega),
  List.forall_mem_cons.mpr ⟨qz_aload_n C (show decode c_X11_alikeIn 22 = .ok (.aload_n 0, 1) by decide +kernel) rfl,
  List.forall_mem_cons.mpr ⟨qz_iload_n C (show decode c_X11_alikeIn 23 = .ok (.iload_n 1, 1) by decide +kernel) rfl,
  List.forall_mem_cons.mpr ⟨qz_iload_n C (show decode c_X11_alikeIn 24 = .ok (.iload_n 2, 1) by decide +kernel) rfl,
  List.forall_mem_cons.mpr ⟨qz_vI C (show decode c_X11_alikeIn 25 = .ok (.invokevirtual 194, 3) by decide +kernel) ct_X11_blockIn mv_X11_blockIn cw_1312 vcX11 (show 1 < 2 by omega),
  List.forall_mem_cons.mpr ⟨qz_icne C (show decode c_X11_alikeIn 28 = .ok (.if_icmp .ne 10, 3) by decide +kernel) (by decide),
  List.forall_mem_cons.mpr ⟨qz_iconst C (show decode c_X11_alikeIn 31 = .ok (.iconst 1, 1) by decide +kernel) (by decide +kernel),
  List.forall_mem_cons.mpr ⟨qz_iload C (show decode c_X11_alikeIn 32 = .ok (.iload 4, 2) by decide +kernel),
  List.forall_mem_cons.mpr ⟨qz_ishl C (show decode c_X11_alikeIn 34 = .ok (.ishl, 1) by decide +kernel),
  List.forall_mem_cons.mpr ⟨qz_goto C (show decode c_X11_alikeIn 35 = .ok (.goto 4, 3) by decide +kernel) (by decide),
  List.forall_mem_cons.mpr ⟨qz_iconst C (show decode c_X11_alikeIn 38 = .ok (.iconst 0, 1) by decide +kernel) (by decide +kernel),
  List.forall_mem_cons.mpr ⟨qz_ior C (show decode c_X11_alikeIn 39 = .ok (.ior, 1) by decide +kernel),
  List.forall_mem_cons.mpr ⟨qz_istore_n C (show decode c_X11_alikeIn 40 = .ok (.istore_n 3, 1) by decide +kernel) rfl,
  List.forall_mem_cons.mpr ⟨qz_iinc C (show decode c_X11_alikeIn 41 = .ok (.iinc 4 1, 3) by decide +kernel) (by decide +kernel),
  List.forall_mem_cons.mpr ⟨qz_goto C (show decode c_X11_alikeIn 44 = .ok (.goto (-39), 3) by decide +kernel) (by decide),
  List.forall_mem_cons.mpr ⟨qz_iload_n C (show decode c_X11_alikeIn 47 = .ok (.iload_n 3, 1) by decide +kernel) rfl,
  List.forall_mem_cons.mpr ⟨qz_iret C (show decode c_X11_alikeIn 48 = .ok (.ireturn, 1) by decide +kernel) rfl,
  (fun q h => by cases h)⟩⟩⟩⟩⟩⟩⟩⟩⟩⟩⟩⟩⟩⟩⟩⟩⟩⟩⟩⟩⟩⟩⟩⟩⟩⟩⟩⟩⟩
theorem sd_X11_alikeIn {G : pj_E} {A : Nat → Prop} {P : pj_P} {S : pj_U} {Z : pj_Z} (C : pj_C (G, A, (c_X11_alikeIn, y_X11_alikeIn.cls, 5, (some .int), 2), P, S, Z)) : ∀ q ∈ tb_X11_alikeIn, pj_S (G, A, (c_X11_alikeIn, y_X11_alikeIn.cls, 5, (some .int), 2), P, S, Z) pj_eI q.1 q.2 := sd_X11_alikeIn_0 C
noncomputable def C_X11_alikeIn_5 (f : Int32 → Int32 → Int32 → Int32 → pj_M → Option (Int32 × pj_M)) : pj_N (Int32 × pj_M) := fun L st m => match L, st with
  | [some (.inr (.inr (t0, w0, a0))), some (.inl x1), some (.inl x2), some (.inl x3), some (.inl x4)], [] => (match Nat.beq t0 0 && (Nat.beq w0 11 && (Nat.beq a0 72)) with
    | true => f x1 x2 x3 x4 m
    | false => none)
  | _, _ => none
set_option maxRecDepth 20000 in
theorem eq_X11_alikeIn_5 (n1 : Nat) (x1 : Int32) (x2 : Int32) (x3 : Int32) (x4 : Int32) (m : pj_M) : pj_run tb_X11_alikeIn [(5, C_X11_alikeIn_5 (H_X11_alikeIn_5 n1))] 31 5 [some (.inr (.inr (0, 11, 72))), some (.inl x1), some (.inl x2), some (.inl x3), some (.inl x4)] [] m = H_X11_alikeIn_5 (n1 + 1) x1 x2 x3 x4 m := by rfl
theorem sg_X11_alikeIn_5 {G : pj_E} {A : Nat → Prop} {P : pj_P} {S : pj_U} {Z : pj_Z} (C : pj_C (G, A, (c_X11_alikeIn, y_X11_alikeIn.cls, 5, (some .int), 2), P, S, Z)) : ∀ n1, pj_G (G, A, (c_X11_alikeIn, y_X11_alikeIn.cls, 5, (some .int), 2), P, S, Z) pj_eI 5 (C_X11_alikeIn_5 (H_X11_alikeIn_5 n1)) := by
  intro n1
  induction n1 with
  | zero =>
    intro L st m r h hR
    unfold C_X11_alikeIn_5 at h
    split at h
    · split at h
      · cases h
      · cases h
    · cases h
  | succ n1 ih1 =>
    intro L st m r h hR
    unfold C_X11_alikeIn_5 at h
    split at h
    · split at h
      · rename_i hbq
        simp only [Bool.and_eq_true, Nat.beq_eq] at hbq
        obtain ⟨rfl, rfl, rfl⟩ := hbq
        exact pj_run_ok (sd_X11_alikeIn C) (List.forall_mem_cons.mpr ⟨ih1, fun q h => by cases h⟩) 31 5 _ _ _ _ ((eq_X11_alikeIn_5 _ _ _ _ _ _).trans h) hR
      · cases h
    · cases h
set_option maxRecDepth 20000 in
theorem eq_X11_alikeIn (x1 : Int32) (x2 : Int32) (m : pj_M) : pj_run tb_X11_alikeIn [(5, C_X11_alikeIn_5 (H_X11_alikeIn_5  pj_z))] 31 0 [some (.inr (.inr (0, 11, 72))), some (.inl x1), some (.inl x2), none, none] [] m = F_X11_alikeIn x1 x2 m := by rfl
theorem ct_X11_alikeIn : pj_Ct pj_eI y_X11_alikeIn c_X11_alikeIn 5 (some .int) 2 W_X11_alikeIn := by
  refine pj_ct_of (by decide +kernel) ?_ ?_
  · intro as m r h
    unfold W_X11_alikeIn at h
    split at h
    · simp [pj_l0]
    · cases h
  · intro G A P S Z C as m r h hR
    unfold W_X11_alikeIn at h
    split at h
    · split at h
      · rename_i hbq
        simp only [Bool.and_eq_true, Nat.beq_eq] at hbq
        obtain ⟨rfl, rfl, rfl⟩ := hbq
        exact pj_run_ok (sd_X11_alikeIn C) (List.forall_mem_cons.mpr ⟨sg_X11_alikeIn_5 C  pj_z, fun q h => by cases h⟩) 31 0 _ _ _ _ ((eq_X11_alikeIn _ _ _).trans h) hR
      · cases h
    · cases h
/-! AlikeStepsModel.signsOf(III)J -/
abbrev c_X11_signsOf : ByteArray := prog_13_method_45_code
def y_X11_signsOf : MethodName := ⟨RX11, "signsOf", "(III)J"⟩
noncomputable def J_X11_signsOf_80 (x1 : Int32) (x2 : Int32) (x3 : Int32) (l4 : Int64) (m : pj_M) : Option (Int64 × pj_M) := (if x1 = 2 then ((F_X11_blockIn x3 x2 m).bind fun q1 => (some (l4 &&& ((1 <<< (q1.1.toInt64 &&& 63)) ^^^ (-1)), q1.2))) else (some (l4, m)))
noncomputable def H_X11_signsOf_32 : Nat → Int32 → Int32 → Int32 → Int64 → Int32 → Int32 → pj_M → Option (Int64 × pj_M)
  | 0, _, _, _, _, _, _, _ => none
  | n1 + 1, x1, x2, x3, l4, x6, x7, m => (if x7 < 4 then (if x1 = 2 then ((F_X11_to x6 x7 m).bind fun q3 => ((F_X11_bitsOf x7 q3.1 x3 q3.2).bind fun q4 => (H_X11_signsOf_32 n1 x1 x2 x3 (l4 ||| q4.1) x6 (x7 + 1) q4.2))) else ((F_X11_moving x1 x2 x7 m).bind fun q1 => ((F_X11_bitsOf x7 q1.1 x3 q1.2).bind fun q2 => (H_X11_signsOf_32 n1 x1 x2 x3 (l4 ||| q2.1) x6 (x7 + 1) q2.2)))) else (J_X11_signsOf_80 x1 x2 x3 l4 m))
noncomputable def F_X11_signsOf (x1 : Int32) (x2 : Int32) (x3 : Int32) (m : pj_M) : Option (Int64 × pj_M) := (if x1 = 2 then ((F_X11_alikeIn x3 x2 m).bind fun q1 => ((F_X11_reaches (1 <<< (x2 &&& 31)) q1.1 q1.2).bind fun q2 => (H_X11_signsOf_32 pj_z x1 x2 x3 0 q2.1 0 q2.2))) else (H_X11_signsOf_32 pj_z x1 x2 x3 0 (1 <<< (x2 &&& 31)) 0 m))
noncomputable def W_X11_signsOf : List pj_V → pj_M → Option (Int64 × pj_M) := fun as m => match as with
  | [.inr (.inr (t0, w0, a0)), .inl x1, .inl x2, .inl x3] => (match Nat.beq t0 0 && (Nat.beq w0 11 && (Nat.beq a0 72)) with
    | true => F_X11_signsOf x1 x2 x3 m
    | false => none)
  | _ => none
noncomputable def tb_X11_signsOf_0 : List (Nat × pj_T (Int64 × pj_M)) := [(0, qs_cl 0 1), (1, qs_stl 4 3), (3, qs_ldi 1 4), (4, qs_ci 2 5), (5, qs_icne 24 8), (8, qs_lda 0 9), (9, qs_ci 1 10), (10, qs_ldi 2 11), (11, qs_b2 (fun x y => x <<< (y &&& 31)) 12), (12, qs_lda 0 13), (13, qs_ldi 3 14), (14, qs_ldi 2 15), (15, qs_vI 11 3 W_X11_alikeIn 18), (18, qs_vI 11 3 W_X11_reaches 21), (21, qs_go 27), (24, qs_ci 1 25), (25, qs_ldi 2 26), (26, qs_b2 (fun x y => x <<< (y &&& 31)) 27), (27, qs_sti 6 29), (29, qs_ci 0 30), (30, qs_sti 7 32), (32, qs_ldi 7 34), (34, qs_ci 4 35), (35, qs_icge 80 38), (38, qs_ldl 4 40), (40, qs_lda 0 41), (41, qs_ldi 7 43), (43, qs_ldi 1 44), (44, qs_ci 2 45), (45, qs_icne 59 48), (48, qs_lda 0 49), (49, qs_ldi 6 51), (51, qs_ldi 7 53), (53, qs_vI 11 3 W_X11_to 56), (56, qs_go 67), (59, qs_lda 0 60), (60, qs_ldi 1 61), (61, qs_ldi 2 62), (62, qs_ldi 7 64), (64, qs_vI 11 4 W_X11_moving 67)]
noncomputable def tb_X11_signsOf_1 : List (Nat × pj_T (Int64 × pj_M)) := [(67, qs_ldi 3 68), (68, qs_vL 11 4 W_X11_bitsOf 71), (71, qs_l2 (fun x y => x ||| y) 72), (72, qs_stl 4 74), (74, qs_inc 7 1 77), (77, qs_go 32), (80, qs_ldi 1 81), (81, qs_ci 2 82), (82, qs_icne 103 85), (85, qs_ldl 4 87), (87, qs_cl 1 88), (88, qs_lda 0 89), (89, qs_ldi 3 90), (90, qs_ldi 2 91), (91, qs_vI 11 3 W_X11_blockIn 94), (94, qs_lsh (fun x y => x <<< (y.toInt64 &&& 63)) 95), (95, qs_cl (-1) 98), (98, qs_l2 (fun x y => x ^^^ y) 99), (99, qs_l2 (fun x y => x &&& y) 100), (100, qs_go 105), (103, qs_ldl 4 105), (105, qs_lret)]
noncomputable def tb_X11_signsOf : List (Nat × pj_T (Int64 × pj_M)) := tb_X11_signsOf_0 ++ (tb_X11_signsOf_1)
theorem mv_X11_signsOf : pj_mv y_X11_signsOf c_X11_signsOf 8 (some .long) 3 := ⟨⟨cw_1319, cw_1318, cw_59, cw_92⟩, by decide +kernel, by decide⟩
set_option maxRecDepth 20000 in
theorem sd_X11_signsOf_0 {G : pj_E} {A : Nat → Prop} {P : pj_P} {S : pj_U} {Z : pj_Z} (C : pj_C (G, A, (c_X11_signsOf, y_X11_signsOf.cls, 8, (some .long), 4), P, S, Z)) : ∀ q ∈ tb_X11_signsOf_0, pj_S (G, A, (c_X11_signsOf, y_X11_signsOf.cls, 8, (some .long), 4), P, S, Z) pj_eL q.1 q.2 :=
  List.forall_mem_cons.mpr ⟨qz_lconst C (show decode c_X11_signsOf 0 = .ok (.lconst 0, 1) by decide +kernel) (by decide +kernel),
  List.forall_mem_cons.mpr ⟨qz_lstore C (show decode c_X11_signsOf 1 = .ok (.lstore 4, 2) by decide +kernel),
  List.forall_mem_cons.mpr ⟨qz_iload_n C (show decode c_X11_signsOf 3 = .ok (.iload_n 1, 1) by decide +kernel) rfl,
  List.forall_mem_cons.mpr ⟨qz_iconst C (show decode c_X11_signsOf 4 = .ok (.iconst 2, 1) by decide +kernel) (by decide +kernel),
  List.forall_mem_cons.mpr ⟨qz_icne C (show decode c_X11_signsOf 5 = .ok (.if_icmp .ne 19, 3) by decide +kernel) (by decide),
  List.forall_mem_cons.mpr ⟨qz_aload_n C (show decode c_X11_signsOf 8 = .ok (.aload_n 0, 1) by decide +kernel) rfl,
  List.forall_mem_cons.mpr ⟨qz_iconst C (show decode c_X11_signsOf 9 = .ok (.iconst 1, 1) by decide +kernel) (by decide +kernel),
  List.forall_mem_cons.mpr ⟨qz_iload_n C (show decode c_X11_signsOf 10 = .ok (.iload_n 2, 1) by decide +kernel) rfl,
  List.forall_mem_cons.mpr ⟨qz_ishl C (show decode c_X11_signsOf 11 = .ok (.ishl, 1) by decide +kernel),
  List.forall_mem_cons.mpr ⟨qz_aload_n C (show decode c_X11_signsOf 12 = .ok (.aload_n 0, 1) by decide +kernel) rfl,
  List.forall_mem_cons.mpr ⟨qz_iload_n C (show decode c_X11_signsOf 13 = .ok (.iload_n 3, 1) by decide +kernel) rfl,
  List.forall_mem_cons.mpr ⟨qz_iload_n C (show decode c_X11_signsOf 14 = .ok (.iload_n 2, 1) by decide +kernel) rfl,
  List.forall_mem_cons.mpr ⟨qz_vI C (show decode c_X11_signsOf 15 = .ok (.invokevirtual 197, 3) by decide +kernel) ct_X11_alikeIn mv_X11_alikeIn cw_1320 vcX11 (show 2 < 4 by omega),
  List.forall_mem_cons.mpr ⟨qz_vI C (show decode c_X11_signsOf 18 = .ok (.invokevirtual 181, 3) by decide +kernel) ct_X11_reaches mv_X11_reaches cw_1273 vcX11 (show 3 < 4 by omega),
  List.forall_mem_cons.mpr ⟨qz_goto C (show decode c_X11_signsOf 21 = .ok (.goto 6, 3) by decide +kernel) (by decide),
  List.forall_mem_cons.mpr ⟨qz_iconst C (show decode c_X11_signsOf 24 = .ok (.iconst 1, 1) by decide +kernel) (by decide +kernel),
  List.forall_mem_cons.mpr ⟨qz_iload_n C (show decode c_X11_signsOf 25 = .ok (.iload_n 2, 1) by decide +kernel) rfl,
  List.forall_mem_cons.mpr ⟨qz_ishl C (show decode c_X11_signsOf 26 = .ok (.ishl, 1) by decide +kernel),
  List.forall_mem_cons.mpr ⟨qz_istore C (show decode c_X11_signsOf 27 = .ok (.istore 6, 2) by decide +kernel),
  List.forall_mem_cons.mpr ⟨qz_iconst C (show decode c_X11_signsOf 29 = .ok (.iconst 0, 1) by decide +kernel) (by decide +kernel),
  List.forall_mem_cons.mpr ⟨qz_istore C (show decode c_X11_signsOf 30 = .ok (.istore 7, 2) by decide +kernel),
  List.forall_mem_cons.mpr ⟨qz_iload C (show decode c_X11_signsOf 32 = .ok (.iload 7, 2) by decide +kernel),
  List.forall_mem_cons.mpr ⟨qz_iconst C (show decode c_X11_signsOf 34 = .ok (.iconst 4, 1) by decide +kernel) (by decide +kernel),
  List.forall_mem_cons.mpr ⟨qz_icge C (show decode c_X11_signsOf 35 = .ok (.if_icmp .ge 45, 3) by decide +kernel) (by decide),
  List.forall_mem_cons.mpr ⟨qz_lload C (show decode c_X11_signsOf 38 = .ok (.lload 4, 2) by decide +kernel),
  List.forall_mem_cons.mpr ⟨qz_aload_n C (show decode c_X11_signsOf 40 = .ok (.aload_n 0, 1) by decide +kernel) rfl,
  List.forall_mem_cons.mpr ⟨qz_iload C (show decode c_X11_signsOf 41 = .ok (.iload 7, 2) by decide +kernel),
  List.forall_mem_cons.mpr ⟨qz_iload_n C (show decode c_X11_signsOf 43 = .ok (.iload_n 1, 1) by decide +kernel) rfl,
  List.forall_mem_cons.mpr ⟨qz_iconst C (show decode c_X11_signsOf 44 = .ok (.iconst 2, 1) by decide +kernel) (by decide +kernel),
  List.forall_mem_cons.mpr ⟨qz_icne C (show decode c_X11_signsOf 45 = .ok (.if_icmp .ne 14, 3) by decide +kernel) (by decide),
  List.forall_mem_cons.mpr ⟨qz_aload_n C (show decode c_X11_signsOf 48 = .ok (.aload_n 0, 1) by decide +kernel) rfl,
  List.forall_mem_cons.mpr ⟨qz_iload C (show decode c_X11_signsOf 49 = .ok (.iload 6, 2) by decide +kernel),
  List.forall_mem_cons.mpr ⟨qz_iload C (show decode c_X11_signsOf 51 = .ok (.iload 7, 2) by decide +kernel),
  List.forall_mem_cons.mpr ⟨qz_vI C (show decode c_X11_signsOf 53 = .ok (.invokevirtual 184, 3) by decide +kernel) ct_X11_to mv_X11_to cw_1277 vcX11 (show 2 < 4 by omega),
  List.forall_mem_cons.mpr ⟨qz_goto C (show decode c_X11_signsOf 56 = .ok (.goto 11, 3) by decide +kernel) (by decide),
  List.forall_mem_cons.mpr ⟨qz_aload_n C (show decode c_X11_signsOf 59 = .ok (.aload_n 0, 1) by decide +kernel) rfl,
  List.forall_mem_cons.mpr ⟨qz_iload_n C (show decode c_X11_signsOf 60 = .ok (.iload_n 1, 1) by decide +kernel) rfl,
  List.forall_mem_cons.mpr ⟨qz_iload_n C (show decode c_X11_signsOf 61 = .ok (.iload_n 2, 1) by decide +kernel) rfl,
  List.forall_mem_cons.mpr ⟨qz_iload C (show decode c_X11_signsOf 62 = .ok (.iload 7, 2) by decide +kernel),
  List.forall_mem_cons.mpr ⟨qz_vI C (show decode c_X11_signsOf 64 = .ok (.invokevirtual 200, 3) by decide +kernel) ct_X11_moving mv_X11_moving cw_1284 vcX11 (show 3 < 4 by omega),
  (fun q h => by cases h)⟩⟩⟩⟩⟩⟩⟩⟩⟩⟩⟩⟩⟩⟩⟩⟩⟩⟩⟩⟩⟩⟩⟩⟩⟩⟩⟩⟩⟩⟩⟩⟩⟩⟩⟩⟩⟩⟩⟩⟩
set_option maxRecDepth 20000 in
theorem sd_X11_signsOf_1 {G : pj_E} {A : Nat → Prop} {P : pj_P} {S : pj_U} {Z : pj_Z} (C : pj_C (G, A, (c_X11_signsOf, y_X11_signsOf.cls, 8, (some .long), 4), P, S, Z)) : ∀ q ∈ tb_X11_signsOf_1, pj_S (G, A, (c_X11_signsOf, y_X11_signsOf.cls, 8, (some .long), 4), P, S, Z) pj_eL q.1 q.2 :=
  List.forall_mem_cons.mpr ⟨qz_iload_n C (show decode c_X11_signsOf 67 = .ok (.iload_n 3, 1) by decide +kernel) rfl,
  List.forall_mem_cons.mpr ⟨qz_vL C (show decode c_X11_signsOf 68 = .ok (.invokevirtual 204, 3) by decide +kernel) ct_X11_bitsOf mv_X11_bitsOf cw_1324 vcX11 (show 2 < 4 by omega),
  List.forall_mem_cons.mpr ⟨qz_lor C (show decode c_X11_signsOf 71 = .ok (.lor, 1) by decide +kernel),
  List.forall_mem_cons.mpr ⟨qz_lstore C (show decode c_X11_signsOf 72 = .ok (.lstore 4, 2) by decide +kernel),
  List.forall_mem_cons.mpr ⟨qz_iinc C (show decode c_X11_signsOf 74 = .ok (.iinc 7 1, 3) by decide +kernel) (by decide +kernel),
  List.forall_mem_cons.mpr ⟨qz_goto C (show decode c_X11_signsOf 77 = .ok (.goto (-45), 3) by decide +kernel) (by decide),
  List.forall_mem_cons.mpr ⟨qz_iload_n C (show decode c_X11_signsOf 80 = .ok (.iload_n 1, 1) by decide +kernel) rfl,
  List.forall_mem_cons.mpr ⟨qz_iconst C (show decode c_X11_signsOf 81 = .ok (.iconst 2, 1) by decide +kernel) (by decide +kernel),
  List.forall_mem_cons.mpr ⟨qz_icne C (show decode c_X11_signsOf 82 = .ok (.if_icmp .ne 21, 3) by decide +kernel) (by decide),
  List.forall_mem_cons.mpr ⟨qz_lload C (show decode c_X11_signsOf 85 = .ok (.lload 4, 2) by decide +kernel),
  List.forall_mem_cons.mpr ⟨qz_lconst C (show decode c_X11_signsOf 87 = .ok (.lconst 1, 1) by decide +kernel) (by decide +kernel),
  List.forall_mem_cons.mpr ⟨qz_aload_n C (show decode c_X11_signsOf 88 = .ok (.aload_n 0, 1) by decide +kernel) rfl,
  List.forall_mem_cons.mpr ⟨qz_iload_n C (show decode c_X11_signsOf 89 = .ok (.iload_n 3, 1) by decide +kernel) rfl,
  List.forall_mem_cons.mpr ⟨qz_iload_n C (show decode c_X11_signsOf 90 = .ok (.iload_n 2, 1) by decide +kernel) rfl,
  List.forall_mem_cons.mpr ⟨qz_vI C (show decode c_X11_signsOf 91 = .ok (.invokevirtual 194, 3) by decide +kernel) ct_X11_blockIn mv_X11_blockIn cw_1312 vcX11 (show 1 < 4 by omega),
  List.forall_mem_cons.mpr ⟨qz_lshl C (show decode c_X11_signsOf 94 = .ok (.lshl, 1) by decide +kernel),
  List.forall_mem_cons.mpr ⟨qz_ldc2 C (show decode c_X11_signsOf 95 = .ok (.ldc2_w 208, 3) by decide +kernel) cw_1328,
  List.forall_mem_cons.mpr ⟨qz_lxor C (show decode c_X11_signsOf 98 = .ok (.lxor, 1) by decide +kernel),
  List.forall_mem_cons.mpr ⟨qz_land C (show decode c_X11_signsOf 99 = .ok (.land, 1) by decide +kernel),
  List.forall_mem_cons.mpr ⟨qz_goto C (show decode c_X11_signsOf 100 = .ok (.goto 5, 3) by decide +kernel) (by decide),
  List.forall_mem_cons.mpr ⟨qz_lload C (show decode c_X11_signsOf 103 = .ok (.lload 4, 2) by decide +kernel),
  List.forall_mem_cons.mpr ⟨qz_lret C (show decode c_X11_signsOf 105 = .ok (.lreturn, 1) by decide +kernel) rfl,
  (fun q h => by cases h)⟩⟩⟩⟩⟩⟩⟩⟩⟩⟩⟩⟩⟩⟩⟩⟩⟩⟩⟩⟩⟩⟩
theorem sd_X11_signsOf {G : pj_E} {A : Nat → Prop} {P : pj_P} {S : pj_U} {Z : pj_Z} (C : pj_C (G, A, (c_X11_signsOf, y_X11_signsOf.cls, 8, (some .long), 4), P, S, Z)) : ∀ q ∈ tb_X11_signsOf, pj_S (G, A, (c_X11_signsOf, y_X11_signsOf.cls, 8, (some .long), 4), P, S, Z) pj_eL q.1 q.2 := List.forall_mem_append.mpr ⟨sd_X11_signsOf_0 C, sd_X11_signsOf_1 C⟩
noncomputable def C_X11_signsOf_80 (f : Int32 → Int32 → Int32 → Int64 → pj_M → Option (Int64 × pj_M)) : pj_N (Int64 × pj_M) := fun L st m => match L, st with
  | [some (.inr (.inr (t0, w0, a0))), some (.inl x1), some (.inl x2), some (.inl x3), some (.inr (.inl l4)), _, _, _], [] => (match Nat.beq t0 0 && (Nat.beq w0 11 && (Nat.beq a0 72)) with
    | true => f x1 x2 x3 l4 m
    | false => none)
  | _, _ => none
noncomputable def C_X11_signsOf_32 (f : Int32 → Int32 → Int32 → Int64 → Int32 → Int32 → pj_M → Option (Int64 × pj_M)) : pj_N (Int64 × pj_M) := fun L st m => match L, st with
  | [some (.inr (.inr (t0, w0, a0))), some (.inl x1), some (.inl x2), some (.inl x3), some (.inr (.inl l4)), _, some (.inl x6), some (.inl x7)], [] => (match Nat.beq t0 0 && (Nat.beq w0 11 && (Nat.beq a0 72)) with
    | true => f x1 x2 x3 l4 x6 x7 m
    | false => none)
  | _, _ => none
set_option maxRecDepth 20000 in
theorem eq_X11_signsOf_80 (x1 : Int32) (x2 : Int32) (x3 : Int32) (l4 : Int64) (d5 d6 d7 : Option pj_V) (m : pj_M) : pj_run tb_X11_signsOf [] 64 80 [some (.inr (.inr (0, 11, 72))), some (.inl x1), some (.inl x2), some (.inl x3), some (.inr (.inl l4)), d5, d6, d7] [] m = J_X11_signsOf_80 x1 x2 x3 l4 m := by rfl
theorem sg_X11_signsOf_80 {G : pj_E} {A : Nat → Prop} {P : pj_P} {S : pj_U} {Z : pj_Z} (C : pj_C (G, A, (c_X11_signsOf, y_X11_signsOf.cls, 8, (some .long), 4), P, S, Z)) : pj_G (G, A, (c_X11_signsOf, y_X11_signsOf.cls, 8, (some .long), 4), P, S, Z) pj_eL 80 (C_X11_signsOf_80 (J_X11_signsOf_80)) := by
  intro L st m r h hR
  unfold C_X11_signsOf_80 at h
  split at h
  · split at h
    · rename_i hbq
      simp only [Bool.and_eq_true, Nat.beq_eq] at hbq
      obtain ⟨rfl, rfl, rfl⟩ := hbq
      exact pj_run_ok (sd_X11_signsOf C) (fun q h => by cases h) 64 80 _ _ _ _ ((eq_X11_signsOf_80 _ _ _ _ _ _ _ _).trans h) hR
    · cases h
  · cases h
set_option maxRecDepth 20000 in
theorem eq_X11_signsOf_32 (n1 : Nat) (x1 : Int32) (x2 : Int32) (x3 : Int32) (l4 : Int64) (x6 : Int32) (x7 : Int32) (d5 : Option pj_V) (m : pj_M) : pj_run tb_X11_signsOf [(32, C_X11_signsOf_32 (H_X11_signsOf_32 n1)), (80, C_X11_signsOf_80 (J_X11_signsOf_80 ))] 64 32 [some (.inr (.inr (0, 11, 72))), some (.inl x1), some (.inl x2), some (.inl x3), some (.inr (.inl l4)), d5, some (.inl x6), some (.inl x7)] [] m = H_X11_signsOf_32 (n1 + 1) x1 x2 x3 l4 x6 x7 m := by rfl
theorem sg_X11_signsOf_32 {G : pj_E} {A : Nat → Prop} {P : pj_P} {S : pj_U} {Z : pj_Z} (C : pj_C (G, A, (c_X11_signsOf, y_X11_signsOf.cls, 8, (some .long), 4), P, S, Z)) : ∀ n1, pj_G (G, A, (c_X11_signsOf, y_X11_signsOf.cls, 8, (some .long), 4), P, S, Z) pj_eL 32 (C_X11_signsOf_32 (H_X11_signsOf_32 n1)) := by
  intro n1
  induction n1 with
  | zero =>
    intro L st m r h hR
    unfold C_X11_signsOf_32 at h
    split at h
    · split at h
      · cases h
      · cases h
    · cases h
  | succ n1 ih1 =>
    intro L st m r h hR
    unfold C_X11_signsOf_32 at h
    split at h
    · split at h
      · rename_i hbq
        simp only [Bool.and_eq_true, Nat.beq_eq] at hbq
        obtain ⟨rfl, rfl, rfl⟩ := hbq
        exact pj_run_ok (sd_X11_signsOf C) (List.forall_mem_cons.mpr ⟨ih1, List.forall_mem_cons.mpr ⟨sg_X11_signsOf_80 C , fun q h => by cases h⟩⟩) 64 32 _ _ _ _ ((eq_X11_signsOf_32 _ _ _ _ _ _ _ _ _).trans h) hR
      · cases h
    · cases h
set_option maxRecDepth 20000 in
theorem eq_X11_signsOf (x1 : Int32) (x2 : Int32) (x3 : Int32) (m : pj_M) : pj_run tb_X11_signsOf [(32, C_X11_signsOf_32 (H_X11_signsOf_32  pj_z))] 64 0 [some (.inr (.inr (0, 11, 72))), some (.inl x1), some (.inl x2), some (.inl x3), none, none, none, none] [] m = F_X11_signsOf x1 x2 x3 m := by rfl
theorem ct_X11_signsOf : pj_Ct pj_eL y_X11_signsOf c_X11_signsOf 8 (some .long) 4 W_X11_signsOf := by
  refine pj_ct_of (by decide +kernel) ?_ ?_
  · intro as m r h
    unfold W_X11_signsOf at h
    split at h
    · simp [pj_l0]
    · cases h
  · intro G A P S Z C as m r h hR
    unfold W_X11_signsOf at h
    split at h
    · split at h
      · rename_i hbq
        simp only [Bool.and_eq_true, Nat.beq_eq] at hbq
        obtain ⟨rfl, rfl, rfl⟩ := hbq
        exact pj_run_ok (sd_X11_signsOf C) (List.forall_mem_cons.mpr ⟨sg_X11_signsOf_32 C  pj_z, fun q h => by cases h⟩) 64 0 _ _ _ _ ((eq_X11_signsOf _ _ _ _).trans h) hR
      · cases h
    · cases h
/-! AlikeStepsModel.numbers(I)I -/
abbrev c_X11_numbers : ByteArray := prog_13_method_46_code
def y_X11_numbers : MethodName := ⟨RX11, "numbers", "(I)I"⟩
noncomputable def J_X11_numbers_128 (k4 : Int32 → Int32 → Int32 → pj_M → Option (Int32 × pj_M)) (x1 : Int32) (x2 : Int32) (x3 : Int32) (x4 : Int32) (s1 : Int32) (s2 : Int32) (m : pj_M) : Option (Int32 × pj_M) := (if s1 < 0 ∨ 220 ≤ s1.toNatClampNeg then none else (if x4 = (-1000000) then (k4 x1 (x2 + 1) (x3 + 1) (pj_wr m 86 s1.toNatClampNeg s2)) else (k4 x1 (x2 + 0) (x3 + 1) (pj_wr m 86 s1.toNatClampNeg s2))))
noncomputable def J_X11_numbers_105 (k4 : Int32 → Int32 → Int32 → pj_M → Option (Int32 × pj_M)) (x1 : Int32) (x2 : Int32) (x3 : Int32) (x4 : Int32) (m : pj_M) : Option (Int32 × pj_M) := (if x4 = (-1000000) then (J_X11_numbers_128 k4 x1 x2 x3 x4 ((10 * x1) + x3) x2 m) else (J_X11_numbers_128 k4 x1 x2 x3 x4 ((10 * x1) + x3) x4 m))
noncomputable def J_X11_numbers_71 (k4 : Int32 → Int32 → Int32 → pj_M → Option (Int32 × pj_M)) (k19 : Int32 → Int32 → Int32 → Int32 → Int32 → pj_M → Option (Int32 × pj_M)) (x1 : Int32) (x2 : Int32) (x3 : Int32) (x4 : Int32) (x5 : Int32) (s0 : Int32) (m : pj_M) : Option (Int32 × pj_M) := (if x4 = (-1000000) then (if s0 = 0 then (k19 x1 x2 x3 x4 (x5 + 1) m) else ((F_X11_blockIn x1 x5 m).bind fun q1 => (k19 x1 x2 x3 q1.1 (x5 + 1) q1.2))) else (k19 x1 x2 x3 x4 (x5 + 1) m))
noncomputable def H_X11_numbers_19 (k4 : Int32 → Int32 → Int32 → pj_M → Option (Int32 × pj_M)) : Nat → Int32 → Int32 → Int32 → Int32 → Int32 → pj_M → Option (Int32 × pj_M)
  | 0, _, _, _, _, _, _ => none
  | n1 + 1, x1, x2, x3, x4, x5, m => (if x5 < x3 then (if x5 < 0 ∨ 10 ≤ x5.toNatClampNeg then none else (if x3 < 0 ∨ 10 ≤ x3.toNatClampNeg then none else (if (lg_cmp (m.2 87 x5.toNatClampNeg) (m.2 87 x3.toNatClampNeg)) = 0 then (if x1 = 0 then (J_X11_numbers_71 k4 (H_X11_numbers_19 k4 n1) x1 x2 x3 x4 x5 1 m) else ((F_X11_blockIn (x1 - 1) x5 m).bind fun q1 => ((F_X11_blockIn (x1 - 1) x3 q1.2).bind fun q2 => (if q1.1 = q2.1 then (J_X11_numbers_71 k4 (H_X11_numbers_19 k4 n1) x1 x2 x3 x4 x5 1 q2.2) else (J_X11_numbers_71 k4 (H_X11_numbers_19 k4 n1) x1 x2 x3 x4 x5 0 q2.2))))) else (J_X11_numbers_71 k4 (H_X11_numbers_19 k4 n1) x1 x2 x3 x4 x5 0 m)))) else (J_X11_numbers_105 k4 x1 x2 x3 x4 m))
noncomputable def H_X11_numbers_4 : Nat → Int32 → Int32 → Int32 → pj_M → Option (Int32 × pj_M)
  | 0, _, _, _, _ => none
  | n1 + 1, x1, x2, x3, m => ((F_X11_states m).bind fun q1 => (if x3 < q1.1 then (H_X11_numbers_19 (H_X11_numbers_4 n1) pj_z x1 x2 x3 (-1000000) 0 q1.2) else (some (x2, q1.2))))
noncomputable def F_X11_numbers (x1 : Int32) (m : pj_M) : Option (Int32 × pj_M) := (H_X11_numbers_4 pj_z x1 0 0 m)
noncomputable def W_X11_numbers : List pj_V → pj_M → Option (Int32 × pj_M) := fun as m => match as with
  | [.inr (.inr (t0, w0, a0)), .inl x1] => (match Nat.beq t0 0 && (Nat.beq w0 11 && (Nat.beq a0 72)) with
    | true => F_X11_numbers x1 m
    | false => none)
  | _ => none
noncomputable def tb_X11_numbers_0 : List (Nat × pj_T (Int32 × pj_M)) := [(0, qs_ci 0 1), (1, qs_sti 2 2), (2, qs_ci 0 3), (3, qs_sti 3 4), (4, qs_ldi 3 5), (5, qs_lda 0 6), (6, qs_vI 11 1 W_X11_states 9), (9, qs_icge 150 12), (12, qs_ci (-1000000) 14), (14, qs_sti 4 16), (16, qs_ci 0 17), (17, qs_sti 5 19), (19, qs_ldi 5 21), (21, qs_ldi 3 22), (22, qs_icge 105 25), (25, qs_lda 0 26), (26, qs_gf 11 24 29), (29, qs_ldi 5 31), (31, qs_lald 32), (32, qs_lda 0 33), (33, qs_gf 11 24 36), (36, qs_ldi 3 37), (37, qs_lald 38), (38, qs_lcmp 39), (39, qs_ifne 70 42), (42, qs_ldi 1 43), (43, qs_ifeq 66 46), (46, qs_lda 0 47), (47, qs_ldi 1 48), (48, qs_ci 1 49), (49, qs_b2 (fun x y => x - y) 50), (50, qs_ldi 5 52), (52, qs_vI 11 3 W_X11_blockIn 55), (55, qs_lda 0 56), (56, qs_ldi 1 57), (57, qs_ci 1 58), (58, qs_b2 (fun x y => x - y) 59), (59, qs_ldi 3 60), (60, qs_vI 11 3 W_X11_blockIn 63), (63, qs_icne 70 66)]
noncomputable def tb_X11_numbers_1 : List (Nat × pj_T (Int32 × pj_M)) := [(66, qs_ci 1 67), (67, qs_go 71), (70, qs_ci 0 71), (71, qs_sti 6 73), (73, qs_ldi 4 75), (75, qs_ci (-1000000) 77), (77, qs_icne 95 80), (80, qs_ldi 6 82), (82, qs_ifeq 95 85), (85, qs_lda 0 86), (86, qs_ldi 1 87), (87, qs_ldi 5 89), (89, qs_vI 11 3 W_X11_blockIn 92), (92, qs_go 97), (95, qs_ldi 4 97), (97, qs_sti 4 99), (99, qs_inc 5 1 102), (102, qs_go 19), (105, qs_lda 0 106), (106, qs_gf 11 22 109), (109, qs_ci 10 111), (111, qs_ldi 1 112), (112, qs_b2 (fun x y => x * y) 113), (113, qs_ldi 3 114), (114, qs_b2 (fun x y => x + y) 115), (115, qs_ldi 4 117), (117, qs_ci (-1000000) 119), (119, qs_icne 126 122), (122, qs_ldi 2 123), (123, qs_go 128), (126, qs_ldi 4 128), (128, qs_iast 129), (129, qs_ldi 2 130), (130, qs_ldi 4 132), (132, qs_ci (-1000000) 134), (134, qs_icne 141 137), (137, qs_ci 1 138), (138, qs_go 142), (141, qs_ci 0 142), (142, qs_b2 (fun x y => x + y) 143)]
noncomputable def tb_X11_numbers_2 : List (Nat × pj_T (Int32 × pj_M)) := [(143, qs_sti 2 144), (144, qs_inc 3 1 147), (147, qs_go 4), (150, qs_ldi 2 151), (151, qs_iret)]
noncomputable def tb_X11_numbers : List (Nat × pj_T (Int32 × pj_M)) := tb_X11_numbers_0 ++ (tb_X11_numbers_1 ++ (tb_X11_numbers_2))
theorem mv_X11_numbers : pj_mv y_X11_numbers c_X11_numbers 7 (some .int) 1 := ⟨⟨cw_1311, cw_1310, cw_57, cw_92⟩, by decide +kernel, by decide⟩
set_option maxRecDepth 20000 in
theorem sd_X11_numbers_0 {G : pj_E} {A : Nat → Prop} {P : pj_P} {S : pj_U} {Z : pj_Z} (C : pj_C (G, A, (c_X11_numbers, y_X11_numbers.cls, 7, (some .int), 2), P, S, Z)) : ∀ q ∈ tb_X11_numbers_0, pj_S (G, A, (c_X11_numbers, y_X11_numbers.cls, 7, (some .int), 2), P, S, Z) pj_eI q.1 q.2 :=
  List.forall_mem_cons.mpr ⟨qz_iconst C (show decode c_X11_numbers 0 = .ok (.iconst 0, 1) by decide +kernel) (by decide +kernel),
  List.forall_mem_cons.mpr ⟨qz_istore_n C (show decode c_X11_numbers 1 = .ok (.istore_n 2, 1) by decide +kernel) rfl,
  List.forall_mem_cons.mpr ⟨qz_iconst C (show decode c_X11_numbers 2 = .ok (.iconst 0, 1) by decide +kernel) (by decide +kernel),
  List.forall_mem_cons.mpr ⟨qz_istore_n C (show decode c_X11_numbers 3 = .ok (.istore_n 3, 1) by decide +kernel) rfl,
  List.forall_mem_cons.mpr ⟨qz_iload_n C (show decode c_X11_numbers 4 = .ok (.iload_n 3, 1) by decide +kernel) rfl,
  List.forall_mem_cons.mpr ⟨qz_aload_n C (show decode c_X11_numbers 5 = .ok (.aload_n 0, 1) by decide +kernel) rfl,
  List.forall_mem_cons.mpr ⟨qz_vI C (show decode c_X11_numbers 6 = .ok (.invokevirtual 177, 3) by decide +kernel) ct_X11_states mv_X11_states cw_1269 vcX11 (show 1 < 2 by omega),
  List.forall_mem_cons.mpr ⟨qz_icge C (show decode c_X11_numbers 9 = .ok (.if_icmp .ge 141, 3) by decide +kernel) (by decide),
  List.forall_mem_cons.mpr ⟨qz_ldc C (show decode c_X11_numbers 12 = .ok (.ldc 78, 2) by decide +kernel) cw_1017,
  List.forall_mem_cons.mpr ⟨qz_istore C (show decode c_X11_numbers 14 = .ok (.istore 4, 2) by decide +kernel),
  List.forall_mem_cons.mpr ⟨qz_iconst C (show decode c_X11_numbers 16 = .ok (.iconst 0, 1) by decide +kernel) (by decide +kernel),
  List.forall_mem_cons.mpr ⟨qz_istore C (show decode c_X11_numbers 17 = .ok (.istore 5, 2) by decide +kernel),
  List.forall_mem_cons.mpr ⟨qz_iload C (show decode c_X11_numbers 19 = .ok (.iload 5, 2) by decide +kernel),
  List.forall_mem_cons.mpr ⟨qz_iload_n C (show decode c_X11_numbers 21 = .ok (.iload_n 3, 1) by decide +kernel) rfl,
  List.forall_mem_cons.mpr ⟨qz_icge C (show decode c_X11_numbers 22 = .ok (.if_icmp .ge 83, 3) by decide +kernel) (by decide),
  List.forall_mem_cons.mpr ⟨qz_aload_n C (show decode c_X11_numbers 25 = .ok (.aload_n 0, 1) by decide +kernel) rfl,
  List.forall_mem_cons.mpr ⟨qz_gf (k := 24) C (show decode c_X11_numbers 26 = .ok (.getfield 53, 3) by decide +kernel) vcX11 wiX11 (by decide) cw_1042,
  List.forall_mem_cons.mpr ⟨qz_iload C (show decode c_X11_numbers 29 = .ok (.iload 5, 2) by decide +kernel),
  List.forall_mem_cons.mpr ⟨qz_lald C (show decode c_X11_numbers 31 = .ok (.laload, 1) by decide +kernel),
  List.forall_mem_cons.mpr ⟨qz_aload_n C (show decode c_X11_numbers 32 = .ok (.aload_n 0, 1) by decide +kernel) rfl,
  List.forall_mem_cons.mpr ⟨qz_gf (k := 24) C (show decode c_X11_numbers 33 = .ok (.getfield 53, 3) by decide +kernel) vcX11 wiX11 (by decide) cw_1042,
  List.forall_mem_cons.mpr ⟨qz_iload_n C (show decode c_X11_numbers 36 = .ok (.iload_n 3, 1) by decide +kernel) rfl,
  List.forall_mem_cons.mpr ⟨qz_lald C (show decode c_X11_numbers 37 = .ok (.laload, 1) by decide +kernel),
  List.forall_mem_cons.mpr ⟨qz_lcmp C (show decode c_X11_numbers 38 = .ok (.lcmp, 1) by decide +kernel),
  List.forall_mem_cons.mpr ⟨qz_ifne C (show decode c_X11_numbers 39 = .ok (.ifCond .ne 31, 3) by decide +kernel) (by decide),
  List.forall_mem_cons.mpr ⟨qz_iload_n C (show decode c_X11_numbers 42 = .ok (.iload_n 1, 1) by decide +kernel) rfl,
  List.forall_mem_cons.mpr ⟨qz_ifeq C (show decode c_X11_numbers 43 = .ok (.ifCond .eq 23, 3) by decide +kernel) (by decide),
  List.forall_mem_cons.mpr ⟨qz_aload_n C (show decode c_X11_numbers 46 = .ok (.aload_n 0, 1) by decide +kernel) rfl,
  List.forall_mem_cons.mpr ⟨qz_iload_n C (show decode c_X11_numbers 47 = .ok (.iload_n 1, 1) by decide +kernel) rfl,
  List.forall_mem_cons.mpr ⟨qz_iconst C (show decode c_X11_numbers 48 = .ok (.iconst 1, 1) by decide +kernel) (by decide +kernel),
  List.forall_mem_cons.mpr ⟨qz_isub C (show decode c_X11_numbers 49 = .ok (.isub, 1) by decide +kernel),
  List.forall_mem_cons.mpr ⟨qz_iload C (show decode c_X11_numbers 50 = .ok (.iload 5, 2) by decide +kernel),
  List.forall_mem_cons.mpr ⟨qz_vI C (show decode c_X11_numbers 52 = .ok (.invokevirtual 194, 3) by decide +kernel) ct_X11_blockIn mv_X11_blockIn cw_1312 vcX11 (show 1 < 2 by omega),
  List.forall_mem_cons.mpr ⟨qz_aload_n C (show decode c_X11_numbers 55 = .ok (.aload_n 0, 1) by decide +kernel) rfl,
  List.forall_mem_cons.mpr ⟨qz_iload_n C (show decode c_X11_numbers 56 = .ok (.iload_n 1, 1) by decide +kernel) rfl,
  List.forall_mem_cons.mpr ⟨qz_iconst C (show decode c_X11_numbers 57 = .ok (.iconst 1, 1) by decide +kernel) (by decide +kernel),
  List.forall_mem_cons.mpr ⟨qz_isub C (show decode c_X11_numbers 58 = .ok (.isub, 1) by decide +kernel),
  List.forall_mem_cons.mpr ⟨qz_iload_n C (show decode c_X11_numbers 59 = .ok (.iload_n 3, 1) by decide +kernel) rfl,
  List.forall_mem_cons.mpr ⟨qz_vI C (show decode c_X11_numbers 60 = .ok (.invokevirtual 194, 3) by decide +kernel) ct_X11_blockIn mv_X11_blockIn cw_1312 vcX11 (show 1 < 2 by omega),
  List.forall_mem_cons.mpr ⟨qz_icne C (show decode c_X11_numbers 63 = .ok (.if_icmp .ne 7, 3) by decide +kernel) (by decide),
  (fun q h => by cases h)⟩⟩⟩⟩⟩⟩⟩⟩⟩⟩⟩⟩⟩⟩⟩⟩⟩⟩⟩⟩⟩⟩⟩⟩⟩⟩⟩⟩⟩⟩⟩⟩⟩⟩⟩⟩⟩⟩⟩⟩
set_option maxRecDepth 20000 in
theorem sd_X11_numbers_1 {G : pj_E} {A : Nat → Prop} {P : pj_P} {S : pj_U} {Z : pj_Z} (C : pj_C (G, A, (c_X11_numbers, y_X11_numbers.cls, 7, (some .int), 2), P, S, Z)) : ∀ q ∈ tb_X11_numbers_1, pj_S (G, A, (c_X11_numbers, y_X11_numbers.cls, 7, (some .int), 2), P, S, Z) pj_eI q.1 q.2 :=
  List.forall_mem_cons.mpr ⟨qz_iconst C (show decode c_X11_numbers 66 = .ok (.iconst 1, 1) by decide +kernel) (by decide +kernel),
  List.forall_mem_cons.mpr ⟨qz_goto C (show decode c_X11_numbers 67 = .ok (.goto 4, 3) by decide +kernel) (by decide),
  List.forall_mem_cons.mpr ⟨qz_iconst C (show decode c_X11_numbers 70 = .ok (.iconst 0, 1) by decide +kernel) (by decide +kernel),
  List.forall_mem_cons.mpr ⟨qz_istore C (show decode c_X11_numbers 71 = .ok (.istore 6, 2) by decide +kernel),
  List.forall_mem_cons.mpr ⟨qz_iload C (show decode c_X11_numbers 73 = .ok (.iload 4, 2) by decide +kernel),
  List.forall_mem_cons.mpr ⟨qz_ldc C (show decode c_X11_numbers 75 = .ok (.ldc 78, 2) by decide +kernel) cw_1017,
  List.forall_mem_cons.mpr ⟨qz_icne C (show decode c_X11_numbers 77 = .ok (.if_icmp .ne 18, 3) by decide +kernel) (by decide),
  List.forall_mem_cons.mpr ⟨qz_iload C (show decode c_X11_numbers 80 = .ok (.iload 6, 2) by decide +kernel),
  List.forall_mem_cons.mpr ⟨qz_ifeq C (show decode c_X11_numbers 82 = .ok (.ifCond .eq 13, 3) by decide +kernel) (by decide),
  List.forall_mem_cons.mpr ⟨qz_aload_n C (show decode c_X11_numbers 85 = .ok (.aload_n 0, 1) by decide +kernel) rfl,
  List.forall_mem_cons.mpr ⟨qz_iload_n C (show decode c_X11_numbers 86 = .ok (.iload_n 1, 1) by decide +kernel) rfl,
  List.forall_mem_cons.mpr ⟨qz_iload C (show decode c_X11_numbers 87 = .ok (.iload 5, 2) by decide +kernel),
  List.forall_mem_cons.mpr ⟨qz_vI C (show decode c_X11_numbers 89 = .ok (.invokevirtual 194, 3) by decide +kernel) ct_X11_blockIn mv_X11_blockIn cw_1312 vcX11 (show 1 < 2 by omega),
  List.forall_mem_cons.mpr ⟨qz_goto C (show decode c_X11_numbers 92 = .ok (.goto 5, 3) by decide +kernel) (by decide),
  List.forall_mem_cons.mpr ⟨qz_iload C (show decode c_X11_numbers 95 = .ok (.iload 4, 2) by decide +kernel),
  List.forall_mem_cons.mpr ⟨qz_istore C (show decode c_X11_numbers 97 = .ok (.istore 4, 2) by decide +kernel),
  List.forall_mem_cons.mpr ⟨qz_iinc C (show decode c_X11_numbers 99 = .ok (.iinc 5 1, 3) by decide +kernel) (by decide +kernel),
  List.forall_mem_cons.mpr ⟨qz_goto C (show decode c_X11_numbers 102 = .ok (.goto (-83), 3) by decide +kernel) (by decide),
  List.forall_mem_cons.mpr ⟨qz_aload_n C (show decode c_X11_numbers 105 = .ok (.aload_n 0, 1) by decide +kernel) rfl,
  List.forall_mem_cons.mpr ⟨qz_gf (k := 22) C (show decode c_X11_numbers 106 = .ok (.getfield 50, 3) by decide +kernel) vcX11 wiX11 (by decide) cw_1040,
  List.forall_mem_cons.mpr ⟨qz_bipush C (show decode c_X11_numbers 109 = .ok (.bipush 10, 2) by decide +kernel) (by decide +kernel),
  List.forall_mem_cons.mpr ⟨qz_iload_n C (show decode c_X11_numbers 111 = .ok (.iload_n 1, 1) by decide +kernel) rfl,
  List.forall_mem_cons.mpr ⟨qz_imul C (show decode c_X11_numbers 112 = .ok (.imul, 1) by decide +kernel),
  List.forall_mem_cons.mpr ⟨qz_iload_n C (show decode c_X11_numbers 113 = .ok (.iload_n 3, 1) by decide +kernel) rfl,
  List.forall_mem_cons.mpr ⟨qz_iadd C (show decode c_X11_numbers 114 = .ok (.iadd, 1) by decide +kernel),
  List.forall_mem_cons.mpr ⟨qz_iload C (show decode c_X11_numbers 115 = .ok (.iload 4, 2) by decide +kernel),
  List.forall_mem_cons.mpr ⟨qz_ldc C (show decode c_X11_numbers 117 = .ok (.ldc 78, 2) by decide +kernel) cw_1017,
  List.forall_mem_cons.mpr ⟨qz_icne C (show decode c_X11_numbers 119 = .ok (.if_icmp .ne 7, 3) by decide +kernel) (by decide),
  List.forall_mem_cons.mpr ⟨qz_iload_n C (show decode c_X11_numbers 122 = .ok (.iload_n 2, 1) by decide +kernel) rfl,
  List.forall_mem_cons.mpr ⟨qz_goto C (show decode c_X11_numbers 123 = .ok (.goto 5, 3) by decide +kernel) (by decide),
  List.forall_mem_cons.mpr ⟨qz_iload C (show decode c_X11_numbers 126 = .ok (.iload 4, 2) by decide +kernel),
  List.forall_mem_cons.mpr ⟨qz_iast C (show decode c_X11_numbers 128 = .ok (.iastore, 1) by decide +kernel),
  List.forall_mem_cons.mpr ⟨qz_iload_n C (show decode c_X11_numbers 129 = .ok (.iload_n 2, 1) by decide +kernel) rfl,
  List.forall_mem_cons.mpr ⟨qz_iload C (show decode c_X11_numbers 130 = .ok (.iload 4, 2) by decide +kernel),
  List.forall_mem_cons.mpr ⟨qz_ldc C (show decode c_X11_numbers 132 = .ok (.ldc 78, 2) by decide +kernel) cw_1017,
  List.forall_mem_cons.mpr ⟨qz_icne C (show decode c_X11_numbers 134 = .ok (.if_icmp .ne 7, 3) by decide +kernel) (by decide),
  List.forall_mem_cons.mpr ⟨qz_iconst C (show decode c_X11_numbers 137 = .ok (.iconst 1, 1) by decide +kernel) (by decide +kernel),
  List.forall_mem_cons.mpr ⟨qz_goto C (show decode c_X11_numbers 138 = .ok (.goto 4, 3) by decide +kernel) (by decide),
  List.forall_mem_cons.mpr ⟨qz_iconst C (show decode c_X11_numbers 141 = .ok (.iconst 0, 1) by decide +kernel) (by decide +kernel),
  List.forall_mem_cons.mpr ⟨qz_iadd C (show decode c_X11_numbers 142 = .ok (.iadd, 1) by decide +kernel),
  (fun q h => by cases h)⟩⟩⟩⟩⟩⟩⟩⟩⟩⟩⟩⟩⟩⟩⟩⟩⟩⟩⟩⟩⟩⟩⟩⟩⟩⟩⟩⟩⟩⟩⟩⟩⟩⟩⟩⟩⟩⟩⟩⟩
set_option maxRecDepth 20000 in
theorem sd_X11_numbers_2 {G : pj_E} {A : Nat → Prop} {P : pj_P} {S : pj_U} {Z : pj_Z} (C : pj_C (G, A, (c_X11_numbers, y_X11_numbers.cls, 7, (some .int), 2), P, S, Z)) : ∀ q ∈ tb_X11_numbers_2, pj_S (G, A, (c_X11_numbers, y_X11_numbers.cls, 7, (some .int), 2), P, S, Z) pj_eI q.1 q.2 :=
  List.forall_mem_cons.mpr ⟨qz_istore_n C (show decode c_X11_numbers 143 = .ok (.istore_n 2, 1) by decide +kernel) rfl,
  List.forall_mem_cons.mpr ⟨qz_iinc C (show decode c_X11_numbers 144 = .ok (.iinc 3 1, 3) by decide +kernel) (by decide +kernel),
  List.forall_mem_cons.mpr ⟨qz_goto C (show decode c_X11_numbers 147 = .ok (.goto (-143), 3) by decide +kernel) (by decide),
  List.forall_mem_cons.mpr ⟨qz_iload_n C (show decode c_X11_numbers 150 = .ok (.iload_n 2, 1) by decide +kernel) rfl,
  List.forall_mem_cons.mpr ⟨qz_iret C (show decode c_X11_numbers 151 = .ok (.ireturn, 1) by decide +kernel) rfl,
  (fun q h => by cases h)⟩⟩⟩⟩⟩
theorem sd_X11_numbers {G : pj_E} {A : Nat → Prop} {P : pj_P} {S : pj_U} {Z : pj_Z} (C : pj_C (G, A, (c_X11_numbers, y_X11_numbers.cls, 7, (some .int), 2), P, S, Z)) : ∀ q ∈ tb_X11_numbers, pj_S (G, A, (c_X11_numbers, y_X11_numbers.cls, 7, (some .int), 2), P, S, Z) pj_eI q.1 q.2 := List.forall_mem_append.mpr ⟨sd_X11_numbers_0 C, List.forall_mem_append.mpr ⟨sd_X11_numbers_1 C, sd_X11_numbers_2 C⟩⟩
noncomputable def C_X11_numbers_128 (f : Int32 → Int32 → Int32 → Int32 → Int32 → Int32 → pj_M → Option (Int32 × pj_M)) : pj_N (Int32 × pj_M) := fun L st m => match L, st with
  | [some (.inr (.inr (t0, w0, a0))), some (.inl x1), some (.inl x2), some (.inl x3), some (.inl x4), _, _], [.inl s2, .inl s1, .inr (.inr (ts0, ws0, sa0))] => (match Nat.beq t0 0 && (Nat.beq w0 11 && (Nat.beq a0 72 && (Nat.beq ts0 1 && (Nat.beq ws0 220 && (Nat.beq sa0 86))))) with
    | true => f x1 x2 x3 x4 s1 s2 m
    | false => none)
  | _, _ => none
noncomputable def C_X11_numbers_105 (f : Int32 → Int32 → Int32 → Int32 → pj_M → Option (Int32 × pj_M)) : pj_N (Int32 × pj_M) := fun L st m => match L, st with
  | [some (.inr (.inr (t0, w0, a0))), some (.inl x1), some (.inl x2), some (.inl x3), some (.inl x4), _, _], [] => (match Nat.beq t0 0 && (Nat.beq w0 11 && (Nat.beq a0 72)) with
    | true => f x1 x2 x3 x4 m
    | false => none)
  | _, _ => none
noncomputable def C_X11_numbers_71 (f : Int32 → Int32 → Int32 → Int32 → Int32 → Int32 → pj_M → Option (Int32 × pj_M)) : pj_N (Int32 × pj_M) := fun L st m => match L, st with
  | [some (.inr (.inr (t0, w0, a0))), some (.inl x1), some (.inl x2), some (.inl x3), some (.inl x4), some (.inl x5), _], [.inl s0] => (match Nat.beq t0 0 && (Nat.beq w0 11 && (Nat.beq a0 72)) with
    | true => f x1 x2 x3 x4 x5 s0 m
    | false => none)
  | _, _ => none
noncomputable def C_X11_numbers_19 (f : Int32 → Int32 → Int32 → Int32 → Int32 → pj_M → Option (Int32 × pj_M)) : pj_N (Int32 × pj_M) := fun L st m => match L, st with
  | [some (.inr (.inr (t0, w0, a0))), some (.inl x1), some (.inl x2), some (.inl x3), some (.inl x4), some (.inl x5), _], [] => (match Nat.beq t0 0 && (Nat.beq w0 11 && (Nat.beq a0 72)) with
    | true => f x1 x2 x3 x4 x5 m
    | false => none)
  | _, _ => none
noncomputable def C_X11_numbers_4 (f : Int32 → Int32 → Int32 → pj_M → Option (Int32 × pj_M)) : pj_N (Int32 × pj_M) := fun L st m => match L, st with
  | [some (.inr (.inr (t0, w0, a0))), some (.inl x1), some (.inl x2), some (.inl x3), _, _, _], [] => (match Nat.beq t0 0 && (Nat.beq w0 11 && (Nat.beq a0 72)) with
    | true => f x1 x2 x3 m
    | false => none)
  | _, _ => none
set_option maxRecDepth 20000 in
theorem eq_X11_numbers_128 (k4 : Int32 → Int32 → Int32 → pj_M → Option (Int32 × pj_M)) (x1 : Int32) (x2 : Int32) (x3 : Int32) (x4 : Int32) (s1 : Int32) (s2 : Int32) (d5 d6 : Option pj_V) (m : pj_M) : pj_run tb_X11_numbers [(4, C_X11_numbers_4 k4)] 87 128 [some (.inr (.inr (0, 11, 72))), some (.inl x1), some (.inl x2), some (.inl x3), some (.inl x4), d5, d6] [.inl s2, .inl s1, .inr (.inr (1, 220, 86))] m = J_X11_numbers_128 k4 x1 x2 x3 x4 s1 s2 m := by rfl
theorem sg_X11_numbers_128 {G : pj_E} {A : Nat → Prop} {P : pj_P} {S : pj_U} {Z : pj_Z} (C : pj_C (G, A, (c_X11_numbers, y_X11_numbers.cls, 7, (some .int), 2), P, S, Z)) {k4 : Int32 → Int32 → Int32 → pj_M → Option (Int32 × pj_M)} (hk4 : pj_G (G, A, (c_X11_numbers, y_X11_numbers.cls, 7, (some .int), 2), P, S, Z) pj_eI 4 (C_X11_numbers_4 k4)) : pj_G (G, A, (c_X11_numbers, y_X11_numbers.cls, 7, (some .int), 2), P, S, Z) pj_eI 128 (C_X11_numbers_128 (J_X11_numbers_128 k4)) := by
  intro L st m r h hR
  unfold C_X11_numbers_128 at h
  split at h
  · split at h
    · rename_i hbq
      simp only [Bool.and_eq_true, Nat.beq_eq] at hbq
      obtain ⟨rfl, rfl, rfl, rfl, rfl, rfl⟩ := hbq
      exact pj_run_ok (sd_X11_numbers C) (List.forall_mem_cons.mpr ⟨hk4, fun q h => by cases h⟩) 87 128 _ _ _ _ ((eq_X11_numbers_128 _ _ _ _ _ _ _ _ _ _).trans h) hR
    · cases h
  · cases h
set_option maxRecDepth 20000 in
theorem eq_X11_numbers_105 (k4 : Int32 → Int32 → Int32 → pj_M → Option (Int32 × pj_M)) (x1 : Int32) (x2 : Int32) (x3 : Int32) (x4 : Int32) (d5 d6 : Option pj_V) (m : pj_M) : pj_run tb_X11_numbers [(128, C_X11_numbers_128 (J_X11_numbers_128 k4))] 87 105 [some (.inr (.inr (0, 11, 72))), some (.inl x1), some (.inl x2), some (.inl x3), some (.inl x4), d5, d6] [] m = J_X11_numbers_105 k4 x1 x2 x3 x4 m := by rfl
theorem sg_X11_numbers_105 {G : pj_E} {A : Nat → Prop} {P : pj_P} {S : pj_U} {Z : pj_Z} (C : pj_C (G, A, (c_X11_numbers, y_X11_numbers.cls, 7, (some .int), 2), P, S, Z)) {k4 : Int32 → Int32 → Int32 → pj_M → Option (Int32 × pj_M)} (hk4 : pj_G (G, A, (c_X11_numbers, y_X11_numbers.cls, 7, (some .int), 2), P, S, Z) pj_eI 4 (C_X11_numbers_4 k4)) : pj_G (G, A, (c_X11_numbers, y_X11_numbers.cls, 7, (some .int), 2), P, S, Z) pj_eI 105 (C_X11_numbers_105 (J_X11_numbers_105 k4)) := by
  intro L st m r h hR
  unfold C_X11_numbers_105 at h
  split at h
  · split at h
    · rename_i hbq
      simp only [Bool.and_eq_true, Nat.beq_eq] at hbq
      obtain ⟨rfl, rfl, rfl⟩ := hbq
      exact pj_run_ok (sd_X11_numbers C) (List.forall_mem_cons.mpr ⟨sg_X11_numbers_128 C hk4, fun q h => by cases h⟩) 87 105 _ _ _ _ ((eq_X11_numbers_105 _ _ _ _ _ _ _ _).trans h) hR
    · cases h
  · cases h
set_option maxRecDepth 20000 in
theorem eq_X11_numbers_71 (k4 : Int32 → Int32 → Int32 → pj_M → Option (Int32 × pj_M)) (k19 : Int32 → Int32 → Int32 → Int32 → Int32 → pj_M → Option (Int32 × pj_M)) (x1 : Int32) (x2 : Int32) (x3 : Int32) (x4 : Int32) (x5 : Int32) (s0 : Int32) (d6 : Option pj_V) (m : pj_M) : pj_run tb_X11_numbers [(19, C_X11_numbers_19 k19)] 87 71 [some (.inr (.inr (0, 11, 72))), some (.inl x1), some (.inl x2), some (.inl x3), some (.inl x4), some (.inl x5), d6] [.inl s0] m = J_X11_numbers_71 k4 k19 x1 x2 x3 x4 x5 s0 m := by rfl
theorem sg_X11_numbers_71 {G : pj_E} {A : Nat → Prop} {P : pj_P} {S : pj_U} {Z : pj_Z} (C : pj_C (G, A, (c_X11_numbers, y_X11_numbers.cls, 7, (some .int), 2), P, S, Z)) {k4 : Int32 → Int32 → Int32 → pj_M → Option (Int32 × pj_M)} (hk4 : pj_G (G, A, (c_X11_numbers, y_X11_numbers.cls, 7, (some .int), 2), P, S, Z) pj_eI 4 (C_X11_numbers_4 k4)) {k19 : Int32 → Int32 → Int32 → Int32 → Int32 → pj_M → Option (Int32 × pj_M)} (hk19 : pj_G (G, A, (c_X11_numbers, y_X11_numbers.cls, 7, (some .int), 2), P, S, Z) pj_eI 19 (C_X11_numbers_19 k19)) : pj_G (G, A, (c_X11_numbers, y_X11_numbers.cls, 7, (some .int), 2), P, S, Z) pj_eI 71 (C_X11_numbers_71 (J_X11_numbers_71 k4 k19)) := by
  intro L st m r h hR
  unfold C_X11_numbers_71 at h
  split at h
  · split at h
    · rename_i hbq
      simp only [Bool.and_eq_true, Nat.beq_eq] at hbq
      obtain ⟨rfl, rfl, rfl⟩ := hbq
      exact pj_run_ok (sd_X11_numbers C) (List.forall_mem_cons.mpr ⟨hk19, fun q h => by cases h⟩) 87 71 _ _ _ _ ((eq_X11_numbers_71 _ _ _ _ _ _ _ _ _ _).trans h) hR
    · cases h
  · cases h
set_option maxRecDepth 20000 in
theorem eq_X11_numbers_19 (k4 : Int32 → Int32 → Int32 → pj_M → Option (Int32 × pj_M)) (n1 : Nat) (x1 : Int32) (x2 : Int32) (x3 : Int32) (x4 : Int32) (x5 : Int32) (d6 : Option pj_V) (m : pj_M) : pj_run tb_X11_numbers [(71, C_X11_numbers_71 (J_X11_numbers_71 k4 (H_X11_numbers_19 k4 n1))), (105, C_X11_numbers_105 (J_X11_numbers_105 k4))] 87 19 [some (.inr (.inr (0, 11, 72))), some (.inl x1), some (.inl x2), some (.inl x3), some (.inl x4), some (.inl x5), d6] [] m = H_X11_numbers_19 k4 (n1 + 1) x1 x2 x3 x4 x5 m := by rfl
theorem sg_X11_numbers_19 {G : pj_E} {A : Nat → Prop} {P : pj_P} {S : pj_U} {Z : pj_Z} (C : pj_C (G, A, (c_X11_numbers, y_X11_numbers.cls, 7, (some .int), 2), P, S, Z)) {k4 : Int32 → Int32 → Int32 → pj_M → Option (Int32 × pj_M)} (hk4 : pj_G (G, A, (c_X11_numbers, y_X11_numbers.cls, 7, (some .int), 2), P, S, Z) pj_eI 4 (C_X11_numbers_4 k4)) : ∀ n1, pj_G (G, A, (c_X11_numbers, y_X11_numbers.cls, 7, (some .int), 2), P, S, Z) pj_eI 19 (C_X11_numbers_19 (H_X11_numbers_19 k4 n1)) := by
  intro n1
  induction n1 with
  | zero =>
    intro L st m r h hR
    unfold C_X11_numbers_19 at h
    split at h
    · split at h
      · cases h
      · cases h
    · cases h
  | succ n1 ih1 =>
    intro L st m r h hR
    unfold C_X11_numbers_19 at h
    split at h
    · split at h
      · rename_i hbq
        simp only [Bool.and_eq_true, Nat.beq_eq] at hbq
        obtain ⟨rfl, rfl, rfl⟩ := hbq
        exact pj_run_ok (sd_X11_numbers C) (List.forall_mem_cons.mpr ⟨sg_X11_numbers_71 C hk4 ih1, List.forall_mem_cons.mpr ⟨sg_X11_numbers_105 C hk4, fun q h => by cases h⟩⟩) 87 19 _ _ _ _ ((eq_X11_numbers_19 _ _ _ _ _ _ _ _ _).trans h) hR
      · cases h
    · cases h
set_option maxRecDepth 20000 in
theorem eq_X11_numbers_4 (n1 : Nat) (x1 : Int32) (x2 : Int32) (x3 : Int32) (d4 d5 d6 : Option pj_V) (m : pj_M) : pj_run tb_X11_numbers [(19, C_X11_numbers_19 (H_X11_numbers_19 (H_X11_numbers_4 n1) pj_z))] 87 4 [some (.inr (.inr (0, 11, 72))), some (.inl x1), some (.inl x2), some (.inl x3), d4, d5, d6] [] m = H_X11_numbers_4 (n1 + 1) x1 x2 x3 m := by rfl
theorem sg_X11_numbers_4 {G : pj_E} {A : Nat → Prop} {P : pj_P} {S : pj_U} {Z : pj_Z} (C : pj_C (G, A, (c_X11_numbers, y_X11_numbers.cls, 7, (some .int), 2), P, S, Z)) : ∀ n1, pj_G (G, A, (c_X11_numbers, y_X11_numbers.cls, 7, (some .int), 2), P, S, Z) pj_eI 4 (C_X11_numbers_4 (H_X11_numbers_4 n1)) := by
  intro n1
  induction n1 with
  | zero =>
    intro L st m r h hR
    unfold C_X11_numbers_4 at h
    split at h
    · split at h
      · cases h
      · cases h
    · cases h
  | succ n1 ih1 =>
    intro L st m r h hR
    unfold C_X11_numbers_4 at h
    split at h
    · split at h
      · rename_i hbq
        simp only [Bool.and_eq_true, Nat.beq_eq] at hbq
        obtain ⟨rfl, rfl, rfl⟩ := hbq
        exact pj_run_ok (sd_X11_numbers C) (List.forall_mem_cons.mpr ⟨sg_X11_numbers_19 C ih1 pj_z, fun q h => by cases h⟩) 87 4 _ _ _ _ ((eq_X11_numbers_4 _ _ _ _ _ _ _ _).trans h) hR
      · cases h
    · cases h
set_option maxRecDepth 20000 in
theorem eq_X11_numbers (x1 : Int32) (m : pj_M) : pj_run tb_X11_numbers [(4, C_X11_numbers_4 (H_X11_numbers_4  pj_z))] 87 0 [some (.inr (.inr (0, 11, 72))), some (.inl x1), none, none, none, none, none] [] m = F_X11_numbers x1 m := by rfl
theorem ct_X11_numbers : pj_Ct pj_eI y_X11_numbers c_X11_numbers 7 (some .int) 2 W_X11_numbers := by
  refine pj_ct_of (by decide +kernel) ?_ ?_
  · intro as m r h
    unfold W_X11_numbers at h
    split at h
    · simp [pj_l0]
    · cases h
  · intro G A P S Z C as m r h hR
    unfold W_X11_numbers at h
    split at h
    · split at h
      · rename_i hbq
        simp only [Bool.and_eq_true, Nat.beq_eq] at hbq
        obtain ⟨rfl, rfl, rfl⟩ := hbq
        exact pj_run_ok (sd_X11_numbers C) (List.forall_mem_cons.mpr ⟨sg_X11_numbers_4 C  pj_z, fun q h => by cases h⟩) 87 0 _ _ _ _ ((eq_X11_numbers _ _).trans h) hR
      · cases h
    · cases h
/-! AlikeStepsModel.partsBy(I)I -/
abbrev c_X11_partsBy : ByteArray := prog_13_method_47_code
def y_X11_partsBy : MethodName := ⟨RX11, "partsBy", "(I)I"⟩
noncomputable def J_X11_partsBy_120 (k57 : Int32 → Int32 → Int32 → pj_M → Option (Int32 × pj_M)) (x1 : Int32) (x4 : Int32) (s0 : Int32) (m : pj_M) : Option (Int32 × pj_M) := (if s0 = 0 then (k57 x1 x4 s0 (pj_wr m 72 23 ((m.1 72 23) + 0))) else (k57 x1 x4 s0 (pj_wr m 72 23 ((m.1 72 23) + 1))))
noncomputable def J_X11_partsBy_97 (k57 : Int32 → Int32 → Int32 → pj_M → Option (Int32 × pj_M)) (x1 : Int32) (x2 : Int32) (m : pj_M) : Option (Int32 × pj_M) := ((F_X11_numbers ((m.1 72 23) + 1) m).bind fun q1 => (if x2 < q1.1 then (J_X11_partsBy_120 k57 x1 q1.1 1 q1.2) else (J_X11_partsBy_120 k57 x1 q1.1 0 q1.2)))
noncomputable def H_X11_partsBy_64 (k57 : Int32 → Int32 → Int32 → pj_M → Option (Int32 × pj_M)) : Nat → Int32 → Int32 → Int32 → pj_M → Option (Int32 × pj_M)
  | 0, _, _, _, _ => none
  | n1 + 1, x1, x2, x4, m => ((F_X11_states m).bind fun q1 => (if x4 < q1.1 then ((F_X11_signsOf x1 x4 (q1.2.1 72 23) q1.2).bind fun q2 => (if x4 < 0 ∨ 10 ≤ x4.toNatClampNeg then none else (H_X11_partsBy_64 k57 n1 x1 x2 (x4 + 1) (pj_wl q2.2 87 x4.toNatClampNeg q2.1)))) else (J_X11_partsBy_97 k57 x1 x2 q1.2)))
noncomputable def H_X11_partsBy_57 : Nat → Int32 → Int32 → Int32 → pj_M → Option (Int32 × pj_M)
  | 0, _, _, _, _ => none
  | n1 + 1, x1, x2, x3, m => (if x3 = 0 then (some (x2, m)) else (H_X11_partsBy_64 (H_X11_partsBy_57 n1) pj_z x1 x2 0 m))
noncomputable def J_X11_partsBy_35 (x1 : Int32) (m : pj_M) : Option (Int32 × pj_M) := ((F_X11_numbers 0 m).bind fun q1 => (if x1 < 3 then (H_X11_partsBy_57 pj_z x1 q1.1 1 (pj_wr q1.2 72 23 0)) else (H_X11_partsBy_57 pj_z x1 q1.1 0 (pj_wr q1.2 72 23 0))))
noncomputable def H_X11_partsBy_2 : Nat → Int32 → Int32 → pj_M → Option (Int32 × pj_M)
  | 0, _, _, _ => none
  | n1 + 1, x1, x2, m => ((F_X11_states m).bind fun q1 => (if x2 < q1.1 then ((F_X11_isMarked x2 q1.2).bind fun q2 => (if q2.1 = 0 then (if x2 < 0 ∨ 10 ≤ x2.toNatClampNeg then none else (H_X11_partsBy_2 n1 x1 (x2 + 1) (pj_wl q2.2 87 x2.toNatClampNeg 0))) else (if x2 < 0 ∨ 10 ≤ x2.toNatClampNeg then none else (H_X11_partsBy_2 n1 x1 (x2 + 1) (pj_wl q2.2 87 x2.toNatClampNeg 1))))) else (J_X11_partsBy_35 x1 q1.2)))
noncomputable def F_X11_partsBy (x1 : Int32) (m : pj_M) : Option (Int32 × pj_M) := (H_X11_partsBy_2 pj_z x1 0 m)
noncomputable def W_X11_partsBy : List pj_V → pj_M → Option (Int32 × pj_M) := fun as m => match as with
  | [.inr (.inr (t0, w0, a0)), .inl x1] => (match Nat.beq t0 0 && (Nat.beq w0 11 && (Nat.beq a0 72)) with
    | true => F_X11_partsBy x1 m
    | false => none)
  | _ => none
noncomputable def tb_X11_partsBy_0 : List (Nat × pj_T (Int32 × pj_M)) := [(0, qs_ci 0 1), (1, qs_sti 2 2), (2, qs_ldi 2 3), (3, qs_lda 0 4), (4, qs_vI 11 1 W_X11_states 7), (7, qs_icge 35 10), (10, qs_lda 0 11), (11, qs_gf 11 24 14), (14, qs_ldi 2 15), (15, qs_lda 0 16), (16, qs_ldi 2 17), (17, qs_vI 11 2 W_X11_isMarked 20), (20, qs_ifeq 27 23), (23, qs_cl 1 24), (24, qs_go 28), (27, qs_cl 0 28), (28, qs_last 29), (29, qs_inc 2 1 32), (32, qs_go 2), (35, qs_lda 0 36), (36, qs_ci 0 37), (37, qs_vI 11 2 W_X11_numbers 40), (40, qs_sti 2 41), (41, qs_lda 0 42), (42, qs_ci 0 43), (43, qs_pf 11 23 46), (46, qs_ldi 1 47), (47, qs_ci 3 48), (48, qs_icge 55 51), (51, qs_ci 1 52), (52, qs_go 56), (55, qs_ci 0 56), (56, qs_sti 3 57), (57, qs_ldi 3 58), (58, qs_ifeq 145 61), (61, qs_ci 0 62), (62, qs_sti 4 64), (64, qs_ldi 4 66), (66, qs_lda 0 67), (67, qs_vI 11 1 W_X11_states 70)]
noncomputable def tb_X11_partsBy_1 : List (Nat × pj_T (Int32 × pj_M)) := [(70, qs_icge 97 73), (73, qs_lda 0 74), (74, qs_gf 11 24 77), (77, qs_ldi 4 79), (79, qs_lda 0 80), (80, qs_ldi 1 81), (81, qs_ldi 4 83), (83, qs_lda 0 84), (84, qs_gf 11 23 87), (87, qs_vL 11 4 W_X11_signsOf 90), (90, qs_last 91), (91, qs_inc 4 1 94), (94, qs_go 64), (97, qs_lda 0 98), (98, qs_lda 0 99), (99, qs_gf 11 23 102), (102, qs_ci 1 103), (103, qs_b2 (fun x y => x + y) 104), (104, qs_vI 11 2 W_X11_numbers 107), (107, qs_sti 4 109), (109, qs_ldi 4 111), (111, qs_ldi 2 112), (112, qs_icle 119 115), (115, qs_ci 1 116), (116, qs_go 120), (119, qs_ci 0 120), (120, qs_sti 3 121), (121, qs_lda 0 122), (122, qs_dup 123), (123, qs_gf 11 23 126), (126, qs_ldi 3 127), (127, qs_ifeq 134 130), (130, qs_ci 1 131), (131, qs_go 135), (134, qs_ci 0 135), (135, qs_b2 (fun x y => x + y) 136), (136, qs_pf 11 23 139), (139, qs_ldi 4 141), (141, qs_sti 2 142), (142, qs_go 57)]
noncomputable def tb_X11_partsBy_2 : List (Nat × pj_T (Int32 × pj_M)) := [(145, qs_ldi 2 146), (146, qs_iret)]
noncomputable def tb_X11_partsBy : List (Nat × pj_T (Int32 × pj_M)) := tb_X11_partsBy_0 ++ (tb_X11_partsBy_1 ++ (tb_X11_partsBy_2))
theorem mv_X11_partsBy : pj_mv y_X11_partsBy c_X11_partsBy 5 (some .int) 1 := ⟨⟨cw_1303, cw_1302, cw_55, cw_92⟩, by decide +kernel, by decide⟩
set_option maxRecDepth 20000 in
theorem sd_X11_partsBy_0 {G : pj_E} {A : Nat → Prop} {P : pj_P} {S : pj_U} {Z : pj_Z} (C : pj_C (G, A, (c_X11_partsBy, y_X11_partsBy.cls, 5, (some .int), 5), P, S, Z)) : ∀ q ∈ tb_X11_partsBy_0, pj_S (G, A, (c_X11_partsBy, y_X11_partsBy.cls, 5, (some .int), 5), P, S, Z) pj_eI q.1 q.2 :=
  List.forall_mem_cons.mpr ⟨qz_iconst C (show decode c_X11_partsBy 0 = .ok (.iconst 0, 1) by decide +kernel) (by decide +kernel),
  List.forall_mem_cons.mpr ⟨qz_istore_n C (show decode c_X11_partsBy 1 = .ok (.istore_n 2, 1) by decide +kernel) rfl,
  List.forall_mem_cons.mpr ⟨qz_iload_n C (show decode c_X11_partsBy 2 = .ok (.iload_n 2, 1) by decide +kernel) rfl,
  List.forall_mem_cons.mpr ⟨qz_aload_n C (show decode c_X11_partsBy 3 = .ok (.aload_n 0, 1) by decide +kernel) rfl,
  List.forall_mem_cons.mpr ⟨qz_vI C (show decode c_X11_partsBy 4 = .ok (.invokevirtual 177, 3) by decide +kernel) ct_X11_states mv_X11_states cw_1269 vcX11 (show 1 < 5 by omega),
  List.forall_mem_cons.mpr ⟨qz_icge C (show decode c_X11_partsBy 7 = .ok (.if_icmp .ge 28, 3) by decide +kernel) (by decide),
  List.forall_mem_cons.mpr ⟨qz_aload_n C (show decode c_X11_partsBy 10 = .ok (.aload_n 0, 1) by decide +kernel) rfl,
  List.forall_mem_cons.mpr ⟨qz_gf (k := 24) C (show decode c_X11_partsBy 11 = .ok (.getfield 53, 3) by decide +kernel) vcX11 wiX11 (by decide) cw_1042,
  List.forall_mem_cons.mpr ⟨qz_iload_n C (show decode c_X11_partsBy 14 = .ok (.iload_n 2, 1) by decide +kernel) rfl,
  List.forall_mem_cons.mpr ⟨qz_aload_n C (show decode c_X11_partsBy 15 = .ok (.aload_n 0, 1) by decide +kernel) rfl,
  List.forall_mem_cons.mpr ⟨qz_iload_n C (show decode c_X11_partsBy 16 = .ok (.iload_n 2, 1) by decide +kernel) rfl,
  List.forall_mem_cons.mpr ⟨qz_vI C (show decode c_X11_partsBy 17 = .ok (.invokevirtual 210, 3) by decide +kernel) ct_X11_isMarked mv_X11_isMarked cw_1304 vcX11 (show 1 < 5 by omega),
  List.forall_mem_cons.mpr ⟨qz_ifeq C (show decode c_X11_partsBy 20 = .ok (.ifCond .eq 7, 3) by decide +kernel) (by decide),
  List.forall_mem_cons.mpr ⟨qz_lconst C (show decode c_X11_partsBy 23 = .ok (.lconst 1, 1) by decide +kernel) (by decide +kernel),
  List.forall_mem_cons.mpr ⟨qz_goto C (show decode c_X11_partsBy 24 = .ok (.goto 4, 3) by decide +kernel) (by decide),
  List.forall_mem_cons.mpr ⟨qz_lconst C (show decode c_X11_partsBy 27 = .ok (.lconst 0, 1) by decide +kernel) (by decide +kernel),
  List.forall_mem_cons.mpr ⟨qz_last C (show decode c_X11_partsBy 28 = .ok (.lastore, 1) by decide +kernel),
  List.forall_mem_cons.mpr ⟨qz_iinc C (show decode c_X11_partsBy 29 = .ok (.iinc 2 1, 3) by decide +kernel) (by decide +kernel),
  List.forall_mem_cons.mpr ⟨qz_goto C (show decode c_X11_partsBy 32 = .ok (.goto (-30), 3) by decide +kernel) (by decide),
  List.forall_mem_cons.mpr ⟨qz_aload_n C (show decode c_X11_partsBy 35 = .ok (.aload_n 0, 1) by decide +kernel) rfl,
  List.forall_mem_cons.mpr ⟨qz_iconst C (show decode c_X11_partsBy 36 = .ok (.iconst 0, 1) by decide +kernel) (by decide +kernel),
  List.forall_mem_cons.mpr ⟨qz_vI C (show decode c_X11_partsBy 37 = .ok (.invokevirtual 213, 3) by decide +kernel) ct_X11_numbers mv_X11_numbers cw_1308 vcX11 (show 2 < 5 by omega),
  List.forall_mem_cons.mpr ⟨qz_istore_n C (show decode c_X11_partsBy 40 = .ok (.istore_n 2, 1) by decide +kernel) rfl,
  List.forall_mem_cons.mpr ⟨qz_aload_n C (show decode c_X11_partsBy 41 = .ok (.aload_n 0, 1) by decide +kernel) rfl,
  List.forall_mem_cons.mpr ⟨qz_iconst C (show decode c_X11_partsBy 42 = .ok (.iconst 0, 1) by decide +kernel) (by decide +kernel),
  List.forall_mem_cons.mpr ⟨qz_pf (k := 23) C (show decode c_X11_partsBy 43 = .ok (.putfield 216, 3) by decide +kernel) vcX11 wiX11 tyX11_ok nmX11 (by decide) cw_1041 rfl rfl,
  List.forall_mem_cons.mpr ⟨qz_iload_n C (show decode c_X11_partsBy 46 = .ok (.iload_n 1, 1) by decide +kernel) rfl,
  List.forall_mem_cons.mpr ⟨qz_iconst C (show decode c_X11_partsBy 47 = .ok (.iconst 3, 1) by decide +kernel) (by decide +kernel),
  List.forall_mem_cons.mpr ⟨qz_icge C (show decode c_X11_partsBy 48 = .ok (.if_icmp .ge 7, 3) by decide +kernel) (by decide),
  List.forall_mem_cons.mpr ⟨qz_iconst C (show decode c_X11_partsBy 51 = .ok (.iconst 1, 1) by decide +kernel) (by decide +kernel),
  List.forall_mem_cons.mpr ⟨qz_goto C (show decode c_X11_partsBy 52 = .ok (.goto 4, 3) by decide +kernel) (by decide),
  List.forall_mem_cons.mpr ⟨qz_iconst C (show decode c_X11_partsBy 55 = .ok (.iconst 0, 1) by decide +kernel) (by decide +kernel),
  List.forall_mem_cons.mpr ⟨qz_istore_n C (show decode c_X11_partsBy 56 = .ok (.istore_n 3, 1) by decide +kernel) rfl,
  List.forall_mem_cons.mpr ⟨qz_iload_n C (show decode c_X11_partsBy 57 = .ok (.iload_n 3, 1) by decide +kernel) rfl,
  List.forall_mem_cons.mpr ⟨qz_ifeq C (show decode c_X11_partsBy 58 = .ok (.ifCond .eq 87, 3) by decide +kernel) (by decide),
  List.forall_mem_cons.mpr ⟨qz_iconst C (show decode c_X11_partsBy 61 = .ok (.iconst 0, 1) by decide +kernel) (by decide +kernel),
  List.forall_mem_cons.mpr ⟨qz_istore C (show decode c_X11_partsBy 62 = .ok (.istore 4, 2) by decide +kernel),
  List.forall_mem_cons.mpr ⟨qz_iload C (show decode c_X11_partsBy 64 = .ok (.iload 4, 2) by decide +kernel),
  List.forall_mem_cons.mpr ⟨qz_aload_n C (show decode c_X11_partsBy 66 = .ok (.aload_n 0, 1) by decide +kernel) rfl,
  List.forall_mem_cons.mpr ⟨qz_vI C (show decode c_X11_partsBy 67 = .ok (.invokevirtual 177, 3) by decide +kernel) ct_X11_states mv_X11_states cw_1269 vcX11 (show 1 < 5 by omega),
  (fun q h => by cases h)⟩⟩⟩⟩⟩⟩⟩⟩⟩⟩⟩⟩⟩⟩⟩⟩⟩⟩⟩⟩⟩⟩⟩⟩⟩⟩⟩⟩⟩⟩⟩⟩⟩⟩⟩⟩⟩⟩⟩⟩
set_option maxRecDepth 20000 in
theorem sd_X11_partsBy_1 {G : pj_E} {A : Nat → Prop} {P : pj_P} {S : pj_U} {Z : pj_Z} (C : pj_C (G, A, (c_X11_partsBy, y_X11_partsBy.cls, 5, (some .int), 5), P, S, Z)) : ∀ q ∈ tb_X11_partsBy_1, pj_S (G, A, (c_X11_partsBy, y_X11_partsBy.cls, 5, (some .int), 5), P, S, Z) pj_eI q.1 q.2 :=
  List.forall_mem_cons.mpr ⟨qz_icge C (show decode c_X11_partsBy 70 = .ok (.if_icmp .ge 27, 3) by decide +kernel) (by decide),
  List.forall_mem_cons.mpr ⟨qz_aload_n C (show decode c_X11_partsBy 73 = .ok (.aload_n 0, 1) by decide +kernel) rfl,
  List.forall_mem_cons.mpr ⟨qz_gf (k := 24) C (show decode c_X11_partsBy 74 = .ok (.getfield 53, 3) by decide +kernel) vcX11 wiX11 (by decide) cw_1042,
  List.forall_mem_cons.mpr ⟨qz_iload C (show decode c_X11_partsBy 77 = .ok (.iload 4, 2) by decide +kernel),
  List.forall_mem_cons.mpr ⟨qz_aload_n C (show decode c_X11_partsBy 79 = .ok (.aload_n 0, 1) by decide +kernel) rfl,
  List.forall_mem_cons.mpr ⟨qz_iload_n C (show decode c_X11_partsBy 80 = .ok (.iload_n 1, 1) by decide +kernel) rfl,
  List.forall_mem_cons.mpr ⟨qz_iload C (show decode c_X11_partsBy 81 = .ok (.iload 4, 2) by decide +kernel),
  List.forall_mem_cons.mpr ⟨qz_aload_n C (show decode c_X11_partsBy 83 = .ok (.aload_n 0, 1) by decide +kernel) rfl,
  List.forall_mem_cons.mpr ⟨qz_gf (k := 23) C (show decode c_X11_partsBy 84 = .ok (.getfield 216, 3) by decide +kernel) vcX11 wiX11 (by decide) cw_1041,
  List.forall_mem_cons.mpr ⟨qz_vL C (show decode c_X11_partsBy 87 = .ok (.invokevirtual 219, 3) by decide +kernel) ct_X11_signsOf mv_X11_signsOf cw_1316 vcX11 (show 4 < 5 by omega),
  List.forall_mem_cons.mpr ⟨qz_last C (show decode c_X11_partsBy 90 = .ok (.lastore, 1) by decide +kernel),
  List.forall_mem_cons.mpr ⟨qz_iinc C (show decode c_X11_partsBy 91 = .ok (.iinc 4 1, 3) by decide +kernel) (by decide +kernel),
  List.forall_mem_cons.mpr ⟨qz_goto C (show decode c_X11_partsBy 94 = .ok (.goto (-30), 3) by decide +kernel) (by decide),
  List.forall_mem_cons.mpr ⟨qz_aload_n C (show decode c_X11_partsBy 97 = .ok (.aload_n 0, 1) by decide +kernel) rfl,
  List.forall_mem_cons.mpr ⟨qz_aload_n C (show decode c_X11_partsBy 98 = .ok (.aload_n 0, 1) by decide +kernel) rfl,
  List.forall_mem_cons.mpr ⟨qz_gf (k := 23) C (show decode c_X11_partsBy 99 = .ok (.getfield 216, 3) by decide +kernel) vcX11 wiX11 (by decide) cw_1041,
  List.forall_mem_cons.mpr ⟨qz_iconst C (show decode c_X11_partsBy 102 = .ok (.iconst 1, 1) by decide +kernel) (by decide +kernel),
  List.forall_mem_cons.mpr ⟨qz_iadd C (show decode c_X11_partsBy 103 = .ok (.iadd, 1) by decide +kernel),
  List.forall_mem_cons.mpr ⟨qz_vI C (show decode c_X11_partsBy 104 = .ok (.invokevirtual 213, 3) by decide +kernel) ct_X11_numbers mv_X11_numbers cw_1308 vcX11 (show 2 < 5 by omega),
  List.forall_mem_cons.mpr ⟨qz_istore C (show decode c_X11_partsBy 107 = .ok (.istore 4, 2) by decide +kernel),
  List.forall_mem_cons.mpr ⟨qz_iload C (show decode c_X11_partsBy 109 = .ok (.iload 4, 2) by decide +kernel),
  List.forall_mem_cons.mpr ⟨qz_iload_n C (show decode c_X11_partsBy 111 = .ok (.iload_n 2, 1) by decide +kernel) rfl,
  List.forall_mem_cons.mpr ⟨qz_icle C (show decode c_X11_partsBy 112 = .ok (.if_icmp .le 7, 3) by decide +kernel) (by decide),
  List.forall_mem_cons.mpr ⟨qz_iconst C (show decode c_X11_partsBy 115 = .ok (.iconst 1, 1) by decide +kernel) (by decide +kernel),
  List.forall_mem_cons.mpr ⟨qz_goto C (show decode c_X11_partsBy 116 = .ok (.goto 4, 3) by decide +kernel) (by decide),
  List.forall_mem_cons.mpr ⟨qz_iconst C (show decode c_X11_partsBy 119 = .ok (.iconst 0, 1) by decide +kernel) (by decide +kernel),
  List.forall_mem_cons.mpr ⟨qz_istore_n C (show decode c_X11_partsBy 120 = .ok (.istore_n 3, 1) by decide +kernel) rfl,
  List.forall_mem_cons.mpr ⟨qz_aload_n C (show decode c_X11_partsBy 121 = .ok (.aload_n 0, 1) by decide +kernel) rfl,
  List.forall_mem_cons.mpr ⟨qz_dup C (show decode c_X11_partsBy 122 = .ok (.dup, 1) by decide +kernel),
  List.forall_mem_cons.mpr ⟨qz_gf (k := 23) C (show decode c_X11_partsBy 123 = .ok (.getfield 216, 3) by decide +kernel) vcX11 wiX11 (by decide) cw_1041,
  List.forall_mem_cons.mpr ⟨qz_iload_n C (show decode c_X11_partsBy 126 = .ok (.iload_n 3, 1) by decide +kernel) rfl,
  List.forall_mem_cons.mpr ⟨qz_ifeq C (show decode c_X11_partsBy 127 = .ok (.ifCond .eq 7, 3) by decide +kernel) (by decide),
  List.forall_mem_cons.mpr ⟨qz_iconst C (show decode c_X11_partsBy 130 = .ok (.iconst 1, 1) by decide +kernel) (by decide +kernel),
  List.forall_mem_cons.mpr ⟨qz_goto C (show decode c_X11_partsBy 131 = .ok (.goto 4, 3) by decide +kernel) (by decide),
  List.forall_mem_cons.mpr ⟨qz_iconst C (show decode c_X11_partsBy 134 = .ok (.iconst 0, 1) by decide +kernel) (by decide +kernel),
  List.forall_mem_cons.mpr ⟨qz_iadd C (show decode c_X11_partsBy 135 = .ok (.iadd, 1) by decide +kernel),
  List.forall_mem_cons.mpr ⟨qz_pf (k := 23) C (show decode c_X11_partsBy 136 = .ok (.putfield 216, 3) by decide +kernel) vcX11 wiX11 tyX11_ok nmX11 (by decide) cw_1041 rfl rfl,
  List.forall_mem_cons.mpr ⟨qz_iload C (show decode c_X11_partsBy 139 = .ok (.iload 4, 2) by decide +kernel),
  List.forall_mem_cons.mpr ⟨qz_istore_n C (show decode c_X11_partsBy 141 = .ok (.istore_n 2, 1) by decide +kernel) rfl,
  List.forall_mem_cons.mpr ⟨qz_goto C (show decode c_X11_partsBy 142 = .ok (.goto (-85), 3) by decide +kernel) (by decide),
  (fun q h => by cases h)⟩⟩⟩⟩⟩⟩⟩⟩⟩⟩⟩⟩⟩⟩⟩⟩⟩⟩⟩⟩⟩⟩⟩⟩⟩⟩⟩⟩⟩⟩⟩⟩⟩⟩⟩⟩⟩⟩⟩⟩
set_option maxRecDepth 20000 in
theorem sd_X11_partsBy_2 {G : pj_E} {A : Nat → Prop} {P : pj_P} {S : pj_U} {Z : pj_Z} (C : pj_C (G, A, (c_X11_partsBy, y_X11_partsBy.cls, 5, (some .int), 5), P, S, Z)) : ∀ q ∈ tb_X11_partsBy_2, pj_S (G, A, (c_X11_partsBy, y_X11_partsBy.cls, 5, (some .int), 5), P, S, Z) pj_eI q.1 q.2 :=
  List.forall_mem_cons.mpr ⟨qz_iload_n C (show decode c_X11_partsBy 145 = .ok (.iload_n 2, 1) by decide +kernel) rfl,
  List.forall_mem_cons.mpr ⟨qz_iret C (show decode c_X11_partsBy 146 = .ok (.ireturn, 1) by decide +kernel) rfl,
  (fun q h => by cases h)⟩⟩
theorem sd_X11_partsBy {G : pj_E} {A : Nat → Prop} {P : pj_P} {S : pj_U} {Z : pj_Z} (C : pj_C (G, A, (c_X11_partsBy, y_X11_partsBy.cls, 5, (some .int), 5), P, S, Z)) : ∀ q ∈ tb_X11_partsBy, pj_S (G, A, (c_X11_partsBy, y_X11_partsBy.cls, 5, (some .int), 5), P, S, Z) pj_eI q.1 q.2 := List.forall_mem_append.mpr ⟨sd_X11_partsBy_0 C, List.forall_mem_append.mpr ⟨sd_X11_partsBy_1 C, sd_X11_partsBy_2 C⟩⟩
noncomputable def C_X11_partsBy_120 (f : Int32 → Int32 → Int32 → pj_M → Option (Int32 × pj_M)) : pj_N (Int32 × pj_M) := fun L st m => match L, st with
  | [some (.inr (.inr (t0, w0, a0))), some (.inl x1), _, _, some (.inl x4)], [.inl s0] => (match Nat.beq t0 0 && (Nat.beq w0 11 && (Nat.beq a0 72)) with
    | true => f x1 x4 s0 m
    | false => none)
  | _, _ => none
noncomputable def C_X11_partsBy_97 (f : Int32 → Int32 → pj_M → Option (Int32 × pj_M)) : pj_N (Int32 × pj_M) := fun L st m => match L, st with
  | [some (.inr (.inr (t0, w0, a0))), some (.inl x1), some (.inl x2), _, _], [] => (match Nat.beq t0 0 && (Nat.beq w0 11 && (Nat.beq a0 72)) with
    | true => f x1 x2 m
    | false => none)
  | _, _ => none
noncomputable def C_X11_partsBy_64 (f : Int32 → Int32 → Int32 → pj_M → Option (Int32 × pj_M)) : pj_N (Int32 × pj_M) := fun L st m => match L, st with
  | [some (.inr (.inr (t0, w0, a0))), some (.inl x1), some (.inl x2), _, some (.inl x4)], [] => (match Nat.beq t0 0 && (Nat.beq w0 11 && (Nat.beq a0 72)) with
    | true => f x1 x2 x4 m
    | false => none)
  | _, _ => none
noncomputable def C_X11_partsBy_57 (f : Int32 → Int32 → Int32 → pj_M → Option (Int32 × pj_M)) : pj_N (Int32 × pj_M) := fun L st m => match L, st with
  | [some (.inr (.inr (t0, w0, a0))), some (.inl x1), some (.inl x2), some (.inl x3), _], [] => (match Nat.beq t0 0 && (Nat.beq w0 11 && (Nat.beq a0 72)) with
    | true => f x1 x2 x3 m
    | false => none)
  | _, _ => none
noncomputable def C_X11_partsBy_35 (f : Int32 → pj_M → Option (Int32 × pj_M)) : pj_N (Int32 × pj_M) := fun L st m => match L, st with
  | [some (.inr (.inr (t0, w0, a0))), some (.inl x1), _, _, _], [] => (match Nat.beq t0 0 && (Nat.beq w0 11 && (Nat.beq a0 72)) with
    | true => f x1 m
    | false => none)
  | _, _ => none
noncomputable def C_X11_partsBy_2 (f : Int32 → Int32 → pj_M → Option (Int32 × pj_M)) : pj_N (Int32 × pj_M) := fun L st m => match L, st with
  | [some (.inr (.inr (t0, w0, a0))), some (.inl x1), some (.inl x2), _, _], [] => (match Nat.beq t0 0 && (Nat.beq w0 11 && (Nat.beq a0 72)) with
    | true => f x1 x2 m
    | false => none)
  | _, _ => none
set_option maxRecDepth 20000 in
theorem eq_X11_partsBy_120 (k57 : Int32 → Int32 → Int32 → pj_M → Option (Int32 × pj_M)) (x1 : Int32) (x4 : Int32) (s0 : Int32) (d2 d3 : Option pj_V) (m : pj_M) : pj_run tb_X11_partsBy [(57, C_X11_partsBy_57 k57)] 84 120 [some (.inr (.inr (0, 11, 72))), some (.inl x1), d2, d3, some (.inl x4)] [.inl s0] m = J_X11_partsBy_120 k57 x1 x4 s0 m := by rfl
theorem sg_X11_partsBy_120 {G : pj_E} {A : Nat → Prop} {P : pj_P} {S : pj_U} {Z : pj_Z} (C : pj_C (G, A, (c_X11_partsBy, y_X11_partsBy.cls, 5, (some .int), 5), P, S, Z)) {k57 : Int32 → Int32 → Int32 → pj_M → Option (Int32 × pj_M)} (hk57 : pj_G (G, A, (c_X11_partsBy, y_X11_partsBy.cls, 5, (some .int), 5), P, S, Z) pj_eI 57 (C_X11_partsBy_57 k57)) : pj_G (G, A, (c_X11_partsBy, y_X11_partsBy.cls, 5, (some .int), 5), P, S, Z) pj_eI 120 (C_X11_partsBy_120 (J_X11_partsBy_120 k57)) := by
  intro L st m r h hR
  unfold C_X11_partsBy_120 at h
  split at h
  · split at h
    · rename_i hbq
      simp only [Bool.and_eq_true, Nat.beq_eq] at hbq
      obtain ⟨rfl, rfl, rfl⟩ := hbq
      exact pj_run_ok (sd_X11_partsBy C) (List.forall_mem_cons.mpr ⟨hk57, fun q h => by cases h⟩) 84 120 _ _ _ _ ((eq_X11_partsBy_120 _ _ _ _ _ _ _).trans h) hR
    · cases h
  · cases h
set_option maxRecDepth 20000 in
theorem eq_X11_partsBy_97 (k57 : Int32 → Int32 → Int32 → pj_M → Option (Int32 × pj_M)) (x1 : Int32) (x2 : Int32) (d3 d4 : Option pj_V) (m : pj_M) : pj_run tb_X11_partsBy [(120, C_X11_partsBy_120 (J_X11_partsBy_120 k57))] 84 97 [some (.inr (.inr (0, 11, 72))), some (.inl x1), some (.inl x2), d3, d4] [] m = J_X11_partsBy_97 k57 x1 x2 m := by rfl
theorem sg_X11_partsBy_97 {G : pj_E} {A : Nat → Prop} {P : pj_P} {S : pj_U} {Z : pj_Z} (C : pj_C (G, A, (c_X11_partsBy, y_X11_partsBy.cls, 5, (some .int), 5), P, S, Z)) {k57 : Int32 → Int32 → Int32 → pj_M → Option (Int32 × pj_M)} (hk57 : pj_G (G, A, (c_X11_partsBy, y_X11_partsBy.cls, 5, (some .int), 5), P, S, Z) pj_eI 57 (C_X11_partsBy_57 k57)) : pj_G (G, A, (c_X11_partsBy, y_X11_partsBy.cls, 5, (some .int), 5), P, S, Z) pj_eI 97 (C_X11_partsBy_97 (J_X11_partsBy_97 k57)) := by
  intro L st m r h hR
  unfold C_X11_partsBy_97 at h
  split at h
  · split at h
    · rename_i hbq
      simp only [Bool.and_eq_true, Nat.beq_eq] at hbq
      obtain ⟨rfl, rfl, rfl⟩ := hbq
      exact pj_run_ok (sd_X11_partsBy C) (List.forall_mem_cons.mpr ⟨sg_X11_partsBy_120 C hk57, fun q h => by cases h⟩) 84 97 _ _ _ _ ((eq_X11_partsBy_97 _ _ _ _ _ _).trans h) hR
    · cases h
  · cases h
set_option maxRecDepth 20000 in
theorem eq_X11_partsBy_64 (k57 : Int32 → Int32 → Int32 → pj_M → Option (Int32 × pj_M)) (n1 : Nat) (x1 : Int32) (x2 : Int32) (x4 : Int32) (d3 : Option pj_V) (m : pj_M) : pj_run tb_X11_partsBy [(64, C_X11_partsBy_64 (H_X11_partsBy_64 k57 n1)), (97, C_X11_partsBy_97 (J_X11_partsBy_97 k57))] 84 64 [some (.inr (.inr (0, 11, 72))), some (.inl x1), some (.inl x2), d3, some (.inl x4)] [] m = H_X11_partsBy_64 k57 (n1 + 1) x1 x2 x4 m := by rfl
theorem sg_X11_partsBy_64 {G : pj_E} {A : Nat → Prop} {P : pj_P} {S : pj_U} {Z : pj_Z} (C : pj_C (G, A, (c_X11_partsBy, y_X11_partsBy.cls, 5, (some .int), 5), P, S, Z)) {k57 : Int32 → Int32 → Int32 → pj_M → Option (Int32 × pj_M)} (hk57 : pj_G (G, A, (c_X11_partsBy, y_X11_partsBy.cls, 5, (some .int), 5), P, S, Z) pj_eI 57 (C_X11_partsBy_57 k57)) : ∀ n1, pj_G (G, A, (c_X11_partsBy, y_X11_partsBy.cls, 5, (some .int), 5), P, S, Z) pj_eI 64 (C_X11_partsBy_64 (H_X11_partsBy_64 k57 n1)) := by
  intro n1
  induction n1 with
  | zero =>
    intro L st m r h hR
    unfold C_X11_partsBy_64 at h
    split at h
    · split at h
      · cases h
      · cases h
    · cases h
  | succ n1 ih1 =>
    intro L st m r h hR
    unfold C_X11_partsBy_64 at h
    split at h
    · split at h
      · rename_i hbq
        simp only [Bool.and_eq_true, Nat.beq_eq] at hbq
        obtain ⟨rfl, rfl, rfl⟩ := hbq
        exact pj_run_ok (sd_X11_partsBy C) (List.forall_mem_cons.mpr ⟨ih1, List.forall_mem_cons.mpr ⟨sg_X11_partsBy_97 C hk57, fun q h => by cases h⟩⟩) 84 64 _ _ _ _ ((eq_X11_partsBy_64 _ _ _ _ _ _ _).trans h) hR
      · cases h
    · cases h
set_option maxRecDepth 20000 in
theorem eq_X11_partsBy_57 (n1 : Nat) (x1 : Int32) (x2 : Int32) (x3 : Int32) (d4 : Option pj_V) (m : pj_M) : pj_run tb_X11_partsBy [(64, C_X11_partsBy_64 (H_X11_partsBy_64 (H_X11_partsBy_57 n1) pj_z))] 84 57 [some (.inr (.inr (0, 11, 72))), some (.inl x1), some (.inl x2), some (.inl x3), d4] [] m = H_X11_partsBy_57 (n1 + 1) x1 x2 x3 m := by rfl
theorem sg_X11_partsBy_57 {G : pj_E} {A : Nat → Prop} {P : pj_P} {S : pj_U} {Z : pj_Z} (C : pj_C (G, A, (c_X11_partsBy, y_X11_partsBy.cls, 5, (some .int), 5), P, S, Z)) : ∀ n1, pj_G (G, A, (c_X11_partsBy, y_X11_partsBy.cls, 5, (some .int), 5), P, S, Z) pj_eI 57 (C_X11_partsBy_57 (H_X11_partsBy_57 n1)) := by
  intro n1
  induction n1 with
  | zero =>
    intro L st m r h hR
    unfold C_X11_partsBy_57 at h
    split at h
    · split at h
      · cases h
      · cases h
    · cases h
  | succ n1 ih1 =>
    intro L st m r h hR
    unfold C_X11_partsBy_57 at h
    split at h
    · split at h
      · rename_i hbq
        simp only [Bool.and_eq_true, Nat.beq_eq] at hbq
        obtain ⟨rfl, rfl, rfl⟩ := hbq
        exact pj_run_ok (sd_X11_partsBy C) (List.forall_mem_cons.mpr ⟨sg_X11_partsBy_64 C ih1 pj_z, fun q h => by cases h⟩) 84 57 _ _ _ _ ((eq_X11_partsBy_57 _ _ _ _ _ _).trans h) hR
      · cases h
    · cases h
set_option maxRecDepth 20000 in
theorem eq_X11_partsBy_35 (x1 : Int32) (d2 d3 d4 : Option pj_V) (m : pj_M) : pj_run tb_X11_partsBy [(57, C_X11_partsBy_57 (H_X11_partsBy_57  pj_z))] 84 35 [some (.inr (.inr (0, 11, 72))), some (.inl x1), d2, d3, d4] [] m = J_X11_partsBy_35 x1 m := by rfl
theorem sg_X11_partsBy_35 {G : pj_E} {A : Nat → Prop} {P : pj_P} {S : pj_U} {Z : pj_Z} (C : pj_C (G, A, (c_X11_partsBy, y_X11_partsBy.cls, 5, (some .int), 5), P, S, Z)) : pj_G (G, A, (c_X11_partsBy, y_X11_partsBy.cls, 5, (some .int), 5), P, S, Z) pj_eI 35 (C_X11_partsBy_35 (J_X11_partsBy_35)) := by
  intro L st m r h hR
  unfold C_X11_partsBy_35 at h
  split at h
  · split at h
    · rename_i hbq
      simp only [Bool.and_eq_true, Nat.beq_eq] at hbq
      obtain ⟨rfl, rfl, rfl⟩ := hbq
      exact pj_run_ok (sd_X11_partsBy C) (List.forall_mem_cons.mpr ⟨sg_X11_partsBy_57 C  pj_z, fun q h => by cases h⟩) 84 35 _ _ _ _ ((eq_X11_partsBy_35 _ _ _ _ _).trans h) hR
    · cases h
  · cases h
set_option maxRecDepth 20000 in
theorem eq_X11_partsBy_2 (n1 : Nat) (x1 : Int32) (x2 : Int32) (d3 d4 : Option pj_V) (m : pj_M) : pj_run tb_X11_partsBy [(2, C_X11_partsBy_2 (H_X11_partsBy_2 n1)), (35, C_X11_partsBy_35 (J_X11_partsBy_35 ))] 84 2 [some (.inr (.inr (0, 11, 72))), some (.inl x1), some (.inl x2), d3, d4] [] m = H_X11_partsBy_2 (n1 + 1) x1 x2 m := by rfl
theorem sg_X11_partsBy_2 {G : pj_E} {A : Nat → Prop} {P : pj_P} {S : pj_U} {Z : pj_Z} (C : pj_C (G, A, (c_X11_partsBy, y_X11_partsBy.cls, 5, (some .int), 5), P, S, Z)) : ∀ n1, pj_G (G, A, (c_X11_partsBy, y_X11_partsBy.cls, 5, (some .int), 5), P, S, Z) pj_eI 2 (C_X11_partsBy_2 (H_X11_partsBy_2 n1)) := by
  intro n1
  induction n1 with
  | zero =>
    intro L st m r h hR
    unfold C_X11_partsBy_2 at h
    split at h
    · split at h
      · cases h
      · cases h
    · cases h
  | succ n1 ih1 =>
    intro L st m r h hR
    unfold C_X11_partsBy_2 at h
    split at h
    · split at h
      · rename_i hbq
        simp only [Bool.and_eq_true, Nat.beq_eq] at hbq
        obtain ⟨rfl, rfl, rfl⟩ := hbq
        exact pj_run_ok (sd_X11_partsBy C) (List.forall_mem_cons.mpr ⟨ih1, List.forall_mem_cons.mpr ⟨sg_X11_partsBy_35 C , fun q h => by cases h⟩⟩) 84 2 _ _ _ _ ((eq_X11_partsBy_2 _ _ _ _ _ _).trans h) hR
      · cases h
    · cases h
set_option maxRecDepth 20000 in
theorem eq_X11_partsBy (x1 : Int32) (m : pj_M) : pj_run tb_X11_partsBy [(2, C_X11_partsBy_2 (H_X11_partsBy_2  pj_z))] 84 0 [some (.inr (.inr (0, 11, 72))), some (.inl x1), none, none, none] [] m = F_X11_partsBy x1 m := by rfl
theorem ct_X11_partsBy : pj_Ct pj_eI y_X11_partsBy c_X11_partsBy 5 (some .int) 5 W_X11_partsBy := by
  refine pj_ct_of (by decide +kernel) ?_ ?_
  · intro as m r h
    unfold W_X11_partsBy at h
    split at h
    · simp [pj_l0]
    · cases h
  · intro G A P S Z C as m r h hR
    unfold W_X11_partsBy at h
    split at h
    · split at h
      · rename_i hbq
        simp only [Bool.and_eq_true, Nat.beq_eq] at hbq
        obtain ⟨rfl, rfl, rfl⟩ := hbq
        exact pj_run_ok (sd_X11_partsBy C) (List.forall_mem_cons.mpr ⟨sg_X11_partsBy_2 C  pj_z, fun q h => by cases h⟩) 84 0 _ _ _ _ ((eq_X11_partsBy _ _).trans h) hR
      · cases h
    · cases h
/-! AlikeStepsModel.partedIn(II)I -/
abbrev c_X11_partedIn : ByteArray := prog_13_method_48_code
def y_X11_partedIn : MethodName := ⟨RX11, "partedIn", "(II)I"⟩
noncomputable def H_X11_partedIn_2 : Nat → Int32 → Int32 → Int32 → pj_M → Option (Int32 × pj_M)
  | 0, _, _, _, _ => none
  | n1 + 1, x1, x2, x3, m => (if (m.1 72 23) < x3 then (some ((-1000000), m)) else ((F_X11_blockIn x3 x1 m).bind fun q1 => ((F_X11_blockIn x3 x2 q1.2).bind fun q2 => (if q1.1 = q2.1 then (H_X11_partedIn_2 n1 x1 x2 (x3 + 1) q2.2) else (some (x3, q2.2))))))
noncomputable def F_X11_partedIn (x1 : Int32) (x2 : Int32) (m : pj_M) : Option (Int32 × pj_M) := (H_X11_partedIn_2 pj_z x1 x2 0 m)
noncomputable def W_X11_partedIn : List pj_V → pj_M → Option (Int32 × pj_M) := fun as m => match as with
  | [.inr (.inr (t0, w0, a0)), .inl x1, .inl x2] => (match Nat.beq t0 0 && (Nat.beq w0 11 && (Nat.beq a0 72)) with
    | true => F_X11_partedIn x1 x2 m
    | false => none)
  | _ => none
noncomputable def tb_X11_partedIn_0 : List (Nat × pj_T (Int32 × pj_M)) := [(0, qs_ci 0 1), (1, qs_sti 3 2), (2, qs_ldi 3 3), (3, qs_lda 0 4), (4, qs_gf 11 23 7), (7, qs_icgt 33 10), (10, qs_lda 0 11), (11, qs_ldi 3 12), (12, qs_ldi 1 13), (13, qs_vI 11 3 W_X11_blockIn 16), (16, qs_lda 0 17), (17, qs_ldi 3 18), (18, qs_ldi 2 19), (19, qs_vI 11 3 W_X11_blockIn 22), (22, qs_iceq 27 25), (25, qs_ldi 3 26), (26, qs_iret), (27, qs_inc 3 1 30), (30, qs_go 2), (33, qs_ci (-1000000) 35), (35, qs_iret)]
noncomputable abbrev tb_X11_partedIn : List (Nat × pj_T (Int32 × pj_M)) := tb_X11_partedIn_0
theorem mv_X11_partedIn : pj_mv y_X11_partedIn c_X11_partedIn 4 (some .int) 2 := ⟨⟨cw_1353, cw_1352, cw_63, cw_92⟩, by decide +kernel, by decide⟩
set_option maxRecDepth 20000 in
theorem sd_X11_partedIn_0 {G : pj_E} {A : Nat → Prop} {P : pj_P} {S : pj_U} {Z : pj_Z} (C : pj_C (G, A, (c_X11_partedIn, y_X11_partedIn.cls, 4, (some .int), 2), P, S, Z)) : ∀ q ∈ tb_X11_partedIn_0, pj_S (G, A, (c_X11_partedIn, y_X11_partedIn.cls, 4, (some .int), 2), P, S, Z) pj_eI q.1 q.2 :=
  List.forall_mem_cons.mpr ⟨qz_iconst C (show decode c_X11_partedIn 0 = .ok (.iconst 0, 1) by decide +kernel) (by decide +kernel),
  List.forall_mem_cons.mpr ⟨qz_istore_n C (show decode c_X11_partedIn 1 = .ok (.istore_n 3, 1) by decide +kernel) rfl,
  List.forall_mem_cons.mpr ⟨qz_iload_n C (show decode c_X11_partedIn 2 = .ok (.iload_n 3, 1) by decide +kernel) rfl,
  List.forall_mem_cons.mpr ⟨qz_aload_n C (show decode c_X11_partedIn 3 = .ok (.aload_n 0, 1) by decide +kernel) rfl,
  List.forall_mem_cons.mpr ⟨qz_gf (k := 23) C (show decode c_X11_partedIn 4 = .ok (.getfield 216, 3) by decide +kernel) vcX11 wiX11 (by decide) cw_1041,
  List.forall_mem_cons.mpr ⟨qz_icgt C (show decode c_X11_partedIn 7 = .ok (.if_icmp .gt 26, 3) by decide +kernel) (by decide),
  List.forall_mem_cons.mpr ⟨qz_aload_n C (show decode c_X11_partedIn 10 = .ok (.aload_n 0, 1) by decide +kernel) rfl,
  List.forall_mem_cons.mpr ⟨qz_iload_n C (show decode c_X11_partedIn 11 = .ok (.iload_n 3, 1) by decide +kernel) rfl,
  List.forall_mem_cons.mpr ⟨qz_iload_n C (show decode c_X11_partedIn 12 = .ok (.iload_n 1, 1) by decide +kernel) rfl,
  List.forall_mem_cons.mpr ⟨qz_vI C (show decode c_X11_partedIn 13 = .ok (.invokevirtual 194, 3) by decide +kernel) ct_X11_blockIn mv_X11_blockIn cw_1312 vcX11 (show 1 < 2 by omega),
  List.forall_mem_cons.mpr ⟨qz_aload_n C (show decode c_X11_partedIn 16 = .ok (.aload_n 0, 1) by decide +kernel) rfl,
  List.forall_mem_cons.mpr ⟨qz_iload_n C (show decode c_X11_partedIn 17 = .ok (.iload_n 3, 1) by decide +kernel) rfl,
  List.forall_mem_cons.mpr ⟨qz_iload_n C (show decode c_X11_partedIn 18 = .ok (.iload_n 2, 1) by decide +kernel) rfl,
  List.forall_mem_cons.mpr ⟨qz_vI C (show decode c_X11_partedIn 19 = .ok (.invokevirtual 194, 3) by decide +kernel) ct_X11_blockIn mv_X11_blockIn cw_1312 vcX11 (show 1 < 2 by omega),
  List.forall_mem_cons.mpr ⟨qz_iceq C (show decode c_X11_partedIn 22 = .ok (.if_icmp .eq 5, 3) by decide +kernel) (by decide),
  List.forall_mem_cons.mpr ⟨qz_iload_n C (show decode c_X11_partedIn 25 = .ok (.iload_n 3, 1) by decide +kernel) rfl,
  List.forall_mem_cons.mpr ⟨qz_iret C (show decode c_X11_partedIn 26 = .ok (.ireturn, 1) by decide +kernel) rfl,
  List.forall_mem_cons.mpr ⟨qz_iinc C (show decode c_X11_partedIn 27 = .ok (.iinc 3 1, 3) by decide +kernel) (by decide +kernel),
  List.forall_mem_cons.mpr ⟨qz_goto C (show decode c_X11_partedIn 30 = .ok (.goto (-28), 3) by decide +kernel) (by decide),
  List.forall_mem_cons.mpr ⟨qz_ldc C (show decode c_X11_partedIn 33 = .ok (.ldc 78, 2) by decide +kernel) cw_1017,
  List.forall_mem_cons.mpr ⟨qz_iret C (show decode c_X11_partedIn 35 = .ok (.ireturn, 1) by decide +kernel) rfl,
  (fun q h => by cases h)⟩⟩⟩⟩⟩⟩⟩⟩⟩⟩⟩⟩⟩⟩⟩⟩⟩⟩⟩⟩⟩
theorem sd_X11_partedIn {G : pj_E} {A : Nat → Prop} {P : pj_P} {S : pj_U} {Z : pj_Z} (C : pj_C (G, A, (c_X11_partedIn, y_X11_partedIn.cls, 4, (some .int), 2), P, S, Z)) : ∀ q ∈ tb_X11_partedIn, pj_S (G, A, (c_X11_partedIn, y_X11_partedIn.cls, 4, (some .int), 2), P, S, Z) pj_eI q.1 q.2 := sd_X11_partedIn_0 C
noncomputable def C_X11_partedIn_2 (f : Int32 → Int32 → Int32 → pj_M → Option (Int32 × pj_M)) : pj_N (Int32 × pj_M) := fun L st m => match L, st with
  | [some (.inr (.inr (t0, w0, a0))), some (.inl x1), some (.inl x2), some (.inl x3)], [] => (match Nat.beq t0 0 && (Nat.beq w0 11 && (Nat.beq a0 72)) with
    | true => f x1 x2 x3 m
    | false => none)
  | _, _ => none
set_option maxRecDepth 20000 in
theorem eq_X11_partedIn_2 (n1 : Nat) (x1 : Int32) (x2 : Int32) (x3 : Int32) (m : pj_M) : pj_run tb_X11_partedIn [(2, C_X11_partedIn_2 (H_X11_partedIn_2 n1))] 23 2 [some (.inr (.inr (0, 11, 72))), some (.inl x1), some (.inl x2), some (.inl x3)] [] m = H_X11_partedIn_2 (n1 + 1) x1 x2 x3 m := by rfl
theorem sg_X11_partedIn_2 {G : pj_E} {A : Nat → Prop} {P : pj_P} {S : pj_U} {Z : pj_Z} (C : pj_C (G, A, (c_X11_partedIn, y_X11_partedIn.cls, 4, (some .int), 2), P, S, Z)) : ∀ n1, pj_G (G, A, (c_X11_partedIn, y_X11_partedIn.cls, 4, (some .int), 2), P, S, Z) pj_eI 2 (C_X11_partedIn_2 (H_X11_partedIn_2 n1)) := by
  intro n1
  induction n1 with
  | zero =>
    intro L st m r h hR
    unfold C_X11_partedIn_2 at h
    split at h
    · split at h
      · cases h
      · cases h
    · cases h
  | succ n1 ih1 =>
    intro L st m r h hR
    unfold C_X11_partedIn_2 at h
    split at h
    · split at h
      · rename_i hbq
        simp only [Bool.and_eq_true, Nat.beq_eq] at hbq
        obtain ⟨rfl, rfl, rfl⟩ := hbq
        exact pj_run_ok (sd_X11_partedIn C) (List.forall_mem_cons.mpr ⟨ih1, fun q h => by cases h⟩) 23 2 _ _ _ _ ((eq_X11_partedIn_2 _ _ _ _ _).trans h) hR
      · cases h
    · cases h
set_option maxRecDepth 20000 in
theorem eq_X11_partedIn (x1 : Int32) (x2 : Int32) (m : pj_M) : pj_run tb_X11_partedIn [(2, C_X11_partedIn_2 (H_X11_partedIn_2  pj_z))] 23 0 [some (.inr (.inr (0, 11, 72))), some (.inl x1), some (.inl x2), none] [] m = F_X11_partedIn x1 x2 m := by rfl
theorem ct_X11_partedIn : pj_Ct pj_eI y_X11_partedIn c_X11_partedIn 4 (some .int) 2 W_X11_partedIn := by
  refine pj_ct_of (by decide +kernel) ?_ ?_
  · intro as m r h
    unfold W_X11_partedIn at h
    split at h
    · simp [pj_l0]
    · cases h
  · intro G A P S Z C as m r h hR
    unfold W_X11_partedIn at h
    split at h
    · split at h
      · rename_i hbq
        simp only [Bool.and_eq_true, Nat.beq_eq] at hbq
        obtain ⟨rfl, rfl, rfl⟩ := hbq
        exact pj_run_ok (sd_X11_partedIn C) (List.forall_mem_cons.mpr ⟨sg_X11_partedIn_2 C  pj_z, fun q h => by cases h⟩) 23 0 _ _ _ _ ((eq_X11_partedIn _ _ _).trans h) hR
      · cases h
    · cases h
/-! AlikeStepsModel.notes()V -/
abbrev c_X11_notes : ByteArray := prog_13_method_49_code
def y_X11_notes : MethodName := ⟨RX11, "notes", "()V"⟩
noncomputable def J_X11_notes_49 (m : pj_M) : Option (pj_M) := ((F_X11_copies 72 78 0 1440 80 (72 * (m.1 72 16)) m).bind fun q1 => (some (pj_wr q1 72 16 ((q1.1 72 16) + 1))))
noncomputable def J_X11_notes_39 (m : pj_M) : Option (pj_M) := (J_X11_notes_49 (pj_wr m 72 16 ((m.1 72 16) - 1)))
noncomputable def H_X11_notes_11 : Nat → Int32 → pj_M → Option (pj_M)
  | 0, _, _ => none
  | n1 + 1, x1, m => (if x1 < 1368 then (if (x1 + 72) < 0 ∨ 1440 ≤ (x1 + 72).toNatClampNeg then none else (if x1 < 0 ∨ 1440 ≤ x1.toNatClampNeg then none else (H_X11_notes_11 n1 (x1 + 1) (pj_wr m 80 x1.toNatClampNeg (m.1 80 (x1 + 72).toNatClampNeg))))) else (J_X11_notes_39 m))
noncomputable def F_X11_notes (m : pj_M) : Option (pj_M) := (if (m.1 72 16) = 20 then (H_X11_notes_11 pj_z 0 m) else (J_X11_notes_49 m))
noncomputable def W_X11_notes : List pj_V → pj_M → Option (pj_M) := fun as m => match as with
  | [.inr (.inr (t0, w0, a0))] => (match Nat.beq t0 0 && (Nat.beq w0 11 && (Nat.beq a0 72)) with
    | true => F_X11_notes m
    | false => none)
  | _ => none
noncomputable def tb_X11_notes_0 : List (Nat × pj_T (pj_M)) := [(0, qs_lda 0 1), (1, qs_gf 11 16 4), (4, qs_ci 20 6), (6, qs_icne 49 9), (9, qs_ci 0 10), (10, qs_sti 1 11), (11, qs_ldi 1 12), (12, qs_ci 1368 15), (15, qs_icge 39 18), (18, qs_lda 0 19), (19, qs_gf 11 15 22), (22, qs_ldi 1 23), (23, qs_lda 0 24), (24, qs_gf 11 15 27), (27, qs_ldi 1 28), (28, qs_ci 72 30), (30, qs_b2 (fun x y => x + y) 31), (31, qs_iald 32), (32, qs_iast 33), (33, qs_inc 1 1 36), (36, qs_go 11), (39, qs_lda 0 40), (40, qs_dup 41), (41, qs_gf 11 16 44), (44, qs_ci 1 45), (45, qs_b2 (fun x y => x - y) 46), (46, qs_pf 11 16 49), (49, qs_lda 0 50), (50, qs_gf 11 13 53), (53, qs_ci 0 54), (54, qs_lda 0 55), (55, qs_gf 11 15 58), (58, qs_ci 72 60), (60, qs_lda 0 61), (61, qs_gf 11 16 64), (64, qs_b2 (fun x y => x * y) 65), (65, qs_sV 4 W_X11_copies 68), (68, qs_lda 0 69), (69, qs_dup 70), (70, qs_gf 11 16 73)]
noncomputable def tb_X11_notes_1 : List (Nat × pj_T (pj_M)) := [(73, qs_ci 1 74), (74, qs_b2 (fun x y => x + y) 75), (75, qs_pf 11 16 78), (78, qs_vret)]
noncomputable def tb_X11_notes : List (Nat × pj_T (pj_M)) := tb_X11_notes_0 ++ (tb_X11_notes_1)
theorem mv_X11_notes : pj_mv y_X11_notes c_X11_notes 2 none 0 := ⟨⟨cw_1231, cw_1230, cw_45, cw_92⟩, by decide +kernel, by decide⟩
set_option maxRecDepth 20000 in
theorem sd_X11_notes_0 {G : pj_E} {A : Nat → Prop} {P : pj_P} {S : pj_U} {Z : pj_Z} (C : pj_C (G, A, (c_X11_notes, y_X11_notes.cls, 2, none, 2), P, S, Z)) : ∀ q ∈ tb_X11_notes_0, pj_S (G, A, (c_X11_notes, y_X11_notes.cls, 2, none, 2), P, S, Z) pj_eV q.1 q.2 :=
  List.forall_mem_cons.mpr ⟨qz_aload_n C (show decode c_X11_notes 0 = .ok (.aload_n 0, 1) by decide +kernel) rfl,
  List.forall_mem_cons.mpr ⟨qz_gf (k := 16) C (show decode c_X11_notes 1 = .ok (.getfield 170, 3) by decide +kernel) vcX11 wiX11 (by decide) cw_1034,
  List.forall_mem_cons.mpr ⟨qz_bipush C (show decode c_X11_notes 4 = .ok (.bipush 20, 2) by decide +kernel) (by decide +kernel),
  List.forall_mem_cons.mpr ⟨qz_icne C (show decode c_X11_notes 6 = .ok (.if_icmp .ne 43, 3) by decide +kernel) (by decide),
  List.forall_mem_cons.mpr ⟨qz_iconst C (show decode c_X11_notes 9 = .ok (.iconst 0, 1) by decide +kernel) (by decide +kernel),
  List.forall_mem_cons.mpr ⟨qz_istore_n C (show decode c_X11_notes 10 = .ok (.istore_n 1, 1) by decide +kernel) rfl,
  List.forall_mem_cons.mpr ⟨qz_iload_n C (show decode c_X11_notes 11 = .ok (.iload_n 1, 1) by decide +kernel) rfl,
  List.forall_mem_cons.mpr ⟨qz_sipush C (show decode c_X11_notes 12 = .ok (.sipush 1368, 3) by decide +kernel) (by decide +kernel),
  List.forall_mem_cons.mpr ⟨qz_icge C (show decode c_X11_notes 15 = .ok (.if_icmp .ge 24, 3) by decide +kernel) (by decide),
  List.forall_mem_cons.mpr ⟨qz_aload_n C (show decode c_X11_notes 18 = .ok (.aload_n 0, 1) by decide +kernel) rfl,
  List.forall_mem_cons.mpr ⟨qz_gf (k := 15) C (show decode c_X11_notes 19 = .ok (.getfield 31, 3) by decide +kernel) vcX11 wiX11 (by decide) cw_1033,
  List.forall_mem_cons.mpr ⟨qz_iload_n C (show decode c_X11_notes 22 = .ok (.iload_n 1, 1) by decide +kernel) rfl,
  List.forall_mem_cons.mpr ⟨qz_aload_n C (show decode c_X11_notes 23 = .ok (.aload_n 0, 1) by decide +kernel) rfl,
  List.forall_mem_cons.mpr ⟨qz_gf (k := 15) C (show decode c_X11_notes 24 = .ok (.getfield 31, 3) by decide +kernel) vcX11 wiX11 (by decide) cw_1033,
  List.forall_mem_cons.mpr ⟨qz_iload_n C (show decode c_X11_notes 27 = .ok (.iload_n 1, 1) by decide +kernel) rfl,
  List.forall_mem_cons.mpr ⟨qz_bipush C (show decode c_X11_notes 28 = .ok (.bipush 72, 2) by decide +kernel) (by decide +kernel),
  List.forall_mem_cons.mpr ⟨qz_iadd C (show decode c_X11_notes 30 = .ok (.iadd, 1) by decide +kernel),
  List.forall_mem_cons.mpr ⟨qz_iald C (show decode c_X11_notes 31 = .ok (.iaload, 1) by decide +kernel),
  List.forall_mem_cons.mpr ⟨qz_iast C (show decode c_X11_notes 32 = .ok (.iastore, 1) by decide +kernel),
  List.forall_mem_cons.mpr ⟨qz_iinc C (show decode c_X11_notes 33 = .ok (.iinc 1 1, 3) by decide +kernel) (by decide +kernel),
  List.forall_mem_cons.mpr ⟨qz_goto C (show decode c_X11_notes 36 = .ok (.goto (-25), 3) by decide +kernel) (by decide),
  List.forall_mem_cons.mpr ⟨qz_aload_n C (show decode c_X11_notes 39 = .ok (.aload_n 0, 1) by decide +kernel) rfl,
  List.forall_mem_cons.mpr ⟨qz_dup C (show decode c_X11_notes 40 = .ok (.dup, 1) by decide +kernel),
  List.forall_mem_cons.mpr ⟨qz_gf (k := 16) C (show decode c_X11_notes 41 = .ok (.getfield 170, 3) by decide +kernel) vcX11 wiX11 (by decide) cw_1034,
  List.forall_mem_cons.mpr ⟨qz_iconst C (show decode c_X11_notes 44 = .ok (.iconst 1, 1) by decide +kernel) (by decide +kernel),
  List.forall_mem_cons.mpr ⟨qz_isub C (show decode c_X11_notes 45 = .ok (.isub, 1) by decide +kernel),
  List.forall_mem_cons.mpr ⟨qz_pf (k := 16) C (show decode c_X11_notes 46 = .ok (.putfield 170, 3) by decide +kernel) vcX11 wiX11 tyX11_ok nmX11 (by decide) cw_1034 rfl rfl,
  List.forall_mem_cons.mpr ⟨qz_aload_n C (show decode c_X11_notes 49 = .ok (.aload_n 0, 1) by decide +kernel) rfl,
  List.forall_mem_cons.mpr ⟨qz_gf (k := 13) C (show decode c_X11_notes 50 = .ok (.getfield 25, 3) by decide +kernel) vcX11 wiX11 (by decide) cw_1031,
  List.forall_mem_cons.mpr ⟨qz_iconst C (show decode c_X11_notes 53 = .ok (.iconst 0, 1) by decide +kernel) (by decide +kernel),
  List.forall_mem_cons.mpr ⟨qz_aload_n C (show decode c_X11_notes 54 = .ok (.aload_n 0, 1) by decide +kernel) rfl,
  List.forall_mem_cons.mpr ⟨qz_gf (k := 15) C (show decode c_X11_notes 55 = .ok (.getfield 31, 3) by decide +kernel) vcX11 wiX11 (by decide) cw_1033,
  List.forall_mem_cons.mpr ⟨qz_bipush C (show decode c_X11_notes 58 = .ok (.bipush 72, 2) by decide +kernel) (by decide +kernel),
  List.forall_mem_cons.mpr ⟨qz_aload_n C (show decode c_X11_notes 60 = .ok (.aload_n 0, 1) by decide +kernel) rfl,
  List.forall_mem_cons.mpr ⟨qz_gf (k := 16) C (show decode c_X11_notes 61 = .ok (.getfield 170, 3) by decide +kernel) vcX11 wiX11 (by decide) cw_1034,
  List.forall_mem_cons.mpr ⟨qz_imul C (show decode c_X11_notes 64 = .ok (.imul, 1) by decide +kernel),
  List.forall_mem_cons.mpr ⟨qz_sV C (show decode c_X11_notes 65 = .ok (.invokestatic 166, 3) by decide +kernel) ct_X11_copies mv_X11_copies (Or.inl cw_1210) (show 1 < 2 by omega),
  List.forall_mem_cons.mpr ⟨qz_aload_n C (show decode c_X11_notes 68 = .ok (.aload_n 0, 1) by decide +kernel) rfl,
  List.forall_mem_cons.mpr ⟨qz_dup C (show decode c_X11_notes 69 = .ok (.dup, 1) by decide +kernel),
  List.forall_mem_cons.mpr ⟨qz_gf (k := 16) C (show decode c_X11_notes 70 = .ok (.getfield 170, 3) by decide +kernel) vcX11 wiX11 (by decide) cw_1034,
  (fun q h => by cases h)⟩⟩⟩⟩⟩⟩⟩⟩⟩⟩⟩⟩⟩⟩⟩⟩⟩⟩⟩⟩⟩⟩⟩⟩⟩⟩⟩⟩⟩⟩⟩⟩⟩⟩⟩⟩⟩⟩⟩⟩
set_option maxRecDepth 20000 in
theorem sd_X11_notes_1 {G : pj_E} {A : Nat → Prop} {P : pj_P} {S : pj_U} {Z : pj_Z} (C : pj_C (G, A, (c_X11_notes, y_X11_notes.cls, 2, none, 2), P, S, Z)) : ∀ q ∈ tb_X11_notes_1, pj_S (G, A, (c_X11_notes, y_X11_notes.cls, 2, none, 2), P, S, Z) pj_eV q.1 q.2 :=
  List.forall_mem_cons.mpr ⟨qz_iconst C (show decode c_X11_notes 73 = .ok (.iconst 1, 1) by decide +kernel) (by decide +kernel),
  List.forall_mem_cons.mpr ⟨qz_iadd C (show decode c_X11_notes 74 = .ok (.iadd, 1) by decide +kernel),
  List.forall_mem_cons.mpr ⟨qz_pf (k := 16) C (show decode c_X11_notes 75 = .ok (.putfield 170, 3) by decide +kernel) vcX11 wiX11 tyX11_ok nmX11 (by decide) cw_1034 rfl rfl,
  List.forall_mem_cons.mpr ⟨qz_vret C (show decode c_X11_notes 78 = .ok (.return_, 1) by decide +kernel) rfl,
  (fun q h => by cases h)⟩⟩⟩⟩
theorem sd_X11_notes {G : pj_E} {A : Nat → Prop} {P : pj_P} {S : pj_U} {Z : pj_Z} (C : pj_C (G, A, (c_X11_notes, y_X11_notes.cls, 2, none, 2), P, S, Z)) : ∀ q ∈ tb_X11_notes, pj_S (G, A, (c_X11_notes, y_X11_notes.cls, 2, none, 2), P, S, Z) pj_eV q.1 q.2 := List.forall_mem_append.mpr ⟨sd_X11_notes_0 C, sd_X11_notes_1 C⟩
noncomputable def C_X11_notes_49 (f : pj_M → Option (pj_M)) : pj_N (pj_M) := fun L st m => match L, st with
  | [some (.inr (.inr (t0, w0, a0))), _], [] => (match Nat.beq t0 0 && (Nat.beq w0 11 && (Nat.beq a0 72)) with
    | true => f m
    | false => none)
  | _, _ => none
noncomputable def C_X11_notes_39 (f : pj_M → Option (pj_M)) : pj_N (pj_M) := fun L st m => match L, st with
  | [some (.inr (.inr (t0, w0, a0))), _], [] => (match Nat.beq t0 0 && (Nat.beq w0 11 && (Nat.beq a0 72)) with
    | true => f m
    | false => none)
  | _, _ => none
noncomputable def C_X11_notes_11 (f : Int32 → pj_M → Option (pj_M)) : pj_N (pj_M) := fun L st m => match L, st with
  | [some (.inr (.inr (t0, w0, a0))), some (.inl x1)], [] => (match Nat.beq t0 0 && (Nat.beq w0 11 && (Nat.beq a0 72)) with
    | true => f x1 m
    | false => none)
  | _, _ => none
set_option maxRecDepth 20000 in
theorem eq_X11_notes_49 (d1 : Option pj_V) (m : pj_M) : pj_run tb_X11_notes [] 46 49 [some (.inr (.inr (0, 11, 72))), d1] [] m = J_X11_notes_49  m := by rfl
theorem sg_X11_notes_49 {G : pj_E} {A : Nat → Prop} {P : pj_P} {S : pj_U} {Z : pj_Z} (C : pj_C (G, A, (c_X11_notes, y_X11_notes.cls, 2, none, 2), P, S, Z)) : pj_G (G, A, (c_X11_notes, y_X11_notes.cls, 2, none, 2), P, S, Z) pj_eV 49 (C_X11_notes_49 (J_X11_notes_49)) := by
  intro L st m r h hR
  unfold C_X11_notes_49 at h
  split at h
  · split at h
    · rename_i hbq
      simp only [Bool.and_eq_true, Nat.beq_eq] at hbq
      obtain ⟨rfl, rfl, rfl⟩ := hbq
      exact pj_run_ok (sd_X11_notes C) (fun q h => by cases h) 46 49 _ _ _ _ ((eq_X11_notes_49 _ _).trans h) hR
    · cases h
  · cases h
set_option maxRecDepth 20000 in
theorem eq_X11_notes_39 (d1 : Option pj_V) (m : pj_M) : pj_run tb_X11_notes [(49, C_X11_notes_49 (J_X11_notes_49 ))] 46 39 [some (.inr (.inr (0, 11, 72))), d1] [] m = J_X11_notes_39  m := by rfl
theorem sg_X11_notes_39 {G : pj_E} {A : Nat → Prop} {P : pj_P} {S : pj_U} {Z : pj_Z} (C : pj_C (G, A, (c_X11_notes, y_X11_notes.cls, 2, none, 2), P, S, Z)) : pj_G (G, A, (c_X11_notes, y_X11_notes.cls, 2, none, 2), P, S, Z) pj_eV 39 (C_X11_notes_39 (J_X11_notes_39)) := by
  intro L st m r h hR
  unfold C_X11_notes_39 at h
  split at h
  · split at h
    · rename_i hbq
      simp only [Bool.and_eq_true, Nat.beq_eq] at hbq
      obtain ⟨rfl, rfl, rfl⟩ := hbq
      exact pj_run_ok (sd_X11_notes C) (List.forall_mem_cons.mpr ⟨sg_X11_notes_49 C , fun q h => by cases h⟩) 46 39 _ _ _ _ ((eq_X11_notes_39 _ _).trans h) hR
    · cases h
  · cases h
set_option maxRecDepth 20000 in
theorem eq_X11_notes_11 (n1 : Nat) (x1 : Int32) (m : pj_M) : pj_run tb_X11_notes [(11, C_X11_notes_11 (H_X11_notes_11 n1)), (39, C_X11_notes_39 (J_X11_notes_39 ))] 46 11 [some (.inr (.inr (0, 11, 72))), some (.inl x1)] [] m = H_X11_notes_11 (n1 + 1) x1 m := by rfl
theorem sg_X11_notes_11 {G : pj_E} {A : Nat → Prop} {P : pj_P} {S : pj_U} {Z : pj_Z} (C : pj_C (G, A, (c_X11_notes, y_X11_notes.cls, 2, none, 2), P, S, Z)) : ∀ n1, pj_G (G, A, (c_X11_notes, y_X11_notes.cls, 2, none, 2), P, S, Z) pj_eV 11 (C_X11_notes_11 (H_X11_notes_11 n1)) := by
  intro n1
  induction n1 with
  | zero =>
    intro L st m r h hR
    unfold C_X11_notes_11 at h
    split at h
    · split at h
      · cases h
      · cases h
    · cases h
  | succ n1 ih1 =>
    intro L st m r h hR
    unfold C_X11_notes_11 at h
    split at h
    · split at h
      · rename_i hbq
        simp only [Bool.and_eq_true, Nat.beq_eq] at hbq
        obtain ⟨rfl, rfl, rfl⟩ := hbq
        exact pj_run_ok (sd_X11_notes C) (List.forall_mem_cons.mpr ⟨ih1, List.forall_mem_cons.mpr ⟨sg_X11_notes_39 C , fun q h => by cases h⟩⟩) 46 11 _ _ _ _ ((eq_X11_notes_11 _ _ _).trans h) hR
      · cases h
    · cases h
set_option maxRecDepth 20000 in
theorem eq_X11_notes (m : pj_M) : pj_run tb_X11_notes [(11, C_X11_notes_11 (H_X11_notes_11  pj_z)), (49, C_X11_notes_49 (J_X11_notes_49 ))] 46 0 [some (.inr (.inr (0, 11, 72))), none] [] m = F_X11_notes m := by rfl
theorem ct_X11_notes : pj_Ct pj_eV y_X11_notes c_X11_notes 2 none 2 W_X11_notes := by
  refine pj_ct_of (by decide +kernel) ?_ ?_
  · intro as m r h
    unfold W_X11_notes at h
    split at h
    · simp [pj_l0]
    · cases h
  · intro G A P S Z C as m r h hR
    unfold W_X11_notes at h
    split at h
    · split at h
      · rename_i hbq
        simp only [Bool.and_eq_true, Nat.beq_eq] at hbq
        obtain ⟨rfl, rfl, rfl⟩ := hbq
        exact pj_run_ok (sd_X11_notes C) (List.forall_mem_cons.mpr ⟨sg_X11_notes_11 C  pj_z, List.forall_mem_cons.mpr ⟨sg_X11_notes_49 C , fun q h => by cases h⟩⟩) 46 0 _ _ _ _ ((eq_X11_notes _).trans h) hR
      · cases h
    · cases h
/-! AlikeStepsModel.lay(III)I -/
abbrev c_X11_lay : ByteArray := prog_13_method_50_code
def y_X11_lay : MethodName := ⟨RX11, "lay", "(III)I"⟩
noncomputable def F_X11_lay (x1 : Int32) (x2 : Int32) (x3 : Int32) (m : pj_M) : Option (Int32 × pj_M) := ((F_X11_isLetter x1 m).bind fun q1 => (if q1.1 = 0 then (some ((-1000001), q1.2)) else ((F_X11_isState x2 q1.2).bind fun q2 => (if q2.1 = 0 then (some ((-1000001), q2.2)) else ((F_X11_isState x3 q2.2).bind fun q3 => (if q3.1 = 0 then (some ((-1000001), q3.2)) else (if (1 : Int32) < 0 ∨ 72 ≤ (1 : Int32).toNatClampNeg then none else (if (q3.2.1 78 (1 : Int32).toNatClampNeg) = 20 then (some ((-1000003), q3.2)) else ((F_X11_notes q3.2).bind fun q4 => (if (1 : Int32) < 0 ∨ 72 ≤ (1 : Int32).toNatClampNeg then none else (if (12 + (3 * (q4.1 78 (1 : Int32).toNatClampNeg))) < 0 ∨ 72 ≤ (12 + (3 * (q4.1 78 (1 : Int32).toNatClampNeg))).toNatClampNeg then none else (if ((12 + (3 * (q4.1 78 (1 : Int32).toNatClampNeg))) + 1) < 0 ∨ 72 ≤ ((12 + (3 * (q4.1 78 (1 : Int32).toNatClampNeg))) + 1).toNatClampNeg then none else (if ((12 + (3 * (q4.1 78 (1 : Int32).toNatClampNeg))) + 2) < 0 ∨ 72 ≤ ((12 + (3 * (q4.1 78 (1 : Int32).toNatClampNeg))) + 2).toNatClampNeg then none else (if (1 : Int32) < 0 ∨ 72 ≤ (1 : Int32).toNatClampNeg then none else (if (1 : Int32) < 0 ∨ 72 ≤ (1 : Int32).toNatClampNeg then none else (if (1 : Int32) < 0 ∨ 72 ≤ (1 : Int32).toNatClampNeg then none else (some ((pj_wr (pj_wr (pj_wr (pj_wr q4 78 (12 + (3 * (q4.1 78 (1 : Int32).toNatClampNeg))).toNatClampNeg x1) 78 ((12 + (3 * (q4.1 78 (1 : Int32).toNatClampNeg))) + 1).toNatClampNeg x2) 78 ((12 + (3 * (q4.1 78 (1 : Int32).toNatClampNeg))) + 2).toNatClampNeg x3) 78 (1 : Int32).toNatClampNeg (((pj_wr (pj_wr (pj_wr q4 78 (12 + (3 * (q4.1 78 (1 : Int32).toNatClampNeg))).toNatClampNeg x1) 78 ((12 + (3 * (q4.1 78 (1 : Int32).toNatClampNeg))) + 1).toNatClampNeg x2) 78 ((12 + (3 * (q4.1 78 (1 : Int32).toNatClampNeg))) + 2).toNatClampNeg x3).1 78 (1 : Int32).toNatClampNeg) + 1)).1 78 (1 : Int32).toNatClampNeg, (pj_wr (pj_wr (pj_wr (pj_wr q4 78 (12 + (3 * (q4.1 78 (1 : Int32).toNatClampNeg))).toNatClampNeg x1) 78 ((12 + (3 * (q4.1 78 (1 : Int32).toNatClampNeg))) + 1).toNatClampNeg x2) 78 ((12 + (3 * (q4.1 78 (1 : Int32).toNatClampNeg))) + 2).toNatClampNeg x3) 78 (1 : Int32).toNatClampNeg (((pj_wr (pj_wr (pj_wr q4 78 (12 + (3 * (q4.1 78 (1 : Int32).toNatClampNeg))).toNatClampNeg x1) 78 ((12 + (3 * (q4.1 78 (1 : Int32).toNatClampNeg))) + 1).toNatClampNeg x2) 78 ((12 + (3 * (q4.1 78 (1 : Int32).toNatClampNeg))) + 2).toNatClampNeg x3).1 78 (1 : Int32).toNatClampNeg) + 1))))))))))))))))))))
noncomputable def W_X11_lay : List pj_V → pj_M → Option (Int32 × pj_M) := fun as m => match as with
  | [.inr (.inr (t0, w0, a0)), .inl x1, .inl x2, .inl x3] => (match Nat.beq t0 0 && (Nat.beq w0 11 && (Nat.beq a0 72)) with
    | true => F_X11_lay x1 x2 x3 m
    | false => none)
  | _ => none
noncomputable def tb_X11_lay_0 : List (Nat × pj_T (Int32 × pj_M)) := [(0, qs_ldi 1 1), (1, qs_sI 1 W_X11_isLetter 4), (4, qs_ifeq 23 7), (7, qs_lda 0 8), (8, qs_ldi 2 9), (9, qs_vI 11 2 W_X11_isState 12), (12, qs_ifeq 23 15), (15, qs_lda 0 16), (16, qs_ldi 3 17), (17, qs_vI 11 2 W_X11_isState 20), (20, qs_ifne 26 23), (23, qs_ci (-1000001) 25), (25, qs_iret), (26, qs_lda 0 27), (27, qs_gf 11 13 30), (30, qs_ci 1 31), (31, qs_iald 32), (32, qs_ci 20 34), (34, qs_icne 40 37), (37, qs_ci (-1000003) 39), (39, qs_iret), (40, qs_lda 0 41), (41, qs_vV 11 1 W_X11_notes 44), (44, qs_ci 12 46), (46, qs_ci 3 47), (47, qs_lda 0 48), (48, qs_gf 11 13 51), (51, qs_ci 1 52), (52, qs_iald 53), (53, qs_b2 (fun x y => x * y) 54), (54, qs_b2 (fun x y => x + y) 55), (55, qs_sti 4 57), (57, qs_lda 0 58), (58, qs_gf 11 13 61), (61, qs_ldi 4 63), (63, qs_ldi 1 64), (64, qs_iast 65), (65, qs_lda 0 66), (66, qs_gf 11 13 69), (69, qs_ldi 4 71)]
noncomputable def tb_X11_lay_1 : List (Nat × pj_T (Int32 × pj_M)) := [(71, qs_ci 1 72), (72, qs_b2 (fun x y => x + y) 73), (73, qs_ldi 2 74), (74, qs_iast 75), (75, qs_lda 0 76), (76, qs_gf 11 13 79), (79, qs_ldi 4 81), (81, qs_ci 2 82), (82, qs_b2 (fun x y => x + y) 83), (83, qs_ldi 3 84), (84, qs_iast 85), (85, qs_lda 0 86), (86, qs_gf 11 13 89), (89, qs_ci 1 90), (90, qs_dup2 91), (91, qs_iald 92), (92, qs_ci 1 93), (93, qs_b2 (fun x y => x + y) 94), (94, qs_iast 95), (95, qs_lda 0 96), (96, qs_gf 11 13 99), (99, qs_ci 1 100), (100, qs_iald 101), (101, qs_iret)]
noncomputable def tb_X11_lay : List (Nat × pj_T (Int32 × pj_M)) := tb_X11_lay_0 ++ (tb_X11_lay_1)
theorem mv_X11_lay : pj_mv y_X11_lay c_X11_lay 5 (some .int) 3 := ⟨⟨cw_1220, cw_1218, cw_1219, cw_92⟩, by decide +kernel, by decide⟩
set_option maxRecDepth 20000 in
theorem sd_X11_lay_0 {G : pj_E} {A : Nat → Prop} {P : pj_P} {S : pj_U} {Z : pj_Z} (C : pj_C (G, A, (c_X11_lay, y_X11_lay.cls, 5, (some .int), 3), P, S, Z)) : ∀ q ∈ tb_X11_lay_0, pj_S (G, A, (c_X11_lay, y_X11_lay.cls, 5, (some .int), 3), P, S, Z) pj_eI q.1 q.2 :=
  List.forall_mem_cons.mpr ⟨qz_iload_n C (show decode c_X11_lay 0 = .ok (.iload_n 1, 1) by decide +kernel) rfl,
  List.forall_mem_cons.mpr ⟨qz_sI C (show decode c_X11_lay 1 = .ok (.invokestatic 222, 3) by decide +kernel) ct_X11_isLetter mv_X11_isLetter (Or.inl cw_1221) (show 2 < 3 by omega),
  List.forall_mem_cons.mpr ⟨qz_ifeq C (show decode c_X11_lay 4 = .ok (.ifCond .eq 19, 3) by decide +kernel) (by decide),
  List.forall_mem_cons.mpr ⟨qz_aload_n C (show decode c_X11_lay 7 = .ok (.aload_n 0, 1) by decide +kernel) rfl,
  List.forall_mem_cons.mpr ⟨qz_iload_n C (show decode c_X11_lay 8 = .ok (.iload_n 2, 1) by decide +kernel) rfl,
  List.forall_mem_cons.mpr ⟨qz_vI C (show decode c_X11_lay 9 = .ok (.invokevirtual 225, 3) by decide +kernel) ct_X11_isState mv_X11_isState cw_1224 vcX11 (show 2 < 3 by omega),
  List.forall_mem_cons.mpr ⟨qz_ifeq C (show decode c_X11_lay 12 = .ok (.ifCond .eq 11, 3) by decide +kernel) (by decide),
  List.forall_mem_cons.mpr ⟨qz_aload_n C (show decode c_X11_lay 15 = .ok (.aload_n 0, 1) by decide +kernel) rfl,
  List.forall_mem_cons.mpr ⟨qz_iload_n C (show decode c_X11_lay 16 = .ok (.iload_n 3, 1) by decide +kernel) rfl,
  List.forall_mem_cons.mpr ⟨qz_vI C (show decode c_X11_lay 17 = .ok (.invokevirtual 225, 3) by decide +kernel) ct_X11_isState mv_X11_isState cw_1224 vcX11 (show 2 < 3 by omega),
  List.forall_mem_cons.mpr ⟨qz_ifne C (show decode c_X11_lay 20 = .ok (.ifCond .ne 6, 3) by decide +kernel) (by decide),
  List.forall_mem_cons.mpr ⟨qz_ldc C (show decode c_X11_lay 23 = .ok (.ldc 92, 2) by decide +kernel) cw_1129,
  List.forall_mem_cons.mpr ⟨qz_iret C (show decode c_X11_lay 25 = .ok (.ireturn, 1) by decide +kernel) rfl,
  List.forall_mem_cons.mpr ⟨qz_aload_n C (show decode c_X11_lay 26 = .ok (.aload_n 0, 1) by decide +kernel) rfl,
  List.forall_mem_cons.mpr ⟨qz_gf (k := 13) C (show decode c_X11_lay 27 = .ok (.getfield 25, 3) by decide +kernel) vcX11 wiX11 (by decide) cw_1031,
  List.forall_mem_cons.mpr ⟨qz_iconst C (show decode c_X11_lay 30 = .ok (.iconst 1, 1) by decide +kernel) (by decide +kernel),
  List.forall_mem_cons.mpr ⟨qz_iald C (show decode c_X11_lay 31 = .ok (.iaload, 1) by decide +kernel),
  List.forall_mem_cons.mpr ⟨qz_bipush C (show decode c_X11_lay 32 = .ok (.bipush 20, 2) by decide +kernel) (by decide +kernel),
  List.forall_mem_cons.mpr ⟨qz_icne C (show decode c_X11_lay 34 = .ok (.if_icmp .ne 6, 3) by decide +kernel) (by decide),
  List.forall_mem_cons.mpr ⟨qz_ldc C (show decode c_X11_lay 37 = .ok (.ldc 113, 2) by decide +kernel) cw_1166,
  List.forall_mem_cons.mpr ⟨qz_iret C (show decode c_X11_lay 39 = .ok (.ireturn, 1) by decide +kernel) rfl,
  List.forall_mem_cons.mpr ⟨qz_aload_n C (show decode c_X11_lay 40 = .ok (.aload_n 0, 1) by decide +kernel) rfl,
  List.forall_mem_cons.mpr ⟨qz_vV C (show decode c_X11_lay 41 = .ok (.invokevirtual 228, 3) by decide +kernel) ct_X11_notes mv_X11_notes cw_1228 vcX11 (show 2 < 3 by omega),
  List.forall_mem_cons.mpr ⟨qz_bipush C (show decode c_X11_lay 44 = .ok (.bipush 12, 2) by decide +kernel) (by decide +kernel),
  List.forall_mem_cons.mpr ⟨qz_iconst C (show decode c_X11_lay 46 = .ok (.iconst 3, 1) by decide +kernel) (by decide +kernel),
  List.forall_mem_cons.mpr ⟨qz_aload_n C (show decode c_X11_lay 47 = .ok (.aload_n 0, 1) by decide +kernel) rfl,
  List.forall_mem_cons.mpr ⟨qz_gf (k := 13) C (show decode c_X11_lay 48 = .ok (.getfield 25, 3) by decide +kernel) vcX11 wiX11 (by decide) cw_1031,
  List.forall_mem_cons.mpr ⟨qz_iconst C (show decode c_X11_lay 51 = .ok (.iconst 1, 1) by decide +kernel) (by decide +kernel),
  List.forall_mem_cons.mpr ⟨qz_iald C (show decode c_X11_lay 52 = .ok (.iaload, 1) by decide +kernel),
  List.forall_mem_cons.mpr ⟨qz_imul C (show decode c_X11_lay 53 = .ok (.imul, 1) by decide +kernel),
  List.forall_mem_cons.mpr ⟨qz_iadd C (show decode c_X11_lay 54 = .ok (.iadd, 1) by decide +kernel),
  List.forall_mem_cons.mpr ⟨qz_istore C (show decode c_X11_lay 55 = .ok (.istore 4, 2) by decide +kernel),
  List.forall_mem_cons.mpr ⟨qz_aload_n C (show decode c_X11_lay 57 = .ok (.aload_n 0, 1) by decide +kernel) rfl,
  List.forall_mem_cons.mpr ⟨qz_gf (k := 13) C (show decode c_X11_lay 58 = .ok (.getfield 25, 3) by decide +kernel) vcX11 wiX11 (by decide) cw_1031,
  List.forall_mem_cons.mpr ⟨qz_iload C (show decode c_X11_lay 61 = .ok (.iload 4, 2) by decide +kernel),
  List.forall_mem_cons.mpr ⟨qz_iload_n C (show decode c_X11_lay 63 = .ok (.iload_n 1, 1) by decide +kernel) rfl,
  List.forall_mem_cons.mpr ⟨qz_iast C (show decode c_X11_lay 64 = .ok (.iastore, 1) by decide +kernel),
  List.forall_mem_cons.mpr ⟨qz_aload_n C (show decode c_X11_lay 65 = .ok (.aload_n 0, 1) by decide +kernel) rfl,
  List.forall_mem_cons.mpr ⟨qz_gf (k := 13) C (show decode c_X11_lay 66 = .ok (.getfield 25, 3) by decide +kernel) vcX11 wiX11 (by decide) cw_1031,
  List.forall_mem_cons.mpr ⟨qz_iload C (show decode c_X11_lay 69 = .ok (.iload 4, 2) by decide +kernel),
  (fun q h => by cases h)⟩⟩⟩⟩⟩⟩⟩⟩⟩⟩⟩⟩⟩⟩⟩⟩⟩⟩⟩⟩⟩⟩⟩⟩⟩⟩⟩⟩⟩⟩⟩⟩⟩⟩⟩⟩⟩⟩⟩⟩
set_option maxRecDepth 20000 in
theorem sd_X11_lay_1 {G : pj_E} {A : Nat → Prop} {P : pj_P} {S : pj_U} {Z : pj_Z} (C : pj_C (G, A, (c_X11_lay, y_X11_lay.cls, 5, (some .int), 3), P, S, Z)) : ∀ q ∈ tb_X11_lay_1, pj_S (G, A, (c_X11_lay, y_X11_lay.cls, 5, (some .int), 3), P, S, Z) pj_eI q.1 q.2 :=
  List.forall_mem_cons.mpr ⟨qz_iconst C (show decode c_X11_lay 71 = .ok (.iconst 1, 1) by decide +kernel) (by decide +kernel),
  List.forall_mem_cons.mpr ⟨qz_iadd C (show decode c_X11_lay 72 = .ok (.iadd, 1) by decide +kernel),
  List.forall_mem_cons.mpr ⟨qz_iload_n C (show decode c_X11_lay 73 = .ok (.iload_n 2, 1) by decide +kernel) rfl,
  List.forall_mem_cons.mpr ⟨qz_iast C (show decode c_X11_lay 74 = .ok (.iastore, 1) by decide +kernel),
  List.forall_mem_cons.mpr ⟨qz_aload_n C (show decode c_X11_lay 75 = .ok (.aload_n 0, 1) by decide +kernel) rfl,
  List.forall_mem_cons.mpr ⟨qz_gf (k := 13) C (show decode c_X11_lay 76 = .ok (.getfield 25, 3) by decide +kernel) vcX11 wiX11 (by decide) cw_1031,
  List.forall_mem_cons.mpr ⟨qz_iload C (show decode c_X11_lay 79 = .ok (.iload 4, 2) by decide +kernel),
  List.forall_mem_cons.mpr ⟨qz_iconst C (show decode c_X11_lay 81 = .ok (.iconst 2, 1) by decide +kernel) (by decide +kernel),
  List.forall_mem_cons.mpr ⟨qz_iadd C (show decode c_X11_lay 82 = .ok (.iadd, 1) by decide +kernel),
  List.forall_mem_cons.mpr ⟨qz_iload_n C (show decode c_X11_lay 83 = .ok (.iload_n 3, 1) by decide +kernel) rfl,
  List.forall_mem_cons.mpr ⟨qz_iast C (show decode c_X11_lay 84 = .ok (.iastore, 1) by decide +kernel),
  List.forall_mem_cons.mpr ⟨qz_aload_n C (show decode c_X11_lay 85 = .ok (.aload_n 0, 1) by decide +kernel) rfl,
  List.forall_mem_cons.mpr ⟨qz_gf (k := 13) C (show decode c_X11_lay 86 = .ok (.getfield 25, 3) by decide +kernel) vcX11 wiX11 (by decide) cw_1031,
  List.forall_mem_cons.mpr ⟨qz_iconst C (show decode c_X11_lay 89 = .ok (.iconst 1, 1) by decide +kernel) (by decide +kernel),
  List.forall_mem_cons.mpr ⟨qz_dup2 C (show decode c_X11_lay 90 = .ok (.dup2, 1) by decide +kernel),
  List.forall_mem_cons.mpr ⟨qz_iald C (show decode c_X11_lay 91 = .ok (.iaload, 1) by decide +kernel),
  List.forall_mem_cons.mpr ⟨qz_iconst C (show decode c_X11_lay 92 = .ok (.iconst 1, 1) by decide +kernel) (by decide +kernel),
  List.forall_mem_cons.mpr ⟨qz_iadd C (show decode c_X11_lay 93 = .ok (.iadd, 1) by decide +kernel),
  List.forall_mem_cons.mpr ⟨qz_iast C (show decode c_X11_lay 94 = .ok (.iastore, 1) by decide +kernel),
  List.forall_mem_cons.mpr ⟨qz_aload_n C (show decode c_X11_lay 95 = .ok (.aload_n 0, 1) by decide +kernel) rfl,
  List.forall_mem_cons.mpr ⟨qz_gf (k := 13) C (show decode c_X11_lay 96 = .ok (.getfield 25, 3) by decide +kernel) vcX11 wiX11 (by decide) cw_1031,
  List.forall_mem_cons.mpr ⟨qz_iconst C (show decode c_X11_lay 99 = .ok (.iconst 1, 1) by decide +kernel) (by decide +kernel),
  List.forall_mem_cons.mpr ⟨qz_iald C (show decode c_X11_lay 100 = .ok (.iaload, 1) by decide +kernel),
  List.forall_mem_cons.mpr ⟨qz_iret C (show decode c_X11_lay 101 = .ok (.ireturn, 1) by decide +kernel) rfl,
  (fun q h => by cases h)⟩⟩⟩⟩⟩⟩⟩⟩⟩⟩⟩⟩⟩⟩⟩⟩⟩⟩⟩⟩⟩⟩⟩⟩
theorem sd_X11_lay {G : pj_E} {A : Nat → Prop} {P : pj_P} {S : pj_U} {Z : pj_Z} (C : pj_C (G, A, (c_X11_lay, y_X11_lay.cls, 5, (some .int), 3), P, S, Z)) : ∀ q ∈ tb_X11_lay, pj_S (G, A, (c_X11_lay, y_X11_lay.cls, 5, (some .int), 3), P, S, Z) pj_eI q.1 q.2 := List.forall_mem_append.mpr ⟨sd_X11_lay_0 C, sd_X11_lay_1 C⟩
set_option maxRecDepth 20000 in
theorem eq_X11_lay (x1 : Int32) (x2 : Int32) (x3 : Int32) (m : pj_M) : pj_run tb_X11_lay [] 66 0 [some (.inr (.inr (0, 11, 72))), some (.inl x1), some (.inl x2), some (.inl x3), none] [] m = F_X11_lay x1 x2 x3 m := by rfl
theorem ct_X11_lay : pj_Ct pj_eI y_X11_lay c_X11_lay 5 (some .int) 3 W_X11_lay := by
  refine pj_ct_of (by decide +kernel) ?_ ?_
  · intro as m r h
    unfold W_X11_lay at h
    split at h
    · simp [pj_l0]
    · cases h
  · intro G A P S Z C as m r h hR
    unfold W_X11_lay at h
    split at h
    · split at h
      · rename_i hbq
        simp only [Bool.and_eq_true, Nat.beq_eq] at hbq
        obtain ⟨rfl, rfl, rfl⟩ := hbq
        exact pj_run_ok (sd_X11_lay C) (fun q h => by cases h) 66 0 _ _ _ _ ((eq_X11_lay _ _ _ _).trans h) hR
      · cases h
    · cases h
/-! AlikeStepsModel.cut(I)I -/
abbrev c_X11_cut : ByteArray := prog_13_method_51_code
def y_X11_cut : MethodName := ⟨RX11, "cut", "(I)I"⟩
noncomputable def J_X11_cut_50 (m : pj_M) : Option (Int32 × pj_M) := (if (1 : Int32) < 0 ∨ 72 ≤ (1 : Int32).toNatClampNeg then none else (if (1 : Int32) < 0 ∨ 72 ≤ (1 : Int32).toNatClampNeg then none else (if (1 : Int32) < 0 ∨ 72 ≤ (1 : Int32).toNatClampNeg then none else (some ((pj_wr m 78 (1 : Int32).toNatClampNeg ((m.1 78 (1 : Int32).toNatClampNeg) - 1)).1 78 (1 : Int32).toNatClampNeg, (pj_wr m 78 (1 : Int32).toNatClampNeg ((m.1 78 (1 : Int32).toNatClampNeg) - 1)))))))
noncomputable def H_X11_cut_22 : Nat → Int32 → pj_M → Option (Int32 × pj_M)
  | 0, _, _ => none
  | n1 + 1, x2, m => (if (x2 + 3) < 72 then (if (x2 + 3) < 0 ∨ 72 ≤ (x2 + 3).toNatClampNeg then none else (if x2 < 0 ∨ 72 ≤ x2.toNatClampNeg then none else (H_X11_cut_22 n1 (x2 + 1) (pj_wr m 78 x2.toNatClampNeg (m.1 78 (x2 + 3).toNatClampNeg))))) else (J_X11_cut_50 m))
noncomputable def F_X11_cut (x1 : Int32) (m : pj_M) : Option (Int32 × pj_M) := ((F_X11_isArc x1 m).bind fun q1 => (if q1.1 = 0 then (some ((-1000001), q1.2)) else ((F_X11_notes q1.2).bind fun q2 => (H_X11_cut_22 pj_z (12 + (3 * x1)) q2))))
noncomputable def W_X11_cut : List pj_V → pj_M → Option (Int32 × pj_M) := fun as m => match as with
  | [.inr (.inr (t0, w0, a0)), .inl x1] => (match Nat.beq t0 0 && (Nat.beq w0 11 && (Nat.beq a0 72)) with
    | true => F_X11_cut x1 m
    | false => none)
  | _ => none
noncomputable def tb_X11_cut_0 : List (Nat × pj_T (Int32 × pj_M)) := [(0, qs_lda 0 1), (1, qs_ldi 1 2), (2, qs_vI 11 2 W_X11_isArc 5), (5, qs_ifne 11 8), (8, qs_ci (-1000001) 10), (10, qs_iret), (11, qs_lda 0 12), (12, qs_vV 11 1 W_X11_notes 15), (15, qs_ci 12 17), (17, qs_ci 3 18), (18, qs_ldi 1 19), (19, qs_b2 (fun x y => x * y) 20), (20, qs_b2 (fun x y => x + y) 21), (21, qs_sti 2 22), (22, qs_ldi 2 23), (23, qs_ci 3 24), (24, qs_b2 (fun x y => x + y) 25), (25, qs_ci 72 27), (27, qs_icge 50 30), (30, qs_lda 0 31), (31, qs_gf 11 13 34), (34, qs_ldi 2 35), (35, qs_lda 0 36), (36, qs_gf 11 13 39), (39, qs_ldi 2 40), (40, qs_ci 3 41), (41, qs_b2 (fun x y => x + y) 42), (42, qs_iald 43), (43, qs_iast 44), (44, qs_inc 2 1 47), (47, qs_go 22), (50, qs_lda 0 51), (51, qs_gf 11 13 54), (54, qs_ci 1 55), (55, qs_dup2 56), (56, qs_iald 57), (57, qs_ci 1 58), (58, qs_b2 (fun x y => x - y) 59), (59, qs_iast 60), (60, qs_lda 0 61)]
noncomputable def tb_X11_cut_1 : List (Nat × pj_T (Int32 × pj_M)) := [(61, qs_gf 11 13 64), (64, qs_ci 1 65), (65, qs_iald 66), (66, qs_iret)]
noncomputable def tb_X11_cut : List (Nat × pj_T (Int32 × pj_M)) := tb_X11_cut_0 ++ (tb_X11_cut_1)
theorem mv_X11_cut : pj_mv y_X11_cut c_X11_cut 3 (some .int) 1 := ⟨⟨cw_1235, cw_1233, cw_1234, cw_92⟩, by decide +kernel, by decide⟩
set_option maxRecDepth 20000 in
theorem sd_X11_cut_0 {G : pj_E} {A : Nat → Prop} {P : pj_P} {S : pj_U} {Z : pj_Z} (C : pj_C (G, A, (c_X11_cut, y_X11_cut.cls, 3, (some .int), 3), P, S, Z)) : ∀ q ∈ tb_X11_cut_0, pj_S (G, A, (c_X11_cut, y_X11_cut.cls, 3, (some .int), 3), P, S, Z) pj_eI q.1 q.2 :=
  List.forall_mem_cons.mpr ⟨qz_aload_n C (show decode c_X11_cut 0 = .ok (.aload_n 0, 1) by decide +kernel) rfl,
  List.forall_mem_cons.mpr ⟨qz_iload_n C (show decode c_X11_cut 1 = .ok (.iload_n 1, 1) by decide +kernel) rfl,
  List.forall_mem_cons.mpr ⟨qz_vI C (show decode c_X11_cut 2 = .ok (.invokevirtual 231, 3) by decide +kernel) ct_X11_isArc mv_X11_isArc cw_1236 vcX11 (show 2 < 3 by omega),
  List.forall_mem_cons.mpr ⟨qz_ifne C (show decode c_X11_cut 5 = .ok (.ifCond .ne 6, 3) by decide +kernel) (by decide),
  List.forall_mem_cons.mpr ⟨qz_ldc C (show decode c_X11_cut 8 = .ok (.ldc 92, 2) by decide +kernel) cw_1129,
  List.forall_mem_cons.mpr ⟨qz_iret C (show decode c_X11_cut 10 = .ok (.ireturn, 1) by decide +kernel) rfl,
  List.forall_mem_cons.mpr ⟨qz_aload_n C (show decode c_X11_cut 11 = .ok (.aload_n 0, 1) by decide +kernel) rfl,
  List.forall_mem_cons.mpr ⟨qz_vV C (show decode c_X11_cut 12 = .ok (.invokevirtual 228, 3) by decide +kernel) ct_X11_notes mv_X11_notes cw_1228 vcX11 (show 2 < 3 by omega),
  List.forall_mem_cons.mpr ⟨qz_bipush C (show decode c_X11_cut 15 = .ok (.bipush 12, 2) by decide +kernel) (by decide +kernel),
  List.forall_mem_cons.mpr ⟨qz_iconst C (show decode c_X11_cut 17 = .ok (.iconst 3, 1) by decide +kernel) (by decide +kernel),
  List.forall_mem_cons.mpr ⟨qz_iload_n C (show decode c_X11_cut 18 = .ok (.iload_n 1, 1) by decide +kernel) rfl,
  List.forall_mem_cons.mpr ⟨qz_imul C (show decode c_X11_cut 19 = .ok (.imul, 1) by decide +kernel),
  List.forall_mem_cons.mpr ⟨qz_iadd C (show decode c_X11_cut 20 = .ok (.iadd, 1) by decide +kernel),
  List.forall_mem_cons.mpr ⟨qz_istore_n C (show decode c_X11_cut 21 = .ok (.istore_n 2, 1) by decide +kernel) rfl,
  List.forall_mem_cons.mpr ⟨qz_iload_n C (show decode c_X11_cut 22 = .ok (.iload_n 2, 1) by decide +kernel) rfl,
  List.forall_mem_cons.mpr ⟨qz_iconst C (show decode c_X11_cut 23 = .ok (.iconst 3, 1) by decide +kernel) (by decide +kernel),
  List.forall_mem_cons.mpr ⟨qz_iadd C (show decode c_X11_cut 24 = .ok (.iadd, 1) by decide +kernel),
  List.forall_mem_cons.mpr ⟨qz_bipush C (show decode c_X11_cut 25 = .ok (.bipush 72, 2) by decide +kernel) (by decide +kernel),
  List.forall_mem_cons.mpr ⟨qz_icge C (show decode c_X11_cut 27 = .ok (.if_icmp .ge 23, 3) by decide +kernel) (by decide),
  List.forall_mem_cons.mpr ⟨qz_aload_n C (show decode c_X11_cut 30 = .ok (.aload_n 0, 1) by decide +kernel) rfl,
  List.forall_mem_cons.mpr ⟨qz_gf (k := 13) C (show decode c_X11_cut 31 = .ok (.getfield 25, 3) by decide +kernel) vcX11 wiX11 (by decide) cw_1031,
  List.forall_mem_cons.mpr ⟨qz_iload_n C (show decode c_X11_cut 34 = .ok (.iload_n 2, 1) by decide +kernel) rfl,
  List.forall_mem_cons.mpr ⟨qz_aload_n C (show decode c_X11_cut 35 = .ok (.aload_n 0, 1) by decide +kernel) rfl,
  List.forall_mem_cons.mpr ⟨qz_gf (k := 13) C (show decode c_X11_cut 36 = .ok (.getfield 25, 3) by decide +kernel) vcX11 wiX11 (by decide) cw_1031,
  List.forall_mem_cons.mpr ⟨qz_iload_n C (show decode c_X11_cut 39 = .ok (.iload_n 2, 1) by decide +kernel) rfl,
  List.forall_mem_cons.mpr ⟨qz_iconst C (show decode c_X11_cut 40 = .ok (.iconst 3, 1) by decide +kernel) (by decide +kernel),
  List.forall_mem_cons.mpr ⟨qz_iadd C (show decode c_X11_cut 41 = .ok (.iadd, 1) by decide +kernel),
  List.forall_mem_cons.mpr ⟨qz_iald C (show decode c_X11_cut 42 = .ok (.iaload, 1) by decide +kernel),
  List.forall_mem_cons.mpr ⟨qz_iast C (show decode c_X11_cut 43 = .ok (.iastore, 1) by decide +kernel),
  List.forall_mem_cons.mpr ⟨qz_iinc C (show decode c_X11_cut 44 = .ok (.iinc 2 1, 3) by decide +kernel) (by decide +kernel),
  List.forall_mem_cons.mpr ⟨qz_goto C (show decode c_X11_cut 47 = .ok (.goto (-25), 3) by decide +kernel) (by decide),
  List.forall_mem_cons.mpr ⟨qz_aload_n C (show decode c_X11_cut 50 = .ok (.aload_n 0, 1) by decide +kernel) rfl,
  List.forall_mem_cons.mpr ⟨qz_gf (k := 13) C (show decode c_X11_cut 51 = .ok (.getfield 25, 3) by decide +kernel) vcX11 wiX11 (by decide) cw_1031,
  List.forall_mem_cons.mpr ⟨qz_iconst C (show decode c_X11_cut 54 = .ok (.iconst 1, 1) by decide +kernel) (by decide +kernel),
  List.forall_mem_cons.mpr ⟨qz_dup2 C (show decode c_X11_cut 55 = .ok (.dup2, 1) by decide +kernel),
  List.forall_mem_cons.mpr ⟨qz_iald C (show decode c_X11_cut 56 = .ok (.iaload, 1) by decide +kernel),
  List.forall_mem_cons.mpr ⟨qz_iconst C (show decode c_X11_cut 57 = .ok (.iconst 1, 1) by decide +kernel) (by decide +kernel),
  List.forall_mem_cons.mpr ⟨qz_isub C (show decode c_X11_cut 58 = .ok (.isub, 1) by decide +kernel),
  List.forall_mem_cons.mpr ⟨qz_iast C (show decode c_X11_cut 59 = .ok (.iastore, 1) by decide +kernel),
  List.forall_mem_cons.mpr ⟨qz_aload_n C (show decode c_X11_cut 60 = .ok (.aload_n 0, 1) by decide +kernel) rfl,
  (fun q h => by cases h)⟩⟩⟩⟩⟩⟩⟩⟩⟩⟩⟩⟩⟩⟩⟩⟩⟩⟩⟩⟩⟩⟩⟩⟩⟩⟩⟩⟩⟩⟩⟩⟩⟩⟩⟩⟩⟩⟩⟩⟩
set_option maxRecDepth 20000 in
theorem sd_X11_cut_1 {G : pj_E} {A : Nat → Prop} {P : pj_P} {S : pj_U} {Z : pj_Z} (C : pj_C (G, A, (c_X11_cut, y_X11_cut.cls, 3, (some .int), 3), P, S, Z)) : ∀ q ∈ tb_X11_cut_1, pj_S (G, A, (c_X11_cut, y_X11_cut.cls, 3, (some .int), 3), P, S, Z) pj_eI q.1 q.2 :=
  List.forall_mem_cons.mpr ⟨qz_gf (k := 13) C (show decode c_X11_cut 61 = .ok (.getfield 25, 3) by decide +kernel) vcX11 wiX11 (by decide) cw_1031,
  List.forall_mem_cons.mpr ⟨qz_iconst C (show decode c_X11_cut 64 = .ok (.iconst 1, 1) by decide +kernel) (by decide +kernel),
  List.forall_mem_cons.mpr ⟨qz_iald C (show decode c_X11_cut 65 = .ok (.iaload, 1) by decide +kernel),
  List.forall_mem_cons.mpr ⟨qz_iret C (show decode c_X11_cut 66 = .ok (.ireturn, 1) by decide +kernel) rfl,
  (fun q h => by cases h)⟩⟩⟩⟩
theorem sd_X11_cut {G : pj_E} {A : Nat → Prop} {P : pj_P} {S : pj_U} {Z : pj_Z} (C : pj_C (G, A, (c_X11_cut, y_X11_cut.cls, 3, (some .int), 3), P, S, Z)) : ∀ q ∈ tb_X11_cut, pj_S (G, A, (c_X11_cut, y_X11_cut.cls, 3, (some .int), 3), P, S, Z) pj_eI q.1 q.2 := List.forall_mem_append.mpr ⟨sd_X11_cut_0 C, sd_X11_cut_1 C⟩
noncomputable def C_X11_cut_50 (f : pj_M → Option (Int32 × pj_M)) : pj_N (Int32 × pj_M) := fun L st m => match L, st with
  | [some (.inr (.inr (t0, w0, a0))), _, _], [] => (match Nat.beq t0 0 && (Nat.beq w0 11 && (Nat.beq a0 72)) with
    | true => f m
    | false => none)
  | _, _ => none
noncomputable def C_X11_cut_22 (f : Int32 → pj_M → Option (Int32 × pj_M)) : pj_N (Int32 × pj_M) := fun L st m => match L, st with
  | [some (.inr (.inr (t0, w0, a0))), _, some (.inl x2)], [] => (match Nat.beq t0 0 && (Nat.beq w0 11 && (Nat.beq a0 72)) with
    | true => f x2 m
    | false => none)
  | _, _ => none
set_option maxRecDepth 20000 in
theorem eq_X11_cut_50 (d1 d2 : Option pj_V) (m : pj_M) : pj_run tb_X11_cut [] 46 50 [some (.inr (.inr (0, 11, 72))), d1, d2] [] m = J_X11_cut_50  m := by rfl
theorem sg_X11_cut_50 {G : pj_E} {A : Nat → Prop} {P : pj_P} {S : pj_U} {Z : pj_Z} (C : pj_C (G, A, (c_X11_cut, y_X11_cut.cls, 3, (some .int), 3), P, S, Z)) : pj_G (G, A, (c_X11_cut, y_X11_cut.cls, 3, (some .int), 3), P, S, Z) pj_eI 50 (C_X11_cut_50 (J_X11_cut_50)) := by
  intro L st m r h hR
  unfold C_X11_cut_50 at h
  split at h
  · split at h
    · rename_i hbq
      simp only [Bool.and_eq_true, Nat.beq_eq] at hbq
      obtain ⟨rfl, rfl, rfl⟩ := hbq
      exact pj_run_ok (sd_X11_cut C) (fun q h => by cases h) 46 50 _ _ _ _ ((eq_X11_cut_50 _ _ _).trans h) hR
    · cases h
  · cases h
set_option maxRecDepth 20000 in
theorem eq_X11_cut_22 (n1 : Nat) (x2 : Int32) (d1 : Option pj_V) (m : pj_M) : pj_run tb_X11_cut [(22, C_X11_cut_22 (H_X11_cut_22 n1)), (50, C_X11_cut_50 (J_X11_cut_50 ))] 46 22 [some (.inr (.inr (0, 11, 72))), d1, some (.inl x2)] [] m = H_X11_cut_22 (n1 + 1) x2 m := by rfl
theorem sg_X11_cut_22 {G : pj_E} {A : Nat → Prop} {P : pj_P} {S : pj_U} {Z : pj_Z} (C : pj_C (G, A, (c_X11_cut, y_X11_cut.cls, 3, (some .int), 3), P, S, Z)) : ∀ n1, pj_G (G, A, (c_X11_cut, y_X11_cut.cls, 3, (some .int), 3), P, S, Z) pj_eI 22 (C_X11_cut_22 (H_X11_cut_22 n1)) := by
  intro n1
  induction n1 with
  | zero =>
    intro L st m r h hR
    unfold C_X11_cut_22 at h
    split at h
    · split at h
      · cases h
      · cases h
    · cases h
  | succ n1 ih1 =>
    intro L st m r h hR
    unfold C_X11_cut_22 at h
    split at h
    · split at h
      · rename_i hbq
        simp only [Bool.and_eq_true, Nat.beq_eq] at hbq
        obtain ⟨rfl, rfl, rfl⟩ := hbq
        exact pj_run_ok (sd_X11_cut C) (List.forall_mem_cons.mpr ⟨ih1, List.forall_mem_cons.mpr ⟨sg_X11_cut_50 C , fun q h => by cases h⟩⟩) 46 22 _ _ _ _ ((eq_X11_cut_22 _ _ _ _).trans h) hR
      · cases h
    · cases h
set_option maxRecDepth 20000 in
theorem eq_X11_cut (x1 : Int32) (m : pj_M) : pj_run tb_X11_cut [(22, C_X11_cut_22 (H_X11_cut_22  pj_z))] 46 0 [some (.inr (.inr (0, 11, 72))), some (.inl x1), none] [] m = F_X11_cut x1 m := by rfl
theorem ct_X11_cut : pj_Ct pj_eI y_X11_cut c_X11_cut 3 (some .int) 3 W_X11_cut := by
  refine pj_ct_of (by decide +kernel) ?_ ?_
  · intro as m r h
    unfold W_X11_cut at h
    split at h
    · simp [pj_l0]
    · cases h
  · intro G A P S Z C as m r h hR
    unfold W_X11_cut at h
    split at h
    · split at h
      · rename_i hbq
        simp only [Bool.and_eq_true, Nat.beq_eq] at hbq
        obtain ⟨rfl, rfl, rfl⟩ := hbq
        exact pj_run_ok (sd_X11_cut C) (List.forall_mem_cons.mpr ⟨sg_X11_cut_22 C  pj_z, fun q h => by cases h⟩) 46 0 _ _ _ _ ((eq_X11_cut _ _).trans h) hR
      · cases h
    · cases h
/-! AlikeStepsModel.turn(I)I -/
abbrev c_X11_turn : ByteArray := prog_13_method_52_code
def y_X11_turn : MethodName := ⟨RX11, "turn", "(I)I"⟩
noncomputable def F_X11_turn (x1 : Int32) (m : pj_M) : Option (Int32 × pj_M) := ((F_X11_isArc x1 m).bind fun q1 => (if q1.1 = 0 then (some ((-1000001), q1.2)) else ((F_X11_notes q1.2).bind fun q2 => (if ((12 + (3 * x1)) + 1) < 0 ∨ 72 ≤ ((12 + (3 * x1)) + 1).toNatClampNeg then none else (if ((12 + (3 * x1)) + 2) < 0 ∨ 72 ≤ ((12 + (3 * x1)) + 2).toNatClampNeg then none else (if ((12 + (3 * x1)) + 1) < 0 ∨ 72 ≤ ((12 + (3 * x1)) + 1).toNatClampNeg then none else (if ((12 + (3 * x1)) + 2) < 0 ∨ 72 ≤ ((12 + (3 * x1)) + 2).toNatClampNeg then none else (some (q2.1 78 ((12 + (3 * x1)) + 1).toNatClampNeg, (pj_wr (pj_wr q2 78 ((12 + (3 * x1)) + 1).toNatClampNeg (q2.1 78 ((12 + (3 * x1)) + 2).toNatClampNeg)) 78 ((12 + (3 * x1)) + 2).toNatClampNeg (q2.1 78 ((12 + (3 * x1)) + 1).toNatClampNeg)))))))))))
noncomputable def W_X11_turn : List pj_V → pj_M → Option (Int32 × pj_M) := fun as m => match as with
  | [.inr (.inr (t0, w0, a0)), .inl x1] => (match Nat.beq t0 0 && (Nat.beq w0 11 && (Nat.beq a0 72)) with
    | true => F_X11_turn x1 m
    | false => none)
  | _ => none
noncomputable def tb_X11_turn_0 : List (Nat × pj_T (Int32 × pj_M)) := [(0, qs_lda 0 1), (1, qs_ldi 1 2), (2, qs_vI 11 2 W_X11_isArc 5), (5, qs_ifne 11 8), (8, qs_ci (-1000001) 10), (10, qs_iret), (11, qs_lda 0 12), (12, qs_vV 11 1 W_X11_notes 15), (15, qs_ci 12 17), (17, qs_ci 3 18), (18, qs_ldi 1 19), (19, qs_b2 (fun x y => x * y) 20), (20, qs_b2 (fun x y => x + y) 21), (21, qs_sti 2 22), (22, qs_lda 0 23), (23, qs_gf 11 13 26), (26, qs_ldi 2 27), (27, qs_ci 1 28), (28, qs_b2 (fun x y => x + y) 29), (29, qs_iald 30), (30, qs_sti 3 31), (31, qs_lda 0 32), (32, qs_gf 11 13 35), (35, qs_ldi 2 36), (36, qs_ci 1 37), (37, qs_b2 (fun x y => x + y) 38), (38, qs_lda 0 39), (39, qs_gf 11 13 42), (42, qs_ldi 2 43), (43, qs_ci 2 44), (44, qs_b2 (fun x y => x + y) 45), (45, qs_iald 46), (46, qs_iast 47), (47, qs_lda 0 48), (48, qs_gf 11 13 51), (51, qs_ldi 2 52), (52, qs_ci 2 53), (53, qs_b2 (fun x y => x + y) 54), (54, qs_ldi 3 55), (55, qs_iast 56)]
noncomputable def tb_X11_turn_1 : List (Nat × pj_T (Int32 × pj_M)) := [(56, qs_ldi 3 57), (57, qs_iret)]
noncomputable def tb_X11_turn : List (Nat × pj_T (Int32 × pj_M)) := tb_X11_turn_0 ++ (tb_X11_turn_1)
theorem mv_X11_turn : pj_mv y_X11_turn c_X11_turn 4 (some .int) 1 := ⟨⟨cw_1243, cw_1241, cw_1242, cw_92⟩, by decide +kernel, by decide⟩
set_option maxRecDepth 20000 in
theorem sd_X11_turn_0 {G : pj_E} {A : Nat → Prop} {P : pj_P} {S : pj_U} {Z : pj_Z} (C : pj_C (G, A, (c_X11_turn, y_X11_turn.cls, 4, (some .int), 3), P, S, Z)) : ∀ q ∈ tb_X11_turn_0, pj_S (G, A, (c_X11_turn, y_X11_turn.cls, 4, (some .int), 3), P, S, Z) pj_eI q.1 q.2 :=
  List.forall_mem_cons.mpr ⟨qz_aload_n C (show decode c_X11_turn 0 = .ok (.aload_n 0, 1) by decide +kernel) rfl,
  List.forall_mem_cons.mpr ⟨qz_iload_n C (show decode c_X11_turn 1 = .ok (.iload_n 1, 1) by decide +kernel) rfl,
  List.forall_mem_cons.mpr ⟨qz_vI C (show decode c_X11_turn 2 = .ok (.invokevirtual 231, 3) by decide +kernel) ct_X11_isArc mv_X11_isArc cw_1236 vcX11 (show 2 < 3 by omega),
  List.forall_mem_cons.mpr ⟨qz_ifne C (show decode c_X11_turn 5 = .ok (.ifCond .ne 6, 3) by decide +kernel) (by decide),
  List.forall_mem_cons.mpr ⟨qz_ldc C (show decode c_X11_turn 8 = .ok (.ldc 92, 2) by decide +kernel) cw_1129,
  List.forall_mem_cons.mpr ⟨qz_iret C (show decode c_X11_turn 10 = .ok (.ireturn, 1) by decide +kernel) rfl,
  List.forall_mem_cons.mpr ⟨qz_aload_n C (show decode c_X11_turn 11 = .ok (.aload_n 0, 1) by decide +kernel) rfl,
  List.forall_mem_cons.mpr ⟨qz_vV C (show decode c_X11_turn 12 = .ok (.invokevirtual 228, 3) by decide +kernel) ct_X11_notes mv_X11_notes cw_1228 vcX11 (show 2 < 3 by omega),
  List.forall_mem_cons.mpr ⟨qz_bipush C (show decode c_X11_turn 15 = .ok (.bipush 12, 2) by decide +kernel) (by decide +kernel),
  List.forall_mem_cons.mpr ⟨qz_iconst C (show decode c_X11_turn 17 = .ok (.iconst 3, 1) by decide +kernel) (by decide +kernel),
  List.forall_mem_cons.mpr ⟨qz_iload_n C (show decode c_X11_turn 18 = .ok (.iload_n 1, 1) by decide +kernel) rfl,
  List.forall_mem_cons.mpr ⟨qz_imul C (show decode c_X11_turn 19 = .ok (.imul, 1) by decide +kernel),
  List.forall_mem_cons.mpr ⟨qz_iadd C (show decode c_X11_turn 20 = .ok (.iadd, 1) by decide +kernel),
  List.forall_mem_cons.mpr ⟨qz_istore_n C (show decode c_X11_turn 21 = .ok (.istore_n 2, 1) by decide +kernel) rfl,
  List.forall_mem_cons.mpr ⟨qz_aload_n C (show decode c_X11_turn 22 = .ok (.aload_n 0, 1) by decide +kernel) rfl,
  List.forall_mem_cons.mpr ⟨qz_gf (k := 13) C (show decode c_X11_turn 23 = .ok (.getfield 25, 3) by decide +kernel) vcX11 wiX11 (by decide) cw_1031,
  List.forall_mem_cons.mpr ⟨qz_iload_n C (show decode c_X11_turn 26 = .ok (.iload_n 2, 1) by decide +kernel) rfl,
  List.forall_mem_cons.mpr ⟨qz_iconst C (show decode c_X11_turn 27 = .ok (.iconst 1, 1) by decide +kernel) (by decide +kernel),
  List.forall_mem_cons.mpr ⟨qz_iadd C (show decode c_X11_turn 28 = .ok (.iadd, 1) by decide +kernel),
  List.forall_mem_cons.mpr ⟨qz_iald C (show decode c_X11_turn 29 = .ok (.iaload, 1) by decide +kernel),
  List.forall_mem_cons.mpr ⟨qz_istore_n C (show decode c_X11_turn 30 = .ok (.istore_n 3, 1) by decide +kernel) rfl,
  List.forall_mem_cons.mpr ⟨qz_aload_n C (show decode c_X11_turn 31 = .ok (.aload_n 0, 1) by decide +kernel) rfl,
  List.forall_mem_cons.mpr ⟨qz_gf (k := 13) C (show decode c_X11_turn 32 = .ok (.getfield 25, 3) by decide +kernel) vcX11 wiX11 (by decide) cw_1031,
  List.forall_mem_cons.mpr ⟨qz_iload_n C (show decode c_X11_turn 35 = .ok (.iload_n 2, 1) by decide +kernel) rfl,
  List.forall_mem_cons.mpr ⟨qz_iconst C (show decode c_X11_turn 36 = .ok (.iconst 1, 1) by decide +kernel) (by decide +kernel),
  List.forall_mem_cons.mpr ⟨qz_iadd C (show decode c_X11_turn 37 = .ok (.iadd, 1) by decide +kernel),
  List.forall_mem_cons.mpr ⟨qz_aload_n C (show decode c_X11_turn 38 = .ok (.aload_n 0, 1) by decide +kernel) rfl,
  List.forall_mem_cons.mpr ⟨qz_gf (k := 13) C (show decode c_X11_turn 39 = .ok (.getfield 25, 3) by decide +kernel) vcX11 wiX11 (by decide) cw_1031,
  List.forall_mem_cons.mpr ⟨qz_iload_n C (show decode c_X11_turn 42 = .ok (.iload_n 2, 1) by decide +kernel) rfl,
  List.forall_mem_cons.mpr ⟨qz_iconst C (show decode c_X11_turn 43 = .ok (.iconst 2, 1) by decide +kernel) (by decide +kernel),
  List.forall_mem_cons.mpr ⟨qz_iadd C (show decode c_X11_turn 44 = .ok (.iadd, 1) by decide +kernel),
  List.forall_mem_cons.mpr ⟨qz_iald C (show decode c_X11_turn 45 = .ok (.iaload, 1) by decide +kernel),
  List.forall_mem_cons.mpr ⟨qz_iast C (show decode c_X11_turn 46 = .ok (.iastore, 1) by decide +kernel),
  List.forall_mem_cons.mpr ⟨qz_aload_n C (show decode c_X11_turn 47 = .ok (.aload_n 0, 1) by decide +kernel) rfl,
  List.forall_mem_cons.mpr ⟨qz_gf (k := 13) C (show decode c_X11_turn 48 = .ok (.getfield 25, 3) by decide +kernel) vcX11 wiX11 (by decide) cw_1031,
  List.forall_mem_cons.mpr ⟨qz_iload_n C (show decode c_X11_turn 51 = .ok (.iload_n 2, 1) by decide +kernel) rfl,
  List.forall_mem_cons.mpr ⟨qz_iconst C (show decode c_X11_turn 52 = .ok (.iconst 2, 1) by decide +kernel) (by decide +kernel),
  List.forall_mem_cons.mpr ⟨qz_iadd C (show decode c_X11_turn 53 = .ok (.iadd, 1) by decide +kernel),
  List.forall_mem_cons.mpr ⟨qz_iload_n C (show decode c_X11_turn 54 = .ok (.iload_n 3, 1) by decide +kernel) rfl,
  List.forall_mem_cons.mpr ⟨qz_iast C (show decode c_X11_turn 55 = .ok (.iastore, 1) by decide +kernel),
  (fun q h => by cases h)⟩⟩⟩⟩⟩⟩⟩⟩⟩⟩⟩⟩⟩⟩⟩⟩⟩⟩⟩⟩⟩⟩⟩⟩⟩⟩⟩⟩⟩⟩⟩⟩⟩⟩⟩⟩⟩⟩⟩⟩
set_option maxRecDepth 20000 in
theorem sd_X11_turn_1 {G : pj_E} {A : Nat → Prop} {P : pj_P} {S : pj_U} {Z : pj_Z} (C : pj_C (G, A, (c_X11_turn, y_X11_turn.cls, 4, (some .int), 3), P, S, Z)) : ∀ q ∈ tb_X11_turn_1, pj_S (G, A, (c_X11_turn, y_X11_turn.cls, 4, (some .int), 3), P, S, Z) pj_eI q.1 q.2 :=
  List.forall_mem_cons.mpr ⟨qz_iload_n C (show decode c_X11_turn 56 = .ok (.iload_n 3, 1) by decide +kernel) rfl,
  List.forall_mem_cons.mpr ⟨qz_iret C (show decode c_X11_turn 57 = .ok (.ireturn, 1) by decide +kernel) rfl,
  (fun q h => by cases h)⟩⟩
theorem sd_X11_turn {G : pj_E} {A : Nat → Prop} {P : pj_P} {S : pj_U} {Z : pj_Z} (C : pj_C (G, A, (c_X11_turn, y_X11_turn.cls, 4, (some .int), 3), P, S, Z)) : ∀ q ∈ tb_X11_turn, pj_S (G, A, (c_X11_turn, y_X11_turn.cls, 4, (some .int), 3), P, S, Z) pj_eI q.1 q.2 := List.forall_mem_append.mpr ⟨sd_X11_turn_0 C, sd_X11_turn_1 C⟩
set_option maxRecDepth 20000 in
theorem eq_X11_turn (x1 : Int32) (m : pj_M) : pj_run tb_X11_turn [] 44 0 [some (.inr (.inr (0, 11, 72))), some (.inl x1), none, none] [] m = F_X11_turn x1 m := by rfl
theorem ct_X11_turn : pj_Ct pj_eI y_X11_turn c_X11_turn 4 (some .int) 3 W_X11_turn := by
  refine pj_ct_of (by decide +kernel) ?_ ?_
  · intro as m r h
    unfold W_X11_turn at h
    split at h
    · simp [pj_l0]
    · cases h
  · intro G A P S Z C as m r h hR
    unfold W_X11_turn at h
    split at h
    · split at h
      · rename_i hbq
        simp only [Bool.and_eq_true, Nat.beq_eq] at hbq
        obtain ⟨rfl, rfl, rfl⟩ := hbq
        exact pj_run_ok (sd_X11_turn C) (fun q h => by cases h) 44 0 _ _ _ _ ((eq_X11_turn _ _).trans h) hR
      · cases h
    · cases h
/-! AlikeStepsModel.become(II)I -/
abbrev c_X11_become : ByteArray := prog_13_method_53_code
def y_X11_become : MethodName := ⟨RX11, "become", "(II)I"⟩
noncomputable def F_X11_become (x1 : Int32) (x2 : Int32) (m : pj_M) : Option (Int32 × pj_M) := ((F_X11_isState x1 m).bind fun q1 => (if q1.1 = 0 then (some ((-1000001), q1.2)) else ((F_X11_in x2 1 5 q1.2).bind fun q2 => (if q2.1 = 0 then (some ((-1000001), q2.2)) else (if (2 + x1) < 0 ∨ 72 ≤ (2 + x1).toNatClampNeg then none else (if (q2.2.1 78 (2 + x1).toNatClampNeg) = x2 then (some ((-1000002), q2.2)) else ((F_X11_notes q2.2).bind fun q3 => (if (2 + x1) < 0 ∨ 72 ≤ (2 + x1).toNatClampNeg then none else (some (q2.2.1 78 (2 + x1).toNatClampNeg, (pj_wr q3 78 (2 + x1).toNatClampNeg x2)))))))))))
noncomputable def W_X11_become : List pj_V → pj_M → Option (Int32 × pj_M) := fun as m => match as with
  | [.inr (.inr (t0, w0, a0)), .inl x1, .inl x2] => (match Nat.beq t0 0 && (Nat.beq w0 11 && (Nat.beq a0 72)) with
    | true => F_X11_become x1 x2 m
    | false => none)
  | _ => none
noncomputable def tb_X11_become_0 : List (Nat × pj_T (Int32 × pj_M)) := [(0, qs_lda 0 1), (1, qs_ldi 1 2), (2, qs_vI 11 2 W_X11_isState 5), (5, qs_ifeq 17 8), (8, qs_ldi 2 9), (9, qs_ci 1 10), (10, qs_ci 5 11), (11, qs_sI 3 W_X11_in 14), (14, qs_ifne 20 17), (17, qs_ci (-1000001) 19), (19, qs_iret), (20, qs_lda 0 21), (21, qs_gf 11 13 24), (24, qs_ci 2 25), (25, qs_ldi 1 26), (26, qs_b2 (fun x y => x + y) 27), (27, qs_iald 28), (28, qs_sti 3 29), (29, qs_ldi 3 30), (30, qs_ldi 2 31), (31, qs_icne 37 34), (34, qs_ci (-1000002) 36), (36, qs_iret), (37, qs_lda 0 38), (38, qs_vV 11 1 W_X11_notes 41), (41, qs_lda 0 42), (42, qs_gf 11 13 45), (45, qs_ci 2 46), (46, qs_ldi 1 47), (47, qs_b2 (fun x y => x + y) 48), (48, qs_ldi 2 49), (49, qs_iast 50), (50, qs_ldi 3 51), (51, qs_iret)]
noncomputable abbrev tb_X11_become : List (Nat × pj_T (Int32 × pj_M)) := tb_X11_become_0
theorem mv_X11_become : pj_mv y_X11_become c_X11_become 4 (some .int) 2 := ⟨⟨cw_1247, cw_1245, cw_1246, cw_92⟩, by decide +kernel, by decide⟩
set_option maxRecDepth 20000 in
theorem sd_X11_become_0 {G : pj_E} {A : Nat → Prop} {P : pj_P} {S : pj_U} {Z : pj_Z} (C : pj_C (G, A, (c_X11_become, y_X11_become.cls, 4, (some .int), 3), P, S, Z)) : ∀ q ∈ tb_X11_become_0, pj_S (G, A, (c_X11_become, y_X11_become.cls, 4, (some .int), 3), P, S, Z) pj_eI q.1 q.2 :=
  List.forall_mem_cons.mpr ⟨qz_aload_n C (show decode c_X11_become 0 = .ok (.aload_n 0, 1) by decide +kernel) rfl,
  List.forall_mem_cons.mpr ⟨qz_iload_n C (show decode c_X11_become 1 = .ok (.iload_n 1, 1) by decide +kernel) rfl,
  List.forall_mem_cons.mpr ⟨qz_vI C (show decode c_X11_become 2 = .ok (.invokevirtual 225, 3) by decide +kernel) ct_X11_isState mv_X11_isState cw_1224 vcX11 (show 2 < 3 by omega),
  List.forall_mem_cons.mpr ⟨qz_ifeq C (show decode c_X11_become 5 = .ok (.ifCond .eq 12, 3) by decide +kernel) (by decide),
  List.forall_mem_cons.mpr ⟨qz_iload_n C (show decode c_X11_become 8 = .ok (.iload_n 2, 1) by decide +kernel) rfl,
  List.forall_mem_cons.mpr ⟨qz_iconst C (show decode c_X11_become 9 = .ok (.iconst 1, 1) by decide +kernel) (by decide +kernel),
  List.forall_mem_cons.mpr ⟨qz_iconst C (show decode c_X11_become 10 = .ok (.iconst 5, 1) by decide +kernel) (by decide +kernel),
  List.forall_mem_cons.mpr ⟨qz_sI C (show decode c_X11_become 11 = .ok (.invokestatic 84, 3) by decide +kernel) ct_X11_in mv_X11_in (Or.inl cw_1126) (show 1 < 3 by omega),
  List.forall_mem_cons.mpr ⟨qz_ifne C (show decode c_X11_become 14 = .ok (.ifCond .ne 6, 3) by decide +kernel) (by decide),
  List.forall_mem_cons.mpr ⟨qz_ldc C (show decode c_X11_become 17 = .ok (.ldc 92, 2) by decide +kernel) cw_1129,
  List.forall_mem_cons.mpr ⟨qz_iret C (show decode c_X11_become 19 = .ok (.ireturn, 1) by decide +kernel) rfl,
  List.forall_mem_cons.mpr ⟨qz_aload_n C (show decode c_X11_become 20 = .ok (.aload_n 0, 1) by decide +kernel) rfl,
  List.forall_mem_cons.mpr ⟨qz_gf (k := 13) C (show decode c_X11_become 21 = .ok (.getfield 25, 3) by decide +kernel) vcX11 wiX11 (by decide) cw_1031,
  List.forall_mem_cons.mpr ⟨qz_iconst C (show decode c_X11_become 24 = .ok (.iconst 2, 1) by decide +kernel) (by decide +kernel),
  List.forall_mem_cons.mpr ⟨qz_iload_n C (show decode c_X11_become 25 = .ok (.iload_n 1, 1) by decide +kernel) rfl,
  List.forall_mem_cons.mpr ⟨qz_iadd C (show decode c_X11_become 26 = .ok (.iadd, 1) by decide +kernel),
  List.forall_mem_cons.mpr ⟨qz_iald C (show decode c_X11_become 27 = .ok (.iaload, 1) by decide +kernel),
  List.forall_mem_cons.mpr ⟨qz_istore_n C (show decode c_X11_become 28 = .ok (.istore_n 3, 1) by decide +kernel) rfl,
  List.forall_mem_cons.mpr ⟨qz_iload_n C (show decode c_X11_become 29 = .ok (.iload_n 3, 1) by decide +kernel) rfl,
  List.forall_mem_cons.mpr ⟨qz_iload_n C (show decode c_X11_become 30 = .ok (.iload_n 2, 1) by decide +kernel) rfl,
  List.forall_mem_cons.mpr ⟨qz_icne C (show decode c_X11_become 31 = .ok (.if_icmp .ne 6, 3) by decide +kernel) (by decide),
  List.forall_mem_cons.mpr ⟨qz_ldc C (show decode c_X11_become 34 = .ok (.ldc 234, 2) by decide +kernel) cw_1248,
  List.forall_mem_cons.mpr ⟨qz_iret C (show decode c_X11_become 36 = .ok (.ireturn, 1) by decide +kernel) rfl,
  List.forall_mem_cons.mpr ⟨qz_aload_n C (show decode c_X11_become 37 = .ok (.aload_n 0, 1) by decide +kernel) rfl,
  List.forall_mem_cons.mpr ⟨qz_vV C (show decode c_X11_become 38 = .ok (.invokevirtual 228, 3) by decide +kernel) ct_X11_notes mv_X11_notes cw_1228 vcX11 (show 2 < 3 by omega),
  List.forall_mem_cons.mpr ⟨qz_aload_n C (show decode c_X11_become 41 = .ok (.aload_n 0, 1) by decide +kernel) rfl,
  List.forall_mem_cons.mpr ⟨qz_gf (k := 13) C (show decode c_X11_become 42 = .ok (.getfield 25, 3) by decide +kernel) vcX11 wiX11 (by decide) cw_1031,
  List.forall_mem_cons.mpr ⟨qz_iconst C (show decode c_X11_become 45 = .ok (.iconst 2, 1) by decide +kernel) (by decide +kernel),
  List.forall_mem_cons.mpr ⟨qz_iload_n C (show decode c_X11_become 46 = .ok (.iload_n 1, 1) by decide +kernel) rfl,
  List.forall_mem_cons.mpr ⟨qz_iadd C (show decode c_X11_become 47 = .ok (.iadd, 1) by decide +kernel),
  List.forall_mem_cons.mpr ⟨qz_iload_n C (show decode c_X11_become 48 = .ok (.iload_n 2, 1) by decide +kernel) rfl,
  List.forall_mem_cons.mpr ⟨qz_iast C (show decode c_X11_become 49 = .ok (.iastore, 1) by decide +kernel),
  List.forall_mem_cons.mpr ⟨qz_iload_n C (show decode c_X11_become 50 = .ok (.iload_n 3, 1) by decide +kernel) rfl,
  List.forall_mem_cons.mpr ⟨qz_iret C (show decode c_X11_become 51 = .ok (.ireturn, 1) by decide +kernel) rfl,
  (fun q h => by cases h)⟩⟩⟩⟩⟩⟩⟩⟩⟩⟩⟩⟩⟩⟩⟩⟩⟩⟩⟩⟩⟩⟩⟩⟩⟩⟩⟩⟩⟩⟩⟩⟩⟩⟩
theorem sd_X11_become {G : pj_E} {A : Nat → Prop} {P : pj_P} {S : pj_U} {Z : pj_Z} (C : pj_C (G, A, (c_X11_become, y_X11_become.cls, 4, (some .int), 3), P, S, Z)) : ∀ q ∈ tb_X11_become, pj_S (G, A, (c_X11_become, y_X11_become.cls, 4, (some .int), 3), P, S, Z) pj_eI q.1 q.2 := sd_X11_become_0 C
set_option maxRecDepth 20000 in
theorem eq_X11_become (x1 : Int32) (x2 : Int32) (m : pj_M) : pj_run tb_X11_become [] 36 0 [some (.inr (.inr (0, 11, 72))), some (.inl x1), some (.inl x2), none] [] m = F_X11_become x1 x2 m := by rfl
theorem ct_X11_become : pj_Ct pj_eI y_X11_become c_X11_become 4 (some .int) 3 W_X11_become := by
  refine pj_ct_of (by decide +kernel) ?_ ?_
  · intro as m r h
    unfold W_X11_become at h
    split at h
    · simp [pj_l0]
    · cases h
  · intro G A P S Z C as m r h hR
    unfold W_X11_become at h
    split at h
    · split at h
      · rename_i hbq
        simp only [Bool.and_eq_true, Nat.beq_eq] at hbq
        obtain ⟨rfl, rfl, rfl⟩ := hbq
        exact pj_run_ok (sd_X11_become C) (fun q h => by cases h) 36 0 _ _ _ _ ((eq_X11_become _ _ _).trans h) hR
      · cases h
    · cases h
/-! AlikeStepsModel.undo()I -/
abbrev c_X11_undo : ByteArray := prog_13_method_54_code
def y_X11_undo : MethodName := ⟨RX11, "undo", "()I"⟩
noncomputable def F_X11_undo (m : pj_M) : Option (Int32 × pj_M) := (if (m.1 72 16) = 0 then (some ((-1000002), m)) else ((F_X11_copies 1440 80 (72 * ((pj_wr m 72 16 ((m.1 72 16) - 1)).1 72 16)) 72 78 0 (pj_wr m 72 16 ((m.1 72 16) - 1))).bind fun q1 => (some (q1.1 72 16, q1))))
noncomputable def W_X11_undo : List pj_V → pj_M → Option (Int32 × pj_M) := fun as m => match as with
  | [.inr (.inr (t0, w0, a0))] => (match Nat.beq t0 0 && (Nat.beq w0 11 && (Nat.beq a0 72)) with
    | true => F_X11_undo m
    | false => none)
  | _ => none
noncomputable def tb_X11_undo_0 : List (Nat × pj_T (Int32 × pj_M)) := [(0, qs_lda 0 1), (1, qs_gf 11 16 4), (4, qs_ifne 10 7), (7, qs_ci (-1000002) 9), (9, qs_iret), (10, qs_lda 0 11), (11, qs_dup 12), (12, qs_gf 11 16 15), (15, qs_ci 1 16), (16, qs_b2 (fun x y => x - y) 17), (17, qs_pf 11 16 20), (20, qs_lda 0 21), (21, qs_gf 11 15 24), (24, qs_ci 72 26), (26, qs_lda 0 27), (27, qs_gf 11 16 30), (30, qs_b2 (fun x y => x * y) 31), (31, qs_lda 0 32), (32, qs_gf 11 13 35), (35, qs_ci 0 36), (36, qs_sV 4 W_X11_copies 39), (39, qs_lda 0 40), (40, qs_gf 11 16 43), (43, qs_iret)]
noncomputable abbrev tb_X11_undo : List (Nat × pj_T (Int32 × pj_M)) := tb_X11_undo_0
theorem mv_X11_undo : pj_mv y_X11_undo c_X11_undo 1 (some .int) 0 := ⟨⟨cw_1252, cw_1250, cw_1251, cw_92⟩, by decide +kernel, by decide⟩
set_option maxRecDepth 20000 in
theorem sd_X11_undo_0 {G : pj_E} {A : Nat → Prop} {P : pj_P} {S : pj_U} {Z : pj_Z} (C : pj_C (G, A, (c_X11_undo, y_X11_undo.cls, 1, (some .int), 2), P, S, Z)) : ∀ q ∈ tb_X11_undo_0, pj_S (G, A, (c_X11_undo, y_X11_undo.cls, 1, (some .int), 2), P, S, Z) pj_eI q.1 q.2 :=
  List.forall_mem_cons.mpr ⟨qz_aload_n C (show decode c_X11_undo 0 = .ok (.aload_n 0, 1) by decide +kernel) rfl,
  List.forall_mem_cons.mpr ⟨qz_gf (k := 16) C (show decode c_X11_undo 1 = .ok (.getfield 170, 3) by decide +kernel) vcX11 wiX11 (by decide) cw_1034,
  List.forall_mem_cons.mpr ⟨qz_ifne C (show decode c_X11_undo 4 = .ok (.ifCond .ne 6, 3) by decide +kernel) (by decide),
  List.forall_mem_cons.mpr ⟨qz_ldc C (show decode c_X11_undo 7 = .ok (.ldc 234, 2) by decide +kernel) cw_1248,
  List.forall_mem_cons.mpr ⟨qz_iret C (show decode c_X11_undo 9 = .ok (.ireturn, 1) by decide +kernel) rfl,
  List.forall_mem_cons.mpr ⟨qz_aload_n C (show decode c_X11_undo 10 = .ok (.aload_n 0, 1) by decide +kernel) rfl,
  List.forall_mem_cons.mpr ⟨qz_dup C (show decode c_X11_undo 11 = .ok (.dup, 1) by decide +kernel),
  List.forall_mem_cons.mpr ⟨qz_gf (k := 16) C (show decode c_X11_undo 12 = .ok (.getfield 170, 3) by decide +kernel) vcX11 wiX11 (by decide) cw_1034,
  List.forall_mem_cons.mpr ⟨qz_iconst C (show decode c_X11_undo 15 = .ok (.iconst 1, 1) by decide +kernel) (by decide +kernel),
  List.forall_mem_cons.mpr ⟨qz_isub C (show decode c_X11_undo 16 = .ok (.isub, 1) by decide +kernel),
  List.forall_mem_cons.mpr ⟨qz_pf (k := 16) C (show decode c_X11_undo 17 = .ok (.putfield 170, 3) by decide +kernel) vcX11 wiX11 tyX11_ok nmX11 (by decide) cw_1034 rfl rfl,
  List.forall_mem_cons.mpr ⟨qz_aload_n C (show decode c_X11_undo 20 = .ok (.aload_n 0, 1) by decide +kernel) rfl,
  List.forall_mem_cons.mpr ⟨qz_gf (k := 15) C (show decode c_X11_undo 21 = .ok (.getfield 31, 3) by decide +kernel) vcX11 wiX11 (by decide) cw_1033,
  List.forall_mem_cons.mpr ⟨qz_bipush C (show decode c_X11_undo 24 = .ok (.bipush 72, 2) by decide +kernel) (by decide +kernel),
  List.forall_mem_cons.mpr ⟨qz_aload_n C (show decode c_X11_undo 26 = .ok (.aload_n 0, 1) by decide +kernel) rfl,
  List.forall_mem_cons.mpr ⟨qz_gf (k := 16) C (show decode c_X11_undo 27 = .ok (.getfield 170, 3) by decide +kernel) vcX11 wiX11 (by decide) cw_1034,
  List.forall_mem_cons.mpr ⟨qz_imul C (show decode c_X11_undo 30 = .ok (.imul, 1) by decide +kernel),
  List.forall_mem_cons.mpr ⟨qz_aload_n C (show decode c_X11_undo 31 = .ok (.aload_n 0, 1) by decide +kernel) rfl,
  List.forall_mem_cons.mpr ⟨qz_gf (k := 13) C (show decode c_X11_undo 32 = .ok (.getfield 25, 3) by decide +kernel) vcX11 wiX11 (by decide) cw_1031,
  List.forall_mem_cons.mpr ⟨qz_iconst C (show decode c_X11_undo 35 = .ok (.iconst 0, 1) by decide +kernel) (by decide +kernel),
  List.forall_mem_cons.mpr ⟨qz_sV C (show decode c_X11_undo 36 = .ok (.invokestatic 166, 3) by decide +kernel) ct_X11_copies mv_X11_copies (Or.inl cw_1210) (show 1 < 2 by omega),
  List.forall_mem_cons.mpr ⟨qz_aload_n C (show decode c_X11_undo 39 = .ok (.aload_n 0, 1) by decide +kernel) rfl,
  List.forall_mem_cons.mpr ⟨qz_gf (k := 16) C (show decode c_X11_undo 40 = .ok (.getfield 170, 3) by decide +kernel) vcX11 wiX11 (by decide) cw_1034,
  List.forall_mem_cons.mpr ⟨qz_iret C (show decode c_X11_undo 43 = .ok (.ireturn, 1) by decide +kernel) rfl,
  (fun q h => by cases h)⟩⟩⟩⟩⟩⟩⟩⟩⟩⟩⟩⟩⟩⟩⟩⟩⟩⟩⟩⟩⟩⟩⟩⟩
theorem sd_X11_undo {G : pj_E} {A : Nat → Prop} {P : pj_P} {S : pj_U} {Z : pj_Z} (C : pj_C (G, A, (c_X11_undo, y_X11_undo.cls, 1, (some .int), 2), P, S, Z)) : ∀ q ∈ tb_X11_undo, pj_S (G, A, (c_X11_undo, y_X11_undo.cls, 1, (some .int), 2), P, S, Z) pj_eI q.1 q.2 := sd_X11_undo_0 C
set_option maxRecDepth 20000 in
theorem eq_X11_undo (m : pj_M) : pj_run tb_X11_undo [] 26 0 [some (.inr (.inr (0, 11, 72)))] [] m = F_X11_undo m := by rfl
theorem ct_X11_undo : pj_Ct pj_eI y_X11_undo c_X11_undo 1 (some .int) 2 W_X11_undo := by
  refine pj_ct_of (by decide +kernel) ?_ ?_
  · intro as m r h
    unfold W_X11_undo at h
    split at h
    · simp [pj_l0]
    · cases h
  · intro G A P S Z C as m r h hR
    unfold W_X11_undo at h
    split at h
    · split at h
      · rename_i hbq
        simp only [Bool.and_eq_true, Nat.beq_eq] at hbq
        obtain ⟨rfl, rfl, rfl⟩ := hbq
        exact pj_run_ok (sd_X11_undo C) (fun q h => by cases h) 26 0 _ _ _ _ ((eq_X11_undo _).trans h) hR
      · cases h
    · cases h
/-! AlikeStepsModel.arc(II)I -/
abbrev c_X11_arc : ByteArray := prog_13_method_55_code
def y_X11_arc : MethodName := ⟨RX11, "arc", "(II)I"⟩
noncomputable def F_X11_arc (x1 : Int32) (x2 : Int32) (m : pj_M) : Option (Int32 × pj_M) := ((F_X11_isArc x1 m).bind fun q1 => (if q1.1 = 0 then (some ((-1000001), q1.2)) else ((F_X11_in x2 0 2 q1.2).bind fun q2 => (if q2.1 = 0 then (some ((-1000001), q2.2)) else (if ((12 + (3 * x1)) + x2) < 0 ∨ 72 ≤ ((12 + (3 * x1)) + x2).toNatClampNeg then none else (some (q2.2.1 78 ((12 + (3 * x1)) + x2).toNatClampNeg, q2.2)))))))
noncomputable def W_X11_arc : List pj_V → pj_M → Option (Int32 × pj_M) := fun as m => match as with
  | [.inr (.inr (t0, w0, a0)), .inl x1, .inl x2] => (match Nat.beq t0 0 && (Nat.beq w0 11 && (Nat.beq a0 72)) with
    | true => F_X11_arc x1 x2 m
    | false => none)
  | _ => none
noncomputable def tb_X11_arc_0 : List (Nat × pj_T (Int32 × pj_M)) := [(0, qs_lda 0 1), (1, qs_ldi 1 2), (2, qs_vI 11 2 W_X11_isArc 5), (5, qs_ifeq 33 8), (8, qs_ldi 2 9), (9, qs_ci 0 10), (10, qs_ci 2 11), (11, qs_sI 3 W_X11_in 14), (14, qs_ifeq 33 17), (17, qs_lda 0 18), (18, qs_gf 11 13 21), (21, qs_ci 12 23), (23, qs_ci 3 24), (24, qs_ldi 1 25), (25, qs_b2 (fun x y => x * y) 26), (26, qs_b2 (fun x y => x + y) 27), (27, qs_ldi 2 28), (28, qs_b2 (fun x y => x + y) 29), (29, qs_iald 30), (30, qs_go 35), (33, qs_ci (-1000001) 35), (35, qs_iret)]
noncomputable abbrev tb_X11_arc : List (Nat × pj_T (Int32 × pj_M)) := tb_X11_arc_0
theorem mv_X11_arc : pj_mv y_X11_arc c_X11_arc 3 (some .int) 2 := ⟨⟨cw_1256, cw_1254, cw_1255, cw_92⟩, by decide +kernel, by decide⟩
set_option maxRecDepth 20000 in
theorem sd_X11_arc_0 {G : pj_E} {A : Nat → Prop} {P : pj_P} {S : pj_U} {Z : pj_Z} (C : pj_C (G, A, (c_X11_arc, y_X11_arc.cls, 3, (some .int), 3), P, S, Z)) : ∀ q ∈ tb_X11_arc_0, pj_S (G, A, (c_X11_arc, y_X11_arc.cls, 3, (some .int), 3), P, S, Z) pj_eI q.1 q.2 :=
  List.forall_mem_cons.mpr ⟨qz_aload_n C (show decode c_X11_arc 0 = .ok (.aload_n 0, 1) by decide +kernel) rfl,
  List.forall_mem_cons.mpr ⟨qz_iload_n C (show decode c_X11_arc 1 = .ok (.iload_n 1, 1) by decide +kernel) rfl,
  List.forall_mem_cons.mpr ⟨qz_vI C (show decode c_X11_arc 2 = .ok (.invokevirtual 231, 3) by decide +kernel) ct_X11_isArc mv_X11_isArc cw_1236 vcX11 (show 2 < 3 by omega),
  List.forall_mem_cons.mpr ⟨qz_ifeq C (show decode c_X11_arc 5 = .ok (.ifCond .eq 28, 3) by decide +kernel) (by decide),
  List.forall_mem_cons.mpr ⟨qz_iload_n C (show decode c_X11_arc 8 = .ok (.iload_n 2, 1) by decide +kernel) rfl,
  List.forall_mem_cons.mpr ⟨qz_iconst C (show decode c_X11_arc 9 = .ok (.iconst 0, 1) by decide +kernel) (by decide +kernel),
  List.forall_mem_cons.mpr ⟨qz_iconst C (show decode c_X11_arc 10 = .ok (.iconst 2, 1) by decide +kernel) (by decide +kernel),
  List.forall_mem_cons.mpr ⟨qz_sI C (show decode c_X11_arc 11 = .ok (.invokestatic 84, 3) by decide +kernel) ct_X11_in mv_X11_in (Or.inl cw_1126) (show 1 < 3 by omega),
  List.forall_mem_cons.mpr ⟨qz_ifeq C (show decode c_X11_arc 14 = .ok (.ifCond .eq 19, 3) by decide +kernel) (by decide),
  List.forall_mem_cons.mpr ⟨qz_aload_n C (show decode c_X11_arc 17 = .ok (.aload_n 0, 1) by decide +kernel) rfl,
  List.forall_mem_cons.mpr ⟨qz_gf (k := 13) C (show decode c_X11_arc 18 = .ok (.getfield 25, 3) by decide +kernel) vcX11 wiX11 (by decide) cw_1031,
  List.forall_mem_cons.mpr ⟨qz_bipush C (show decode c_X11_arc 21 = .ok (.bipush 12, 2) by decide +kernel) (by decide +kernel),
  List.forall_mem_cons.mpr ⟨qz_iconst C (show decode c_X11_arc 23 = .ok (.iconst 3, 1) by decide +kernel) (by decide +kernel),
  List.forall_mem_cons.mpr ⟨qz_iload_n C (show decode c_X11_arc 24 = .ok (.iload_n 1, 1) by decide +kernel) rfl,
  List.forall_mem_cons.mpr ⟨qz_imul C (show decode c_X11_arc 25 = .ok (.imul, 1) by decide +kernel),
  List.forall_mem_cons.mpr ⟨qz_iadd C (show decode c_X11_arc 26 = .ok (.iadd, 1) by decide +kernel),
  List.forall_mem_cons.mpr ⟨qz_iload_n C (show decode c_X11_arc 27 = .ok (.iload_n 2, 1) by decide +kernel) rfl,
  List.forall_mem_cons.mpr ⟨qz_iadd C (show decode c_X11_arc 28 = .ok (.iadd, 1) by decide +kernel),
  List.forall_mem_cons.mpr ⟨qz_iald C (show decode c_X11_arc 29 = .ok (.iaload, 1) by decide +kernel),
  List.forall_mem_cons.mpr ⟨qz_goto C (show decode c_X11_arc 30 = .ok (.goto 5, 3) by decide +kernel) (by decide),
  List.forall_mem_cons.mpr ⟨qz_ldc C (show decode c_X11_arc 33 = .ok (.ldc 92, 2) by decide +kernel) cw_1129,
  List.forall_mem_cons.mpr ⟨qz_iret C (show decode c_X11_arc 35 = .ok (.ireturn, 1) by decide +kernel) rfl,
  (fun q h => by cases h)⟩⟩⟩⟩⟩⟩⟩⟩⟩⟩⟩⟩⟩⟩⟩⟩⟩⟩⟩⟩⟩⟩
theorem sd_X11_arc {G : pj_E} {A : Nat → Prop} {P : pj_P} {S : pj_U} {Z : pj_Z} (C : pj_C (G, A, (c_X11_arc, y_X11_arc.cls, 3, (some .int), 3), P, S, Z)) : ∀ q ∈ tb_X11_arc, pj_S (G, A, (c_X11_arc, y_X11_arc.cls, 3, (some .int), 3), P, S, Z) pj_eI q.1 q.2 := sd_X11_arc_0 C
set_option maxRecDepth 20000 in
theorem eq_X11_arc (x1 : Int32) (x2 : Int32) (m : pj_M) : pj_run tb_X11_arc [] 24 0 [some (.inr (.inr (0, 11, 72))), some (.inl x1), some (.inl x2)] [] m = F_X11_arc x1 x2 m := by rfl
theorem ct_X11_arc : pj_Ct pj_eI y_X11_arc c_X11_arc 3 (some .int) 3 W_X11_arc := by
  refine pj_ct_of (by decide +kernel) ?_ ?_
  · intro as m r h
    unfold W_X11_arc at h
    split at h
    · simp [pj_l0]
    · cases h
  · intro G A P S Z C as m r h hR
    unfold W_X11_arc at h
    split at h
    · split at h
      · rename_i hbq
        simp only [Bool.and_eq_true, Nat.beq_eq] at hbq
        obtain ⟨rfl, rfl, rfl⟩ := hbq
        exact pj_run_ok (sd_X11_arc C) (fun q h => by cases h) 24 0 _ _ _ _ ((eq_X11_arc _ _ _).trans h) hR
      · cases h
    · cases h
/-! AlikeStepsModel.moves(III)I -/
abbrev c_X11_moves : ByteArray := prog_13_method_56_code
def y_X11_moves : MethodName := ⟨RX11, "moves", "(III)I"⟩
noncomputable def F_X11_moves (x1 : Int32) (x2 : Int32) (x3 : Int32) (m : pj_M) : Option (Int32 × pj_M) := ((F_X11_in x1 0 2 m).bind fun q1 => (if q1.1 = 0 then (some ((-1000001), q1.2)) else ((F_X11_isState x2 q1.2).bind fun q2 => (if q2.1 = 0 then (some ((-1000001), q2.2)) else ((F_X11_isLetter x3 q2.2).bind fun q3 => (if q3.1 = 0 then (some ((-1000001), q3.2)) else ((F_X11_looks 72 78 0 q3.2).bind fun q4 => ((F_X11_moving x1 x2 x3 q4).bind fun q5 => (some (q5.1, q5.2))))))))))
noncomputable def W_X11_moves : List pj_V → pj_M → Option (Int32 × pj_M) := fun as m => match as with
  | [.inr (.inr (t0, w0, a0)), .inl x1, .inl x2, .inl x3] => (match Nat.beq t0 0 && (Nat.beq w0 11 && (Nat.beq a0 72)) with
    | true => F_X11_moves x1 x2 x3 m
    | false => none)
  | _ => none
noncomputable def tb_X11_moves_0 : List (Nat × pj_T (Int32 × pj_M)) := [(0, qs_ldi 1 1), (1, qs_ci 0 2), (2, qs_ci 2 3), (3, qs_sI 3 W_X11_in 6), (6, qs_ifeq 24 9), (9, qs_lda 0 10), (10, qs_ldi 2 11), (11, qs_vI 11 2 W_X11_isState 14), (14, qs_ifeq 24 17), (17, qs_ldi 3 18), (18, qs_sI 1 W_X11_isLetter 21), (21, qs_ifne 27 24), (24, qs_ci (-1000001) 26), (26, qs_iret), (27, qs_lda 0 28), (28, qs_lda 0 29), (29, qs_gf 11 13 32), (32, qs_ci 0 33), (33, qs_vV 11 3 W_X11_looks 36), (36, qs_lda 0 37), (37, qs_ldi 1 38), (38, qs_ldi 2 39), (39, qs_ldi 3 40), (40, qs_vI 11 4 W_X11_moving 43), (43, qs_iret)]
noncomputable abbrev tb_X11_moves : List (Nat × pj_T (Int32 × pj_M)) := tb_X11_moves_0
theorem mv_X11_moves : pj_mv y_X11_moves c_X11_moves 4 (some .int) 3 := ⟨⟨cw_1260, cw_1258, cw_1259, cw_92⟩, by decide +kernel, by decide⟩
set_option maxRecDepth 20000 in
theorem sd_X11_moves_0 {G : pj_E} {A : Nat → Prop} {P : pj_P} {S : pj_U} {Z : pj_Z} (C : pj_C (G, A, (c_X11_moves, y_X11_moves.cls, 4, (some .int), 5), P, S, Z)) : ∀ q ∈ tb_X11_moves_0, pj_S (G, A, (c_X11_moves, y_X11_moves.cls, 4, (some .int), 5), P, S, Z) pj_eI q.1 q.2 :=
  List.forall_mem_cons.mpr ⟨qz_iload_n C (show decode c_X11_moves 0 = .ok (.iload_n 1, 1) by decide +kernel) rfl,
  List.forall_mem_cons.mpr ⟨qz_iconst C (show decode c_X11_moves 1 = .ok (.iconst 0, 1) by decide +kernel) (by decide +kernel),
  List.forall_mem_cons.mpr ⟨qz_iconst C (show decode c_X11_moves 2 = .ok (.iconst 2, 1) by decide +kernel) (by decide +kernel),
  List.forall_mem_cons.mpr ⟨qz_sI C (show decode c_X11_moves 3 = .ok (.invokestatic 84, 3) by decide +kernel) ct_X11_in mv_X11_in (Or.inl cw_1126) (show 1 < 5 by omega),
  List.forall_mem_cons.mpr ⟨qz_ifeq C (show decode c_X11_moves 6 = .ok (.ifCond .eq 18, 3) by decide +kernel) (by decide),
  List.forall_mem_cons.mpr ⟨qz_aload_n C (show decode c_X11_moves 9 = .ok (.aload_n 0, 1) by decide +kernel) rfl,
  List.forall_mem_cons.mpr ⟨qz_iload_n C (show decode c_X11_moves 10 = .ok (.iload_n 2, 1) by decide +kernel) rfl,
  List.forall_mem_cons.mpr ⟨qz_vI C (show decode c_X11_moves 11 = .ok (.invokevirtual 225, 3) by decide +kernel) ct_X11_isState mv_X11_isState cw_1224 vcX11 (show 2 < 5 by omega),
  List.forall_mem_cons.mpr ⟨qz_ifeq C (show decode c_X11_moves 14 = .ok (.ifCond .eq 10, 3) by decide +kernel) (by decide),
  List.forall_mem_cons.mpr ⟨qz_iload_n C (show decode c_X11_moves 17 = .ok (.iload_n 3, 1) by decide +kernel) rfl,
  List.forall_mem_cons.mpr ⟨qz_sI C (show decode c_X11_moves 18 = .ok (.invokestatic 222, 3) by decide +kernel) ct_X11_isLetter mv_X11_isLetter (Or.inl cw_1221) (show 2 < 5 by omega),
  List.forall_mem_cons.mpr ⟨qz_ifne C (show decode c_X11_moves 21 = .ok (.ifCond .ne 6, 3) by decide +kernel) (by decide),
  List.forall_mem_cons.mpr ⟨qz_ldc C (show decode c_X11_moves 24 = .ok (.ldc 92, 2) by decide +kernel) cw_1129,
  List.forall_mem_cons.mpr ⟨qz_iret C (show decode c_X11_moves 26 = .ok (.ireturn, 1) by decide +kernel) rfl,
  List.forall_mem_cons.mpr ⟨qz_aload_n C (show decode c_X11_moves 27 = .ok (.aload_n 0, 1) by decide +kernel) rfl,
  List.forall_mem_cons.mpr ⟨qz_aload_n C (show decode c_X11_moves 28 = .ok (.aload_n 0, 1) by decide +kernel) rfl,
  List.forall_mem_cons.mpr ⟨qz_gf (k := 13) C (show decode c_X11_moves 29 = .ok (.getfield 25, 3) by decide +kernel) vcX11 wiX11 (by decide) cw_1031,
  List.forall_mem_cons.mpr ⟨qz_iconst C (show decode c_X11_moves 32 = .ok (.iconst 0, 1) by decide +kernel) (by decide +kernel),
  List.forall_mem_cons.mpr ⟨qz_vV C (show decode c_X11_moves 33 = .ok (.invokevirtual 235, 3) by decide +kernel) ct_X11_looks mv_X11_looks cw_1261 vcX11 (show 4 < 5 by omega),
  List.forall_mem_cons.mpr ⟨qz_aload_n C (show decode c_X11_moves 36 = .ok (.aload_n 0, 1) by decide +kernel) rfl,
  List.forall_mem_cons.mpr ⟨qz_iload_n C (show decode c_X11_moves 37 = .ok (.iload_n 1, 1) by decide +kernel) rfl,
  List.forall_mem_cons.mpr ⟨qz_iload_n C (show decode c_X11_moves 38 = .ok (.iload_n 2, 1) by decide +kernel) rfl,
  List.forall_mem_cons.mpr ⟨qz_iload_n C (show decode c_X11_moves 39 = .ok (.iload_n 3, 1) by decide +kernel) rfl,
  List.forall_mem_cons.mpr ⟨qz_vI C (show decode c_X11_moves 40 = .ok (.invokevirtual 200, 3) by decide +kernel) ct_X11_moving mv_X11_moving cw_1284 vcX11 (show 3 < 5 by omega),
  List.forall_mem_cons.mpr ⟨qz_iret C (show decode c_X11_moves 43 = .ok (.ireturn, 1) by decide +kernel) rfl,
  (fun q h => by cases h)⟩⟩⟩⟩⟩⟩⟩⟩⟩⟩⟩⟩⟩⟩⟩⟩⟩⟩⟩⟩⟩⟩⟩⟩⟩
theorem sd_X11_moves {G : pj_E} {A : Nat → Prop} {P : pj_P} {S : pj_U} {Z : pj_Z} (C : pj_C (G, A, (c_X11_moves, y_X11_moves.cls, 4, (some .int), 5), P, S, Z)) : ∀ q ∈ tb_X11_moves, pj_S (G, A, (c_X11_moves, y_X11_moves.cls, 4, (some .int), 5), P, S, Z) pj_eI q.1 q.2 := sd_X11_moves_0 C
set_option maxRecDepth 20000 in
theorem eq_X11_moves (x1 : Int32) (x2 : Int32) (x3 : Int32) (m : pj_M) : pj_run tb_X11_moves [] 27 0 [some (.inr (.inr (0, 11, 72))), some (.inl x1), some (.inl x2), some (.inl x3)] [] m = F_X11_moves x1 x2 x3 m := by rfl
theorem ct_X11_moves : pj_Ct pj_eI y_X11_moves c_X11_moves 4 (some .int) 5 W_X11_moves := by
  refine pj_ct_of (by decide +kernel) ?_ ?_
  · intro as m r h
    unfold W_X11_moves at h
    split at h
    · simp [pj_l0]
    · cases h
  · intro G A P S Z C as m r h hR
    unfold W_X11_moves at h
    split at h
    · split at h
      · rename_i hbq
        simp only [Bool.and_eq_true, Nat.beq_eq] at hbq
        obtain ⟨rfl, rfl, rfl⟩ := hbq
        exact pj_run_ok (sd_X11_moves C) (fun q h => by cases h) 27 0 _ _ _ _ ((eq_X11_moves _ _ _ _).trans h) hR
      · cases h
    · cases h
/-! AlikeStepsModel.blockOf(II)I -/
abbrev c_X11_blockOf : ByteArray := prog_13_method_57_code
def y_X11_blockOf : MethodName := ⟨RX11, "blockOf", "(II)I"⟩
noncomputable def F_X11_blockOf (x1 : Int32) (x2 : Int32) (m : pj_M) : Option (Int32 × pj_M) := ((F_X11_looks 72 78 0 m).bind fun q1 => ((F_X11_partsBy x1 q1).bind fun q2 => ((F_X11_blockIn (q2.2.1 72 23) x2 q2.2).bind fun q3 => (some (q3.1, q3.2)))))
noncomputable def W_X11_blockOf : List pj_V → pj_M → Option (Int32 × pj_M) := fun as m => match as with
  | [.inr (.inr (t0, w0, a0)), .inl x1, .inl x2] => (match Nat.beq t0 0 && (Nat.beq w0 11 && (Nat.beq a0 72)) with
    | true => F_X11_blockOf x1 x2 m
    | false => none)
  | _ => none
noncomputable def tb_X11_blockOf_0 : List (Nat × pj_T (Int32 × pj_M)) := [(0, qs_lda 0 1), (1, qs_lda 0 2), (2, qs_gf 11 13 5), (5, qs_ci 0 6), (6, qs_vV 11 3 W_X11_looks 9), (9, qs_lda 0 10), (10, qs_ldi 1 11), (11, qs_vI 11 2 W_X11_partsBy 14), (14, qs_pop 15), (15, qs_lda 0 16), (16, qs_lda 0 17), (17, qs_gf 11 23 20), (20, qs_ldi 2 21), (21, qs_vI 11 3 W_X11_blockIn 24), (24, qs_iret)]
noncomputable abbrev tb_X11_blockOf : List (Nat × pj_T (Int32 × pj_M)) := tb_X11_blockOf_0
theorem mv_X11_blockOf : pj_mv y_X11_blockOf c_X11_blockOf 3 (some .int) 2 := ⟨⟨cw_1299, cw_1298, cw_54, cw_92⟩, by decide +kernel, by decide⟩
set_option maxRecDepth 20000 in
theorem sd_X11_blockOf_0 {G : pj_E} {A : Nat → Prop} {P : pj_P} {S : pj_U} {Z : pj_Z} (C : pj_C (G, A, (c_X11_blockOf, y_X11_blockOf.cls, 3, (some .int), 6), P, S, Z)) : ∀ q ∈ tb_X11_blockOf_0, pj_S (G, A, (c_X11_blockOf, y_X11_blockOf.cls, 3, (some .int), 6), P, S, Z) pj_eI q.1 q.2 :=
  List.forall_mem_cons.mpr ⟨qz_aload_n C (show decode c_X11_blockOf 0 = .ok (.aload_n 0, 1) by decide +kernel) rfl,
  List.forall_mem_cons.mpr ⟨qz_aload_n C (show decode c_X11_blockOf 1 = .ok (.aload_n 0, 1) by decide +kernel) rfl,
  List.forall_mem_cons.mpr ⟨qz_gf (k := 13) C (show decode c_X11_blockOf 2 = .ok (.getfield 25, 3) by decide +kernel) vcX11 wiX11 (by decide) cw_1031,
  List.forall_mem_cons.mpr ⟨qz_iconst C (show decode c_X11_blockOf 5 = .ok (.iconst 0, 1) by decide +kernel) (by decide +kernel),
  List.forall_mem_cons.mpr ⟨qz_vV C (show decode c_X11_blockOf 6 = .ok (.invokevirtual 235, 3) by decide +kernel) ct_X11_looks mv_X11_looks cw_1261 vcX11 (show 4 < 6 by omega),
  List.forall_mem_cons.mpr ⟨qz_aload_n C (show decode c_X11_blockOf 9 = .ok (.aload_n 0, 1) by decide +kernel) rfl,
  List.forall_mem_cons.mpr ⟨qz_iload_n C (show decode c_X11_blockOf 10 = .ok (.iload_n 1, 1) by decide +kernel) rfl,
  List.forall_mem_cons.mpr ⟨qz_vI C (show decode c_X11_blockOf 11 = .ok (.invokevirtual 239, 3) by decide +kernel) ct_X11_partsBy mv_X11_partsBy cw_1300 vcX11 (show 5 < 6 by omega),
  List.forall_mem_cons.mpr ⟨qz_pop C (show decode c_X11_blockOf 14 = .ok (.pop, 1) by decide +kernel),
  List.forall_mem_cons.mpr ⟨qz_aload_n C (show decode c_X11_blockOf 15 = .ok (.aload_n 0, 1) by decide +kernel) rfl,
  List.forall_mem_cons.mpr ⟨qz_aload_n C (show decode c_X11_blockOf 16 = .ok (.aload_n 0, 1) by decide +kernel) rfl,
  List.forall_mem_cons.mpr ⟨qz_gf (k := 23) C (show decode c_X11_blockOf 17 = .ok (.getfield 216, 3) by decide +kernel) vcX11 wiX11 (by decide) cw_1041,
  List.forall_mem_cons.mpr ⟨qz_iload_n C (show decode c_X11_blockOf 20 = .ok (.iload_n 2, 1) by decide +kernel) rfl,
  List.forall_mem_cons.mpr ⟨qz_vI C (show decode c_X11_blockOf 21 = .ok (.invokevirtual 194, 3) by decide +kernel) ct_X11_blockIn mv_X11_blockIn cw_1312 vcX11 (show 1 < 6 by omega),
  List.forall_mem_cons.mpr ⟨qz_iret C (show decode c_X11_blockOf 24 = .ok (.ireturn, 1) by decide +kernel) rfl,
  (fun q h => by cases h)⟩⟩⟩⟩⟩⟩⟩⟩⟩⟩⟩⟩⟩⟩⟩
theorem sd_X11_blockOf {G : pj_E} {A : Nat → Prop} {P : pj_P} {S : pj_U} {Z : pj_Z} (C : pj_C (G, A, (c_X11_blockOf, y_X11_blockOf.cls, 3, (some .int), 6), P, S, Z)) : ∀ q ∈ tb_X11_blockOf, pj_S (G, A, (c_X11_blockOf, y_X11_blockOf.cls, 3, (some .int), 6), P, S, Z) pj_eI q.1 q.2 := sd_X11_blockOf_0 C
set_option maxRecDepth 20000 in
theorem eq_X11_blockOf (x1 : Int32) (x2 : Int32) (m : pj_M) : pj_run tb_X11_blockOf [] 17 0 [some (.inr (.inr (0, 11, 72))), some (.inl x1), some (.inl x2)] [] m = F_X11_blockOf x1 x2 m := by rfl
theorem ct_X11_blockOf : pj_Ct pj_eI y_X11_blockOf c_X11_blockOf 3 (some .int) 6 W_X11_blockOf := by
  refine pj_ct_of (by decide +kernel) ?_ ?_
  · intro as m r h
    unfold W_X11_blockOf at h
    split at h
    · simp [pj_l0]
    · cases h
  · intro G A P S Z C as m r h hR
    unfold W_X11_blockOf at h
    split at h
    · split at h
      · rename_i hbq
        simp only [Bool.and_eq_true, Nat.beq_eq] at hbq
        obtain ⟨rfl, rfl, rfl⟩ := hbq
        exact pj_run_ok (sd_X11_blockOf C) (fun q h => by cases h) 17 0 _ _ _ _ ((eq_X11_blockOf _ _ _).trans h) hR
      · cases h
    · cases h
/-! AlikeStepsModel.block(II)I -/
abbrev c_X11_block : ByteArray := prog_13_method_58_code
def y_X11_block : MethodName := ⟨RX11, "block", "(II)I"⟩
noncomputable def F_X11_block (x1 : Int32) (x2 : Int32) (m : pj_M) : Option (Int32 × pj_M) := ((F_X11_in x1 0 3 m).bind fun q1 => (if q1.1 = 0 then (some ((-1000001), q1.2)) else ((F_X11_isState x2 q1.2).bind fun q2 => (if q2.1 = 0 then (some ((-1000001), q2.2)) else ((F_X11_blockOf x1 x2 q2.2).bind fun q3 => (some (q3.1, q3.2)))))))
noncomputable def W_X11_block : List pj_V → pj_M → Option (Int32 × pj_M) := fun as m => match as with
  | [.inr (.inr (t0, w0, a0)), .inl x1, .inl x2] => (match Nat.beq t0 0 && (Nat.beq w0 11 && (Nat.beq a0 72)) with
    | true => F_X11_block x1 x2 m
    | false => none)
  | _ => none
noncomputable def tb_X11_block_0 : List (Nat × pj_T (Int32 × pj_M)) := [(0, qs_ldi 1 1), (1, qs_ci 0 2), (2, qs_ci 3 3), (3, qs_sI 3 W_X11_in 6), (6, qs_ifeq 26 9), (9, qs_lda 0 10), (10, qs_ldi 2 11), (11, qs_vI 11 2 W_X11_isState 14), (14, qs_ifeq 26 17), (17, qs_lda 0 18), (18, qs_ldi 1 19), (19, qs_ldi 2 20), (20, qs_vI 11 3 W_X11_blockOf 23), (23, qs_go 28), (26, qs_ci (-1000001) 28), (28, qs_iret)]
noncomputable abbrev tb_X11_block : List (Nat × pj_T (Int32 × pj_M)) := tb_X11_block_0
theorem mv_X11_block : pj_mv y_X11_block c_X11_block 3 (some .int) 2 := ⟨⟨cw_1295, cw_1293, cw_1294, cw_92⟩, by decide +kernel, by decide⟩
set_option maxRecDepth 20000 in
theorem sd_X11_block_0 {G : pj_E} {A : Nat → Prop} {P : pj_P} {S : pj_U} {Z : pj_Z} (C : pj_C (G, A, (c_X11_block, y_X11_block.cls, 3, (some .int), 7), P, S, Z)) : ∀ q ∈ tb_X11_block_0, pj_S (G, A, (c_X11_block, y_X11_block.cls, 3, (some .int), 7), P, S, Z) pj_eI q.1 q.2 :=
  List.forall_mem_cons.mpr ⟨qz_iload_n C (show decode c_X11_block 0 = .ok (.iload_n 1, 1) by decide +kernel) rfl,
  List.forall_mem_cons.mpr ⟨qz_iconst C (show decode c_X11_block 1 = .ok (.iconst 0, 1) by decide +kernel) (by decide +kernel),
  List.forall_mem_cons.mpr ⟨qz_iconst C (show decode c_X11_block 2 = .ok (.iconst 3, 1) by decide +kernel) (by decide +kernel),
  List.forall_mem_cons.mpr ⟨qz_sI C (show decode c_X11_block 3 = .ok (.invokestatic 84, 3) by decide +kernel) ct_X11_in mv_X11_in (Or.inl cw_1126) (show 1 < 7 by omega),
  List.forall_mem_cons.mpr ⟨qz_ifeq C (show decode c_X11_block 6 = .ok (.ifCond .eq 20, 3) by decide +kernel) (by decide),
  List.forall_mem_cons.mpr ⟨qz_aload_n C (show decode c_X11_block 9 = .ok (.aload_n 0, 1) by decide +kernel) rfl,
  List.forall_mem_cons.mpr ⟨qz_iload_n C (show decode c_X11_block 10 = .ok (.iload_n 2, 1) by decide +kernel) rfl,
  List.forall_mem_cons.mpr ⟨qz_vI C (show decode c_X11_block 11 = .ok (.invokevirtual 225, 3) by decide +kernel) ct_X11_isState mv_X11_isState cw_1224 vcX11 (show 2 < 7 by omega),
  List.forall_mem_cons.mpr ⟨qz_ifeq C (show decode c_X11_block 14 = .ok (.ifCond .eq 12, 3) by decide +kernel) (by decide),
  List.forall_mem_cons.mpr ⟨qz_aload_n C (show decode c_X11_block 17 = .ok (.aload_n 0, 1) by decide +kernel) rfl,
  List.forall_mem_cons.mpr ⟨qz_iload_n C (show decode c_X11_block 18 = .ok (.iload_n 1, 1) by decide +kernel) rfl,
  List.forall_mem_cons.mpr ⟨qz_iload_n C (show decode c_X11_block 19 = .ok (.iload_n 2, 1) by decide +kernel) rfl,
  List.forall_mem_cons.mpr ⟨qz_vI C (show decode c_X11_block 20 = .ok (.invokevirtual 242, 3) by decide +kernel) ct_X11_blockOf mv_X11_blockOf cw_1296 vcX11 (show 6 < 7 by omega),
  List.forall_mem_cons.mpr ⟨qz_goto C (show decode c_X11_block 23 = .ok (.goto 5, 3) by decide +kernel) (by decide),
  List.forall_mem_cons.mpr ⟨qz_ldc C (show decode c_X11_block 26 = .ok (.ldc 92, 2) by decide +kernel) cw_1129,
  List.forall_mem_cons.mpr ⟨qz_iret C (show decode c_X11_block 28 = .ok (.ireturn, 1) by decide +kernel) rfl,
  (fun q h => by cases h)⟩⟩⟩⟩⟩⟩⟩⟩⟩⟩⟩⟩⟩⟩⟩⟩
theorem sd_X11_block {G : pj_E} {A : Nat → Prop} {P : pj_P} {S : pj_U} {Z : pj_Z} (C : pj_C (G, A, (c_X11_block, y_X11_block.cls, 3, (some .int), 7), P, S, Z)) : ∀ q ∈ tb_X11_block, pj_S (G, A, (c_X11_block, y_X11_block.cls, 3, (some .int), 7), P, S, Z) pj_eI q.1 q.2 := sd_X11_block_0 C
set_option maxRecDepth 20000 in
theorem eq_X11_block (x1 : Int32) (x2 : Int32) (m : pj_M) : pj_run tb_X11_block [] 18 0 [some (.inr (.inr (0, 11, 72))), some (.inl x1), some (.inl x2)] [] m = F_X11_block x1 x2 m := by rfl
theorem ct_X11_block : pj_Ct pj_eI y_X11_block c_X11_block 3 (some .int) 7 W_X11_block := by
  refine pj_ct_of (by decide +kernel) ?_ ?_
  · intro as m r h
    unfold W_X11_block at h
    split at h
    · simp [pj_l0]
    · cases h
  · intro G A P S Z C as m r h hR
    unfold W_X11_block at h
    split at h
    · split at h
      · rename_i hbq
        simp only [Bool.and_eq_true, Nat.beq_eq] at hbq
        obtain ⟨rfl, rfl, rfl⟩ := hbq
        exact pj_run_ok (sd_X11_block C) (fun q h => by cases h) 18 0 _ _ _ _ ((eq_X11_block _ _ _).trans h) hR
      · cases h
    · cases h
/-! AlikeStepsModel.parts(II)I -/
abbrev c_X11_parts : ByteArray := prog_13_method_59_code
def y_X11_parts : MethodName := ⟨RX11, "parts", "(II)I"⟩
noncomputable def F_X11_parts (x1 : Int32) (x2 : Int32) (m : pj_M) : Option (Int32 × pj_M) := ((F_X11_isSystem m).bind fun q1 => (if q1.1 = 0 then (some ((-1000002), q1.2)) else ((F_X11_in x1 0 3 q1.2).bind fun q2 => (if q2.1 = 0 then (some ((-1000001), q2.2)) else ((F_X11_in x2 0 1 q2.2).bind fun q3 => (if q3.1 = 0 then (some ((-1000001), q3.2)) else ((F_X11_looks 72 78 0 q3.2).bind fun q4 => ((F_X11_partsBy x1 q4).bind fun q5 => (if x2 = 0 then (some (q5.1, q5.2)) else (some (q5.2.1 72 23, q5.2)))))))))))
noncomputable def W_X11_parts : List pj_V → pj_M → Option (Int32 × pj_M) := fun as m => match as with
  | [.inr (.inr (t0, w0, a0)), .inl x1, .inl x2] => (match Nat.beq t0 0 && (Nat.beq w0 11 && (Nat.beq a0 72)) with
    | true => F_X11_parts x1 x2 m
    | false => none)
  | _ => none
noncomputable def tb_X11_parts_0 : List (Nat × pj_T (Int32 × pj_M)) := [(0, qs_lda 0 1), (1, qs_vI 11 1 W_X11_isSystem 4), (4, qs_ifne 10 7), (7, qs_ci (-1000002) 9), (9, qs_iret), (10, qs_ldi 1 11), (11, qs_ci 0 12), (12, qs_ci 3 13), (13, qs_sI 3 W_X11_in 16), (16, qs_ifeq 28 19), (19, qs_ldi 2 20), (20, qs_ci 0 21), (21, qs_ci 1 22), (22, qs_sI 3 W_X11_in 25), (25, qs_ifne 31 28), (28, qs_ci (-1000001) 30), (30, qs_iret), (31, qs_lda 0 32), (32, qs_lda 0 33), (33, qs_gf 11 13 36), (36, qs_ci 0 37), (37, qs_vV 11 3 W_X11_looks 40), (40, qs_lda 0 41), (41, qs_ldi 1 42), (42, qs_vI 11 2 W_X11_partsBy 45), (45, qs_sti 3 46), (46, qs_ldi 2 47), (47, qs_ifne 54 50), (50, qs_ldi 3 51), (51, qs_go 58), (54, qs_lda 0 55), (55, qs_gf 11 23 58), (58, qs_iret)]
noncomputable abbrev tb_X11_parts : List (Nat × pj_T (Int32 × pj_M)) := tb_X11_parts_0
theorem mv_X11_parts : pj_mv y_X11_parts c_X11_parts 4 (some .int) 2 := ⟨⟨cw_1332, cw_1330, cw_1331, cw_92⟩, by decide +kernel, by decide⟩
set_option maxRecDepth 20000 in
theorem sd_X11_parts_0 {G : pj_E} {A : Nat → Prop} {P : pj_P} {S : pj_U} {Z : pj_Z} (C : pj_C (G, A, (c_X11_parts, y_X11_parts.cls, 4, (some .int), 6), P, S, Z)) : ∀ q ∈ tb_X11_parts_0, pj_S (G, A, (c_X11_parts, y_X11_parts.cls, 4, (some .int), 6), P, S, Z) pj_eI q.1 q.2 :=
  List.forall_mem_cons.mpr ⟨qz_aload_n C (show decode c_X11_parts 0 = .ok (.aload_n 0, 1) by decide +kernel) rfl,
  List.forall_mem_cons.mpr ⟨qz_vI C (show decode c_X11_parts 1 = .ok (.invokevirtual 245, 3) by decide +kernel) ct_X11_isSystem mv_X11_isSystem cw_1333 vcX11 (show 1 < 6 by omega),
  List.forall_mem_cons.mpr ⟨qz_ifne C (show decode c_X11_parts 4 = .ok (.ifCond .ne 6, 3) by decide +kernel) (by decide),
  List.forall_mem_cons.mpr ⟨qz_ldc C (show decode c_X11_parts 7 = .ok (.ldc 234, 2) by decide +kernel) cw_1248,
  List.forall_mem_cons.mpr ⟨qz_iret C (show decode c_X11_parts 9 = .ok (.ireturn, 1) by decide +kernel) rfl,
  List.forall_mem_cons.mpr ⟨qz_iload_n C (show decode c_X11_parts 10 = .ok (.iload_n 1, 1) by decide +kernel) rfl,
  List.forall_mem_cons.mpr ⟨qz_iconst C (show decode c_X11_parts 11 = .ok (.iconst 0, 1) by decide +kernel) (by decide +kernel),
  List.forall_mem_cons.mpr ⟨qz_iconst C (show decode c_X11_parts 12 = .ok (.iconst 3, 1) by decide +kernel) (by decide +kernel),
  List.forall_mem_cons.mpr ⟨qz_sI C (show decode c_X11_parts 13 = .ok (.invokestatic 84, 3) by decide +kernel) ct_X11_in mv_X11_in (Or.inl cw_1126) (show 1 < 6 by omega),
  List.forall_mem_cons.mpr ⟨qz_ifeq C (show decode c_X11_parts 16 = .ok (.ifCond .eq 12, 3) by decide +kernel) (by decide),
  List.forall_mem_cons.mpr ⟨qz_iload_n C (show decode c_X11_parts 19 = .ok (.iload_n 2, 1) by decide +kernel) rfl,
  List.forall_mem_cons.mpr ⟨qz_iconst C (show decode c_X11_parts 20 = .ok (.iconst 0, 1) by decide +kernel) (by decide +kernel),
  List.forall_mem_cons.mpr ⟨qz_iconst C (show decode c_X11_parts 21 = .ok (.iconst 1, 1) by decide +kernel) (by decide +kernel),
  List.forall_mem_cons.mpr ⟨qz_sI C (show decode c_X11_parts 22 = .ok (.invokestatic 84, 3) by decide +kernel) ct_X11_in mv_X11_in (Or.inl cw_1126) (show 1 < 6 by omega),
  List.forall_mem_cons.mpr ⟨qz_ifne C (show decode c_X11_parts 25 = .ok (.ifCond .ne 6, 3) by decide +kernel) (by decide),
  List.forall_mem_cons.mpr ⟨qz_ldc C (show decode c_X11_parts 28 = .ok (.ldc 92, 2) by decide +kernel) cw_1129,
  List.forall_mem_cons.mpr ⟨qz_iret C (show decode c_X11_parts 30 = .ok (.ireturn, 1) by decide +kernel) rfl,
  List.forall_mem_cons.mpr ⟨qz_aload_n C (show decode c_X11_parts 31 = .ok (.aload_n 0, 1) by decide +kernel) rfl,
  List.forall_mem_cons.mpr ⟨qz_aload_n C (show decode c_X11_parts 32 = .ok (.aload_n 0, 1) by decide +kernel) rfl,
  List.forall_mem_cons.mpr ⟨qz_gf (k := 13) C (show decode c_X11_parts 33 = .ok (.getfield 25, 3) by decide +kernel) vcX11 wiX11 (by decide) cw_1031,
  List.forall_mem_cons.mpr ⟨qz_iconst C (show decode c_X11_parts 36 = .ok (.iconst 0, 1) by decide +kernel) (by decide +kernel),
  List.forall_mem_cons.mpr ⟨qz_vV C (show decode c_X11_parts 37 = .ok (.invokevirtual 235, 3) by decide +kernel) ct_X11_looks mv_X11_looks cw_1261 vcX11 (show 4 < 6 by omega),
  List.forall_mem_cons.mpr ⟨qz_aload_n C (show decode c_X11_parts 40 = .ok (.aload_n 0, 1) by decide +kernel) rfl,
  List.forall_mem_cons.mpr ⟨qz_iload_n C (show decode c_X11_parts 41 = .ok (.iload_n 1, 1) by decide +kernel) rfl,
  List.forall_mem_cons.mpr ⟨qz_vI C (show decode c_X11_parts 42 = .ok (.invokevirtual 239, 3) by decide +kernel) ct_X11_partsBy mv_X11_partsBy cw_1300 vcX11 (show 5 < 6 by omega),
  List.forall_mem_cons.mpr ⟨qz_istore_n C (show decode c_X11_parts 45 = .ok (.istore_n 3, 1) by decide +kernel) rfl,
  List.forall_mem_cons.mpr ⟨qz_iload_n C (show decode c_X11_parts 46 = .ok (.iload_n 2, 1) by decide +kernel) rfl,
  List.forall_mem_cons.mpr ⟨qz_ifne C (show decode c_X11_parts 47 = .ok (.ifCond .ne 7, 3) by decide +kernel) (by decide),
  List.forall_mem_cons.mpr ⟨qz_iload_n C (show decode c_X11_parts 50 = .ok (.iload_n 3, 1) by decide +kernel) rfl,
  List.forall_mem_cons.mpr ⟨qz_goto C (show decode c_X11_parts 51 = .ok (.goto 7, 3) by decide +kernel) (by decide),
  List.forall_mem_cons.mpr ⟨qz_aload_n C (show decode c_X11_parts 54 = .ok (.aload_n 0, 1) by decide +kernel) rfl,
  List.forall_mem_cons.mpr ⟨qz_gf (k := 23) C (show decode c_X11_parts 55 = .ok (.getfield 216, 3) by decide +kernel) vcX11 wiX11 (by decide) cw_1041,
  List.forall_mem_cons.mpr ⟨qz_iret C (show decode c_X11_parts 58 = .ok (.ireturn, 1) by decide +kernel) rfl,
  (fun q h => by cases h)⟩⟩⟩⟩⟩⟩⟩⟩⟩⟩⟩⟩⟩⟩⟩⟩⟩⟩⟩⟩⟩⟩⟩⟩⟩⟩⟩⟩⟩⟩⟩⟩⟩
theorem sd_X11_parts {G : pj_E} {A : Nat → Prop} {P : pj_P} {S : pj_U} {Z : pj_Z} (C : pj_C (G, A, (c_X11_parts, y_X11_parts.cls, 4, (some .int), 6), P, S, Z)) : ∀ q ∈ tb_X11_parts, pj_S (G, A, (c_X11_parts, y_X11_parts.cls, 4, (some .int), 6), P, S, Z) pj_eI q.1 q.2 := sd_X11_parts_0 C
set_option maxRecDepth 20000 in
theorem eq_X11_parts (x1 : Int32) (x2 : Int32) (m : pj_M) : pj_run tb_X11_parts [] 35 0 [some (.inr (.inr (0, 11, 72))), some (.inl x1), some (.inl x2), none] [] m = F_X11_parts x1 x2 m := by rfl
theorem ct_X11_parts : pj_Ct pj_eI y_X11_parts c_X11_parts 4 (some .int) 6 W_X11_parts := by
  refine pj_ct_of (by decide +kernel) ?_ ?_
  · intro as m r h
    unfold W_X11_parts at h
    split at h
    · simp [pj_l0]
    · cases h
  · intro G A P S Z C as m r h hR
    unfold W_X11_parts at h
    split at h
    · split at h
      · rename_i hbq
        simp only [Bool.and_eq_true, Nat.beq_eq] at hbq
        obtain ⟨rfl, rfl, rfl⟩ := hbq
        exact pj_run_ok (sd_X11_parts C) (fun q h => by cases h) 35 0 _ _ _ _ ((eq_X11_parts _ _ _).trans h) hR
      · cases h
    · cases h
/-! AlikeStepsModel.behind(III)I -/
abbrev c_X11_behind : ByteArray := prog_13_method_60_code
def y_X11_behind : MethodName := ⟨RX11, "behind", "(III)I"⟩
noncomputable def F_X11_behind (x1 : Int32) (x2 : Int32) (x3 : Int32) (m : pj_M) : Option (Int32 × pj_M) := ((F_X11_in x1 0 3 m).bind fun q1 => (if q1.1 = 0 then (some ((-1000001), q1.2)) else ((F_X11_in x2 0 20 q1.2).bind fun q2 => (if q2.1 = 0 then (some ((-1000001), q2.2)) else ((F_X11_isState x3 q2.2).bind fun q3 => (if q3.1 = 0 then (some ((-1000001), q3.2)) else ((F_X11_looks 72 78 0 q3.2).bind fun q4 => ((F_X11_partsBy x1 q4).bind fun q5 => (if x2 < (q5.2.1 72 23) then ((F_X11_blockIn x2 x3 q5.2).bind fun q7 => (some (q7.1, q7.2))) else ((F_X11_blockIn (q5.2.1 72 23) x3 q5.2).bind fun q6 => (some (q6.1, q6.2))))))))))))
noncomputable def W_X11_behind : List pj_V → pj_M → Option (Int32 × pj_M) := fun as m => match as with
  | [.inr (.inr (t0, w0, a0)), .inl x1, .inl x2, .inl x3] => (match Nat.beq t0 0 && (Nat.beq w0 11 && (Nat.beq a0 72)) with
    | true => F_X11_behind x1 x2 x3 m
    | false => none)
  | _ => none
noncomputable def tb_X11_behind_0 : List (Nat × pj_T (Int32 × pj_M)) := [(0, qs_ldi 1 1), (1, qs_ci 0 2), (2, qs_ci 3 3), (3, qs_sI 3 W_X11_in 6), (6, qs_ifeq 27 9), (9, qs_ldi 2 10), (10, qs_ci 0 11), (11, qs_ci 20 13), (13, qs_sI 3 W_X11_in 16), (16, qs_ifeq 27 19), (19, qs_lda 0 20), (20, qs_ldi 3 21), (21, qs_vI 11 2 W_X11_isState 24), (24, qs_ifne 30 27), (27, qs_ci (-1000001) 29), (29, qs_iret), (30, qs_lda 0 31), (31, qs_lda 0 32), (32, qs_gf 11 13 35), (35, qs_ci 0 36), (36, qs_vV 11 3 W_X11_looks 39), (39, qs_lda 0 40), (40, qs_ldi 1 41), (41, qs_vI 11 2 W_X11_partsBy 44), (44, qs_pop 45), (45, qs_lda 0 46), (46, qs_ldi 2 47), (47, qs_lda 0 48), (48, qs_gf 11 23 51), (51, qs_icge 58 54), (54, qs_ldi 2 55), (55, qs_go 62), (58, qs_lda 0 59), (59, qs_gf 11 23 62), (62, qs_ldi 3 63), (63, qs_vI 11 3 W_X11_blockIn 66), (66, qs_iret)]
noncomputable abbrev tb_X11_behind : List (Nat × pj_T (Int32 × pj_M)) := tb_X11_behind_0
theorem mv_X11_behind : pj_mv y_X11_behind c_X11_behind 4 (some .int) 3 := ⟨⟨cw_1340, cw_1338, cw_1339, cw_92⟩, by decide +kernel, by decide⟩
set_option maxRecDepth 20000 in
theorem sd_X11_behind_0 {G : pj_E} {A : Nat → Prop} {P : pj_P} {S : pj_U} {Z : pj_Z} (C : pj_C (G, A, (c_X11_behind, y_X11_behind.cls, 4, (some .int), 6), P, S, Z)) : ∀ q ∈ tb_X11_behind_0, pj_S (G, A, (c_X11_behind, y_X11_behind.cls, 4, (some .int), 6), P, S, Z) pj_eI q.1 q.2 :=
  List.forall_mem_cons.mpr ⟨qz_iload_n C (show decode c_X11_behind 0 = .ok (.iload_n 1, 1) by decide +kernel) rfl,
  List.forall_mem_cons.mpr ⟨qz_iconst C (show decode c_X11_behind 1 = .ok (.iconst 0, 1) by decide +kernel) (by decide +kernel),
  List.forall_mem_cons.mpr ⟨qz_iconst C (show decode c_X11_behind 2 = .ok (.iconst 3, 1) by decide +kernel) (by decide +kernel),
  List.forall_mem_cons.mpr ⟨qz_sI C (show decode c_X11_behind 3 = .ok (.invokestatic 84, 3) by decide +kernel) ct_X11_in mv_X11_in (Or.inl cw_1126) (show 1 < 6 by omega),
  List.forall_mem_cons.mpr ⟨qz_ifeq C (show decode c_X11_behind 6 = .ok (.ifCond .eq 21, 3) by decide +kernel) (by decide),
  List.forall_mem_cons.mpr ⟨qz_iload_n C (show decode c_X11_behind 9 = .ok (.iload_n 2, 1) by decide +kernel) rfl,
  List.forall_mem_cons.mpr ⟨qz_iconst C (show decode c_X11_behind 10 = .ok (.iconst 0, 1) by decide +kernel) (by decide +kernel),
  List.forall_mem_cons.mpr ⟨qz_bipush C (show decode c_X11_behind 11 = .ok (.bipush 20, 2) by decide +kernel) (by decide +kernel),
  List.forall_mem_cons.mpr ⟨qz_sI C (show decode c_X11_behind 13 = .ok (.invokestatic 84, 3) by decide +kernel) ct_X11_in mv_X11_in (Or.inl cw_1126) (show 1 < 6 by omega),
  List.forall_mem_cons.mpr ⟨qz_ifeq C (show decode c_X11_behind 16 = .ok (.ifCond .eq 11, 3) by decide +kernel) (by decide),
  List.forall_mem_cons.mpr ⟨qz_aload_n C (show decode c_X11_behind 19 = .ok (.aload_n 0, 1) by decide +kernel) rfl,
  List.forall_mem_cons.mpr ⟨qz_iload_n C (show decode c_X11_behind 20 = .ok (.iload_n 3, 1) by decide +kernel) rfl,
  List.forall_mem_cons.mpr ⟨qz_vI C (show decode c_X11_behind 21 = .ok (.invokevirtual 225, 3) by decide +kernel) ct_X11_isState mv_X11_isState cw_1224 vcX11 (show 2 < 6 by omega),
  List.forall_mem_cons.mpr ⟨qz_ifne C (show decode c_X11_behind 24 = .ok (.ifCond .ne 6, 3) by decide +kernel) (by decide),
  List.forall_mem_cons.mpr ⟨qz_ldc C (show decode c_X11_behind 27 = .ok (.ldc 92, 2) by decide +kernel) cw_1129,
  List.forall_mem_cons.mpr ⟨qz_iret C (show decode c_X11_behind 29 = .ok (.ireturn, 1) by decide +kernel) rfl,
  List.forall_mem_cons.mpr ⟨qz_aload_n C (show decode c_X11_behind 30 = .ok (.aload_n 0, 1) by decide +kernel) rfl,
  List.forall_mem_cons.mpr ⟨qz_aload_n C (show decode c_X11_behind 31 = .ok (.aload_n 0, 1) by decide +kernel) rfl,
  List.forall_mem_cons.mpr ⟨qz_gf (k := 13) C (show decode c_X11_behind 32 = .ok (.getfield 25, 3) by decide +kernel) vcX11 wiX11 (by decide) cw_1031,
  List.forall_mem_cons.mpr ⟨qz_iconst C (show decode c_X11_behind 35 = .ok (.iconst 0, 1) by decide +kernel) (by decide +kernel),
  List.forall_mem_cons.mpr ⟨qz_vV C (show decode c_X11_behind 36 = .ok (.invokevirtual 235, 3) by decide +kernel) ct_X11_looks mv_X11_looks cw_1261 vcX11 (show 4 < 6 by omega),
  List.forall_mem_cons.mpr ⟨qz_aload_n C (show decode c_X11_behind 39 = .ok (.aload_n 0, 1) by decide +kernel) rfl,
  List.forall_mem_cons.mpr ⟨qz_iload_n C (show decode c_X11_behind 40 = .ok (.iload_n 1, 1) by decide +kernel) rfl,
  List.forall_mem_cons.mpr ⟨qz_vI C (show decode c_X11_behind 41 = .ok (.invokevirtual 239, 3) by decide +kernel) ct_X11_partsBy mv_X11_partsBy cw_1300 vcX11 (show 5 < 6 by omega),
  List.forall_mem_cons.mpr ⟨qz_pop C (show decode c_X11_behind 44 = .ok (.pop, 1) by decide +kernel),
  List.forall_mem_cons.mpr ⟨qz_aload_n C (show decode c_X11_behind 45 = .ok (.aload_n 0, 1) by decide +kernel) rfl,
  List.forall_mem_cons.mpr ⟨qz_iload_n C (show decode c_X11_behind 46 = .ok (.iload_n 2, 1) by decide +kernel) rfl,
  List.forall_mem_cons.mpr ⟨qz_aload_n C (show decode c_X11_behind 47 = .ok (.aload_n 0, 1) by decide +kernel) rfl,
  List.forall_mem_cons.mpr ⟨qz_gf (k := 23) C (show decode c_X11_behind 48 = .ok (.getfield 216, 3) by decide +kernel) vcX11 wiX11 (by decide) cw_1041,
  List.forall_mem_cons.mpr ⟨qz_icge C (show decode c_X11_behind 51 = .ok (.if_icmp .ge 7, 3) by decide +kernel) (by decide),
  List.forall_mem_cons.mpr ⟨qz_iload_n C (show decode c_X11_behind 54 = .ok (.iload_n 2, 1) by decide +kernel) rfl,
  List.forall_mem_cons.mpr ⟨qz_goto C (show decode c_X11_behind 55 = .ok (.goto 7, 3) by decide +kernel) (by decide),
  List.forall_mem_cons.mpr ⟨qz_aload_n C (show decode c_X11_behind 58 = .ok (.aload_n 0, 1) by decide +kernel) rfl,
  List.forall_mem_cons.mpr ⟨qz_gf (k := 23) C (show decode c_X11_behind 59 = .ok (.getfield 216, 3) by decide +kernel) vcX11 wiX11 (by decide) cw_1041,
  List.forall_mem_cons.mpr ⟨qz_iload_n C (show decode c_X11_behind 62 = .ok (.iload_n 3, 1) by decide +kernel) rfl,
  List.forall_mem_cons.mpr ⟨qz_vI C (show decode c_X11_behind 63 = .ok (.invokevirtual 194, 3) by decide +kernel) ct_X11_blockIn mv_X11_blockIn cw_1312 vcX11 (show 1 < 6 by omega),
  List.forall_mem_cons.mpr ⟨qz_iret C (show decode c_X11_behind 66 = .ok (.ireturn, 1) by decide +kernel) rfl,
  (fun q h => by cases h)⟩⟩⟩⟩⟩⟩⟩⟩⟩⟩⟩⟩⟩⟩⟩⟩⟩⟩⟩⟩⟩⟩⟩⟩⟩⟩⟩⟩⟩⟩⟩⟩⟩⟩⟩⟩⟩
theorem sd_X11_behind {G : pj_E} {A : Nat → Prop} {P : pj_P} {S : pj_U} {Z : pj_Z} (C : pj_C (G, A, (c_X11_behind, y_X11_behind.cls, 4, (some .int), 6), P, S, Z)) : ∀ q ∈ tb_X11_behind, pj_S (G, A, (c_X11_behind, y_X11_behind.cls, 4, (some .int), 6), P, S, Z) pj_eI q.1 q.2 := sd_X11_behind_0 C
set_option maxRecDepth 20000 in
theorem eq_X11_behind (x1 : Int32) (x2 : Int32) (x3 : Int32) (m : pj_M) : pj_run tb_X11_behind [] 39 0 [some (.inr (.inr (0, 11, 72))), some (.inl x1), some (.inl x2), some (.inl x3)] [] m = F_X11_behind x1 x2 x3 m := by rfl
theorem ct_X11_behind : pj_Ct pj_eI y_X11_behind c_X11_behind 4 (some .int) 6 W_X11_behind := by
  refine pj_ct_of (by decide +kernel) ?_ ?_
  · intro as m r h
    unfold W_X11_behind at h
    split at h
    · simp [pj_l0]
    · cases h
  · intro G A P S Z C as m r h hR
    unfold W_X11_behind at h
    split at h
    · split at h
      · rename_i hbq
        simp only [Bool.and_eq_true, Nat.beq_eq] at hbq
        obtain ⟨rfl, rfl, rfl⟩ := hbq
        exact pj_run_ok (sd_X11_behind C) (fun q h => by cases h) 39 0 _ _ _ _ ((eq_X11_behind _ _ _ _).trans h) hR
      · cases h
    · cases h
/-! AlikeStepsModel.signs(II)J -/
abbrev c_X11_signs : ByteArray := prog_13_method_61_code
def y_X11_signs : MethodName := ⟨RX11, "signs", "(II)J"⟩
noncomputable def F_X11_signs (x1 : Int32) (x2 : Int32) (m : pj_M) : Option (Int64 × pj_M) := ((F_X11_in x1 0 2 m).bind fun q1 => (if q1.1 = 0 then (some ((-1000001), q1.2)) else ((F_X11_isState x2 q1.2).bind fun q2 => (if q2.1 = 0 then (some ((-1000001), q2.2)) else ((F_X11_looks 72 78 0 q2.2).bind fun q3 => ((F_X11_partsBy x1 q3).bind fun q4 => ((F_X11_signsOf x1 x2 (q4.2.1 72 23) q4.2).bind fun q5 => (some (q5.1, q5.2)))))))))
noncomputable def W_X11_signs : List pj_V → pj_M → Option (Int64 × pj_M) := fun as m => match as with
  | [.inr (.inr (t0, w0, a0)), .inl x1, .inl x2] => (match Nat.beq t0 0 && (Nat.beq w0 11 && (Nat.beq a0 72)) with
    | true => F_X11_signs x1 x2 m
    | false => none)
  | _ => none
noncomputable def tb_X11_signs_0 : List (Nat × pj_T (Int64 × pj_M)) := [(0, qs_ldi 1 1), (1, qs_ci 0 2), (2, qs_ci 2 3), (3, qs_sI 3 W_X11_in 6), (6, qs_ifeq 17 9), (9, qs_lda 0 10), (10, qs_ldi 2 11), (11, qs_vI 11 2 W_X11_isState 14), (14, qs_ifne 21 17), (17, qs_cl (-1000001) 20), (20, qs_lret), (21, qs_lda 0 22), (22, qs_lda 0 23), (23, qs_gf 11 13 26), (26, qs_ci 0 27), (27, qs_vV 11 3 W_X11_looks 30), (30, qs_lda 0 31), (31, qs_ldi 1 32), (32, qs_vI 11 2 W_X11_partsBy 35), (35, qs_pop 36), (36, qs_lda 0 37), (37, qs_ldi 1 38), (38, qs_ldi 2 39), (39, qs_lda 0 40), (40, qs_gf 11 23 43), (43, qs_vL 11 4 W_X11_signsOf 46), (46, qs_lret)]
noncomputable abbrev tb_X11_signs : List (Nat × pj_T (Int64 × pj_M)) := tb_X11_signs_0
theorem mv_X11_signs : pj_mv y_X11_signs c_X11_signs 3 (some .long) 2 := ⟨⟨cw_1344, cw_1342, cw_1343, cw_92⟩, by decide +kernel, by decide⟩
set_option maxRecDepth 20000 in
theorem sd_X11_signs_0 {G : pj_E} {A : Nat → Prop} {P : pj_P} {S : pj_U} {Z : pj_Z} (C : pj_C (G, A, (c_X11_signs, y_X11_signs.cls, 3, (some .long), 6), P, S, Z)) : ∀ q ∈ tb_X11_signs_0, pj_S (G, A, (c_X11_signs, y_X11_signs.cls, 3, (some .long), 6), P, S, Z) pj_eL q.1 q.2 :=
  List.forall_mem_cons.mpr ⟨qz_iload_n C (show decode c_X11_signs 0 = .ok (.iload_n 1, 1) by decide +kernel) rfl,
  List.forall_mem_cons.mpr ⟨qz_iconst C (show decode c_X11_signs 1 = .ok (.iconst 0, 1) by decide +kernel) (by decide +kernel),
  List.forall_mem_cons.mpr ⟨qz_iconst C (show decode c_X11_signs 2 = .ok (.iconst 2, 1) by decide +kernel) (by decide +kernel),
  List.forall_mem_cons.mpr ⟨qz_sI C (show decode c_X11_signs 3 = .ok (.invokestatic 84, 3) by decide +kernel) ct_X11_in mv_X11_in (Or.inl cw_1126) (show 1 < 6 by omega),
  List.forall_mem_cons.mpr ⟨qz_ifeq C (show decode c_X11_signs 6 = .ok (.ifCond .eq 11, 3) by decide +kernel) (by decide),
  List.forall_mem_cons.mpr ⟨qz_aload_n C (show decode c_X11_signs 9 = .ok (.aload_n 0, 1) by decide +kernel) rfl,
  List.forall_mem_cons.mpr ⟨qz_iload_n C (show decode c_X11_signs 10 = .ok (.iload_n 2, 1) by decide +kernel) rfl,
  List.forall_mem_cons.mpr ⟨qz_vI C (show decode c_X11_signs 11 = .ok (.invokevirtual 225, 3) by decide +kernel) ct_X11_isState mv_X11_isState cw_1224 vcX11 (show 2 < 6 by omega),
  List.forall_mem_cons.mpr ⟨qz_ifne C (show decode c_X11_signs 14 = .ok (.ifCond .ne 7, 3) by decide +kernel) (by decide),
  List.forall_mem_cons.mpr ⟨qz_ldc2 C (show decode c_X11_signs 17 = .ok (.ldc2_w 248, 3) by decide +kernel) cw_1345,
  List.forall_mem_cons.mpr ⟨qz_lret C (show decode c_X11_signs 20 = .ok (.lreturn, 1) by decide +kernel) rfl,
  List.forall_mem_cons.mpr ⟨qz_aload_n C (show decode c_X11_signs 21 = .ok (.aload_n 0, 1) by decide +kernel) rfl,
  List.forall_mem_cons.mpr ⟨qz_aload_n C (show decode c_X11_signs 22 = .ok (.aload_n 0, 1) by decide +kernel) rfl,
  List.forall_mem_cons.mpr ⟨qz_gf (k := 13) C (show decode c_X11_signs 23 = .ok (.getfield 25, 3) by decide +kernel) vcX11 wiX11 (by decide) cw_1031,
  List.forall_mem_cons.mpr ⟨qz_iconst C (show decode c_X11_signs 26 = .ok (.iconst 0, 1) by decide +kernel) (by decide +kernel),
  List.forall_mem_cons.mpr ⟨qz_vV C (show decode c_X11_signs 27 = .ok (.invokevirtual 235, 3) by decide +kernel) ct_X11_looks mv_X11_looks cw_1261 vcX11 (show 4 < 6 by omega),
  List.forall_mem_cons.mpr ⟨qz_aload_n C (show decode c_X11_signs 30 = .ok (.aload_n 0, 1) by decide +kernel) rfl,
  List.forall_mem_cons.mpr ⟨qz_iload_n C (show decode c_X11_signs 31 = .ok (.iload_n 1, 1) by decide +kernel) rfl,
  List.forall_mem_cons.mpr ⟨qz_vI C (show decode c_X11_signs 32 = .ok (.invokevirtual 239, 3) by decide +kernel) ct_X11_partsBy mv_X11_partsBy cw_1300 vcX11 (show 5 < 6 by omega),
  List.forall_mem_cons.mpr ⟨qz_pop C (show decode c_X11_signs 35 = .ok (.pop, 1) by decide +kernel),
  List.forall_mem_cons.mpr ⟨qz_aload_n C (show decode c_X11_signs 36 = .ok (.aload_n 0, 1) by decide +kernel) rfl,
  List.forall_mem_cons.mpr ⟨qz_iload_n C (show decode c_X11_signs 37 = .ok (.iload_n 1, 1) by decide +kernel) rfl,
  List.forall_mem_cons.mpr ⟨qz_iload_n C (show decode c_X11_signs 38 = .ok (.iload_n 2, 1) by decide +kernel) rfl,
  List.forall_mem_cons.mpr ⟨qz_aload_n C (show decode c_X11_signs 39 = .ok (.aload_n 0, 1) by decide +kernel) rfl,
  List.forall_mem_cons.mpr ⟨qz_gf (k := 23) C (show decode c_X11_signs 40 = .ok (.getfield 216, 3) by decide +kernel) vcX11 wiX11 (by decide) cw_1041,
  List.forall_mem_cons.mpr ⟨qz_vL C (show decode c_X11_signs 43 = .ok (.invokevirtual 219, 3) by decide +kernel) ct_X11_signsOf mv_X11_signsOf cw_1316 vcX11 (show 4 < 6 by omega),
  List.forall_mem_cons.mpr ⟨qz_lret C (show decode c_X11_signs 46 = .ok (.lreturn, 1) by decide +kernel) rfl,
  (fun q h => by cases h)⟩⟩⟩⟩⟩⟩⟩⟩⟩⟩⟩⟩⟩⟩⟩⟩⟩⟩⟩⟩⟩⟩⟩⟩⟩⟩⟩
theorem sd_X11_signs {G : pj_E} {A : Nat → Prop} {P : pj_P} {S : pj_U} {Z : pj_Z} (C : pj_C (G, A, (c_X11_signs, y_X11_signs.cls, 3, (some .long), 6), P, S, Z)) : ∀ q ∈ tb_X11_signs, pj_S (G, A, (c_X11_signs, y_X11_signs.cls, 3, (some .long), 6), P, S, Z) pj_eL q.1 q.2 := sd_X11_signs_0 C
set_option maxRecDepth 20000 in
theorem eq_X11_signs (x1 : Int32) (x2 : Int32) (m : pj_M) : pj_run tb_X11_signs [] 29 0 [some (.inr (.inr (0, 11, 72))), some (.inl x1), some (.inl x2)] [] m = F_X11_signs x1 x2 m := by rfl
theorem ct_X11_signs : pj_Ct pj_eL y_X11_signs c_X11_signs 3 (some .long) 6 W_X11_signs := by
  refine pj_ct_of (by decide +kernel) ?_ ?_
  · intro as m r h
    unfold W_X11_signs at h
    split at h
    · simp [pj_l0]
    · cases h
  · intro G A P S Z C as m r h hR
    unfold W_X11_signs at h
    split at h
    · split at h
      · rename_i hbq
        simp only [Bool.and_eq_true, Nat.beq_eq] at hbq
        obtain ⟨rfl, rfl, rfl⟩ := hbq
        exact pj_run_ok (sd_X11_signs C) (fun q h => by cases h) 29 0 _ _ _ _ ((eq_X11_signs _ _ _).trans h) hR
      · cases h
    · cases h
/-! AlikeStepsModel.parted(III)I -/
abbrev c_X11_parted : ByteArray := prog_13_method_62_code
def y_X11_parted : MethodName := ⟨RX11, "parted", "(III)I"⟩
noncomputable def F_X11_parted (x1 : Int32) (x2 : Int32) (x3 : Int32) (m : pj_M) : Option (Int32 × pj_M) := ((F_X11_in x1 0 3 m).bind fun q1 => (if q1.1 = 0 then (some ((-1000001), q1.2)) else ((F_X11_isState x2 q1.2).bind fun q2 => (if q2.1 = 0 then (some ((-1000001), q2.2)) else ((F_X11_isState x3 q2.2).bind fun q3 => (if q3.1 = 0 then (some ((-1000001), q3.2)) else ((F_X11_looks 72 78 0 q3.2).bind fun q4 => ((F_X11_partsBy x1 q4).bind fun q5 => ((F_X11_partedIn x2 x3 q5.2).bind fun q6 => (some (q6.1, q6.2)))))))))))
noncomputable def W_X11_parted : List pj_V → pj_M → Option (Int32 × pj_M) := fun as m => match as with
  | [.inr (.inr (t0, w0, a0)), .inl x1, .inl x2, .inl x3] => (match Nat.beq t0 0 && (Nat.beq w0 11 && (Nat.beq a0 72)) with
    | true => F_X11_parted x1 x2 x3 m
    | false => none)
  | _ => none
noncomputable def tb_X11_parted_0 : List (Nat × pj_T (Int32 × pj_M)) := [(0, qs_ldi 1 1), (1, qs_ci 0 2), (2, qs_ci 3 3), (3, qs_sI 3 W_X11_in 6), (6, qs_ifeq 25 9), (9, qs_lda 0 10), (10, qs_ldi 2 11), (11, qs_vI 11 2 W_X11_isState 14), (14, qs_ifeq 25 17), (17, qs_lda 0 18), (18, qs_ldi 3 19), (19, qs_vI 11 2 W_X11_isState 22), (22, qs_ifne 28 25), (25, qs_ci (-1000001) 27), (27, qs_iret), (28, qs_lda 0 29), (29, qs_lda 0 30), (30, qs_gf 11 13 33), (33, qs_ci 0 34), (34, qs_vV 11 3 W_X11_looks 37), (37, qs_lda 0 38), (38, qs_ldi 1 39), (39, qs_vI 11 2 W_X11_partsBy 42), (42, qs_pop 43), (43, qs_lda 0 44), (44, qs_ldi 2 45), (45, qs_ldi 3 46), (46, qs_vI 11 3 W_X11_partedIn 49), (49, qs_iret)]
noncomputable abbrev tb_X11_parted : List (Nat × pj_T (Int32 × pj_M)) := tb_X11_parted_0
theorem mv_X11_parted : pj_mv y_X11_parted c_X11_parted 4 (some .int) 3 := ⟨⟨cw_1349, cw_1347, cw_1348, cw_92⟩, by decide +kernel, by decide⟩
set_option maxRecDepth 20000 in
theorem sd_X11_parted_0 {G : pj_E} {A : Nat → Prop} {P : pj_P} {S : pj_U} {Z : pj_Z} (C : pj_C (G, A, (c_X11_parted, y_X11_parted.cls, 4, (some .int), 6), P, S, Z)) : ∀ q ∈ tb_X11_parted_0, pj_S (G, A, (c_X11_parted, y_X11_parted.cls, 4, (some .int), 6), P, S, Z) pj_eI q.1 q.2 :=
  List.forall_mem_cons.mpr ⟨qz_iload_n C (show decode c_X11_parted 0 = .ok (.iload_n 1, 1) by decide +kernel) rfl,
  List.forall_mem_cons.mpr ⟨qz_iconst C (show decode c_X11_parted 1 = .ok (.iconst 0, 1) by decide +kernel) (by decide +kernel),
  List.forall_mem_cons.mpr ⟨qz_iconst C (show decode c_X11_parted 2 = .ok (.iconst 3, 1) by decide +kernel) (by decide +kernel),
  List.forall_mem_cons.mpr ⟨qz_sI C (show decode c_X11_parted 3 = .ok (.invokestatic 84, 3) by decide +kernel) ct_X11_in mv_X11_in (Or.inl cw_1126) (show 1 < 6 by omega),
  List.forall_mem_cons.mpr ⟨qz_ifeq C (show decode c_X11_parted 6 = .ok (.ifCond .eq 19, 3) by decide +kernel) (by decide),
  List.forall_mem_cons.mpr ⟨qz_aload_n C (show decode c_X11_parted 9 = .ok (.aload_n 0, 1) by decide +kernel) rfl,
  List.forall_mem_cons.mpr ⟨qz_iload_n C (show decode c_X11_parted 10 = .ok (.iload_n 2, 1) by decide +kernel) rfl,
  List.forall_mem_cons.mpr ⟨qz_vI C (show decode c_X11_parted 11 = .ok (.invokevirtual 225, 3) by decide +kernel) ct_X11_isState mv_X11_isState cw_1224 vcX11 (show 2 < 6 by omega),
  List.forall_mem_cons.mpr ⟨qz_ifeq C (show decode c_X11_parted 14 = .ok (.ifCond .eq 11, 3) by decide +kernel) (by decide),
  List.forall_mem_cons.mpr ⟨qz_aload_n C (show decode c_X11_parted 17 = .ok (.aload_n 0, 1) by decide +kernel) rfl,
  List.forall_mem_cons.mpr ⟨qz_iload_n C (show decode c_X11_parted 18 = .ok (.iload_n 3, 1) by decide +kernel) rfl,
  List.forall_mem_cons.mpr ⟨qz_vI C (show decode c_X11_parted 19 = .ok (.invokevirtual 225, 3) by decide +kernel) ct_X11_isState mv_X11_isState cw_1224 vcX11 (show 2 < 6 by omega),
  List.forall_mem_cons.mpr ⟨qz_ifne C (show decode c_X11_parted 22 = .ok (.ifCond .ne 6, 3) by decide +kernel) (by decide),
  List.forall_mem_cons.mpr ⟨qz_ldc C (show decode c_X11_parted 25 = .ok (.ldc 92, 2) by decide +kernel) cw_1129,
  List.forall_mem_cons.mpr ⟨qz_iret C (show decode c_X11_parted 27 = .ok (.ireturn, 1) by decide +kernel) rfl,
  List.forall_mem_cons.mpr ⟨qz_aload_n C (show decode c_X11_parted 28 = .ok (.aload_n 0, 1) by decide +kernel) rfl,
  List.forall_mem_cons.mpr ⟨qz_aload_n C (show decode c_X11_parted 29 = .ok (.aload_n 0, 1) by decide +kernel) rfl,
  List.forall_mem_cons.mpr ⟨qz_gf (k := 13) C (show decode c_X11_parted 30 = .ok (.getfield 25, 3) by decide +kernel) vcX11 wiX11 (by decide) cw_1031,
  List.forall_mem_cons.mpr ⟨qz_iconst C (show decode c_X11_parted 33 = .ok (.iconst 0, 1) by decide +kernel) (by decide +kernel),
  List.forall_mem_cons.mpr ⟨qz_vV C (show decode c_X11_parted 34 = .ok (.invokevirtual 235, 3) by decide +kernel) ct_X11_looks mv_X11_looks cw_1261 vcX11 (show 4 < 6 by omega),
  List.forall_mem_cons.mpr ⟨qz_aload_n C (show decode c_X11_parted 37 = .ok (.aload_n 0, 1) by decide +kernel) rfl,
  List.forall_mem_cons.mpr ⟨qz_iload_n C (show decode c_X11_parted 38 = .ok (.iload_n 1, 1) by decide +kernel) rfl,
  List.forall_mem_cons.mpr ⟨qz_vI C (show decode c_X11_parted 39 = .ok (.invokevirtual 239, 3) by decide +kernel) ct_X11_partsBy mv_X11_partsBy cw_1300 vcX11 (show 5 < 6 by omega),
  List.forall_mem_cons.mpr ⟨qz_pop C (show decode c_X11_parted 42 = .ok (.pop, 1) by decide +kernel),
  List.forall_mem_cons.mpr ⟨qz_aload_n C (show decode c_X11_parted 43 = .ok (.aload_n 0, 1) by decide +kernel) rfl,
  List.forall_mem_cons.mpr ⟨qz_iload_n C (show decode c_X11_parted 44 = .ok (.iload_n 2, 1) by decide +kernel) rfl,
  List.forall_mem_cons.mpr ⟨qz_iload_n C (show decode c_X11_parted 45 = .ok (.iload_n 3, 1) by decide +kernel) rfl,
  List.forall_mem_cons.mpr ⟨qz_vI C (show decode c_X11_parted 46 = .ok (.invokevirtual 250, 3) by decide +kernel) ct_X11_partedIn mv_X11_partedIn cw_1350 vcX11 (show 2 < 6 by omega),
  List.forall_mem_cons.mpr ⟨qz_iret C (show decode c_X11_parted 49 = .ok (.ireturn, 1) by decide +kernel) rfl,
  (fun q h => by cases h)⟩⟩⟩⟩⟩⟩⟩⟩⟩⟩⟩⟩⟩⟩⟩⟩⟩⟩⟩⟩⟩⟩⟩⟩⟩⟩⟩⟩⟩
theorem sd_X11_parted {G : pj_E} {A : Nat → Prop} {P : pj_P} {S : pj_U} {Z : pj_Z} (C : pj_C (G, A, (c_X11_parted, y_X11_parted.cls, 4, (some .int), 6), P, S, Z)) : ∀ q ∈ tb_X11_parted, pj_S (G, A, (c_X11_parted, y_X11_parted.cls, 4, (some .int), 6), P, S, Z) pj_eI q.1 q.2 := sd_X11_parted_0 C
set_option maxRecDepth 20000 in
theorem eq_X11_parted (x1 : Int32) (x2 : Int32) (x3 : Int32) (m : pj_M) : pj_run tb_X11_parted [] 31 0 [some (.inr (.inr (0, 11, 72))), some (.inl x1), some (.inl x2), some (.inl x3)] [] m = F_X11_parted x1 x2 x3 m := by rfl
theorem ct_X11_parted : pj_Ct pj_eI y_X11_parted c_X11_parted 4 (some .int) 6 W_X11_parted := by
  refine pj_ct_of (by decide +kernel) ?_ ?_
  · intro as m r h
    unfold W_X11_parted at h
    split at h
    · simp [pj_l0]
    · cases h
  · intro G A P S Z C as m r h hR
    unfold W_X11_parted at h
    split at h
    · split at h
      · rename_i hbq
        simp only [Bool.and_eq_true, Nat.beq_eq] at hbq
        obtain ⟨rfl, rfl, rfl⟩ := hbq
        exact pj_run_ok (sd_X11_parted C) (fun q h => by cases h) 31 0 _ _ _ _ ((eq_X11_parted _ _ _ _).trans h) hR
      · cases h
    · cases h
/-! AlikeStepsModel.opens(IIII)V -/
abbrev c_X11_opens : ByteArray := prog_13_method_63_code
def y_X11_opens : MethodName := ⟨RX11, "opens", "(IIII)V"⟩
noncomputable def J_X11_opens_154 (k20 : Int32 → Int32 → Int32 → Int32 → Int32 → Int32 → pj_M → Option (pj_M)) (k53 : Int32 → Int32 → Int32 → Int32 → Int32 → Int32 → Int32 → Int32 → Int32 → pj_M → Option (pj_M)) (x1 : Int32) (x2 : Int32) (x3 : Int32) (x4 : Int32) (x5 : Int32) (x6 : Int32) (x7 : Int32) (x8 : Int32) (x9 : Int32) (x10 : Int32) (s1 : Int32) (s2 : Int32) (m : pj_M) : Option (pj_M) := (if s1 < 0 ∨ 100 ≤ s1.toNatClampNeg then none else (if x10 = 0 then (if x5 < 0 ∨ 100 ≤ x5.toNatClampNeg then none else (if x5 < 0 ∨ 100 ≤ x5.toNatClampNeg then none else (k53 x1 x2 x3 x4 x5 x6 x7 x8 (x9 - 1) (pj_wr (pj_wr m 90 s1.toNatClampNeg s2) 91 x5.toNatClampNeg ((pj_wr m 90 s1.toNatClampNeg s2).1 91 x5.toNatClampNeg))))) else (if x5 < 0 ∨ 100 ≤ x5.toNatClampNeg then none else (k53 x1 x2 x3 x4 x5 x6 x7 x8 (x9 - 1) (pj_wr (pj_wr m 90 s1.toNatClampNeg s2) 91 x5.toNatClampNeg x9)))))
noncomputable def J_X11_opens_131 (k20 : Int32 → Int32 → Int32 → Int32 → Int32 → Int32 → pj_M → Option (pj_M)) (k53 : Int32 → Int32 → Int32 → Int32 → Int32 → Int32 → Int32 → Int32 → Int32 → pj_M → Option (pj_M)) (x1 : Int32) (x2 : Int32) (x3 : Int32) (x4 : Int32) (x5 : Int32) (x6 : Int32) (x7 : Int32) (x8 : Int32) (x9 : Int32) (x10 : Int32) (m : pj_M) : Option (pj_M) := (if x10 = 0 then (if x5 < 0 ∨ 100 ≤ x5.toNatClampNeg then none else (J_X11_opens_154 k20 k53 x1 x2 x3 x4 x5 x6 x7 x8 x9 x10 x5 (m.1 90 x5.toNatClampNeg) m)) else (J_X11_opens_154 k20 k53 x1 x2 x3 x4 x5 x6 x7 x8 x9 x10 x5 x6 m))
noncomputable def H_X11_opens_70 (k20 : Int32 → Int32 → Int32 → Int32 → Int32 → Int32 → pj_M → Option (pj_M)) (k53 : Int32 → Int32 → Int32 → Int32 → Int32 → Int32 → Int32 → Int32 → Int32 → pj_M → Option (pj_M)) : Nat → Int32 → Int32 → Int32 → Int32 → Int32 → Int32 → Int32 → Int32 → Int32 → Int32 → Int32 → pj_M → Option (pj_M)
  | 0, _, _, _, _, _, _, _, _, _, _, _, _ => none
  | n1 + 1, x1, x2, x3, x4, x5, x6, x7, x8, x9, x10, x11, m => ((F_X11_states m).bind fun q1 => (if x11 < q1.1 then (if x10 = 0 then (J_X11_opens_131 k20 k53 x1 x2 x3 x4 x5 x6 x7 x8 x9 x10 q1.2) else ((F_X11_partedIn x9 x11 q1.2).bind fun q2 => ((F_X11_has x8 x11 q2.2).bind fun q3 => (if q3.1 = 0 then (H_X11_opens_70 k20 k53 n1 x1 x2 x3 x4 x5 x6 x7 x8 x9 1 (x11 + 1) q3.2) else (if q2.1 = (-1000000) then (H_X11_opens_70 k20 k53 n1 x1 x2 x3 x4 x5 x6 x7 x8 x9 0 (x11 + 1) q3.2) else (if q2.1 < x4 then (H_X11_opens_70 k20 k53 n1 x1 x2 x3 x4 x5 x6 x7 x8 x9 1 (x11 + 1) q3.2) else (H_X11_opens_70 k20 k53 n1 x1 x2 x3 x4 x5 x6 x7 x8 x9 0 (x11 + 1) q3.2))))))) else (J_X11_opens_131 k20 k53 x1 x2 x3 x4 x5 x6 x7 x8 x9 x10 q1.2)))
noncomputable def H_X11_opens_53 (k20 : Int32 → Int32 → Int32 → Int32 → Int32 → Int32 → pj_M → Option (pj_M)) : Nat → Int32 → Int32 → Int32 → Int32 → Int32 → Int32 → Int32 → Int32 → Int32 → pj_M → Option (pj_M)
  | 0, _, _, _, _, _, _, _, _, _, _ => none
  | n1 + 1, x1, x2, x3, x4, x5, x6, x7, x8, x9, m => (if x9 < 0 then (k20 x1 x2 x3 x4 x5 (x6 - 1) m) else ((F_X11_has x7 x9 m).bind fun q1 => (H_X11_opens_70 k20 (H_X11_opens_53 k20 n1) pj_z x1 x2 x3 x4 x5 x6 x7 x8 x9 q1.1 0 q1.2)))
noncomputable def H_X11_opens_20 : Nat → Int32 → Int32 → Int32 → Int32 → Int32 → Int32 → pj_M → Option (pj_M)
  | 0, _, _, _, _, _, _, _ => none
  | n1 + 1, x1, x2, x3, x4, x5, x6, m => (if x6 < 0 then (some m) else ((F_X11_moving x1 x2 x6 m).bind fun q1 => ((F_X11_moving x1 x3 x6 q1.2).bind fun q2 => ((F_X11_states q2.2).bind fun q3 => (H_X11_opens_53 (H_X11_opens_20 n1) pj_z x1 x2 x3 x4 x5 x6 q1.1 q2.1 (q3.1 - 1) q3.2)))))
noncomputable def F_X11_opens (x1 : Int32) (x2 : Int32) (x3 : Int32) (x4 : Int32) (m : pj_M) : Option (pj_M) := (if ((10 * x2) + x3) < 0 ∨ 100 ≤ ((10 * x2) + x3).toNatClampNeg then none else (H_X11_opens_20 pj_z x1 x2 x3 x4 ((10 * x2) + x3) 3 (pj_wr m 90 ((10 * x2) + x3).toNatClampNeg (-1000000))))
noncomputable def W_X11_opens : List pj_V → pj_M → Option (pj_M) := fun as m => match as with
  | [.inr (.inr (t0, w0, a0)), .inl x1, .inl x2, .inl x3, .inl x4] => (match Nat.beq t0 0 && (Nat.beq w0 11 && (Nat.beq a0 72)) with
    | true => F_X11_opens x1 x2 x3 x4 m
    | false => none)
  | _ => none
noncomputable def tb_X11_opens_0 : List (Nat × pj_T (pj_M)) := [(0, qs_ci 10 2), (2, qs_ldi 2 3), (3, qs_b2 (fun x y => x * y) 4), (4, qs_ldi 3 5), (5, qs_b2 (fun x y => x + y) 6), (6, qs_sti 5 8), (8, qs_lda 0 9), (9, qs_gf 11 27 12), (12, qs_ldi 5 14), (14, qs_ci (-1000000) 16), (16, qs_iast 17), (17, qs_ci 3 18), (18, qs_sti 6 20), (20, qs_ldi 6 22), (22, qs_iflt 191 25), (25, qs_lda 0 26), (26, qs_ldi 1 27), (27, qs_ldi 2 28), (28, qs_ldi 6 30), (30, qs_vI 11 4 W_X11_moving 33), (33, qs_sti 7 35), (35, qs_lda 0 36), (36, qs_ldi 1 37), (37, qs_ldi 3 38), (38, qs_ldi 6 40), (40, qs_vI 11 4 W_X11_moving 43), (43, qs_sti 8 45), (45, qs_lda 0 46), (46, qs_vI 11 1 W_X11_states 49), (49, qs_ci 1 50), (50, qs_b2 (fun x y => x - y) 51), (51, qs_sti 9 53), (53, qs_ldi 9 55), (55, qs_iflt 185 58), (58, qs_ldi 7 60), (60, qs_ldi 9 62), (62, qs_sI 2 W_X11_has 65), (65, qs_sti 10 67), (67, qs_ci 0 68), (68, qs_sti 11 70)]
noncomputable def tb_X11_opens_1 : List (Nat × pj_T (pj_M)) := [(70, qs_ldi 11 72), (72, qs_lda 0 73), (73, qs_vI 11 1 W_X11_states 76), (76, qs_icge 131 79), (79, qs_ldi 10 81), (81, qs_ifeq 131 84), (84, qs_lda 0 85), (85, qs_ldi 9 87), (87, qs_ldi 11 89), (89, qs_vI 11 3 W_X11_partedIn 92), (92, qs_sti 12 94), (94, qs_ldi 8 96), (96, qs_ldi 11 98), (98, qs_sI 2 W_X11_has 101), (101, qs_ifeq 118 104), (104, qs_ldi 12 106), (106, qs_ci (-1000000) 108), (108, qs_iceq 122 111), (111, qs_ldi 12 113), (113, qs_ldi 4 115), (115, qs_icge 122 118), (118, qs_ci 1 119), (119, qs_go 123), (122, qs_ci 0 123), (123, qs_sti 10 125), (125, qs_inc 11 1 128), (128, qs_go 70), (131, qs_lda 0 132), (132, qs_gf 11 27 135), (135, qs_ldi 5 137), (137, qs_ldi 10 139), (139, qs_ifeq 147 142), (142, qs_ldi 6 144), (144, qs_go 154), (147, qs_lda 0 148), (148, qs_gf 11 27 151), (151, qs_ldi 5 153), (153, qs_iald 154), (154, qs_iast 155), (155, qs_lda 0 156)]
noncomputable def tb_X11_opens_2 : List (Nat × pj_T (pj_M)) := [(156, qs_gf 11 28 159), (159, qs_ldi 5 161), (161, qs_ldi 10 163), (163, qs_ifeq 171 166), (166, qs_ldi 9 168), (168, qs_go 178), (171, qs_lda 0 172), (172, qs_gf 11 28 175), (175, qs_ldi 5 177), (177, qs_iald 178), (178, qs_iast 179), (179, qs_dec 9 1 182), (182, qs_go 53), (185, qs_dec 6 1 188), (188, qs_go 20), (191, qs_vret)]
noncomputable def tb_X11_opens : List (Nat × pj_T (pj_M)) := tb_X11_opens_0 ++ (tb_X11_opens_1 ++ (tb_X11_opens_2))
theorem mv_X11_opens : pj_mv y_X11_opens c_X11_opens 13 none 4 := ⟨⟨cw_1369, cw_1368, cw_66, cw_92⟩, by decide +kernel, by decide⟩
set_option maxRecDepth 20000 in
theorem sd_X11_opens_0 {G : pj_E} {A : Nat → Prop} {P : pj_P} {S : pj_U} {Z : pj_Z} (C : pj_C (G, A, (c_X11_opens, y_X11_opens.cls, 13, none, 4), P, S, Z)) : ∀ q ∈ tb_X11_opens_0, pj_S (G, A, (c_X11_opens, y_X11_opens.cls, 13, none, 4), P, S, Z) pj_eV q.1 q.2 :=
  List.forall_mem_cons.mpr ⟨qz_bipush C (show decode c_X11_opens 0 = .ok (.bipush 10, 2) by decide +kernel) (by decide +kernel),
  List.forall_mem_cons.mpr ⟨qz_iload_n C (show decode c_X11_opens 2 = .ok (.iload_n 2, 1) by decide +kernel) rfl,
  List.forall_mem_cons.mpr ⟨qz_imul C (show decode c_X11_opens 3 = .ok (.imul, 1) by decide +kernel),
  List.forall_mem_cons.mpr ⟨qz_iload_n C (show decode c_X11_opens 4 = .ok (.iload_n 3, 1) by decide +kernel) rfl,
  List.forall_mem_cons.mpr ⟨qz_iadd C (show decode c_X11_opens 5 = .ok (.iadd, 1) by decide +kernel),
  List.forall_mem_cons.mpr ⟨qz_istore C (show decode c_X11_opens 6 = .ok (.istore 5, 2) by decide +kernel),
  List.forall_mem_cons.mpr ⟨qz_aload_n C (show decode c_X11_opens 8 = .ok (.aload_n 0, 1) by decide +kernel) rfl,
  List.forall_mem_cons.mpr ⟨qz_gf (k := 27) C (show decode c_X11_opens 9 = .ok (.getfield 63, 3) by decide +kernel) vcX11 wiX11 (by decide) cw_1045,
  List.forall_mem_cons.mpr ⟨qz_iload C (show decode c_X11_opens 12 = .ok (.iload 5, 2) by decide +kernel),
  List.forall_mem_cons.mpr ⟨qz_ldc C (show decode c_X11_opens 14 = .ok (.ldc 78, 2) by decide +kernel) cw_1017,
  List.forall_mem_cons.mpr ⟨qz_iast C (show decode c_X11_opens 16 = .ok (.iastore, 1) by decide +kernel),
  List.forall_mem_cons.mpr ⟨qz_iconst C (show decode c_X11_opens 17 = .ok (.iconst 3, 1) by decide +kernel) (by decide +kernel),
  List.forall_mem_cons.mpr ⟨qz_istore C (show decode c_X11_opens 18 = .ok (.istore 6, 2) by decide +kernel),
  List.forall_mem_cons.mpr ⟨qz_iload C (show decode c_X11_opens 20 = .ok (.iload 6, 2) by decide +kernel),
  List.forall_mem_cons.mpr ⟨qz_iflt C (show decode c_X11_opens 22 = .ok (.ifCond .lt 169, 3) by decide +kernel) (by decide),
  List.forall_mem_cons.mpr ⟨qz_aload_n C (show decode c_X11_opens 25 = .ok (.aload_n 0, 1) by decide +kernel) rfl,
  List.forall_mem_cons.mpr ⟨qz_iload_n C (show decode c_X11_opens 26 = .ok (.iload_n 1, 1) by decide +kernel) rfl,
  List.forall_mem_cons.mpr ⟨qz_iload_n C (show decode c_X11_opens 27 = .ok (.iload_n 2, 1) by decide +kernel) rfl,
  List.forall_mem_cons.mpr ⟨qz_iload C (show decode c_X11_opens 28 = .ok (.iload 6, 2) by decide +kernel),
  List.forall_mem_cons.mpr ⟨qz_vI C (show decode c_X11_opens 30 = .ok (.invokevirtual 200, 3) by decide +kernel) ct_X11_moving mv_X11_moving cw_1284 vcX11 (show 3 < 4 by omega),
  List.forall_mem_cons.mpr ⟨qz_istore C (show decode c_X11_opens 33 = .ok (.istore 7, 2) by decide +kernel),
  List.forall_mem_cons.mpr ⟨qz_aload_n C (show decode c_X11_opens 35 = .ok (.aload_n 0, 1) by decide +kernel) rfl,
  List.forall_mem_cons.mpr ⟨qz_iload_n C (show decode c_X11_opens 36 = .ok (.iload_n 1, 1) by decide +kernel) rfl,
  List.forall_mem_cons.mpr ⟨qz_iload_n C (show decode c_X11_opens 37 = .ok (.iload_n 3, 1) by decide +kernel) rfl,
  List.forall_mem_cons.mpr ⟨qz_iload C (show decode c_X11_opens 38 = .ok (.iload 6, 2) by decide +kernel),
  List.forall_mem_cons.mpr ⟨qz_vI C (show decode c_X11_opens 40 = .ok (.invokevirtual 200, 3) by decide +kernel) ct_X11_moving mv_X11_moving cw_1284 vcX11 (show 3 < 4 by omega),
  List.forall_mem_cons.mpr ⟨qz_istore C (show decode c_X11_opens 43 = .ok (.istore 8, 2) by decide +kernel),
  List.forall_mem_cons.mpr ⟨qz_aload_n C (show decode c_X11_opens 45 = .ok (.aload_n 0, 1) by decide +kernel) rfl,
  List.forall_mem_cons.mpr ⟨qz_vI C (show decode c_X11_opens 46 = .ok (.invokevirtual 177, 3) by decide +kernel) ct_X11_states mv_X11_states cw_1269 vcX11 (show 1 < 4 by omega),
  List.forall_mem_cons.mpr ⟨qz_iconst C (show decode c_X11_opens 49 = .ok (.iconst 1, 1) by decide +kernel) (by decide +kernel),
  List.forall_mem_cons.mpr ⟨qz_isub C (show decode c_X11_opens 50 = .ok (.isub, 1) by decide +kernel),
  List.forall_mem_cons.mpr ⟨qz_istore C (show decode c_X11_opens 51 = .ok (.istore 9, 2) by decide +kernel),
  List.forall_mem_cons.mpr ⟨qz_iload C (show decode c_X11_opens 53 = .ok (.iload 9, 2) by decide +kernel),
  List.forall_mem_cons.mpr ⟨qz_iflt C (show decode c_X11_opens 55 = .ok (.ifCond .lt 130, 3) by decide +kernel) (by decide),
  List.forall_mem_cons.mpr ⟨qz_iload C (show decode c_X11_opens 58 = .ok (.iload 7, 2) by decide +kernel),
  List.forall_mem_cons.mpr ⟨qz_iload C (show decode c_X11_opens 60 = .ok (.iload 9, 2) by decide +kernel),
  List.forall_mem_cons.mpr ⟨qz_sI C (show decode c_X11_opens 62 = .ok (.invokestatic 187, 3) by decide +kernel) ct_X11_has mv_X11_has (Or.inl cw_1281) (show 1 < 4 by omega),
  List.forall_mem_cons.mpr ⟨qz_istore C (show decode c_X11_opens 65 = .ok (.istore 10, 2) by decide +kernel),
  List.forall_mem_cons.mpr ⟨qz_iconst C (show decode c_X11_opens 67 = .ok (.iconst 0, 1) by decide +kernel) (by decide +kernel),
  List.forall_mem_cons.mpr ⟨qz_istore C (show decode c_X11_opens 68 = .ok (.istore 11, 2) by decide +kernel),
  (fun q h => by cases h)⟩⟩⟩⟩⟩⟩⟩⟩⟩⟩⟩⟩⟩⟩⟩⟩⟩⟩⟩⟩⟩⟩⟩⟩⟩⟩⟩⟩⟩⟩⟩⟩⟩⟩⟩⟩⟩⟩⟩⟩
set_option maxRecDepth 20000 in
theorem sd_X11_opens_1 {G : pj_E} {A : Nat → Prop} {P : pj_P} {S : pj_U} {Z : pj_Z} (C : pj_C (G, A, (c_X11_opens, y_X11_opens.cls, 13, none, 4), P, S, Z)) : ∀ q ∈ tb_X11_opens_1, pj_S (G, A, (c_X11_opens, y_X11_opens.cls, 13, none, 4), P, S, Z) pj_eV q.1 q.2 :=
  List.forall_mem_cons.mpr ⟨qz_iload C (show decode c_X11_opens 70 = .ok (.iload 11, 2) by decide +kernel),
  List.forall_mem_cons.mpr ⟨qz_aload_n C (show decode c_X11_opens 72 = .ok (.aload_n 0, 1) by decide +kernel) rfl,
  List.forall_mem_cons.mpr ⟨qz_vI C (show decode c_X11_opens 73 = .ok (.invokevirtual 177, 3) by decide +kernel) ct_X11_states mv_X11_states cw_1269 vcX11 (show 1 < 4 by omega),
  List.forall_mem_cons.mpr ⟨qz_icge C (show decode c_X11_opens 76 = .ok (.if_icmp .ge 55, 3) by decide +kernel) (by decide),
  List.forall_mem_cons.mpr ⟨qz_iload C (show decode c_X11_opens 79 = .ok (.iload 10, 2) by decide +kernel),
  List.forall_mem_cons.mpr ⟨qz_ifeq C (show decode c_X11_opens 81 = .ok (.ifCond .eq 50, 3) by decide +kernel) (by decide),
  List.forall_mem_cons.mpr ⟨qz_aload_n C (show decode c_X11_opens 84 = .ok (.aload_n 0, 1) by decide +kernel) rfl,
  List.forall_mem_cons.mpr ⟨qz_iload C (show decode c_X11_opens 85 = .ok (.iload 9, 2) by decide +kernel),
  List.forall_mem_cons.mpr ⟨qz_iload C (show decode c_X11_opens 87 = .ok (.iload 11, 2) by decide +kernel),
  List.forall_mem_cons.mpr ⟨qz_vI C (show decode c_X11_opens 89 = .ok (.invokevirtual 250, 3) by decide +kernel) ct_X11_partedIn mv_X11_partedIn cw_1350 vcX11 (show 2 < 4 by omega),
  List.forall_mem_cons.mpr ⟨qz_istore C (show decode c_X11_opens 92 = .ok (.istore 12, 2) by decide +kernel),
  List.forall_mem_cons.mpr ⟨qz_iload C (show decode c_X11_opens 94 = .ok (.iload 8, 2) by decide +kernel),
  List.forall_mem_cons.mpr ⟨qz_iload C (show decode c_X11_opens 96 = .ok (.iload 11, 2) by decide +kernel),
  List.forall_mem_cons.mpr ⟨qz_sI C (show decode c_X11_opens 98 = .ok (.invokestatic 187, 3) by decide +kernel) ct_X11_has mv_X11_has (Or.inl cw_1281) (show 1 < 4 by omega),
  List.forall_mem_cons.mpr ⟨qz_ifeq C (show decode c_X11_opens 101 = .ok (.ifCond .eq 17, 3) by decide +kernel) (by decide),
  List.forall_mem_cons.mpr ⟨qz_iload C (show decode c_X11_opens 104 = .ok (.iload 12, 2) by decide +kernel),
  List.forall_mem_cons.mpr ⟨qz_ldc C (show decode c_X11_opens 106 = .ok (.ldc 78, 2) by decide +kernel) cw_1017,
  List.forall_mem_cons.mpr ⟨qz_iceq C (show decode c_X11_opens 108 = .ok (.if_icmp .eq 14, 3) by decide +kernel) (by decide),
  List.forall_mem_cons.mpr ⟨qz_iload C (show decode c_X11_opens 111 = .ok (.iload 12, 2) by decide +kernel),
  List.forall_mem_cons.mpr ⟨qz_iload C (show decode c_X11_opens 113 = .ok (.iload 4, 2) by decide +kernel),
  List.forall_mem_cons.mpr ⟨qz_icge C (show decode c_X11_opens 115 = .ok (.if_icmp .ge 7, 3) by decide +kernel) (by decide),
  List.forall_mem_cons.mpr ⟨qz_iconst C (show decode c_X11_opens 118 = .ok (.iconst 1, 1) by decide +kernel) (by decide +kernel),
  List.forall_mem_cons.mpr ⟨qz_goto C (show decode c_X11_opens 119 = .ok (.goto 4, 3) by decide +kernel) (by decide),
  List.forall_mem_cons.mpr ⟨qz_iconst C (show decode c_X11_opens 122 = .ok (.iconst 0, 1) by decide +kernel) (by decide +kernel),
  List.forall_mem_cons.mpr ⟨qz_istore C (show decode c_X11_opens 123 = .ok (.istore 10, 2) by decide +kernel),
  List.forall_mem_cons.mpr ⟨qz_iinc C (show decode c_X11_opens 125 = .ok (.iinc 11 1, 3) by decide +kernel) (by decide +kernel),
  List.forall_mem_cons.mpr ⟨qz_goto C (show decode c_X11_opens 128 = .ok (.goto (-58), 3) by decide +kernel) (by decide),
  List.forall_mem_cons.mpr ⟨qz_aload_n C (show decode c_X11_opens 131 = .ok (.aload_n 0, 1) by decide +kernel) rfl,
  List.forall_mem_cons.mpr ⟨qz_gf (k := 27) C (show decode c_X11_opens 132 = .ok (.getfield 63, 3) by decide +kernel) vcX11 wiX11 (by decide) cw_1045,
  List.forall_mem_cons.mpr ⟨qz_iload C (show decode c_X11_opens 135 = .ok (.iload 5, 2) by decide +kernel),
  List.forall_mem_cons.mpr ⟨qz_iload C (show decode c_X11_opens 137 = .ok (.iload 10, 2) by decide +kernel),
  List.forall_mem_cons.mpr ⟨qz_ifeq C (show decode c_X11_opens 139 = .ok (.ifCond .eq 8, 3) by decide +kernel) (by decide),
  List.forall_mem_cons.mpr ⟨qz_iload C (show decode c_X11_opens 142 = .ok (.iload 6, 2) by decide +kernel),
  List.forall_mem_cons.mpr ⟨qz_goto C (show decode c_X11_opens 144 = .ok (.goto 10, 3) by decide +kernel) (by decide),
  List.forall_mem_cons.mpr ⟨qz_aload_n C (show decode c_X11_opens 147 = .ok (.aload_n 0, 1) by decide +kernel) rfl,
  List.forall_mem_cons.mpr ⟨qz_gf (k := 27) C (show decode c_X11_opens 148 = .ok (.getfield 63, 3) by decide +kernel) vcX11 wiX11 (by decide) cw_1045,
  List.forall_mem_cons.mpr ⟨qz_iload C (show decode c_X11_opens 151 = .ok (.iload 5, 2) by decide +kernel),
  List.forall_mem_cons.mpr ⟨qz_iald C (show decode c_X11_opens 153 = .ok (.iaload, 1) by decide +kernel),
  List.forall_mem_cons.mpr ⟨qz_iast C (show decode c_X11_opens 154 = .ok (.iastore, 1) by decide +kernel),
  List.forall_mem_cons.mpr ⟨qz_aload_n C (show decode c_X11_opens 155 = .ok (.aload_n 0, 1) by decide +kernel) rfl,
  (fun q h => by cases h)⟩⟩⟩⟩⟩⟩⟩⟩⟩⟩⟩⟩⟩⟩⟩⟩⟩⟩⟩⟩⟩⟩⟩⟩⟩⟩⟩⟩⟩⟩⟩⟩⟩⟩⟩⟩⟩⟩⟩⟩
set_option maxRecDepth 20000 in
theorem sd_X11_opens_2 {G : pj_E} {A : Nat → Prop} {P : pj_P} {S : pj_U} {Z : pj_Z} (C : pj_C (G, A, (c_X11_opens, y_X11_opens.cls, 13, none, 4), P, S, Z)) : ∀ q ∈ tb_X11_opens_2, pj_S (G, A, (c_X11_opens, y_X11_opens.cls, 13, none, 4), P, S, Z) pj_eV q.1 q.2 :=
  List.forall_mem_cons.mpr ⟨qz_gf (k := 28) C (show decode c_X11_opens 156 = .ok (.getfield 66, 3) by decide +kernel) vcX11 wiX11 (by decide) cw_1046,
  List.forall_mem_cons.mpr ⟨qz_iload C (show decode c_X11_opens 159 = .ok (.iload 5, 2) by decide +kernel),
  List.forall_mem_cons.mpr ⟨qz_iload C (show decode c_X11_opens 161 = .ok (.iload 10, 2) by decide +kernel),
  List.forall_mem_cons.mpr ⟨qz_ifeq C (show decode c_X11_opens 163 = .ok (.ifCond .eq 8, 3) by decide +kernel) (by decide),
  List.forall_mem_cons.mpr ⟨qz_iload C (show decode c_X11_opens 166 = .ok (.iload 9, 2) by decide +kernel),
  List.forall_mem_cons.mpr ⟨qz_goto C (show decode c_X11_opens 168 = .ok (.goto 10, 3) by decide +kernel) (by decide),
  List.forall_mem_cons.mpr ⟨qz_aload_n C (show decode c_X11_opens 171 = .ok (.aload_n 0, 1) by decide +kernel) rfl,
  List.forall_mem_cons.mpr ⟨qz_gf (k := 28) C (show decode c_X11_opens 172 = .ok (.getfield 66, 3) by decide +kernel) vcX11 wiX11 (by decide) cw_1046,
  List.forall_mem_cons.mpr ⟨qz_iload C (show decode c_X11_opens 175 = .ok (.iload 5, 2) by decide +kernel),
  List.forall_mem_cons.mpr ⟨qz_iald C (show decode c_X11_opens 177 = .ok (.iaload, 1) by decide +kernel),
  List.forall_mem_cons.mpr ⟨qz_iast C (show decode c_X11_opens 178 = .ok (.iastore, 1) by decide +kernel),
  List.forall_mem_cons.mpr ⟨qz_idec C (show decode c_X11_opens 179 = .ok (.iinc 9 (-1), 3) by decide +kernel) (by decide +kernel),
  List.forall_mem_cons.mpr ⟨qz_goto C (show decode c_X11_opens 182 = .ok (.goto (-129), 3) by decide +kernel) (by decide),
  List.forall_mem_cons.mpr ⟨qz_idec C (show decode c_X11_opens 185 = .ok (.iinc 6 (-1), 3) by decide +kernel) (by decide +kernel),
  List.forall_mem_cons.mpr ⟨qz_goto C (show decode c_X11_opens 188 = .ok (.goto (-168), 3) by decide +kernel) (by decide),
  List.forall_mem_cons.mpr ⟨qz_vret C (show decode c_X11_opens 191 = .ok (.return_, 1) by decide +kernel) rfl,
  (fun q h => by cases h)⟩⟩⟩⟩⟩⟩⟩⟩⟩⟩⟩⟩⟩⟩⟩⟩
theorem sd_X11_opens {G : pj_E} {A : Nat → Prop} {P : pj_P} {S : pj_U} {Z : pj_Z} (C : pj_C (G, A, (c_X11_opens, y_X11_opens.cls, 13, none, 4), P, S, Z)) : ∀ q ∈ tb_X11_opens, pj_S (G, A, (c_X11_opens, y_X11_opens.cls, 13, none, 4), P, S, Z) pj_eV q.1 q.2 := List.forall_mem_append.mpr ⟨sd_X11_opens_0 C, List.forall_mem_append.mpr ⟨sd_X11_opens_1 C, sd_X11_opens_2 C⟩⟩
noncomputable def C_X11_opens_154 (f : Int32 → Int32 → Int32 → Int32 → Int32 → Int32 → Int32 → Int32 → Int32 → Int32 → Int32 → Int32 → pj_M → Option (pj_M)) : pj_N (pj_M) := fun L st m => match L, st with
  | [some (.inr (.inr (t0, w0, a0))), some (.inl x1), some (.inl x2), some (.inl x3), some (.inl x4), some (.inl x5), some (.inl x6), some (.inl x7), some (.inl x8), some (.inl x9), some (.inl x10), _, _], [.inl s2, .inl s1, .inr (.inr (ts0, ws0, sa0))] => (match Nat.beq t0 0 && (Nat.beq w0 11 && (Nat.beq a0 72 && (Nat.beq ts0 1 && (Nat.beq ws0 100 && (Nat.beq sa0 90))))) with
    | true => f x1 x2 x3 x4 x5 x6 x7 x8 x9 x10 s1 s2 m
    | false => none)
  | _, _ => none
noncomputable def C_X11_opens_131 (f : Int32 → Int32 → Int32 → Int32 → Int32 → Int32 → Int32 → Int32 → Int32 → Int32 → pj_M → Option (pj_M)) : pj_N (pj_M) := fun L st m => match L, st with
  | [some (.inr (.inr (t0, w0, a0))), some (.inl x1), some (.inl x2), some (.inl x3), some (.inl x4), some (.inl x5), some (.inl x6), some (.inl x7), some (.inl x8), some (.inl x9), some (.inl x10), _, _], [] => (match Nat.beq t0 0 && (Nat.beq w0 11 && (Nat.beq a0 72)) with
    | true => f x1 x2 x3 x4 x5 x6 x7 x8 x9 x10 m
    | false => none)
  | _, _ => none
noncomputable def C_X11_opens_70 (f : Int32 → Int32 → Int32 → Int32 → Int32 → Int32 → Int32 → Int32 → Int32 → Int32 → Int32 → pj_M → Option (pj_M)) : pj_N (pj_M) := fun L st m => match L, st with
  | [some (.inr (.inr (t0, w0, a0))), some (.inl x1), some (.inl x2), some (.inl x3), some (.inl x4), some (.inl x5), some (.inl x6), some (.inl x7), some (.inl x8), some (.inl x9), some (.inl x10), some (.inl x11), _], [] => (match Nat.beq t0 0 && (Nat.beq w0 11 && (Nat.beq a0 72)) with
    | true => f x1 x2 x3 x4 x5 x6 x7 x8 x9 x10 x11 m
    | false => none)
  | _, _ => none
noncomputable def C_X11_opens_53 (f : Int32 → Int32 → Int32 → Int32 → Int32 → Int32 → Int32 → Int32 → Int32 → pj_M → Option (pj_M)) : pj_N (pj_M) := fun L st m => match L, st with
  | [some (.inr (.inr (t0, w0, a0))), some (.inl x1), some (.inl x2), some (.inl x3), some (.inl x4), some (.inl x5), some (.inl x6), some (.inl x7), some (.inl x8), some (.inl x9), _, _, _], [] => (match Nat.beq t0 0 && (Nat.beq w0 11 && (Nat.beq a0 72)) with
    | true => f x1 x2 x3 x4 x5 x6 x7 x8 x9 m
    | false => none)
  | _, _ => none
noncomputable def C_X11_opens_20 (f : Int32 → Int32 → Int32 → Int32 → Int32 → Int32 → pj_M → Option (pj_M)) : pj_N (pj_M) := fun L st m => match L, st with
  | [some (.inr (.inr (t0, w0, a0))), some (.inl x1), some (.inl x2), some (.inl x3), some (.inl x4), some (.inl x5), some (.inl x6), _, _, _, _, _, _], [] => (match Nat.beq t0 0 && (Nat.beq w0 11 && (Nat.beq a0 72)) with
    | true => f x1 x2 x3 x4 x5 x6 m
    | false => none)
  | _, _ => none
set_option maxRecDepth 20000 in
theorem eq_X11_opens_154 (k20 : Int32 → Int32 → Int32 → Int32 → Int32 → Int32 → pj_M → Option (pj_M)) (k53 : Int32 → Int32 → Int32 → Int32 → Int32 → Int32 → Int32 → Int32 → Int32 → pj_M → Option (pj_M)) (x1 : Int32) (x2 : Int32) (x3 : Int32) (x4 : Int32) (x5 : Int32) (x6 : Int32) (x7 : Int32) (x8 : Int32) (x9 : Int32) (x10 : Int32) (s1 : Int32) (s2 : Int32) (d11 d12 : Option pj_V) (m : pj_M) : pj_run tb_X11_opens [(53, C_X11_opens_53 k53)] 98 154 [some (.inr (.inr (0, 11, 72))), some (.inl x1), some (.inl x2), some (.inl x3), some (.inl x4), some (.inl x5), some (.inl x6), some (.inl x7), some (.inl x8), some (.inl x9), some (.inl x10), d11, d12] [.inl s2, .inl s1, .inr (.inr (1, 100, 90))] m = J_X11_opens_154 k20 k53 x1 x2 x3 x4 x5 x6 x7 x8 x9 x10 s1 s2 m := by rfl
theorem sg_X11_opens_154 {G : pj_E} {A : Nat → Prop} {P : pj_P} {S : pj_U} {Z : pj_Z} (C : pj_C (G, A, (c_X11_opens, y_X11_opens.cls, 13, none, 4), P, S, Z)) {k20 : Int32 → Int32 → Int32 → Int32 → Int32 → Int32 → pj_M → Option (pj_M)} (hk20 : pj_G (G, A, (c_X11_opens, y_X11_opens.cls, 13, none, 4), P, S, Z) pj_eV 20 (C_X11_opens_20 k20)) {k53 : Int32 → Int32 → Int32 → Int32 → Int32 → Int32 → Int32 → Int32 → Int32 → pj_M → Option (pj_M)} (hk53 : pj_G (G, A, (c_X11_opens, y_X11_opens.cls, 13, none, 4), P, S, Z) pj_eV 53 (C_X11_opens_53 k53)) : pj_G (G, A, (c_X11_opens, y_X11_opens.cls, 13, none, 4), P, S, Z) pj_eV 154 (C_X11_opens_154 (J_X11_opens_154 k20 k53)) := by
  intro L st m r h hR
  unfold C_X11_opens_154 at h
  split at h
  · split at h
    · rename_i hbq
      simp only [Bool.and_eq_true, Nat.beq_eq] at hbq
      obtain ⟨rfl, rfl, rfl, rfl, rfl, rfl⟩ := hbq
      exact pj_run_ok (sd_X11_opens C) (List.forall_mem_cons.mpr ⟨hk53, fun q h => by cases h⟩) 98 154 _ _ _ _ ((eq_X11_opens_154 _ _ _ _ _ _ _ _ _ _ _ _ _ _ _ _ _).trans h) hR
    · cases h
  · cases h
set_option maxRecDepth 20000 in
theorem eq_X11_opens_131 (k20 : Int32 → Int32 → Int32 → Int32 → Int32 → Int32 → pj_M → Option (pj_M)) (k53 : Int32 → Int32 → Int32 → Int32 → Int32 → Int32 → Int32 → Int32 → Int32 → pj_M → Option (pj_M)) (x1 : Int32) (x2 : Int32) (x3 : Int32) (x4 : Int32) (x5 : Int32) (x6 : Int32) (x7 : Int32) (x8 : Int32) (x9 : Int32) (x10 : Int32) (d11 d12 : Option pj_V) (m : pj_M) : pj_run tb_X11_opens [(154, C_X11_opens_154 (J_X11_opens_154 k20 k53))] 98 131 [some (.inr (.inr (0, 11, 72))), some (.inl x1), some (.inl x2), some (.inl x3), some (.inl x4), some (.inl x5), some (.inl x6), some (.inl x7), some (.inl x8), some (.inl x9), some (.inl x10), d11, d12] [] m = J_X11_opens_131 k20 k53 x1 x2 x3 x4 x5 x6 x7 x8 x9 x10 m := by rfl
theorem sg_X11_opens_131 {G : pj_E} {A : Nat → Prop} {P : pj_P} {S : pj_U} {Z : pj_Z} (C : pj_C (G, A, (c_X11_opens, y_X11_opens.cls, 13, none, 4), P, S, Z)) {k20 : Int32 → Int32 → Int32 → Int32 → Int32 → Int32 → pj_M → Option (pj_M)} (hk20 : pj_G (G, A, (c_X11_opens, y_X11_opens.cls, 13, none, 4), P, S, Z) pj_eV 20 (C_X11_opens_20 k20)) {k53 : Int32 → Int32 → Int32 → Int32 → Int32 → Int32 → Int32 → Int32 → Int32 → pj_M → Option (pj_M)} (hk53 : pj_G (G, A, (c_X11_opens, y_X11_opens.cls, 13, none, 4), P, S, Z) pj_eV 53 (C_X11_opens_53 k53)) : pj_G (G, A, (c_X11_opens, y_X11_opens.cls, 13, none, 4), P, S, Z) pj_eV 131 (C_X11_opens_131 (J_X11_opens_131 k20 k53)) := by
  intro L st m r h hR
  unfold C_X11_opens_131 at h
  split at h
  · split at h
    · rename_i hbq
      simp only [Bool.and_eq_true, Nat.beq_eq] at hbq
      obtain ⟨rfl, rfl, rfl⟩ := hbq
      exact pj_run_ok (sd_X11_opens C) (List.forall_mem_cons.mpr ⟨sg_X11_opens_154 C hk20 hk53, fun q h => by cases h⟩) 98 131 _ _ _ _ ((eq_X11_opens_131 _ _ _ _ _ _ _ _ _ _ _ _ _ _ _).trans h) hR
    · cases h
  · cases h
set_option maxRecDepth 20000 in
theorem eq_X11_opens_70 (k20 : Int32 → Int32 → Int32 → Int32 → Int32 → Int32 → pj_M → Option (pj_M)) (k53 : Int32 → Int32 → Int32 → Int32 → Int32 → Int32 → Int32 → Int32 → Int32 → pj_M → Option (pj_M)) (n1 : Nat) (x1 : Int32) (x2 : Int32) (x3 : Int32) (x4 : Int32) (x5 : Int32) (x6 : Int32) (x7 : Int32) (x8 : Int32) (x9 : Int32) (x10 : Int32) (x11 : Int32) (d12 : Option pj_V) (m : pj_M) : pj_run tb_X11_opens [(70, C_X11_opens_70 (H_X11_opens_70 k20 k53 n1)), (131, C_X11_opens_131 (J_X11_opens_131 k20 k53))] 98 70 [some (.inr (.inr (0, 11, 72))), some (.inl x1), some (.inl x2), some (.inl x3), some (.inl x4), some (.inl x5), some (.inl x6), some (.inl x7), some (.inl x8), some (.inl x9), some (.inl x10), some (.inl x11), d12] [] m = H_X11_opens_70 k20 k53 (n1 + 1) x1 x2 x3 x4 x5 x6 x7 x8 x9 x10 x11 m := by rfl
theorem sg_X11_opens_70 {G : pj_E} {A : Nat → Prop} {P : pj_P} {S : pj_U} {Z : pj_Z} (C : pj_C (G, A, (c_X11_opens, y_X11_opens.cls, 13, none, 4), P, S, Z)) {k20 : Int32 → Int32 → Int32 → Int32 → Int32 → Int32 → pj_M → Option (pj_M)} (hk20 : pj_G (G, A, (c_X11_opens, y_X11_opens.cls, 13, none, 4), P, S, Z) pj_eV 20 (C_X11_opens_20 k20)) {k53 : Int32 → Int32 → Int32 → Int32 → Int32 → Int32 → Int32 → Int32 → Int32 → pj_M → Option (pj_M)} (hk53 : pj_G (G, A, (c_X11_opens, y_X11_opens.cls, 13, none, 4), P, S, Z) pj_eV 53 (C_X11_opens_53 k53)) : ∀ n1, pj_G (G, A, (c_X11_opens, y_X11_opens.cls, 13, none, 4), P, S, Z) pj_eV 70 (C_X11_opens_70 (H_X11_opens_70 k20 k53 n1)) := by
  intro n1
  induction n1 with
  | zero =>
    intro L st m r h hR
    unfold C_X11_opens_70 at h
    split at h
    · split at h
      · cases h
      · cases h
    · cases h
  | succ n1 ih1 =>
    intro L st m r h hR
    unfold C_X11_opens_70 at h
    split at h
    · split at h
      · rename_i hbq
        simp only [Bool.and_eq_true, Nat.beq_eq] at hbq
        obtain ⟨rfl, rfl, rfl⟩ := hbq
        exact pj_run_ok (sd_X11_opens C) (List.forall_mem_cons.mpr ⟨ih1, List.forall_mem_cons.mpr ⟨sg_X11_opens_131 C hk20 hk53, fun q h => by cases h⟩⟩) 98 70 _ _ _ _ ((eq_X11_opens_70 _ _ _ _ _ _ _ _ _ _ _ _ _ _ _ _).trans h) hR
      · cases h
    · cases h
set_option maxRecDepth 20000 in
theorem eq_X11_opens_53 (k20 : Int32 → Int32 → Int32 → Int32 → Int32 → Int32 → pj_M → Option (pj_M)) (n1 : Nat) (x1 : Int32) (x2 : Int32) (x3 : Int32) (x4 : Int32) (x5 : Int32) (x6 : Int32) (x7 : Int32) (x8 : Int32) (x9 : Int32) (d10 d11 d12 : Option pj_V) (m : pj_M) : pj_run tb_X11_opens [(20, C_X11_opens_20 k20), (70, C_X11_opens_70 (H_X11_opens_70 k20 (H_X11_opens_53 k20 n1) pj_z))] 98 53 [some (.inr (.inr (0, 11, 72))), some (.inl x1), some (.inl x2), some (.inl x3), some (.inl x4), some (.inl x5), some (.inl x6), some (.inl x7), some (.inl x8), some (.inl x9), d10, d11, d12] [] m = H_X11_opens_53 k20 (n1 + 1) x1 x2 x3 x4 x5 x6 x7 x8 x9 m := by rfl
theorem sg_X11_opens_53 {G : pj_E} {A : Nat → Prop} {P : pj_P} {S : pj_U} {Z : pj_Z} (C : pj_C (G, A, (c_X11_opens, y_X11_opens.cls, 13, none, 4), P, S, Z)) {k20 : Int32 → Int32 → Int32 → Int32 → Int32 → Int32 → pj_M → Option (pj_M)} (hk20 : pj_G (G, A, (c_X11_opens, y_X11_opens.cls, 13, none, 4), P, S, Z) pj_eV 20 (C_X11_opens_20 k20)) : ∀ n1, pj_G (G, A, (c_X11_opens, y_X11_opens.cls, 13, none, 4), P, S, Z) pj_eV 53 (C_X11_opens_53 (H_X11_opens_53 k20 n1)) := by
  intro n1
  induction n1 with
  | zero =>
    intro L st m r h hR
    unfold C_X11_opens_53 at h
    split at h
    · split at h
      · cases h
      · cases h
    · cases h
  | succ n1 ih1 =>
    intro L st m r h hR
    unfold C_X11_opens_53 at h
    split at h
    · split at h
      · rename_i hbq
        simp only [Bool.and_eq_true, Nat.beq_eq] at hbq
        obtain ⟨rfl, rfl, rfl⟩ := hbq
        exact pj_run_ok (sd_X11_opens C) (List.forall_mem_cons.mpr ⟨hk20, List.forall_mem_cons.mpr ⟨sg_X11_opens_70 C hk20 ih1 pj_z, fun q h => by cases h⟩⟩) 98 53 _ _ _ _ ((eq_X11_opens_53 _ _ _ _ _ _ _ _ _ _ _ _ _ _ _).trans h) hR
      · cases h
    · cases h
set_option maxRecDepth 20000 in
theorem eq_X11_opens_20 (n1 : Nat) (x1 : Int32) (x2 : Int32) (x3 : Int32) (x4 : Int32) (x5 : Int32) (x6 : Int32) (d7 d8 d9 d10 d11 d12 : Option pj_V) (m : pj_M) : pj_run tb_X11_opens [(53, C_X11_opens_53 (H_X11_opens_53 (H_X11_opens_20 n1) pj_z))] 98 20 [some (.inr (.inr (0, 11, 72))), some (.inl x1), some (.inl x2), some (.inl x3), some (.inl x4), some (.inl x5), some (.inl x6), d7, d8, d9, d10, d11, d12] [] m = H_X11_opens_20 (n1 + 1) x1 x2 x3 x4 x5 x6 m := by rfl
theorem sg_X11_opens_20 {G : pj_E} {A : Nat → Prop} {P : pj_P} {S : pj_U} {Z : pj_Z} (C : pj_C (G, A, (c_X11_opens, y_X11_opens.cls, 13, none, 4), P, S, Z)) : ∀ n1, pj_G (G, A, (c_X11_opens, y_X11_opens.cls, 13, none, 4), P, S, Z) pj_eV 20 (C_X11_opens_20 (H_X11_opens_20 n1)) := by
  intro n1
  induction n1 with
  | zero =>
    intro L st m r h hR
    unfold C_X11_opens_20 at h
    split at h
    · split at h
      · cases h
      · cases h
    · cases h
  | succ n1 ih1 =>
    intro L st m r h hR
    unfold C_X11_opens_20 at h
    split at h
    · split at h
      · rename_i hbq
        simp only [Bool.and_eq_true, Nat.beq_eq] at hbq
        obtain ⟨rfl, rfl, rfl⟩ := hbq
        exact pj_run_ok (sd_X11_opens C) (List.forall_mem_cons.mpr ⟨sg_X11_opens_53 C ih1 pj_z, fun q h => by cases h⟩) 98 20 _ _ _ _ ((eq_X11_opens_20 _ _ _ _ _ _ _ _ _ _ _ _ _ _).trans h) hR
      · cases h
    · cases h
set_option maxRecDepth 20000 in
theorem eq_X11_opens (x1 : Int32) (x2 : Int32) (x3 : Int32) (x4 : Int32) (m : pj_M) : pj_run tb_X11_opens [(20, C_X11_opens_20 (H_X11_opens_20  pj_z))] 98 0 [some (.inr (.inr (0, 11, 72))), some (.inl x1), some (.inl x2), some (.inl x3), some (.inl x4), none, none, none, none, none, none, none, none] [] m = F_X11_opens x1 x2 x3 x4 m := by rfl
theorem ct_X11_opens : pj_Ct pj_eV y_X11_opens c_X11_opens 13 none 4 W_X11_opens := by
  refine pj_ct_of (by decide +kernel) ?_ ?_
  · intro as m r h
    unfold W_X11_opens at h
    split at h
    · simp [pj_l0]
    · cases h
  · intro G A P S Z C as m r h hR
    unfold W_X11_opens at h
    split at h
    · split at h
      · rename_i hbq
        simp only [Bool.and_eq_true, Nat.beq_eq] at hbq
        obtain ⟨rfl, rfl, rfl⟩ := hbq
        exact pj_run_ok (sd_X11_opens C) (List.forall_mem_cons.mpr ⟨sg_X11_opens_20 C  pj_z, fun q h => by cases h⟩) 98 0 _ _ _ _ ((eq_X11_opens _ _ _ _ _).trans h) hR
      · cases h
    · cases h
