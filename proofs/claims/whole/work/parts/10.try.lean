/-! AlikeSteps$Net.hasState(I)Z -/
abbrev c_X4_hasState : ByteArray := prog_6_method_5_code
def y_X4_hasState : MethodName := ⟨RX4, "hasState", "(I)Z"⟩
def F_X4_hasState (a0 : Nat) (x1 : Int32) (m : pj_M) : Option (Int32 × pj_M) := (if x1 < 0 then (some (0, m)) else (if x1 < (m.1 a0 2) then (some (1, m)) else (some (0, m))))
def W_X4_hasState : List pj_V → pj_M → Option (Int32 × pj_M) := fun as m => match as with
  | [.inr (.inr (t0, w0, a0)), .inl x1] => (match Nat.beq t0 0 && (Nat.beq w0 4) with
    | true => F_X4_hasState a0 x1 m
    | false => none)
  | _ => none
def tb_X4_hasState_0 : List (Nat × pj_T (Int32 × pj_M)) := [(0, qs_ldi 1 1), (1, qs_iflt 16 4), (4, qs_ldi 1 5), (5, qs_lda 0 6), (6, qs_gf 4 2 9), (9, qs_icge 16 12), (12, qs_ci 1 13), (13, qs_go 17), (16, qs_ci 0 17), (17, qs_zret)]
abbrev tb_X4_hasState : List (Nat × pj_T (Int32 × pj_M)) := tb_X4_hasState_0
theorem mv_X4_hasState : pj_mv y_X4_hasState c_X4_hasState 2 (some .boolean) 1 := ⟨⟨cw_491, cw_489, cw_490, cw_84⟩, by decide +kernel, by decide⟩
set_option maxRecDepth 20000 in
theorem sd_X4_hasState_0 {G : pj_E} {A : Nat → Prop} {P : pj_P} {S : pj_U} {Z : pj_Z} (C : pj_C (G, A, (c_X4_hasState, y_X4_hasState.cls, 2, (some .boolean), 1), P, S, Z)) : ∀ q ∈ tb_X4_hasState_0, pj_S (G, A, (c_X4_hasState, y_X4_hasState.cls, 2, (some .boolean), 1), P, S, Z) pj_eI q.1 q.2 :=
  List.forall_mem_cons.mpr ⟨qz_iload_n C (show decode c_X4_hasState 0 = .ok (.iload_n 1, 1) by decide +kernel) rfl,
  List.forall_mem_cons.mpr ⟨qz_iflt C (show decode c_X4_hasState 1 = .ok (.ifCond .lt 15, 3) by decide +kernel) (by decide),
  List.forall_mem_cons.mpr ⟨qz_iload_n C (show decode c_X4_hasState 4 = .ok (.iload_n 1, 1) by decide +kernel) rfl,
  List.forall_mem_cons.mpr ⟨qz_aload_n C (show decode c_X4_hasState 5 = .ok (.aload_n 0, 1) by decide +kernel) rfl,
  List.forall_mem_cons.mpr ⟨qz_gf (k := 2) C (show decode c_X4_hasState 6 = .ok (.getfield 18, 3) by decide +kernel) vcX4 wiX4 (by decide) cw_145,
  List.forall_mem_cons.mpr ⟨qz_icge C (show decode c_X4_hasState 9 = .ok (.if_icmp .ge 7, 3) by decide +kernel) (by decide),
  List.forall_mem_cons.mpr ⟨qz_iconst C (show decode c_X4_hasState 12 = .ok (.iconst 1, 1) by decide +kernel) (by decide +kernel),
  List.forall_mem_cons.mpr ⟨qz_goto C (show decode c_X4_hasState 13 = .ok (.goto 4, 3) by decide +kernel) (by decide),
  List.forall_mem_cons.mpr ⟨qz_iconst C (show decode c_X4_hasState 16 = .ok (.iconst 0, 1) by decide +kernel) (by decide +kernel),
  List.forall_mem_cons.mpr ⟨qz_zret C (show decode c_X4_hasState 17 = .ok (.ireturn, 1) by decide +kernel) rfl,
  (fun q h => by cases h)⟩⟩⟩⟩⟩⟩⟩⟩⟩⟩
theorem sd_X4_hasState {G : pj_E} {A : Nat → Prop} {P : pj_P} {S : pj_U} {Z : pj_Z} (C : pj_C (G, A, (c_X4_hasState, y_X4_hasState.cls, 2, (some .boolean), 1), P, S, Z)) : ∀ q ∈ tb_X4_hasState, pj_S (G, A, (c_X4_hasState, y_X4_hasState.cls, 2, (some .boolean), 1), P, S, Z) pj_eI q.1 q.2 := sd_X4_hasState_0 C
set_option maxRecDepth 20000 in
theorem eq_X4_hasState (a0 : Nat) (x1 : Int32) (m : pj_M) : pj_run tb_X4_hasState [] 12 0 [some (.inr (.inr (0, 4, a0))), some (.inl x1)] [] m = F_X4_hasState a0 x1 m := rfl
theorem ct_X4_hasState : pj_Ct pj_eI y_X4_hasState c_X4_hasState 2 (some .boolean) 1 W_X4_hasState := by
  refine pj_ct_of (by decide +kernel) ?_ ?_
  · intro as m r h
    unfold W_X4_hasState at h
    split at h
    · simp [pj_l0]
    · cases h
  · intro G A P S Z C as m r h hR
    unfold W_X4_hasState at h
    split at h
    · split at h
      · rename_i hbq
        simp only [Bool.and_eq_true, Nat.beq_eq] at hbq
        obtain ⟨rfl, rfl⟩ := hbq
        exact pj_run_ok (sd_X4_hasState C) (fun q h => by cases h) 12 0 _ _ _ _ ((eq_X4_hasState _ _ _).trans h) hR
      · cases h
    · cases h
/-! AlikeSteps$Net.marked()I -/
abbrev c_X4_marked : ByteArray := prog_6_method_10_code
def y_X4_marked : MethodName := ⟨RX4, "marked", "()I"⟩
def H_X4_marked_4 : Nat → Nat → Int32 → Int32 → pj_M → Option (Int32 × pj_M)
  | 0, _, _, _, _ => none
  | n1 + 1, a0, x1, x2, m => (if x2 < (m.1 a0 2) then (if x2 < 0 ∨ 10 ≤ x2.toNatClampNeg then none else (if (m.1 (a0 + 1) x2.toNatClampNeg) = 2 then (H_X4_marked_4 n1 a0 (x1 ||| (1 <<< (x2 &&& 31))) (x2 + 1) m) else (if x2 < 0 ∨ 10 ≤ x2.toNatClampNeg then none else (if (m.1 (a0 + 1) x2.toNatClampNeg) = 5 then (H_X4_marked_4 n1 a0 (x1 ||| (1 <<< (x2 &&& 31))) (x2 + 1) m) else (H_X4_marked_4 n1 a0 x1 (x2 + 1) m))))) else (some (x1, m)))
def F_X4_marked (a0 : Nat) (m : pj_M) : Option (Int32 × pj_M) := (H_X4_marked_4 5000 a0 0 0 m)
def W_X4_marked : List pj_V → pj_M → Option (Int32 × pj_M) := fun as m => match as with
  | [.inr (.inr (t0, w0, a0))] => (match Nat.beq t0 0 && (Nat.beq w0 4) with
    | true => F_X4_marked a0 m
    | false => none)
  | _ => none
def tb_X4_marked_0 : List (Nat × pj_T (Int32 × pj_M)) := [(0, qs_ci 0 1), (1, qs_sti 1 2), (2, qs_ci 0 3), (3, qs_sti 2 4), (4, qs_ldi 2 5), (5, qs_lda 0 6), (6, qs_gf 4 2 9), (9, qs_icge 44 12), (12, qs_lda 0 13), (13, qs_gf 4 0 16), (16, qs_ldi 2 17), (17, qs_iald 18), (18, qs_ci 2 19), (19, qs_iceq 32 22), (22, qs_lda 0 23), (23, qs_gf 4 0 26), (26, qs_ldi 2 27), (27, qs_iald 28), (28, qs_ci 5 29), (29, qs_icne 38 32), (32, qs_ldi 1 33), (33, qs_ci 1 34), (34, qs_ldi 2 35), (35, qs_b2 (fun x y => x <<< (y &&& 31)) 36), (36, qs_b2 (fun x y => x ||| y) 37), (37, qs_sti 1 38), (38, qs_inc 2 1 41), (41, qs_go 4), (44, qs_ldi 1 45), (45, qs_iret)]
abbrev tb_X4_marked : List (Nat × pj_T (Int32 × pj_M)) := tb_X4_marked_0
theorem mv_X4_marked : pj_mv y_X4_marked c_X4_marked 3 (some .int) 0 := ⟨⟨cw_699, cw_697, cw_698, cw_84⟩, by decide +kernel, by decide⟩
set_option maxRecDepth 20000 in
theorem sd_X4_marked_0 {G : pj_E} {A : Nat → Prop} {P : pj_P} {S : pj_U} {Z : pj_Z} (C : pj_C (G, A, (c_X4_marked, y_X4_marked.cls, 3, (some .int), 1), P, S, Z)) : ∀ q ∈ tb_X4_marked_0, pj_S (G, A, (c_X4_marked, y_X4_marked.cls, 3, (some .int), 1), P, S, Z) pj_eI q.1 q.2 :=
  List.forall_mem_cons.mpr ⟨qz_iconst C (show decode c_X4_marked 0 = .ok (.iconst 0, 1) by decide +kernel) (by decide +kernel),
  List.forall_mem_cons.mpr ⟨qz_istore_n C (show decode c_X4_marked 1 = .ok (.istore_n 1, 1) by decide +kernel) rfl,
  List.forall_mem_cons.mpr ⟨qz_iconst C (show decode c_X4_marked 2 = .ok (.iconst 0, 1) by decide +kernel) (by decide +kernel),
  List.forall_mem_cons.mpr ⟨qz_istore_n C (show decode c_X4_marked 3 = .ok (.istore_n 2, 1) by decide +kernel) rfl,
  List.forall_mem_cons.mpr ⟨qz_iload_n C (show decode c_X4_marked 4 = .ok (.iload_n 2, 1) by decide +kernel) rfl,
  List.forall_mem_cons.mpr ⟨qz_aload_n C (show decode c_X4_marked 5 = .ok (.aload_n 0, 1) by decide +kernel) rfl,
  List.forall_mem_cons.mpr ⟨qz_gf (k := 2) C (show decode c_X4_marked 6 = .ok (.getfield 18, 3) by decide +kernel) vcX4 wiX4 (by decide) cw_145,
  List.forall_mem_cons.mpr ⟨qz_icge C (show decode c_X4_marked 9 = .ok (.if_icmp .ge 35, 3) by decide +kernel) (by decide),
  List.forall_mem_cons.mpr ⟨qz_aload_n C (show decode c_X4_marked 12 = .ok (.aload_n 0, 1) by decide +kernel) rfl,
  List.forall_mem_cons.mpr ⟨qz_gf (k := 0) C (show decode c_X4_marked 13 = .ok (.getfield 9, 3) by decide +kernel) vcX4 wiX4 (by decide) cw_143,
  List.forall_mem_cons.mpr ⟨qz_iload_n C (show decode c_X4_marked 16 = .ok (.iload_n 2, 1) by decide +kernel) rfl,
  List.forall_mem_cons.mpr ⟨qz_iald C (show decode c_X4_marked 17 = .ok (.iaload, 1) by decide +kernel),
  List.forall_mem_cons.mpr ⟨qz_iconst C (show decode c_X4_marked 18 = .ok (.iconst 2, 1) by decide +kernel) (by decide +kernel),
  List.forall_mem_cons.mpr ⟨qz_iceq C (show decode c_X4_marked 19 = .ok (.if_icmp .eq 13, 3) by decide +kernel) (by decide),
  List.forall_mem_cons.mpr ⟨qz_aload_n C (show decode c_X4_marked 22 = .ok (.aload_n 0, 1) by decide +kernel) rfl,
  List.forall_mem_cons.mpr ⟨qz_gf (k := 0) C (show decode c_X4_marked 23 = .ok (.getfield 9, 3) by decide +kernel) vcX4 wiX4 (by decide) cw_143,
  List.forall_mem_cons.mpr ⟨qz_iload_n C (show decode c_X4_marked 26 = .ok (.iload_n 2, 1) by decide +kernel) rfl,
  List.forall_mem_cons.mpr ⟨qz_iald C (show decode c_X4_marked 27 = .ok (.iaload, 1) by decide +kernel),
  List.forall_mem_cons.mpr ⟨qz_iconst C (show decode c_X4_marked 28 = .ok (.iconst 5, 1) by decide +kernel) (by decide +kernel),
  List.forall_mem_cons.mpr ⟨qz_icne C (show decode c_X4_marked 29 = .ok (.if_icmp .ne 9, 3) by decide +kernel) (by decide),
  List.forall_mem_cons.mpr ⟨qz_iload_n C (show decode c_X4_marked 32 = .ok (.iload_n 1, 1) by decide +kernel) rfl,
  List.forall_mem_cons.mpr ⟨qz_iconst C (show decode c_X4_marked 33 = .ok (.iconst 1, 1) by decide +kernel) (by decide +kernel),
  List.forall_mem_cons.mpr ⟨qz_iload_n C (show decode c_X4_marked 34 = .ok (.iload_n 2, 1) by decide +kernel) rfl,
  List.forall_mem_cons.mpr ⟨qz_ishl C (show decode c_X4_marked 35 = .ok (.ishl, 1) by decide +kernel),
  List.forall_mem_cons.mpr ⟨qz_ior C (show decode c_X4_marked 36 = .ok (.ior, 1) by decide +kernel),
  List.forall_mem_cons.mpr ⟨qz_istore_n C (show decode c_X4_marked 37 = .ok (.istore_n 1, 1) by decide +kernel) rfl,
  List.forall_mem_cons.mpr ⟨qz_iinc C (show decode c_X4_marked 38 = .ok (.iinc 2 1, 3) by decide +kernel) (by decide +kernel),
  List.forall_mem_cons.mpr ⟨qz_goto C (show decode c_X4_marked 41 = .ok (.goto (-37), 3) by decide +kernel) (by decide),
  List.forall_mem_cons.mpr ⟨qz_iload_n C (show decode c_X4_marked 44 = .ok (.iload_n 1, 1) by decide +kernel) rfl,
  List.forall_mem_cons.mpr ⟨qz_iret C (show decode c_X4_marked 45 = .ok (.ireturn, 1) by decide +kernel) rfl,
  (fun q h => by cases h)⟩⟩⟩⟩⟩⟩⟩⟩⟩⟩⟩⟩⟩⟩⟩⟩⟩⟩⟩⟩⟩⟩⟩⟩⟩⟩⟩⟩⟩⟩
theorem sd_X4_marked {G : pj_E} {A : Nat → Prop} {P : pj_P} {S : pj_U} {Z : pj_Z} (C : pj_C (G, A, (c_X4_marked, y_X4_marked.cls, 3, (some .int), 1), P, S, Z)) : ∀ q ∈ tb_X4_marked, pj_S (G, A, (c_X4_marked, y_X4_marked.cls, 3, (some .int), 1), P, S, Z) pj_eI q.1 q.2 := sd_X4_marked_0 C
def C_X4_marked_4 (f : Nat → Int32 → Int32 → pj_M → Option (Int32 × pj_M)) : pj_N (Int32 × pj_M) := fun L st m => match L, st with
  | [some (.inr (.inr (t0, w0, a0))), some (.inl x1), some (.inl x2)], [] => (match Nat.beq t0 0 && (Nat.beq w0 4) with
    | true => f a0 x1 x2 m
    | false => none)
  | _, _ => none
set_option maxRecDepth 20000 in
theorem eq_X4_marked_4 (n1 : Nat) (a0 : Nat) (x1 : Int32) (x2 : Int32) (m : pj_M) : pj_run tb_X4_marked [(4, C_X4_marked_4 (H_X4_marked_4 n1))] 32 4 [some (.inr (.inr (0, 4, a0))), some (.inl x1), some (.inl x2)] [] m = H_X4_marked_4 (n1 + 1) a0 x1 x2 m := rfl
theorem sg_X4_marked_4 {G : pj_E} {A : Nat → Prop} {P : pj_P} {S : pj_U} {Z : pj_Z} (C : pj_C (G, A, (c_X4_marked, y_X4_marked.cls, 3, (some .int), 1), P, S, Z)) : ∀ n1, pj_G (G, A, (c_X4_marked, y_X4_marked.cls, 3, (some .int), 1), P, S, Z) pj_eI 4 (C_X4_marked_4 (H_X4_marked_4 n1)) := by
  intro n1
  induction n1 with
  | zero =>
    intro L st m r h hR
    unfold C_X4_marked_4 at h
    split at h
    · split at h
      · cases h
      · cases h
    · cases h
  | succ n1 ih1 =>
    intro L st m r h hR
    unfold C_X4_marked_4 at h
    split at h
    · split at h
      · rename_i hbq
        simp only [Bool.and_eq_true, Nat.beq_eq] at hbq
        obtain ⟨rfl, rfl⟩ := hbq
        exact pj_run_ok (sd_X4_marked C) (List.forall_mem_cons.mpr ⟨ih1, fun q h => by cases h⟩) 32 4 _ _ _ _ ((eq_X4_marked_4 _ _ _ _ _).trans h) hR
      · cases h
    · cases h
set_option maxRecDepth 20000 in
theorem eq_X4_marked (a0 : Nat) (m : pj_M) : pj_run tb_X4_marked [(4, C_X4_marked_4 (H_X4_marked_4  5000))] 32 0 [some (.inr (.inr (0, 4, a0))), none, none] [] m = F_X4_marked a0 m := rfl
theorem ct_X4_marked : pj_Ct pj_eI y_X4_marked c_X4_marked 3 (some .int) 1 W_X4_marked := by
  refine pj_ct_of (by decide +kernel) ?_ ?_
  · intro as m r h
    unfold W_X4_marked at h
    split at h
    · simp [pj_l0]
    · cases h
  · intro G A P S Z C as m r h hR
    unfold W_X4_marked at h
    split at h
    · split at h
      · rename_i hbq
        simp only [Bool.and_eq_true, Nat.beq_eq] at hbq
        obtain ⟨rfl, rfl⟩ := hbq
        exact pj_run_ok (sd_X4_marked C) (List.forall_mem_cons.mpr ⟨sg_X4_marked_4 C  5000, fun q h => by cases h⟩) 32 0 _ _ _ _ ((eq_X4_marked _ _).trans h) hR
      · cases h
    · cases h
/-! AlikeSteps$Net.kindOf(I)I -/
abbrev c_X4_kindOf : ByteArray := prog_6_method_7_code
def y_X4_kindOf : MethodName := ⟨RX4, "kindOf", "(I)I"⟩
def F_X4_kindOf (a0 : Nat) (x1 : Int32) (m : pj_M) : Option (Int32 × pj_M) := (if x1 < 0 ∨ 10 ≤ x1.toNatClampNeg then none else (some (m.1 (a0 + 1) x1.toNatClampNeg, m)))
def W_X4_kindOf : List pj_V → pj_M → Option (Int32 × pj_M) := fun as m => match as with
  | [.inr (.inr (t0, w0, a0)), .inl x1] => (match Nat.beq t0 0 && (Nat.beq w0 4) with
    | true => F_X4_kindOf a0 x1 m
    | false => none)
  | _ => none
def tb_X4_kindOf_0 : List (Nat × pj_T (Int32 × pj_M)) := [(0, qs_lda 0 1), (1, qs_gf 4 0 4), (4, qs_ldi 1 5), (5, qs_iald 6), (6, qs_iret)]
abbrev tb_X4_kindOf : List (Nat × pj_T (Int32 × pj_M)) := tb_X4_kindOf_0
theorem mv_X4_kindOf : pj_mv y_X4_kindOf c_X4_kindOf 2 (some .int) 1 := ⟨⟨cw_595, cw_593, cw_594, cw_84⟩, by decide +kernel, by decide⟩
set_option maxRecDepth 20000 in
theorem sd_X4_kindOf_0 {G : pj_E} {A : Nat → Prop} {P : pj_P} {S : pj_U} {Z : pj_Z} (C : pj_C (G, A, (c_X4_kindOf, y_X4_kindOf.cls, 2, (some .int), 1), P, S, Z)) : ∀ q ∈ tb_X4_kindOf_0, pj_S (G, A, (c_X4_kindOf, y_X4_kindOf.cls, 2, (some .int), 1), P, S, Z) pj_eI q.1 q.2 :=
  List.forall_mem_cons.mpr ⟨qz_aload_n C (show decode c_X4_kindOf 0 = .ok (.aload_n 0, 1) by decide +kernel) rfl,
  List.forall_mem_cons.mpr ⟨qz_gf (k := 0) C (show decode c_X4_kindOf 1 = .ok (.getfield 9, 3) by decide +kernel) vcX4 wiX4 (by decide) cw_143,
  List.forall_mem_cons.mpr ⟨qz_iload_n C (show decode c_X4_kindOf 4 = .ok (.iload_n 1, 1) by decide +kernel) rfl,
  List.forall_mem_cons.mpr ⟨qz_iald C (show decode c_X4_kindOf 5 = .ok (.iaload, 1) by decide +kernel),
  List.forall_mem_cons.mpr ⟨qz_iret C (show decode c_X4_kindOf 6 = .ok (.ireturn, 1) by decide +kernel) rfl,
  (fun q h => by cases h)⟩⟩⟩⟩⟩
theorem sd_X4_kindOf {G : pj_E} {A : Nat → Prop} {P : pj_P} {S : pj_U} {Z : pj_Z} (C : pj_C (G, A, (c_X4_kindOf, y_X4_kindOf.cls, 2, (some .int), 1), P, S, Z)) : ∀ q ∈ tb_X4_kindOf, pj_S (G, A, (c_X4_kindOf, y_X4_kindOf.cls, 2, (some .int), 1), P, S, Z) pj_eI q.1 q.2 := sd_X4_kindOf_0 C
set_option maxRecDepth 20000 in
theorem eq_X4_kindOf (a0 : Nat) (x1 : Int32) (m : pj_M) : pj_run tb_X4_kindOf [] 7 0 [some (.inr (.inr (0, 4, a0))), some (.inl x1)] [] m = F_X4_kindOf a0 x1 m := rfl
theorem ct_X4_kindOf : pj_Ct pj_eI y_X4_kindOf c_X4_kindOf 2 (some .int) 1 W_X4_kindOf := by
  refine pj_ct_of (by decide +kernel) ?_ ?_
  · intro as m r h
    unfold W_X4_kindOf at h
    split at h
    · simp [pj_l0]
    · cases h
  · intro G A P S Z C as m r h hR
    unfold W_X4_kindOf at h
    split at h
    · split at h
      · rename_i hbq
        simp only [Bool.and_eq_true, Nat.beq_eq] at hbq
        obtain ⟨rfl, rfl⟩ := hbq
        exact pj_run_ok (sd_X4_kindOf C) (fun q h => by cases h) 7 0 _ _ _ _ ((eq_X4_kindOf _ _ _).trans h) hR
      · cases h
    · cases h
/-! AlikeSteps$Net.shiftArcs(III)V -/
abbrev c_X4_shiftArcs : ByteArray := prog_6_method_20_code
def y_X4_shiftArcs : MethodName := ⟨RX4, "shiftArcs", "(III)V"⟩
def H_X4_shiftArcs_3 : Nat → Nat → Int32 → Int32 → Int32 → Int32 → pj_M → Option (pj_M)
  | 0, _, _, _, _, _, _ => none
  | n1 + 1, a0, x1, x2, x3, x4, m => (if x4 < 3 then (if (((x4 * 20) + x1) < 0 ∨ ((x4 * 20) + x2) < 0 ∨ x3 < 0) ∨ 60 < ((x4 * 20) + x1).toNatClampNeg + x3.toNatClampNeg ∨ 60 < ((x4 * 20) + x2).toNatClampNeg + x3.toNatClampNeg then none else (H_X4_shiftArcs_3 n1 a0 x1 x2 x3 (x4 + 1) (pj_cp m (a0 + 2) ((x4 * 20) + x1).toNatClampNeg (a0 + 2) ((x4 * 20) + x2).toNatClampNeg x3.toNatClampNeg))) else (some m))
def F_X4_shiftArcs (a0 : Nat) (x1 : Int32) (x2 : Int32) (x3 : Int32) (m : pj_M) : Option (pj_M) := (H_X4_shiftArcs_3 5000 a0 x1 x2 x3 0 m)
def W_X4_shiftArcs : List pj_V → pj_M → Option (pj_M) := fun as m => match as with
  | [.inr (.inr (t0, w0, a0)), .inl x1, .inl x2, .inl x3] => (match Nat.beq t0 0 && (Nat.beq w0 4) with
    | true => F_X4_shiftArcs a0 x1 x2 x3 m
    | false => none)
  | _ => none
def tb_X4_shiftArcs_0 : List (Nat × pj_T (pj_M)) := [(0, qs_ci 0 1), (1, qs_sti 4 3), (3, qs_ldi 4 5), (5, qs_ci 3 6), (6, qs_icge 42 9), (9, qs_ldi 4 11), (11, qs_ci 20 13), (13, qs_b2 (fun x y => x * y) 14), (14, qs_sti 5 16), (16, qs_lda 0 17), (17, qs_gf 4 1 20), (20, qs_ldi 5 22), (22, qs_ldi 1 23), (23, qs_b2 (fun x y => x + y) 24), (24, qs_lda 0 25), (25, qs_gf 4 1 28), (28, qs_ldi 5 30), (30, qs_ldi 2 31), (31, qs_b2 (fun x y => x + y) 32), (32, qs_ldi 3 33), (33, qs_cpi 36), (36, qs_inc 4 1 39), (39, qs_go 3), (42, qs_vret)]
abbrev tb_X4_shiftArcs : List (Nat × pj_T (pj_M)) := tb_X4_shiftArcs_0
theorem mv_X4_shiftArcs : pj_mv y_X4_shiftArcs c_X4_shiftArcs 6 none 3 := ⟨⟨cw_503, cw_502, cw_9, cw_84⟩, by decide +kernel, by decide⟩
set_option maxRecDepth 20000 in
theorem sd_X4_shiftArcs_0 {G : pj_E} {A : Nat → Prop} {P : pj_P} {S : pj_U} {Z : pj_Z} (C : pj_C (G, A, (c_X4_shiftArcs, y_X4_shiftArcs.cls, 6, none, 1), P, S, Z)) : ∀ q ∈ tb_X4_shiftArcs_0, pj_S (G, A, (c_X4_shiftArcs, y_X4_shiftArcs.cls, 6, none, 1), P, S, Z) pj_eV q.1 q.2 :=
  List.forall_mem_cons.mpr ⟨qz_iconst C (show decode c_X4_shiftArcs 0 = .ok (.iconst 0, 1) by decide +kernel) (by decide +kernel),
  List.forall_mem_cons.mpr ⟨qz_istore C (show decode c_X4_shiftArcs 1 = .ok (.istore 4, 2) by decide +kernel),
  List.forall_mem_cons.mpr ⟨qz_iload C (show decode c_X4_shiftArcs 3 = .ok (.iload 4, 2) by decide +kernel),
  List.forall_mem_cons.mpr ⟨qz_iconst C (show decode c_X4_shiftArcs 5 = .ok (.iconst 3, 1) by decide +kernel) (by decide +kernel),
  List.forall_mem_cons.mpr ⟨qz_icge C (show decode c_X4_shiftArcs 6 = .ok (.if_icmp .ge 36, 3) by decide +kernel) (by decide),
  List.forall_mem_cons.mpr ⟨qz_iload C (show decode c_X4_shiftArcs 9 = .ok (.iload 4, 2) by decide +kernel),
  List.forall_mem_cons.mpr ⟨qz_bipush C (show decode c_X4_shiftArcs 11 = .ok (.bipush 20, 2) by decide +kernel) (by decide +kernel),
  List.forall_mem_cons.mpr ⟨qz_imul C (show decode c_X4_shiftArcs 13 = .ok (.imul, 1) by decide +kernel),
  List.forall_mem_cons.mpr ⟨qz_istore C (show decode c_X4_shiftArcs 14 = .ok (.istore 5, 2) by decide +kernel),
  List.forall_mem_cons.mpr ⟨qz_aload_n C (show decode c_X4_shiftArcs 16 = .ok (.aload_n 0, 1) by decide +kernel) rfl,
  List.forall_mem_cons.mpr ⟨qz_gf (k := 1) C (show decode c_X4_shiftArcs 17 = .ok (.getfield 15, 3) by decide +kernel) vcX4 wiX4 (by decide) cw_144,
  List.forall_mem_cons.mpr ⟨qz_iload C (show decode c_X4_shiftArcs 20 = .ok (.iload 5, 2) by decide +kernel),
  List.forall_mem_cons.mpr ⟨qz_iload_n C (show decode c_X4_shiftArcs 22 = .ok (.iload_n 1, 1) by decide +kernel) rfl,
  List.forall_mem_cons.mpr ⟨qz_iadd C (show decode c_X4_shiftArcs 23 = .ok (.iadd, 1) by decide +kernel),
  List.forall_mem_cons.mpr ⟨qz_aload_n C (show decode c_X4_shiftArcs 24 = .ok (.aload_n 0, 1) by decide +kernel) rfl,
  List.forall_mem_cons.mpr ⟨qz_gf (k := 1) C (show decode c_X4_shiftArcs 25 = .ok (.getfield 15, 3) by decide +kernel) vcX4 wiX4 (by decide) cw_144,
  List.forall_mem_cons.mpr ⟨qz_iload C (show decode c_X4_shiftArcs 28 = .ok (.iload 5, 2) by decide +kernel),
  List.forall_mem_cons.mpr ⟨qz_iload_n C (show decode c_X4_shiftArcs 30 = .ok (.iload_n 2, 1) by decide +kernel) rfl,
  List.forall_mem_cons.mpr ⟨qz_iadd C (show decode c_X4_shiftArcs 31 = .ok (.iadd, 1) by decide +kernel),
  List.forall_mem_cons.mpr ⟨qz_iload_n C (show decode c_X4_shiftArcs 32 = .ok (.iload_n 3, 1) by decide +kernel) rfl,
  List.forall_mem_cons.mpr ⟨qz_cpi C (show decode c_X4_shiftArcs 33 = .ok (.invokestatic 28, 3) by decide +kernel) cw_504 cw_415 cw_414 cw_93,
  List.forall_mem_cons.mpr ⟨qz_iinc C (show decode c_X4_shiftArcs 36 = .ok (.iinc 4 1, 3) by decide +kernel) (by decide +kernel),
  List.forall_mem_cons.mpr ⟨qz_goto C (show decode c_X4_shiftArcs 39 = .ok (.goto (-36), 3) by decide +kernel) (by decide),
  List.forall_mem_cons.mpr ⟨qz_vret C (show decode c_X4_shiftArcs 42 = .ok (.return_, 1) by decide +kernel) rfl,
  (fun q h => by cases h)⟩⟩⟩⟩⟩⟩⟩⟩⟩⟩⟩⟩⟩⟩⟩⟩⟩⟩⟩⟩⟩⟩⟩⟩
theorem sd_X4_shiftArcs {G : pj_E} {A : Nat → Prop} {P : pj_P} {S : pj_U} {Z : pj_Z} (C : pj_C (G, A, (c_X4_shiftArcs, y_X4_shiftArcs.cls, 6, none, 1), P, S, Z)) : ∀ q ∈ tb_X4_shiftArcs, pj_S (G, A, (c_X4_shiftArcs, y_X4_shiftArcs.cls, 6, none, 1), P, S, Z) pj_eV q.1 q.2 := sd_X4_shiftArcs_0 C
def C_X4_shiftArcs_3 (f : Nat → Int32 → Int32 → Int32 → Int32 → pj_M → Option (pj_M)) : pj_N (pj_M) := fun L st m => match L, st with
  | [some (.inr (.inr (t0, w0, a0))), some (.inl x1), some (.inl x2), some (.inl x3), some (.inl x4), _], [] => (match Nat.beq t0 0 && (Nat.beq w0 4) with
    | true => f a0 x1 x2 x3 x4 m
    | false => none)
  | _, _ => none
set_option maxRecDepth 20000 in
theorem eq_X4_shiftArcs_3 (n1 : Nat) (a0 : Nat) (x1 : Int32) (x2 : Int32) (x3 : Int32) (x4 : Int32) (d5 : Option pj_V) (m : pj_M) : pj_run tb_X4_shiftArcs [(3, C_X4_shiftArcs_3 (H_X4_shiftArcs_3 n1))] 26 3 [some (.inr (.inr (0, 4, a0))), some (.inl x1), some (.inl x2), some (.inl x3), some (.inl x4), d5] [] m = H_X4_shiftArcs_3 (n1 + 1) a0 x1 x2 x3 x4 m := rfl
theorem sg_X4_shiftArcs_3 {G : pj_E} {A : Nat → Prop} {P : pj_P} {S : pj_U} {Z : pj_Z} (C : pj_C (G, A, (c_X4_shiftArcs, y_X4_shiftArcs.cls, 6, none, 1), P, S, Z)) : ∀ n1, pj_G (G, A, (c_X4_shiftArcs, y_X4_shiftArcs.cls, 6, none, 1), P, S, Z) pj_eV 3 (C_X4_shiftArcs_3 (H_X4_shiftArcs_3 n1)) := by
  intro n1
  induction n1 with
  | zero =>
    intro L st m r h hR
    unfold C_X4_shiftArcs_3 at h
    split at h
    · split at h
      · cases h
      · cases h
    · cases h
  | succ n1 ih1 =>
    intro L st m r h hR
    unfold C_X4_shiftArcs_3 at h
    split at h
    · split at h
      · rename_i hbq
        simp only [Bool.and_eq_true, Nat.beq_eq] at hbq
        obtain ⟨rfl, rfl⟩ := hbq
        exact pj_run_ok (sd_X4_shiftArcs C) (List.forall_mem_cons.mpr ⟨ih1, fun q h => by cases h⟩) 26 3 _ _ _ _ ((eq_X4_shiftArcs_3 _ _ _ _ _ _ _ _).trans h) hR
      · cases h
    · cases h
set_option maxRecDepth 20000 in
theorem eq_X4_shiftArcs (a0 : Nat) (x1 : Int32) (x2 : Int32) (x3 : Int32) (m : pj_M) : pj_run tb_X4_shiftArcs [(3, C_X4_shiftArcs_3 (H_X4_shiftArcs_3  5000))] 26 0 [some (.inr (.inr (0, 4, a0))), some (.inl x1), some (.inl x2), some (.inl x3), none, none] [] m = F_X4_shiftArcs a0 x1 x2 x3 m := rfl
theorem ct_X4_shiftArcs : pj_Ct pj_eV y_X4_shiftArcs c_X4_shiftArcs 6 none 1 W_X4_shiftArcs := by
  refine pj_ct_of (by decide +kernel) ?_ ?_
  · intro as m r h
    unfold W_X4_shiftArcs at h
    split at h
    · simp [pj_l0]
    · cases h
  · intro G A P S Z C as m r h hR
    unfold W_X4_shiftArcs at h
    split at h
    · split at h
      · rename_i hbq
        simp only [Bool.and_eq_true, Nat.beq_eq] at hbq
        obtain ⟨rfl, rfl⟩ := hbq
        exact pj_run_ok (sd_X4_shiftArcs C) (List.forall_mem_cons.mpr ⟨sg_X4_shiftArcs_3 C  5000, fun q h => by cases h⟩) 26 0 _ _ _ _ ((eq_X4_shiftArcs _ _ _ _ _).trans h) hR
      · cases h
    · cases h
/-! AlikeSteps$Net.setArcPart(III)V -/
abbrev c_X4_setArcPart : ByteArray := prog_6_method_19_code
def y_X4_setArcPart : MethodName := ⟨RX4, "setArcPart", "(III)V"⟩
def F_X4_setArcPart (a0 : Nat) (x1 : Int32) (x2 : Int32) (x3 : Int32) (m : pj_M) : Option (pj_M) := (if ((x2 * 20) + x1) < 0 ∨ 60 ≤ ((x2 * 20) + x1).toNatClampNeg then none else (some (pj_wr (pj_wr m (a0 + 2) ((x2 * 20) + x1).toNatClampNeg x3) a0 4 (((pj_wr m (a0 + 2) ((x2 * 20) + x1).toNatClampNeg x3).1 a0 4) + 1))))
def W_X4_setArcPart : List pj_V → pj_M → Option (pj_M) := fun as m => match as with
  | [.inr (.inr (t0, w0, a0)), .inl x1, .inl x2, .inl x3] => (match Nat.beq t0 0 && (Nat.beq w0 4) with
    | true => F_X4_setArcPart a0 x1 x2 x3 m
    | false => none)
  | _ => none
def tb_X4_setArcPart_0 : List (Nat × pj_T (pj_M)) := [(0, qs_lda 0 1), (1, qs_gf 4 1 4), (4, qs_ldi 2 5), (5, qs_ci 20 7), (7, qs_b2 (fun x y => x * y) 8), (8, qs_ldi 1 9), (9, qs_b2 (fun x y => x + y) 10), (10, qs_ldi 3 11), (11, qs_iast 12), (12, qs_lda 0 13), (13, qs_dup 14), (14, qs_gf 4 4 17), (17, qs_ci 1 18), (18, qs_b2 (fun x y => x + y) 19), (19, qs_pf 4 4 22), (22, qs_vret)]
abbrev tb_X4_setArcPart : List (Nat × pj_T (pj_M)) := tb_X4_setArcPart_0
theorem mv_X4_setArcPart : pj_mv y_X4_setArcPart c_X4_setArcPart 4 none 3 := ⟨⟨cw_508, cw_506, cw_507, cw_84⟩, by decide +kernel, by decide⟩
set_option maxRecDepth 20000 in
theorem sd_X4_setArcPart_0 {G : pj_E} {A : Nat → Prop} {P : pj_P} {S : pj_U} {Z : pj_Z} (C : pj_C (G, A, (c_X4_setArcPart, y_X4_setArcPart.cls, 4, none, 1), P, S, Z)) : ∀ q ∈ tb_X4_setArcPart_0, pj_S (G, A, (c_X4_setArcPart, y_X4_setArcPart.cls, 4, none, 1), P, S, Z) pj_eV q.1 q.2 :=
  List.forall_mem_cons.mpr ⟨qz_aload_n C (show decode c_X4_setArcPart 0 = .ok (.aload_n 0, 1) by decide +kernel) rfl,
  List.forall_mem_cons.mpr ⟨qz_gf (k := 1) C (show decode c_X4_setArcPart 1 = .ok (.getfield 15, 3) by decide +kernel) vcX4 wiX4 (by decide) cw_144,
  List.forall_mem_cons.mpr ⟨qz_iload_n C (show decode c_X4_setArcPart 4 = .ok (.iload_n 2, 1) by decide +kernel) rfl,
  List.forall_mem_cons.mpr ⟨qz_bipush C (show decode c_X4_setArcPart 5 = .ok (.bipush 20, 2) by decide +kernel) (by decide +kernel),
  List.forall_mem_cons.mpr ⟨qz_imul C (show decode c_X4_setArcPart 7 = .ok (.imul, 1) by decide +kernel),
  List.forall_mem_cons.mpr ⟨qz_iload_n C (show decode c_X4_setArcPart 8 = .ok (.iload_n 1, 1) by decide +kernel) rfl,
  List.forall_mem_cons.mpr ⟨qz_iadd C (show decode c_X4_setArcPart 9 = .ok (.iadd, 1) by decide +kernel),
  List.forall_mem_cons.mpr ⟨qz_iload_n C (show decode c_X4_setArcPart 10 = .ok (.iload_n 3, 1) by decide +kernel) rfl,
  List.forall_mem_cons.mpr ⟨qz_iast C (show decode c_X4_setArcPart 11 = .ok (.iastore, 1) by decide +kernel),
  List.forall_mem_cons.mpr ⟨qz_aload_n C (show decode c_X4_setArcPart 12 = .ok (.aload_n 0, 1) by decide +kernel) rfl,
  List.forall_mem_cons.mpr ⟨qz_dup C (show decode c_X4_setArcPart 13 = .ok (.dup, 1) by decide +kernel),
  List.forall_mem_cons.mpr ⟨qz_gf (k := 4) C (show decode c_X4_setArcPart 14 = .ok (.getfield 25, 3) by decide +kernel) vcX4 wiX4 (by decide) cw_147,
  List.forall_mem_cons.mpr ⟨qz_iconst C (show decode c_X4_setArcPart 17 = .ok (.iconst 1, 1) by decide +kernel) (by decide +kernel),
  List.forall_mem_cons.mpr ⟨qz_iadd C (show decode c_X4_setArcPart 18 = .ok (.iadd, 1) by decide +kernel),
  List.forall_mem_cons.mpr ⟨qz_pf (k := 4) C (show decode c_X4_setArcPart 19 = .ok (.putfield 25, 3) by decide +kernel) vcX4 wiX4 tyX4_ok nmX4 (by decide) cw_147 rfl rfl,
  List.forall_mem_cons.mpr ⟨qz_vret C (show decode c_X4_setArcPart 22 = .ok (.return_, 1) by decide +kernel) rfl,
  (fun q h => by cases h)⟩⟩⟩⟩⟩⟩⟩⟩⟩⟩⟩⟩⟩⟩⟩⟩
theorem sd_X4_setArcPart {G : pj_E} {A : Nat → Prop} {P : pj_P} {S : pj_U} {Z : pj_Z} (C : pj_C (G, A, (c_X4_setArcPart, y_X4_setArcPart.cls, 4, none, 1), P, S, Z)) : ∀ q ∈ tb_X4_setArcPart, pj_S (G, A, (c_X4_setArcPart, y_X4_setArcPart.cls, 4, none, 1), P, S, Z) pj_eV q.1 q.2 := sd_X4_setArcPart_0 C
set_option maxRecDepth 20000 in
theorem eq_X4_setArcPart (a0 : Nat) (x1 : Int32) (x2 : Int32) (x3 : Int32) (m : pj_M) : pj_run tb_X4_setArcPart [] 18 0 [some (.inr (.inr (0, 4, a0))), some (.inl x1), some (.inl x2), some (.inl x3)] [] m = F_X4_setArcPart a0 x1 x2 x3 m := rfl
theorem ct_X4_setArcPart : pj_Ct pj_eV y_X4_setArcPart c_X4_setArcPart 4 none 1 W_X4_setArcPart := by
  refine pj_ct_of (by decide +kernel) ?_ ?_
  · intro as m r h
    unfold W_X4_setArcPart at h
    split at h
    · simp [pj_l0]
    · cases h
  · intro G A P S Z C as m r h hR
    unfold W_X4_setArcPart at h
    split at h
    · split at h
      · rename_i hbq
        simp only [Bool.and_eq_true, Nat.beq_eq] at hbq
        obtain ⟨rfl, rfl⟩ := hbq
        exact pj_run_ok (sd_X4_setArcPart C) (fun q h => by cases h) 18 0 _ _ _ _ ((eq_X4_setArcPart _ _ _ _ _).trans h) hR
      · cases h
    · cases h
/-! AlikeSteps$Net.insertArc(IIII)V -/
abbrev c_X4_insertArc : ByteArray := prog_6_method_16_code
def y_X4_insertArc : MethodName := ⟨RX4, "insertArc", "(IIII)V"⟩
def F_X4_insertArc (a0 : Nat) (x1 : Int32) (x2 : Int32) (x3 : Int32) (x4 : Int32) (m : pj_M) : Option (pj_M) := (if (m.1 a0 3) < 20 then (if x1 < 0 then (some m) else (if (m.1 a0 3) < x1 then (some m) else ((F_X4_shiftArcs a0 x1 (x1 + 1) ((m.1 a0 3) - x1) m).bind fun q1 => ((F_X4_setArcPart a0 x1 0 x2 (pj_wr q1 a0 3 ((q1.1 a0 3) + 1))).bind fun q2 => ((F_X4_setArcPart a0 x1 1 x3 q2).bind fun q3 => ((F_X4_setArcPart a0 x1 2 x4 q3).bind fun q4 => (some q4))))))) else (some m))
def W_X4_insertArc : List pj_V → pj_M → Option (pj_M) := fun as m => match as with
  | [.inr (.inr (t0, w0, a0)), .inl x1, .inl x2, .inl x3, .inl x4] => (match Nat.beq t0 0 && (Nat.beq w0 4) with
    | true => F_X4_insertArc a0 x1 x2 x3 x4 m
    | false => none)
  | _ => none
def tb_X4_insertArc_0 : List (Nat × pj_T (pj_M)) := [(0, qs_lda 0 1), (1, qs_gf 4 3 4), (4, qs_ci 20 6), (6, qs_icge 67 9), (9, qs_ldi 1 10), (10, qs_iflt 67 13), (13, qs_ldi 1 14), (14, qs_lda 0 15), (15, qs_gf 4 3 18), (18, qs_icgt 67 21), (21, qs_lda 0 22), (22, qs_ldi 1 23), (23, qs_ldi 1 24), (24, qs_ci 1 25), (25, qs_b2 (fun x y => x + y) 26), (26, qs_lda 0 27), (27, qs_gf 4 3 30), (30, qs_ldi 1 31), (31, qs_b2 (fun x y => x - y) 32), (32, qs_vV 4 4 W_X4_shiftArcs 35), (35, qs_lda 0 36), (36, qs_dup 37), (37, qs_gf 4 3 40), (40, qs_ci 1 41), (41, qs_b2 (fun x y => x + y) 42), (42, qs_pf 4 3 45), (45, qs_lda 0 46), (46, qs_ldi 1 47), (47, qs_ci 0 48), (48, qs_ldi 2 49), (49, qs_vV 4 4 W_X4_setArcPart 52), (52, qs_lda 0 53), (53, qs_ldi 1 54), (54, qs_ci 1 55), (55, qs_ldi 3 56), (56, qs_vV 4 4 W_X4_setArcPart 59), (59, qs_lda 0 60), (60, qs_ldi 1 61), (61, qs_ci 2 62), (62, qs_ldi 4 64)]
def tb_X4_insertArc_1 : List (Nat × pj_T (pj_M)) := [(64, qs_vV 4 4 W_X4_setArcPart 67), (67, qs_vret)]
def tb_X4_insertArc : List (Nat × pj_T (pj_M)) := tb_X4_insertArc_0 ++ (tb_X4_insertArc_1)
theorem mv_X4_insertArc : pj_mv y_X4_insertArc c_X4_insertArc 5 none 4 := ⟨⟨cw_499, cw_497, cw_498, cw_84⟩, by decide +kernel, by decide⟩
set_option maxRecDepth 20000 in
theorem sd_X4_insertArc_0 {G : pj_E} {A : Nat → Prop} {P : pj_P} {S : pj_U} {Z : pj_Z} (C : pj_C (G, A, (c_X4_insertArc, y_X4_insertArc.cls, 5, none, 2), P, S, Z)) : ∀ q ∈ tb_X4_insertArc_0, pj_S (G, A, (c_X4_insertArc, y_X4_insertArc.cls, 5, none, 2), P, S, Z) pj_eV q.1 q.2 :=
  List.forall_mem_cons.mpr ⟨qz_aload_n C (show decode c_X4_insertArc 0 = .ok (.aload_n 0, 1) by decide +kernel) rfl,
  List.forall_mem_cons.mpr ⟨qz_gf (k := 3) C (show decode c_X4_insertArc 1 = .ok (.getfield 22, 3) by decide +kernel) vcX4 wiX4 (by decide) cw_146,
  List.forall_mem_cons.mpr ⟨qz_bipush C (show decode c_X4_insertArc 4 = .ok (.bipush 20, 2) by decide +kernel) (by decide +kernel),
  List.forall_mem_cons.mpr ⟨qz_icge C (show decode c_X4_insertArc 6 = .ok (.if_icmp .ge 61, 3) by decide +kernel) (by decide),
  List.forall_mem_cons.mpr ⟨qz_iload_n C (show decode c_X4_insertArc 9 = .ok (.iload_n 1, 1) by decide +kernel) rfl,
  List.forall_mem_cons.mpr ⟨qz_iflt C (show decode c_X4_insertArc 10 = .ok (.ifCond .lt 57, 3) by decide +kernel) (by decide),
  List.forall_mem_cons.mpr ⟨qz_iload_n C (show decode c_X4_insertArc 13 = .ok (.iload_n 1, 1) by decide +kernel) rfl,
  List.forall_mem_cons.mpr ⟨qz_aload_n C (show decode c_X4_insertArc 14 = .ok (.aload_n 0, 1) by decide +kernel) rfl,
  List.forall_mem_cons.mpr ⟨qz_gf (k := 3) C (show decode c_X4_insertArc 15 = .ok (.getfield 22, 3) by decide +kernel) vcX4 wiX4 (by decide) cw_146,
  List.forall_mem_cons.mpr ⟨qz_icgt C (show decode c_X4_insertArc 18 = .ok (.if_icmp .gt 49, 3) by decide +kernel) (by decide),
  List.forall_mem_cons.mpr ⟨qz_aload_n C (show decode c_X4_insertArc 21 = .ok (.aload_n 0, 1) by decide +kernel) rfl,
  List.forall_mem_cons.mpr ⟨qz_iload_n C (show decode c_X4_insertArc 22 = .ok (.iload_n 1, 1) by decide +kernel) rfl,
  List.forall_mem_cons.mpr ⟨qz_iload_n C (show decode c_X4_insertArc 23 = .ok (.iload_n 1, 1) by decide +kernel) rfl,
  List.forall_mem_cons.mpr ⟨qz_iconst C (show decode c_X4_insertArc 24 = .ok (.iconst 1, 1) by decide +kernel) (by decide +kernel),
  List.forall_mem_cons.mpr ⟨qz_iadd C (show decode c_X4_insertArc 25 = .ok (.iadd, 1) by decide +kernel),
  List.forall_mem_cons.mpr ⟨qz_aload_n C (show decode c_X4_insertArc 26 = .ok (.aload_n 0, 1) by decide +kernel) rfl,
  List.forall_mem_cons.mpr ⟨qz_gf (k := 3) C (show decode c_X4_insertArc 27 = .ok (.getfield 22, 3) by decide +kernel) vcX4 wiX4 (by decide) cw_146,
  List.forall_mem_cons.mpr ⟨qz_iload_n C (show decode c_X4_insertArc 30 = .ok (.iload_n 1, 1) by decide +kernel) rfl,
  List.forall_mem_cons.mpr ⟨qz_isub C (show decode c_X4_insertArc 31 = .ok (.isub, 1) by decide +kernel),
  List.forall_mem_cons.mpr ⟨qz_vV C (show decode c_X4_insertArc 32 = .ok (.invokevirtual 38, 3) by decide +kernel) ct_X4_shiftArcs mv_X4_shiftArcs cw_500 vcX4 (show 1 < 2 by omega),
  List.forall_mem_cons.mpr ⟨qz_aload_n C (show decode c_X4_insertArc 35 = .ok (.aload_n 0, 1) by decide +kernel) rfl,
  List.forall_mem_cons.mpr ⟨qz_dup C (show decode c_X4_insertArc 36 = .ok (.dup, 1) by decide +kernel),
  List.forall_mem_cons.mpr ⟨qz_gf (k := 3) C (show decode c_X4_insertArc 37 = .ok (.getfield 22, 3) by decide +kernel) vcX4 wiX4 (by decide) cw_146,
  List.forall_mem_cons.mpr ⟨qz_iconst C (show decode c_X4_insertArc 40 = .ok (.iconst 1, 1) by decide +kernel) (by decide +kernel),
  List.forall_mem_cons.mpr ⟨qz_iadd C (show decode c_X4_insertArc 41 = .ok (.iadd, 1) by decide +kernel),
  List.forall_mem_cons.mpr ⟨qz_pf (k := 3) C (show decode c_X4_insertArc 42 = .ok (.putfield 22, 3) by decide +kernel) vcX4 wiX4 tyX4_ok nmX4 (by decide) cw_146 rfl rfl,
  List.forall_mem_cons.mpr ⟨qz_aload_n C (show decode c_X4_insertArc 45 = .ok (.aload_n 0, 1) by decide +kernel) rfl,
  List.forall_mem_cons.mpr ⟨qz_iload_n C (show decode c_X4_insertArc 46 = .ok (.iload_n 1, 1) by decide +kernel) rfl,
  List.forall_mem_cons.mpr ⟨qz_iconst C (show decode c_X4_insertArc 47 = .ok (.iconst 0, 1) by decide +kernel) (by decide +kernel),
  List.forall_mem_cons.mpr ⟨qz_iload_n C (show decode c_X4_insertArc 48 = .ok (.iload_n 2, 1) by decide +kernel) rfl,
  List.forall_mem_cons.mpr ⟨qz_vV C (show decode c_X4_insertArc 49 = .ok (.invokevirtual 42, 3) by decide +kernel) ct_X4_setArcPart mv_X4_setArcPart cw_505 vcX4 (show 1 < 2 by omega),
  List.forall_mem_cons.mpr ⟨qz_aload_n C (show decode c_X4_insertArc 52 = .ok (.aload_n 0, 1) by decide +kernel) rfl,
  List.forall_mem_cons.mpr ⟨qz_iload_n C (show decode c_X4_insertArc 53 = .ok (.iload_n 1, 1) by decide +kernel) rfl,
  List.forall_mem_cons.mpr ⟨qz_iconst C (show decode c_X4_insertArc 54 = .ok (.iconst 1, 1) by decide +kernel) (by decide +kernel),
  List.forall_mem_cons.mpr ⟨qz_iload_n C (show decode c_X4_insertArc 55 = .ok (.iload_n 3, 1) by decide +kernel) rfl,
  List.forall_mem_cons.mpr ⟨qz_vV C (show decode c_X4_insertArc 56 = .ok (.invokevirtual 42, 3) by decide +kernel) ct_X4_setArcPart mv_X4_setArcPart cw_505 vcX4 (show 1 < 2 by omega),
  List.forall_mem_cons.mpr ⟨qz_aload_n C (show decode c_X4_insertArc 59 = .ok (.aload_n 0, 1) by decide +kernel) rfl,
  List.forall_mem_cons.mpr ⟨qz_iload_n C (show decode c_X4_insertArc 60 = .ok (.iload_n 1, 1) by decide +kernel) rfl,
  List.forall_mem_cons.mpr ⟨qz_iconst C (show decode c_X4_insertArc 61 = .ok (.iconst 2, 1) by decide +kernel) (by decide +kernel),
  List.forall_mem_cons.mpr ⟨qz_iload C (show decode c_X4_insertArc 62 = .ok (.iload 4, 2) by decide +kernel),
  (fun q h => by cases h)⟩⟩⟩⟩⟩⟩⟩⟩⟩⟩⟩⟩⟩⟩⟩⟩⟩⟩⟩⟩⟩⟩⟩⟩⟩⟩⟩⟩⟩⟩⟩⟩⟩⟩⟩⟩⟩⟩⟩⟩
set_option maxRecDepth 20000 in
theorem sd_X4_insertArc_1 {G : pj_E} {A : Nat → Prop} {P : pj_P} {S : pj_U} {Z : pj_Z} (C : pj_C (G, A, (c_X4_insertArc, y_X4_insertArc.cls, 5, none, 2), P, S, Z)) : ∀ q ∈ tb_X4_insertArc_1, pj_S (G, A, (c_X4_insertArc, y_X4_insertArc.cls, 5, none, 2), P, S, Z) pj_eV q.1 q.2 :=
  List.forall_mem_cons.mpr ⟨qz_vV C (show decode c_X4_insertArc 64 = .ok (.invokevirtual 42, 3) by decide +kernel) ct_X4_setArcPart mv_X4_setArcPart cw_505 vcX4 (show 1 < 2 by omega),
  List.forall_mem_cons.mpr ⟨qz_vret C (show decode c_X4_insertArc 67 = .ok (.return_, 1) by decide +kernel) rfl,
  (fun q h => by cases h)⟩⟩
theorem sd_X4_insertArc {G : pj_E} {A : Nat → Prop} {P : pj_P} {S : pj_U} {Z : pj_Z} (C : pj_C (G, A, (c_X4_insertArc, y_X4_insertArc.cls, 5, none, 2), P, S, Z)) : ∀ q ∈ tb_X4_insertArc, pj_S (G, A, (c_X4_insertArc, y_X4_insertArc.cls, 5, none, 2), P, S, Z) pj_eV q.1 q.2 := List.forall_mem_append.mpr ⟨sd_X4_insertArc_0 C, sd_X4_insertArc_1 C⟩
set_option maxRecDepth 20000 in
theorem eq_X4_insertArc (a0 : Nat) (x1 : Int32) (x2 : Int32) (x3 : Int32) (x4 : Int32) (m : pj_M) : pj_run tb_X4_insertArc [] 44 0 [some (.inr (.inr (0, 4, a0))), some (.inl x1), some (.inl x2), some (.inl x3), some (.inl x4)] [] m = F_X4_insertArc a0 x1 x2 x3 x4 m := rfl
theorem ct_X4_insertArc : pj_Ct pj_eV y_X4_insertArc c_X4_insertArc 5 none 2 W_X4_insertArc := by
  refine pj_ct_of (by decide +kernel) ?_ ?_
  · intro as m r h
    unfold W_X4_insertArc at h
    split at h
    · simp [pj_l0]
    · cases h
  · intro G A P S Z C as m r h hR
    unfold W_X4_insertArc at h
    split at h
    · split at h
      · rename_i hbq
        simp only [Bool.and_eq_true, Nat.beq_eq] at hbq
        obtain ⟨rfl, rfl⟩ := hbq
        exact pj_run_ok (sd_X4_insertArc C) (fun q h => by cases h) 44 0 _ _ _ _ ((eq_X4_insertArc _ _ _ _ _ _).trans h) hR
      · cases h
    · cases h
