/-! PART 04: steps of the pure machine (qs_..), each with its row that the machine does it (qz_..). Written by wip/whole/gen/mkcore.py -/
abbrev pj_X : Type := pj_E × (Nat → Prop) × (ByteArray × String × Nat × Option FieldType × Nat) × (Program × Launch × Env × Room) × (State × MethodId × Array Value × List Frame × Method × Code) × (Nat × Nat × (State → Prop))
def pj_cc (X : pj_X) : ByteArray := X.2.2.1.1
def pj_own (X : pj_X) : String := X.2.2.1.2.1
def pj_rk (X : pj_X) : Nat := X.2.2.1.2.2.2.2
def pj_retT (X : pj_X) : Option FieldType := X.2.2.1.2.2.2.1
def pj_rm (r : Nat) : Room := { frames := r + 1, cells := 0, slots := 0, locals := 60 * (r + 1) }
/-- what stands while a method's body runs -/
def pj_C (X : pj_X) : Prop := match X with
  | (G, A, (cc, own, nL, _, rk), (p, _, _, R), (s, mi, args, _, _, c), (cells, slots, _)) =>
    p.tables.exec = Jvm.exec ∧ c.code = cc ∧ c.maxLocals = nL ∧ s.vm.findClass own = some mi.cls ∧ (∀ w ∈ pj_tb, w.before args s = true) ∧ va_K G.1 vwCl (pj_tys G) s ∧ va_Nw pj_nw s ∧
    rk + 1 ≤ R.frames ∧ 60 * (rk + 1) ≤ R.locals ∧ cells ≤ R.cells ∧ slots ≤ R.slots ∧ va_X G.2.2.2.1 G.2.2.2.2.1 G.2.2.2.2.2 s s.heap ∧ G.2.2.2.1 < s.heap.size ∧ ¬ A G.2.2.2.1
def pj_H (G : pj_E) (A : Nat → Prop) (m : pj_M) (s : State) (H : Heap) (locs : List Loc) : Prop := va_P G.1 vwCl (pj_ws G m) H ∧ va_D A (pj_ws G m) ∧ va_S A s.heap H locs
def pj_W (X : pj_X) (pc : Nat) (L : List (Option pj_V)) (st : List pj_V) (m : pj_M) : Prop := match X with
  | (G, A, (_, _, nL, _, _), (p, l, e, R), (s, mi, args, below, meth, c), (cells, slots, Q)) =>
    ∀ (ls : Array Slot) (H : Heap) (locs : List Loc), pj_F G nL L st ls → pj_H G A m s H locs → W p l e R s mi args below meth c H locs cells slots Q (F0 mi pc ls (st.map (pj_tr G)))
def pj_rd (cc : ByteArray) (ret : Option FieldType) (o : Option pj_V) (pc : Nat) : Prop := match o with
  | none => decode cc pc = .ok (.return_, 1) ∧ ret = none
  | some (.inl v) => decode cc pc = .ok (.ireturn, 1) ∧ ∃ ty, ret = some ty ∧ narrow ty (.int v) = .int v
  | some (.inr (.inl _)) => decode cc pc = .ok (.lreturn, 1) ∧ ret = some .long
  | some (.inr (.inr _)) => decode cc pc = .ok (.areturn, 1) ∧ ∃ n, ret = some (.object n)
/-- a return with an answer and a memory is good for the goal -/
def pj_R (X : pj_X) (o : Option pj_V) (m : pj_M) : Prop := match X with
  | (G, A, (cc, _, _, ret, _), (p, l, e, R), (s, mi, args, below, meth, c), (cells, slots, Q)) =>
    ∀ (pc : Nat) (ls : Array Slot) (H : Heap) (locs : List Loc), pj_rd cc ret o pc → (∀ v, o = some v → pj_okv v) → pj_H G A m s H locs → W p l e R s mi args below meth c H locs cells slots Q (F0 mi pc ls ((o.map (pj_tr G)).toList))
abbrev pj_K (ρ : Type) : Type := Nat → List (Option pj_V) → List pj_V → pj_M → Option ρ
abbrev pj_T (ρ : Type) : Type := pj_K ρ → List (Option pj_V) → List pj_V → pj_M → Option ρ
/-- the step τ at pc is the machine's: where what follows is good, it is -/
def pj_S {ρ : Type} (X : pj_X) (enc : ρ → Option pj_V × pj_M) (pc : Nat) (τ : pj_T ρ) : Prop :=
  ∀ K : pj_K ρ, (∀ pc' L st m r, K pc' L st m = some r → pj_R X (enc r).1 (enc r).2 → pj_W X pc' L st m) → ∀ L st m r, τ K L st m = some r → pj_R X (enc r).1 (enc r).2 → pj_W X pc L st m
theorem pj_F.stk {G : pj_E} {nL : Nat} {L : List (Option pj_V)} {st st' : List pj_V} {ls : Array Slot} (h : pj_F G nL L st ls) (h' : ∀ v ∈ st', pj_okv v) : pj_F G nL L st' ls := ⟨h.1, h.2.1, h.2.2.1, h.2.2.2.1, h'⟩
theorem pj_okc {a : pj_V} {st : List pj_V} (h1 : pj_okv a) (h2 : ∀ v ∈ st, pj_okv v) : ∀ v ∈ a :: st, pj_okv v := fun v hv => (List.mem_cons.mp hv).elim (fun e => e ▸ h1) (h2 v)
theorem pj_ok1 {a : pj_V} {st : List pj_V} (h : ∀ v ∈ a :: st, pj_okv v) : ∀ v ∈ st, pj_okv v := fun v hv => h v (List.mem_cons_of_mem _ hv)
theorem pj_okh {a : pj_V} {st : List pj_V} (h : ∀ v ∈ a :: st, pj_okv v) : pj_okv a := h a List.mem_cons_self
theorem pj_okd {n : Nat} {st : List pj_V} (h : ∀ v ∈ st, pj_okv v) : ∀ v ∈ st.drop n, pj_okv v := fun v hv => h v (List.mem_of_mem_drop hv)
theorem pj_okt {n : Nat} {st : List pj_V} (h : ∀ v ∈ st, pj_okv v) : ∀ v ∈ (st.take n).reverse, pj_okv v := fun v hv => h v (List.mem_of_mem_take (List.mem_reverse.mp hv))
/-! steps -/
def qs_ci {ρ : Type} (v : Int32) (nx : Nat) : pj_T ρ := fun K L st m => K nx L (.inl v :: st) m
def qs_cl {ρ : Type} (v : Int64) (nx : Nat) : pj_T ρ := fun K L st m => K nx L (.inr (.inl v) :: st) m
def qs_ldi {ρ : Type} (i nx : Nat) : pj_T ρ := fun K L st m => match L[i]? with
  | some (some (.inl x)) => K nx L (.inl x :: st) m
  | _ => none
def qs_ldl {ρ : Type} (i nx : Nat) : pj_T ρ := fun K L st m => match L[i]? with
  | some (some (.inr (.inl x))) => K nx L (.inr (.inl x) :: st) m
  | _ => none
def qs_lda {ρ : Type} (i nx : Nat) : pj_T ρ := fun K L st m => match L[i]? with
  | some (some (.inr (.inr x))) => K nx L (.inr (.inr x) :: st) m
  | _ => none
def qs_sti {ρ : Type} (i nx : Nat) : pj_T ρ := fun K L st m => match st, L[i]? with
  | .inl x :: st, some _ => K nx (pj_st1 L i (.inl x)) st m
  | _, _ => none
def qs_sta {ρ : Type} (i nx : Nat) : pj_T ρ := fun K L st m => match st, L[i]? with
  | .inr (.inr x) :: st, some _ => K nx (pj_st1 L i (.inr (.inr x))) st m
  | _, _ => none
def qs_stl {ρ : Type} (i nx : Nat) : pj_T ρ := fun K L st m => match st, L[i + 1]? with
  | .inr (.inl x) :: st, some _ => K nx (pj_st2 L i (.inr (.inl x))) st m
  | _, _ => none
def qs_inc {ρ : Type} (i : Nat) (d : Int32) (nx : Nat) : pj_T ρ := fun K L st m => match L[i]? with
  | some (some (.inl x)) => K nx (pj_st1 L i (.inl (x + d))) st m
  | _ => none
theorem qz_iconst {ρ : Type} {X : pj_X} {enc : ρ → Option pj_V × pj_M} {pc : Nat} (C : pj_C X) {n : Int} {v : Int32} (hd : decode (pj_cc X) pc = .ok (.iconst n, 1)) (hv : Int32.ofInt n = v) : pj_S X enc pc (qs_ci v (pc + 1)) := by
  intro K hK L st m r h hR
  obtain ⟨G, A, ⟨cc, own, nL, ret, rk⟩, ⟨p, l, e, R⟩, ⟨s, mi, args, below, meth, c⟩, ⟨cells, slots, Q⟩⟩ := X
  obtain ⟨hx, hb, hml, hown, hts, hk, hnw, hfr, hlo, hce, hsl, hX, hbl, hbA⟩ := C
  intro ls H locs hF hH
  exact lv_iconst hx hb hd hv (hK _ _ _ _ _ h hR ls H locs (hF.stk (pj_okc trivial hF.2.2.2.2)) hH)
theorem qz_bipush {ρ : Type} {X : pj_X} {enc : ρ → Option pj_V × pj_M} {pc : Nat} (C : pj_C X) {n : Int} {v : Int32} (hd : decode (pj_cc X) pc = .ok (.bipush n, 2)) (hv : (Int8.ofInt n).toInt32 = v) : pj_S X enc pc (qs_ci v (pc + 2)) := by
  intro K hK L st m r h hR
  obtain ⟨G, A, ⟨cc, own, nL, ret, rk⟩, ⟨p, l, e, R⟩, ⟨s, mi, args, below, meth, c⟩, ⟨cells, slots, Q⟩⟩ := X
  obtain ⟨hx, hb, hml, hown, hts, hk, hnw, hfr, hlo, hce, hsl, hX, hbl, hbA⟩ := C
  intro ls H locs hF hH
  exact lv_bipush hx hb hd hv (hK _ _ _ _ _ h hR ls H locs (hF.stk (pj_okc trivial hF.2.2.2.2)) hH)
theorem qz_sipush {ρ : Type} {X : pj_X} {enc : ρ → Option pj_V × pj_M} {pc : Nat} (C : pj_C X) {n : Int} {v : Int32} (hd : decode (pj_cc X) pc = .ok (.sipush n, 3)) (hv : (Int16.ofInt n).toInt32 = v) : pj_S X enc pc (qs_ci v (pc + 3)) := by
  intro K hK L st m r h hR
  obtain ⟨G, A, ⟨cc, own, nL, ret, rk⟩, ⟨p, l, e, R⟩, ⟨s, mi, args, below, meth, c⟩, ⟨cells, slots, Q⟩⟩ := X
  obtain ⟨hx, hb, hml, hown, hts, hk, hnw, hfr, hlo, hce, hsl, hX, hbl, hbA⟩ := C
  intro ls H locs hF hH
  exact lv_sipush hx hb hd hv (hK _ _ _ _ _ h hR ls H locs (hF.stk (pj_okc trivial hF.2.2.2.2)) hH)
theorem qz_lconst {ρ : Type} {X : pj_X} {enc : ρ → Option pj_V × pj_M} {pc : Nat} (C : pj_C X) {n : Fin 2} {v : Int64} (hd : decode (pj_cc X) pc = .ok (.lconst n, 1)) (hv : Int64.ofNat (n : Nat) = v) : pj_S X enc pc (qs_cl v (pc + 1)) := by
  intro K hK L st m r h hR
  obtain ⟨G, A, ⟨cc, own, nL, ret, rk⟩, ⟨p, l, e, R⟩, ⟨s, mi, args, below, meth, c⟩, ⟨cells, slots, Q⟩⟩ := X
  obtain ⟨hx, hb, hml, hown, hts, hk, hnw, hfr, hlo, hce, hsl, hX, hbl, hbA⟩ := C
  intro ls H locs hF hH
  exact lv_lconst hx hb hd hv (hK _ _ _ _ _ h hR ls H locs (hF.stk (pj_okc trivial hF.2.2.2.2)) hH)
theorem qz_ldc {ρ : Type} {X : pj_X} {enc : ρ → Option pj_V × pj_M} {pc : Nat} (C : pj_C X) {i : Nat} {v : Int32} (hd : decode (pj_cc X) pc = .ok (.ldc i, 2)) (hc : Cond.constant (pj_own X) i v ∈ pj_tb) : pj_S X enc pc (qs_ci v (pc + 2)) := by
  intro K hK L st m r h hR
  obtain ⟨G, A, ⟨cc, own, nL, ret, rk⟩, ⟨p, l, e, R⟩, ⟨s, mi, args, below, meth, c⟩, ⟨cells, slots, Q⟩⟩ := X
  obtain ⟨hx, hb, hml, hown, hts, hk, hnw, hfr, hlo, hce, hsl, hX, hbl, hbA⟩ := C
  intro ls H locs hF hH
  exact lv_ldc hx hb hown (hts _ hc) hd (hK _ _ _ _ _ h hR ls H locs (hF.stk (pj_okc trivial hF.2.2.2.2)) hH)
theorem qz_ldcw {ρ : Type} {X : pj_X} {enc : ρ → Option pj_V × pj_M} {pc : Nat} (C : pj_C X) {i : Nat} {v : Int32} (hd : decode (pj_cc X) pc = .ok (.ldc_w i, 3)) (hc : Cond.constant (pj_own X) i v ∈ pj_tb) : pj_S X enc pc (qs_ci v (pc + 3)) := by
  intro K hK L st m r h hR
  obtain ⟨G, A, ⟨cc, own, nL, ret, rk⟩, ⟨p, l, e, R⟩, ⟨s, mi, args, below, meth, c⟩, ⟨cells, slots, Q⟩⟩ := X
  obtain ⟨hx, hb, hml, hown, hts, hk, hnw, hfr, hlo, hce, hsl, hX, hbl, hbA⟩ := C
  intro ls H locs hF hH
  exact lv_ldcw hx hb hown (hts _ hc) hd (hK _ _ _ _ _ h hR ls H locs (hF.stk (pj_okc trivial hF.2.2.2.2)) hH)
theorem qz_ldc2 {ρ : Type} {X : pj_X} {enc : ρ → Option pj_V × pj_M} {pc : Nat} (C : pj_C X) {i : Nat} {v : Int64} (hd : decode (pj_cc X) pc = .ok (.ldc2_w i, 3)) (hc : Cond.constantLong (pj_own X) i v ∈ pj_tb) : pj_S X enc pc (qs_cl v (pc + 3)) := by
  intro K hK L st m r h hR
  obtain ⟨G, A, ⟨cc, own, nL, ret, rk⟩, ⟨p, l, e, R⟩, ⟨s, mi, args, below, meth, c⟩, ⟨cells, slots, Q⟩⟩ := X
  obtain ⟨hx, hb, hml, hown, hts, hk, hnw, hfr, hlo, hce, hsl, hX, hbl, hbA⟩ := C
  intro ls H locs hF hH
  exact lv_ldc2 hx hb hown (hts _ hc) hd (hK _ _ _ _ _ h hR ls H locs (hF.stk (pj_okc trivial hF.2.2.2.2)) hH)
theorem qz_iload_n {ρ : Type} {X : pj_X} {enc : ρ → Option pj_V × pj_M} {pc : Nat} (C : pj_C X) {k : Fin 4} {i : Nat} (hd : decode (pj_cc X) pc = .ok (.iload_n k, 1)) (hi : (k : Nat) = i) : pj_S X enc pc (qs_ldi i (pc + 1)) := by
  intro K hK L st m r h hR
  obtain ⟨G, A, ⟨cc, own, nL, ret, rk⟩, ⟨p, l, e, R⟩, ⟨s, mi, args, below, meth, c⟩, ⟨cells, slots, Q⟩⟩ := X
  obtain ⟨hx, hb, hml, hown, hts, hk, hnw, hfr, hlo, hce, hsl, hX, hbl, hbA⟩ := C
  unfold qs_ldi at h
  split at h
  · rename_i x hx1
    intro ls H locs hF hH
    exact lv_iload_n hx hb hd hi (hF.2.2.2.1 _ _ hx1).1 (hK _ _ _ _ _ h hR ls H locs (hF.stk (pj_okc trivial hF.2.2.2.2)) hH)
  · cases h
theorem qz_iload {ρ : Type} {X : pj_X} {enc : ρ → Option pj_V × pj_M} {pc : Nat} (C : pj_C X) {i : Nat} (hd : decode (pj_cc X) pc = .ok (.iload i, 2))  : pj_S X enc pc (qs_ldi i (pc + 2)) := by
  intro K hK L st m r h hR
  obtain ⟨G, A, ⟨cc, own, nL, ret, rk⟩, ⟨p, l, e, R⟩, ⟨s, mi, args, below, meth, c⟩, ⟨cells, slots, Q⟩⟩ := X
  obtain ⟨hx, hb, hml, hown, hts, hk, hnw, hfr, hlo, hce, hsl, hX, hbl, hbA⟩ := C
  unfold qs_ldi at h
  split at h
  · rename_i x hx1
    intro ls H locs hF hH
    exact lv_iload hx hb hd  (hF.2.2.2.1 _ _ hx1).1 (hK _ _ _ _ _ h hR ls H locs (hF.stk (pj_okc trivial hF.2.2.2.2)) hH)
  · cases h
theorem qz_lload_n {ρ : Type} {X : pj_X} {enc : ρ → Option pj_V × pj_M} {pc : Nat} (C : pj_C X) {k : Fin 4} {i : Nat} (hd : decode (pj_cc X) pc = .ok (.lload_n k, 1)) (hi : (k : Nat) = i) : pj_S X enc pc (qs_ldl i (pc + 1)) := by
  intro K hK L st m r h hR
  obtain ⟨G, A, ⟨cc, own, nL, ret, rk⟩, ⟨p, l, e, R⟩, ⟨s, mi, args, below, meth, c⟩, ⟨cells, slots, Q⟩⟩ := X
  obtain ⟨hx, hb, hml, hown, hts, hk, hnw, hfr, hlo, hce, hsl, hX, hbl, hbA⟩ := C
  unfold qs_ldl at h
  split at h
  · rename_i x hx1
    intro ls H locs hF hH
    exact lv_lload_n hx hb hd hi (hF.2.2.2.1 _ _ hx1).1 (hK _ _ _ _ _ h hR ls H locs (hF.stk (pj_okc trivial hF.2.2.2.2)) hH)
  · cases h
theorem qz_lload {ρ : Type} {X : pj_X} {enc : ρ → Option pj_V × pj_M} {pc : Nat} (C : pj_C X) {i : Nat} (hd : decode (pj_cc X) pc = .ok (.lload i, 2))  : pj_S X enc pc (qs_ldl i (pc + 2)) := by
  intro K hK L st m r h hR
  obtain ⟨G, A, ⟨cc, own, nL, ret, rk⟩, ⟨p, l, e, R⟩, ⟨s, mi, args, below, meth, c⟩, ⟨cells, slots, Q⟩⟩ := X
  obtain ⟨hx, hb, hml, hown, hts, hk, hnw, hfr, hlo, hce, hsl, hX, hbl, hbA⟩ := C
  unfold qs_ldl at h
  split at h
  · rename_i x hx1
    intro ls H locs hF hH
    exact lv_lload hx hb hd  (hF.2.2.2.1 _ _ hx1).1 (hK _ _ _ _ _ h hR ls H locs (hF.stk (pj_okc trivial hF.2.2.2.2)) hH)
  · cases h
theorem pj_tr_ref (G : pj_E) (r : Nat × Nat × Nat) : ∃ a, pj_tr G (.inr (.inr r)) = .ref a := by
  obtain ⟨t, x, a⟩ := r
  simp only [pj_tr]
  split
  · exact ⟨_, rfl⟩
  · exact ⟨_, rfl⟩
theorem qz_aload_n {ρ : Type} {X : pj_X} {enc : ρ → Option pj_V × pj_M} {pc : Nat} (C : pj_C X) {k : Fin 4} {i : Nat} (hd : decode (pj_cc X) pc = .ok (.aload_n k, 1)) (hi : (k : Nat) = i) : pj_S X enc pc (qs_lda i (pc + 1)) := by
  intro K hK L st m r h hR
  obtain ⟨G, A, ⟨cc, own, nL, ret, rk⟩, ⟨p, l, e, R⟩, ⟨s, mi, args, below, meth, c⟩, ⟨cells, slots, Q⟩⟩ := X
  obtain ⟨hx, hb, hml, hown, hts, hk, hnw, hfr, hlo, hce, hsl, hX, hbl, hbA⟩ := C
  unfold qs_lda at h
  split at h
  · rename_i x hx1
    intro ls H locs hF hH
    have h1 := hF.2.2.2.1 _ _ hx1
    have h2 := hK _ _ _ _ _ h hR ls H locs (hF.stk (pj_okc h1.2 hF.2.2.2.2)) hH
    obtain ⟨a, ha⟩ := pj_tr_ref G x
    rw [List.map_cons, ha] at h2
    exact lv_aload_n hx hb hd hi (by rw [← ha]; exact h1.1) h2
  · cases h
theorem qz_aload {ρ : Type} {X : pj_X} {enc : ρ → Option pj_V × pj_M} {pc : Nat} (C : pj_C X) {i : Nat} (hd : decode (pj_cc X) pc = .ok (.aload i, 2))  : pj_S X enc pc (qs_lda i (pc + 2)) := by
  intro K hK L st m r h hR
  obtain ⟨G, A, ⟨cc, own, nL, ret, rk⟩, ⟨p, l, e, R⟩, ⟨s, mi, args, below, meth, c⟩, ⟨cells, slots, Q⟩⟩ := X
  obtain ⟨hx, hb, hml, hown, hts, hk, hnw, hfr, hlo, hce, hsl, hX, hbl, hbA⟩ := C
  unfold qs_lda at h
  split at h
  · rename_i x hx1
    intro ls H locs hF hH
    have h1 := hF.2.2.2.1 _ _ hx1
    have h2 := hK _ _ _ _ _ h hR ls H locs (hF.stk (pj_okc h1.2 hF.2.2.2.2)) hH
    obtain ⟨a, ha⟩ := pj_tr_ref G x
    rw [List.map_cons, ha] at h2
    exact lv_aload hx hb hd  (by rw [← ha]; exact h1.1) h2
  · cases h
theorem qz_istore_n {ρ : Type} {X : pj_X} {enc : ρ → Option pj_V × pj_M} {pc : Nat} (C : pj_C X) {k : Fin 4} {i : Nat} (hd : decode (pj_cc X) pc = .ok (.istore_n k, 1)) (hi : (k : Nat) = i) : pj_S X enc pc (qs_sti i (pc + 1)) := by
  intro K hK L st m r h hR
  obtain ⟨G, A, ⟨cc, own, nL, ret, rk⟩, ⟨p, l, e, R⟩, ⟨s, mi, args, below, meth, c⟩, ⟨cells, slots, Q⟩⟩ := X
  obtain ⟨hx, hb, hml, hown, hts, hk, hnw, hfr, hlo, hce, hsl, hX, hbl, hbA⟩ := C
  unfold qs_sti at h
  split at h
  · rename_i x st o hx1
    intro ls H locs hF hH
    have hlt := (List.getElem?_eq_some_iff.mp hx1).1
    rw [hF.2.2.1] at hlt
    exact lv_istore_n hx hb hd hi hF.has hlt rfl (fun ls2 h2 => hK _ _ _ _ _ h hR ls2 H locs (hF.st1 h2) hH)
  · cases h
theorem qz_istore {ρ : Type} {X : pj_X} {enc : ρ → Option pj_V × pj_M} {pc : Nat} (C : pj_C X) {i : Nat} (hd : decode (pj_cc X) pc = .ok (.istore i, 2))  : pj_S X enc pc (qs_sti i (pc + 2)) := by
  intro K hK L st m r h hR
  obtain ⟨G, A, ⟨cc, own, nL, ret, rk⟩, ⟨p, l, e, R⟩, ⟨s, mi, args, below, meth, c⟩, ⟨cells, slots, Q⟩⟩ := X
  obtain ⟨hx, hb, hml, hown, hts, hk, hnw, hfr, hlo, hce, hsl, hX, hbl, hbA⟩ := C
  unfold qs_sti at h
  split at h
  · rename_i x st o hx1
    intro ls H locs hF hH
    have hlt := (List.getElem?_eq_some_iff.mp hx1).1
    rw [hF.2.2.1] at hlt
    exact lv_istore hx hb hd  hF.has hlt rfl (fun ls2 h2 => hK _ _ _ _ _ h hR ls2 H locs (hF.st1 h2) hH)
  · cases h
theorem qz_astore_n {ρ : Type} {X : pj_X} {enc : ρ → Option pj_V × pj_M} {pc : Nat} (C : pj_C X) {k : Fin 4} {i : Nat} (hd : decode (pj_cc X) pc = .ok (.astore_n k, 1)) (hi : (k : Nat) = i) : pj_S X enc pc (qs_sta i (pc + 1)) := by
  intro K hK L st m r h hR
  obtain ⟨G, A, ⟨cc, own, nL, ret, rk⟩, ⟨p, l, e, R⟩, ⟨s, mi, args, below, meth, c⟩, ⟨cells, slots, Q⟩⟩ := X
  obtain ⟨hx, hb, hml, hown, hts, hk, hnw, hfr, hlo, hce, hsl, hX, hbl, hbA⟩ := C
  unfold qs_sta at h
  split at h
  · rename_i x st o hx1
    intro ls H locs hF hH
    have hlt := (List.getElem?_eq_some_iff.mp hx1).1
    rw [hF.2.2.1] at hlt
    obtain ⟨a, ha⟩ := pj_tr_ref G x
    rw [List.map_cons, ha]
    exact lv_astore_n hx hb hd hi hF.has hlt rfl (fun ls2 h2 => hK _ _ _ _ _ h hR ls2 H locs (hF.st1 (by rw [ha]; exact h2)) hH)
  · cases h
theorem qz_astore {ρ : Type} {X : pj_X} {enc : ρ → Option pj_V × pj_M} {pc : Nat} (C : pj_C X) {i : Nat} (hd : decode (pj_cc X) pc = .ok (.astore i, 2))  : pj_S X enc pc (qs_sta i (pc + 2)) := by
  intro K hK L st m r h hR
  obtain ⟨G, A, ⟨cc, own, nL, ret, rk⟩, ⟨p, l, e, R⟩, ⟨s, mi, args, below, meth, c⟩, ⟨cells, slots, Q⟩⟩ := X
  obtain ⟨hx, hb, hml, hown, hts, hk, hnw, hfr, hlo, hce, hsl, hX, hbl, hbA⟩ := C
  unfold qs_sta at h
  split at h
  · rename_i x st o hx1
    intro ls H locs hF hH
    have hlt := (List.getElem?_eq_some_iff.mp hx1).1
    rw [hF.2.2.1] at hlt
    obtain ⟨a, ha⟩ := pj_tr_ref G x
    rw [List.map_cons, ha]
    exact lv_astore hx hb hd  hF.has hlt rfl (fun ls2 h2 => hK _ _ _ _ _ h hR ls2 H locs (hF.st1 (by rw [ha]; exact h2)) hH)
  · cases h
theorem qz_lstore_n {ρ : Type} {X : pj_X} {enc : ρ → Option pj_V × pj_M} {pc : Nat} (C : pj_C X) {k : Fin 4} {i : Nat} (hd : decode (pj_cc X) pc = .ok (.lstore_n k, 1)) (hi : (k : Nat) = i) : pj_S X enc pc (qs_stl i (pc + 1)) := by
  intro K hK L st m r h hR
  obtain ⟨G, A, ⟨cc, own, nL, ret, rk⟩, ⟨p, l, e, R⟩, ⟨s, mi, args, below, meth, c⟩, ⟨cells, slots, Q⟩⟩ := X
  obtain ⟨hx, hb, hml, hown, hts, hk, hnw, hfr, hlo, hce, hsl, hX, hbl, hbA⟩ := C
  unfold qs_stl at h
  split at h
  · rename_i x st o hx1
    intro ls H locs hF hH
    have hlt := (List.getElem?_eq_some_iff.mp hx1).1
    rw [hF.2.2.1] at hlt
    exact lv_lstore_n hx hb hd hi hF.has hlt rfl (fun ls2 h2 => hK _ _ _ _ _ h hR ls2 H locs (hF.st2 h2) hH)
  · cases h
theorem qz_lstore {ρ : Type} {X : pj_X} {enc : ρ → Option pj_V × pj_M} {pc : Nat} (C : pj_C X) {i : Nat} (hd : decode (pj_cc X) pc = .ok (.lstore i, 2))  : pj_S X enc pc (qs_stl i (pc + 2)) := by
  intro K hK L st m r h hR
  obtain ⟨G, A, ⟨cc, own, nL, ret, rk⟩, ⟨p, l, e, R⟩, ⟨s, mi, args, below, meth, c⟩, ⟨cells, slots, Q⟩⟩ := X
  obtain ⟨hx, hb, hml, hown, hts, hk, hnw, hfr, hlo, hce, hsl, hX, hbl, hbA⟩ := C
  unfold qs_stl at h
  split at h
  · rename_i x st o hx1
    intro ls H locs hF hH
    have hlt := (List.getElem?_eq_some_iff.mp hx1).1
    rw [hF.2.2.1] at hlt
    exact lv_lstore hx hb hd  hF.has hlt rfl (fun ls2 h2 => hK _ _ _ _ _ h hR ls2 H locs (hF.st2 h2) hH)
  · cases h
theorem qz_iinc {ρ : Type} {X : pj_X} {enc : ρ → Option pj_V × pj_M} {pc : Nat} (C : pj_C X) {i : Nat} {n : Int} {d : Int32} (hd : decode (pj_cc X) pc = .ok (.iinc i n, 3)) (hn : Int32.ofInt n = d) : pj_S X enc pc (qs_inc i d (pc + 3)) := by
  intro K hK L st m r h hR
  obtain ⟨G, A, ⟨cc, own, nL, ret, rk⟩, ⟨p, l, e, R⟩, ⟨s, mi, args, below, meth, c⟩, ⟨cells, slots, Q⟩⟩ := X
  obtain ⟨hx, hb, hml, hown, hts, hk, hnw, hfr, hlo, hce, hsl, hX, hbl, hbA⟩ := C
  unfold qs_inc at h
  split at h
  · rename_i x hx1
    intro ls H locs hF hH
    have hlt := (List.getElem?_eq_some_iff.mp hx1).1
    rw [hF.2.2.1] at hlt
    obtain ⟨k, hk1⟩ := List.getElem?_of_mem (pj_lv_mem (G := G) (q := (i, .int x)) |>.mpr ⟨.inl x, hx1, rfl⟩)
    refine lv_iinc hx hb hd hF.has hk1 (by rw [hn]) hlt rfl (fun ls2 h2 => hK _ _ _ _ _ h hR ls2 H locs ?_ hH)
    exact pj_F.st1 (v := .inl (x + d)) (hF.stk (pj_okc trivial hF.2.2.2.2)) h2
  · cases h
def qs_b2 {ρ : Type} (f : Int32 → Int32 → Int32) (nx : Nat) : pj_T ρ := fun K L st m => match st with
  | .inl y :: .inl x :: st => K nx L (.inl (f x y) :: st) m
  | _ => none
def qs_d2 {ρ : Type} (f : Int32 → Int32 → Int32) (nx : Nat) : pj_T ρ := fun K L st m => match st with
  | .inl y :: .inl x :: st => if y = 0 then none else K nx L (.inl (f x y) :: st) m
  | _ => none
def qs_l2 {ρ : Type} (f : Int64 → Int64 → Int64) (nx : Nat) : pj_T ρ := fun K L st m => match st with
  | .inr (.inl y) :: .inr (.inl x) :: st => K nx L (.inr (.inl (f x y)) :: st) m
  | _ => none
def qs_ld2 {ρ : Type} (f : Int64 → Int64 → Int64) (nx : Nat) : pj_T ρ := fun K L st m => match st with
  | .inr (.inl y) :: .inr (.inl x) :: st => if y = 0 then none else K nx L (.inr (.inl (f x y)) :: st) m
  | _ => none
def qs_lsh {ρ : Type} (f : Int64 → Int32 → Int64) (nx : Nat) : pj_T ρ := fun K L st m => match st with
  | .inl y :: .inr (.inl x) :: st => K nx L (.inr (.inl (f x y)) :: st) m
  | _ => none
def qs_lcmp {ρ : Type} (nx : Nat) : pj_T ρ := fun K L st m => match st with
  | .inr (.inl y) :: .inr (.inl x) :: st => K nx L (.inl (lg_cmp x y) :: st) m
  | _ => none
def qs_u1 {ρ : Type} (f : Int32 → Int32) (nx : Nat) : pj_T ρ := fun K L st m => match st with
  | .inl x :: st => K nx L (.inl (f x) :: st) m
  | _ => none
def qs_i2l {ρ : Type} (nx : Nat) : pj_T ρ := fun K L st m => match st with
  | .inl x :: st => K nx L (.inr (.inl x.toInt64) :: st) m
  | _ => none
def qs_l2i {ρ : Type} (nx : Nat) : pj_T ρ := fun K L st m => match st with
  | .inr (.inl x) :: st => K nx L (.inl x.toInt32 :: st) m
  | _ => none
theorem qz_iadd {ρ : Type} {X : pj_X} {enc : ρ → Option pj_V × pj_M} {pc : Nat} (C : pj_C X) (hd : decode (pj_cc X) pc = .ok (.iadd, 1)) : pj_S X enc pc (qs_b2 (fun x y => x + y) (pc + 1)) := by
  intro K hK L st m r h hR
  obtain ⟨G, A, ⟨cc, own, nL, ret, rk⟩, ⟨p, l, e, R⟩, ⟨s, mi, args, below, meth, c⟩, ⟨cells, slots, Q⟩⟩ := X
  obtain ⟨hx, hb, hml, hown, hts, hk, hnw, hfr, hlo, hce, hsl, hX, hbl, hbA⟩ := C
  unfold qs_b2 at h
  split at h
  · rename_i y x st
    intro ls H locs hF hH
    exact lv_iadd hx hb hd (hK _ _ _ _ _ h hR ls H locs (hF.stk (pj_okc trivial (pj_ok1 (pj_ok1 hF.2.2.2.2)))) hH)
  · cases h
theorem qz_isub {ρ : Type} {X : pj_X} {enc : ρ → Option pj_V × pj_M} {pc : Nat} (C : pj_C X) (hd : decode (pj_cc X) pc = .ok (.isub, 1)) : pj_S X enc pc (qs_b2 (fun x y => x - y) (pc + 1)) := by
  intro K hK L st m r h hR
  obtain ⟨G, A, ⟨cc, own, nL, ret, rk⟩, ⟨p, l, e, R⟩, ⟨s, mi, args, below, meth, c⟩, ⟨cells, slots, Q⟩⟩ := X
  obtain ⟨hx, hb, hml, hown, hts, hk, hnw, hfr, hlo, hce, hsl, hX, hbl, hbA⟩ := C
  unfold qs_b2 at h
  split at h
  · rename_i y x st
    intro ls H locs hF hH
    exact lv_isub hx hb hd (hK _ _ _ _ _ h hR ls H locs (hF.stk (pj_okc trivial (pj_ok1 (pj_ok1 hF.2.2.2.2)))) hH)
  · cases h
theorem qz_imul {ρ : Type} {X : pj_X} {enc : ρ → Option pj_V × pj_M} {pc : Nat} (C : pj_C X) (hd : decode (pj_cc X) pc = .ok (.imul, 1)) : pj_S X enc pc (qs_b2 (fun x y => x * y) (pc + 1)) := by
  intro K hK L st m r h hR
  obtain ⟨G, A, ⟨cc, own, nL, ret, rk⟩, ⟨p, l, e, R⟩, ⟨s, mi, args, below, meth, c⟩, ⟨cells, slots, Q⟩⟩ := X
  obtain ⟨hx, hb, hml, hown, hts, hk, hnw, hfr, hlo, hce, hsl, hX, hbl, hbA⟩ := C
  unfold qs_b2 at h
  split at h
  · rename_i y x st
    intro ls H locs hF hH
    exact lv_imul hx hb hd (hK _ _ _ _ _ h hR ls H locs (hF.stk (pj_okc trivial (pj_ok1 (pj_ok1 hF.2.2.2.2)))) hH)
  · cases h
theorem qz_iand {ρ : Type} {X : pj_X} {enc : ρ → Option pj_V × pj_M} {pc : Nat} (C : pj_C X) (hd : decode (pj_cc X) pc = .ok (.iand, 1)) : pj_S X enc pc (qs_b2 (fun x y => x &&& y) (pc + 1)) := by
  intro K hK L st m r h hR
  obtain ⟨G, A, ⟨cc, own, nL, ret, rk⟩, ⟨p, l, e, R⟩, ⟨s, mi, args, below, meth, c⟩, ⟨cells, slots, Q⟩⟩ := X
  obtain ⟨hx, hb, hml, hown, hts, hk, hnw, hfr, hlo, hce, hsl, hX, hbl, hbA⟩ := C
  unfold qs_b2 at h
  split at h
  · rename_i y x st
    intro ls H locs hF hH
    exact lv_iand hx hb hd (hK _ _ _ _ _ h hR ls H locs (hF.stk (pj_okc trivial (pj_ok1 (pj_ok1 hF.2.2.2.2)))) hH)
  · cases h
theorem qz_ior {ρ : Type} {X : pj_X} {enc : ρ → Option pj_V × pj_M} {pc : Nat} (C : pj_C X) (hd : decode (pj_cc X) pc = .ok (.ior, 1)) : pj_S X enc pc (qs_b2 (fun x y => x ||| y) (pc + 1)) := by
  intro K hK L st m r h hR
  obtain ⟨G, A, ⟨cc, own, nL, ret, rk⟩, ⟨p, l, e, R⟩, ⟨s, mi, args, below, meth, c⟩, ⟨cells, slots, Q⟩⟩ := X
  obtain ⟨hx, hb, hml, hown, hts, hk, hnw, hfr, hlo, hce, hsl, hX, hbl, hbA⟩ := C
  unfold qs_b2 at h
  split at h
  · rename_i y x st
    intro ls H locs hF hH
    exact lv_ior hx hb hd (hK _ _ _ _ _ h hR ls H locs (hF.stk (pj_okc trivial (pj_ok1 (pj_ok1 hF.2.2.2.2)))) hH)
  · cases h
theorem qz_ixor {ρ : Type} {X : pj_X} {enc : ρ → Option pj_V × pj_M} {pc : Nat} (C : pj_C X) (hd : decode (pj_cc X) pc = .ok (.ixor, 1)) : pj_S X enc pc (qs_b2 (fun x y => x ^^^ y) (pc + 1)) := by
  intro K hK L st m r h hR
  obtain ⟨G, A, ⟨cc, own, nL, ret, rk⟩, ⟨p, l, e, R⟩, ⟨s, mi, args, below, meth, c⟩, ⟨cells, slots, Q⟩⟩ := X
  obtain ⟨hx, hb, hml, hown, hts, hk, hnw, hfr, hlo, hce, hsl, hX, hbl, hbA⟩ := C
  unfold qs_b2 at h
  split at h
  · rename_i y x st
    intro ls H locs hF hH
    exact lv_ixor hx hb hd (hK _ _ _ _ _ h hR ls H locs (hF.stk (pj_okc trivial (pj_ok1 (pj_ok1 hF.2.2.2.2)))) hH)
  · cases h
theorem qz_ishl {ρ : Type} {X : pj_X} {enc : ρ → Option pj_V × pj_M} {pc : Nat} (C : pj_C X) (hd : decode (pj_cc X) pc = .ok (.ishl, 1)) : pj_S X enc pc (qs_b2 (fun x y => x <<< (y &&& 31)) (pc + 1)) := by
  intro K hK L st m r h hR
  obtain ⟨G, A, ⟨cc, own, nL, ret, rk⟩, ⟨p, l, e, R⟩, ⟨s, mi, args, below, meth, c⟩, ⟨cells, slots, Q⟩⟩ := X
  obtain ⟨hx, hb, hml, hown, hts, hk, hnw, hfr, hlo, hce, hsl, hX, hbl, hbA⟩ := C
  unfold qs_b2 at h
  split at h
  · rename_i y x st
    intro ls H locs hF hH
    exact lv_ishl hx hb hd (hK _ _ _ _ _ h hR ls H locs (hF.stk (pj_okc trivial (pj_ok1 (pj_ok1 hF.2.2.2.2)))) hH)
  · cases h
theorem qz_ishr {ρ : Type} {X : pj_X} {enc : ρ → Option pj_V × pj_M} {pc : Nat} (C : pj_C X) (hd : decode (pj_cc X) pc = .ok (.ishr, 1)) : pj_S X enc pc (qs_b2 (fun x y => x >>> (y &&& 31)) (pc + 1)) := by
  intro K hK L st m r h hR
  obtain ⟨G, A, ⟨cc, own, nL, ret, rk⟩, ⟨p, l, e, R⟩, ⟨s, mi, args, below, meth, c⟩, ⟨cells, slots, Q⟩⟩ := X
  obtain ⟨hx, hb, hml, hown, hts, hk, hnw, hfr, hlo, hce, hsl, hX, hbl, hbA⟩ := C
  unfold qs_b2 at h
  split at h
  · rename_i y x st
    intro ls H locs hF hH
    exact lv_ishr hx hb hd (hK _ _ _ _ _ h hR ls H locs (hF.stk (pj_okc trivial (pj_ok1 (pj_ok1 hF.2.2.2.2)))) hH)
  · cases h
theorem qz_iushr {ρ : Type} {X : pj_X} {enc : ρ → Option pj_V × pj_M} {pc : Nat} (C : pj_C X) (hd : decode (pj_cc X) pc = .ok (.iushr, 1)) : pj_S X enc pc (qs_b2 (fun x y => (x.toUInt32 >>> (y.toUInt32 &&& Int32.toUInt32 31)).toInt32) (pc + 1)) := by
  intro K hK L st m r h hR
  obtain ⟨G, A, ⟨cc, own, nL, ret, rk⟩, ⟨p, l, e, R⟩, ⟨s, mi, args, below, meth, c⟩, ⟨cells, slots, Q⟩⟩ := X
  obtain ⟨hx, hb, hml, hown, hts, hk, hnw, hfr, hlo, hce, hsl, hX, hbl, hbA⟩ := C
  unfold qs_b2 at h
  split at h
  · rename_i y x st
    intro ls H locs hF hH
    exact lv_iushr hx hb hd rfl (hK _ _ _ _ _ h hR ls H locs (hF.stk (pj_okc trivial (pj_ok1 (pj_ok1 hF.2.2.2.2)))) hH)
  · cases h
theorem qz_idiv {ρ : Type} {X : pj_X} {enc : ρ → Option pj_V × pj_M} {pc : Nat} (C : pj_C X) (hd : decode (pj_cc X) pc = .ok (.idiv, 1)) : pj_S X enc pc (qs_d2 (fun x y => x / y) (pc + 1)) := by
  intro K hK L st m r h hR
  obtain ⟨G, A, ⟨cc, own, nL, ret, rk⟩, ⟨p, l, e, R⟩, ⟨s, mi, args, below, meth, c⟩, ⟨cells, slots, Q⟩⟩ := X
  obtain ⟨hx, hb, hml, hown, hts, hk, hnw, hfr, hlo, hce, hsl, hX, hbl, hbA⟩ := C
  unfold qs_d2 at h
  split at h
  · rename_i y x st
    intro ls H locs hF hH
    split at h
    · cases h
    · rename_i hne
      exact lv_idiv hx hb hd hne (hK _ _ _ _ _ h hR ls H locs (hF.stk (pj_okc trivial (pj_ok1 (pj_ok1 hF.2.2.2.2)))) hH)
  · cases h
theorem qz_irem {ρ : Type} {X : pj_X} {enc : ρ → Option pj_V × pj_M} {pc : Nat} (C : pj_C X) (hd : decode (pj_cc X) pc = .ok (.irem, 1)) : pj_S X enc pc (qs_d2 (fun x y => x - x / y * y) (pc + 1)) := by
  intro K hK L st m r h hR
  obtain ⟨G, A, ⟨cc, own, nL, ret, rk⟩, ⟨p, l, e, R⟩, ⟨s, mi, args, below, meth, c⟩, ⟨cells, slots, Q⟩⟩ := X
  obtain ⟨hx, hb, hml, hown, hts, hk, hnw, hfr, hlo, hce, hsl, hX, hbl, hbA⟩ := C
  unfold qs_d2 at h
  split at h
  · rename_i y x st
    intro ls H locs hF hH
    split at h
    · cases h
    · rename_i hne
      exact lv_irem hx hb hd hne (hK _ _ _ _ _ h hR ls H locs (hF.stk (pj_okc trivial (pj_ok1 (pj_ok1 hF.2.2.2.2)))) hH)
  · cases h
theorem qz_ladd {ρ : Type} {X : pj_X} {enc : ρ → Option pj_V × pj_M} {pc : Nat} (C : pj_C X) (hd : decode (pj_cc X) pc = .ok (.ladd, 1)) : pj_S X enc pc (qs_l2 (fun x y => x + y) (pc + 1)) := by
  intro K hK L st m r h hR
  obtain ⟨G, A, ⟨cc, own, nL, ret, rk⟩, ⟨p, l, e, R⟩, ⟨s, mi, args, below, meth, c⟩, ⟨cells, slots, Q⟩⟩ := X
  obtain ⟨hx, hb, hml, hown, hts, hk, hnw, hfr, hlo, hce, hsl, hX, hbl, hbA⟩ := C
  unfold qs_l2 at h
  split at h
  · rename_i y x st
    intro ls H locs hF hH
    exact lv_ladd hx hb hd (hK _ _ _ _ _ h hR ls H locs (hF.stk (pj_okc trivial (pj_ok1 (pj_ok1 hF.2.2.2.2)))) hH)
  · cases h
theorem qz_lsub {ρ : Type} {X : pj_X} {enc : ρ → Option pj_V × pj_M} {pc : Nat} (C : pj_C X) (hd : decode (pj_cc X) pc = .ok (.lsub, 1)) : pj_S X enc pc (qs_l2 (fun x y => x - y) (pc + 1)) := by
  intro K hK L st m r h hR
  obtain ⟨G, A, ⟨cc, own, nL, ret, rk⟩, ⟨p, l, e, R⟩, ⟨s, mi, args, below, meth, c⟩, ⟨cells, slots, Q⟩⟩ := X
  obtain ⟨hx, hb, hml, hown, hts, hk, hnw, hfr, hlo, hce, hsl, hX, hbl, hbA⟩ := C
  unfold qs_l2 at h
  split at h
  · rename_i y x st
    intro ls H locs hF hH
    exact lv_lsub hx hb hd (hK _ _ _ _ _ h hR ls H locs (hF.stk (pj_okc trivial (pj_ok1 (pj_ok1 hF.2.2.2.2)))) hH)
  · cases h
theorem qz_lmul {ρ : Type} {X : pj_X} {enc : ρ → Option pj_V × pj_M} {pc : Nat} (C : pj_C X) (hd : decode (pj_cc X) pc = .ok (.lmul, 1)) : pj_S X enc pc (qs_l2 (fun x y => x * y) (pc + 1)) := by
  intro K hK L st m r h hR
  obtain ⟨G, A, ⟨cc, own, nL, ret, rk⟩, ⟨p, l, e, R⟩, ⟨s, mi, args, below, meth, c⟩, ⟨cells, slots, Q⟩⟩ := X
  obtain ⟨hx, hb, hml, hown, hts, hk, hnw, hfr, hlo, hce, hsl, hX, hbl, hbA⟩ := C
  unfold qs_l2 at h
  split at h
  · rename_i y x st
    intro ls H locs hF hH
    exact lv_lmul hx hb hd (hK _ _ _ _ _ h hR ls H locs (hF.stk (pj_okc trivial (pj_ok1 (pj_ok1 hF.2.2.2.2)))) hH)
  · cases h
theorem qz_land {ρ : Type} {X : pj_X} {enc : ρ → Option pj_V × pj_M} {pc : Nat} (C : pj_C X) (hd : decode (pj_cc X) pc = .ok (.land, 1)) : pj_S X enc pc (qs_l2 (fun x y => x &&& y) (pc + 1)) := by
  intro K hK L st m r h hR
  obtain ⟨G, A, ⟨cc, own, nL, ret, rk⟩, ⟨p, l, e, R⟩, ⟨s, mi, args, below, meth, c⟩, ⟨cells, slots, Q⟩⟩ := X
  obtain ⟨hx, hb, hml, hown, hts, hk, hnw, hfr, hlo, hce, hsl, hX, hbl, hbA⟩ := C
  unfold qs_l2 at h
  split at h
  · rename_i y x st
    intro ls H locs hF hH
    exact lv_land hx hb hd (hK _ _ _ _ _ h hR ls H locs (hF.stk (pj_okc trivial (pj_ok1 (pj_ok1 hF.2.2.2.2)))) hH)
  · cases h
theorem qz_lor {ρ : Type} {X : pj_X} {enc : ρ → Option pj_V × pj_M} {pc : Nat} (C : pj_C X) (hd : decode (pj_cc X) pc = .ok (.lor, 1)) : pj_S X enc pc (qs_l2 (fun x y => x ||| y) (pc + 1)) := by
  intro K hK L st m r h hR
  obtain ⟨G, A, ⟨cc, own, nL, ret, rk⟩, ⟨p, l, e, R⟩, ⟨s, mi, args, below, meth, c⟩, ⟨cells, slots, Q⟩⟩ := X
  obtain ⟨hx, hb, hml, hown, hts, hk, hnw, hfr, hlo, hce, hsl, hX, hbl, hbA⟩ := C
  unfold qs_l2 at h
  split at h
  · rename_i y x st
    intro ls H locs hF hH
    exact lv_lor hx hb hd (hK _ _ _ _ _ h hR ls H locs (hF.stk (pj_okc trivial (pj_ok1 (pj_ok1 hF.2.2.2.2)))) hH)
  · cases h
theorem qz_lxor {ρ : Type} {X : pj_X} {enc : ρ → Option pj_V × pj_M} {pc : Nat} (C : pj_C X) (hd : decode (pj_cc X) pc = .ok (.lxor, 1)) : pj_S X enc pc (qs_l2 (fun x y => x ^^^ y) (pc + 1)) := by
  intro K hK L st m r h hR
  obtain ⟨G, A, ⟨cc, own, nL, ret, rk⟩, ⟨p, l, e, R⟩, ⟨s, mi, args, below, meth, c⟩, ⟨cells, slots, Q⟩⟩ := X
  obtain ⟨hx, hb, hml, hown, hts, hk, hnw, hfr, hlo, hce, hsl, hX, hbl, hbA⟩ := C
  unfold qs_l2 at h
  split at h
  · rename_i y x st
    intro ls H locs hF hH
    exact lv_lxor hx hb hd (hK _ _ _ _ _ h hR ls H locs (hF.stk (pj_okc trivial (pj_ok1 (pj_ok1 hF.2.2.2.2)))) hH)
  · cases h
theorem qz_lrem {ρ : Type} {X : pj_X} {enc : ρ → Option pj_V × pj_M} {pc : Nat} (C : pj_C X) (hd : decode (pj_cc X) pc = .ok (.lrem, 1)) : pj_S X enc pc (qs_ld2 (fun x y => x - x / y * y) (pc + 1)) := by
  intro K hK L st m r h hR
  obtain ⟨G, A, ⟨cc, own, nL, ret, rk⟩, ⟨p, l, e, R⟩, ⟨s, mi, args, below, meth, c⟩, ⟨cells, slots, Q⟩⟩ := X
  obtain ⟨hx, hb, hml, hown, hts, hk, hnw, hfr, hlo, hce, hsl, hX, hbl, hbA⟩ := C
  unfold qs_ld2 at h
  split at h
  · rename_i y x st
    intro ls H locs hF hH
    split at h
    · cases h
    · rename_i hne
      exact lv_lrem hx hb hd hne (hK _ _ _ _ _ h hR ls H locs (hF.stk (pj_okc trivial (pj_ok1 (pj_ok1 hF.2.2.2.2)))) hH)
  · cases h
theorem qz_lshl {ρ : Type} {X : pj_X} {enc : ρ → Option pj_V × pj_M} {pc : Nat} (C : pj_C X) (hd : decode (pj_cc X) pc = .ok (.lshl, 1)) : pj_S X enc pc (qs_lsh (fun x y => x <<< (y.toInt64 &&& 63)) (pc + 1)) := by
  intro K hK L st m r h hR
  obtain ⟨G, A, ⟨cc, own, nL, ret, rk⟩, ⟨p, l, e, R⟩, ⟨s, mi, args, below, meth, c⟩, ⟨cells, slots, Q⟩⟩ := X
  obtain ⟨hx, hb, hml, hown, hts, hk, hnw, hfr, hlo, hce, hsl, hX, hbl, hbA⟩ := C
  unfold qs_lsh at h
  split at h
  · rename_i y x st
    intro ls H locs hF hH
    exact lv_lshl hx hb hd rfl (hK _ _ _ _ _ h hR ls H locs (hF.stk (pj_okc trivial (pj_ok1 (pj_ok1 hF.2.2.2.2)))) hH)
  · cases h
theorem qz_lcmp {ρ : Type} {X : pj_X} {enc : ρ → Option pj_V × pj_M} {pc : Nat} (C : pj_C X) (hd : decode (pj_cc X) pc = .ok (.lcmp, 1)) : pj_S X enc pc (qs_lcmp (pc + 1)) := by
  intro K hK L st m r h hR
  obtain ⟨G, A, ⟨cc, own, nL, ret, rk⟩, ⟨p, l, e, R⟩, ⟨s, mi, args, below, meth, c⟩, ⟨cells, slots, Q⟩⟩ := X
  obtain ⟨hx, hb, hml, hown, hts, hk, hnw, hfr, hlo, hce, hsl, hX, hbl, hbA⟩ := C
  unfold qs_lcmp at h
  split at h
  · rename_i y x st
    intro ls H locs hF hH
    exact W.lcmp hx hb hd (hK _ _ _ _ _ h hR ls H locs (hF.stk (pj_okc trivial (pj_ok1 (pj_ok1 hF.2.2.2.2)))) hH)
  · cases h
theorem qz_ineg {ρ : Type} {X : pj_X} {enc : ρ → Option pj_V × pj_M} {pc : Nat} (C : pj_C X) (hd : decode (pj_cc X) pc = .ok (.ineg, 1)) : pj_S X enc pc (qs_u1 (fun x => -x) (pc + 1)) := by
  intro K hK L st m r h hR
  obtain ⟨G, A, ⟨cc, own, nL, ret, rk⟩, ⟨p, l, e, R⟩, ⟨s, mi, args, below, meth, c⟩, ⟨cells, slots, Q⟩⟩ := X
  obtain ⟨hx, hb, hml, hown, hts, hk, hnw, hfr, hlo, hce, hsl, hX, hbl, hbA⟩ := C
  unfold qs_u1 at h
  split at h
  · rename_i x st
    intro ls H locs hF hH
    exact lv_ineg hx hb hd (hK _ _ _ _ _ h hR ls H locs (hF.stk (pj_okc trivial (pj_ok1 hF.2.2.2.2))) hH)
  · cases h
theorem qz_i2b {ρ : Type} {X : pj_X} {enc : ρ → Option pj_V × pj_M} {pc : Nat} (C : pj_C X) (hd : decode (pj_cc X) pc = .ok (.i2b, 1)) : pj_S X enc pc (qs_u1 (fun x => x.toInt8.toInt32) (pc + 1)) := by
  intro K hK L st m r h hR
  obtain ⟨G, A, ⟨cc, own, nL, ret, rk⟩, ⟨p, l, e, R⟩, ⟨s, mi, args, below, meth, c⟩, ⟨cells, slots, Q⟩⟩ := X
  obtain ⟨hx, hb, hml, hown, hts, hk, hnw, hfr, hlo, hce, hsl, hX, hbl, hbA⟩ := C
  unfold qs_u1 at h
  split at h
  · rename_i x st
    intro ls H locs hF hH
    exact lv_i2b hx hb hd rfl (hK _ _ _ _ _ h hR ls H locs (hF.stk (pj_okc trivial (pj_ok1 hF.2.2.2.2))) hH)
  · cases h
theorem qz_i2s {ρ : Type} {X : pj_X} {enc : ρ → Option pj_V × pj_M} {pc : Nat} (C : pj_C X) (hd : decode (pj_cc X) pc = .ok (.i2s, 1)) : pj_S X enc pc (qs_u1 (fun x => x.toInt16.toInt32) (pc + 1)) := by
  intro K hK L st m r h hR
  obtain ⟨G, A, ⟨cc, own, nL, ret, rk⟩, ⟨p, l, e, R⟩, ⟨s, mi, args, below, meth, c⟩, ⟨cells, slots, Q⟩⟩ := X
  obtain ⟨hx, hb, hml, hown, hts, hk, hnw, hfr, hlo, hce, hsl, hX, hbl, hbA⟩ := C
  unfold qs_u1 at h
  split at h
  · rename_i x st
    intro ls H locs hF hH
    exact lv_i2s hx hb hd rfl (hK _ _ _ _ _ h hR ls H locs (hF.stk (pj_okc trivial (pj_ok1 hF.2.2.2.2))) hH)
  · cases h
theorem qz_i2l {ρ : Type} {X : pj_X} {enc : ρ → Option pj_V × pj_M} {pc : Nat} (C : pj_C X) (hd : decode (pj_cc X) pc = .ok (.i2l, 1)) : pj_S X enc pc (qs_i2l (pc + 1)) := by
  intro K hK L st m r h hR
  obtain ⟨G, A, ⟨cc, own, nL, ret, rk⟩, ⟨p, l, e, R⟩, ⟨s, mi, args, below, meth, c⟩, ⟨cells, slots, Q⟩⟩ := X
  obtain ⟨hx, hb, hml, hown, hts, hk, hnw, hfr, hlo, hce, hsl, hX, hbl, hbA⟩ := C
  unfold qs_i2l at h
  split at h
  · rename_i x st
    intro ls H locs hF hH
    exact lv_i2l hx hb hd rfl (hK _ _ _ _ _ h hR ls H locs (hF.stk (pj_okc trivial (pj_ok1 hF.2.2.2.2))) hH)
  · cases h
theorem qz_l2i {ρ : Type} {X : pj_X} {enc : ρ → Option pj_V × pj_M} {pc : Nat} (C : pj_C X) (hd : decode (pj_cc X) pc = .ok (.l2i, 1)) : pj_S X enc pc (qs_l2i (pc + 1)) := by
  intro K hK L st m r h hR
  obtain ⟨G, A, ⟨cc, own, nL, ret, rk⟩, ⟨p, l, e, R⟩, ⟨s, mi, args, below, meth, c⟩, ⟨cells, slots, Q⟩⟩ := X
  obtain ⟨hx, hb, hml, hown, hts, hk, hnw, hfr, hlo, hce, hsl, hX, hbl, hbA⟩ := C
  unfold qs_l2i at h
  split at h
  · rename_i x st
    intro ls H locs hF hH
    exact lv_l2i hx hb hd rfl (hK _ _ _ _ _ h hR ls H locs (hF.stk (pj_okc trivial (pj_ok1 hF.2.2.2.2))) hH)
  · cases h
def qs_dup {ρ : Type} (nx : Nat) : pj_T ρ := fun K L st m => match st with
  | .inl x :: st => K nx L (.inl x :: .inl x :: st) m
  | .inr (.inr x) :: st => K nx L (.inr (.inr x) :: .inr (.inr x) :: st) m
  | _ => none
def qs_pop {ρ : Type} (nx : Nat) : pj_T ρ := fun K L st m => match st with
  | .inl _ :: st => K nx L st m
  | .inr (.inr _) :: st => K nx L st m
  | _ => none
def qs_dup2 {ρ : Type} (nx : Nat) : pj_T ρ := fun K L st m => match st with
  | .inl x :: .inr (.inr y) :: st => K nx L (.inl x :: .inr (.inr y) :: .inl x :: .inr (.inr y) :: st) m
  | _ => none
theorem pj_cat1 (G : pj_E) (r : Nat × Nat × Nat) : (pj_tr G (.inr (.inr r))).category = 1 := by
  obtain ⟨a, ha⟩ := pj_tr_ref G r
  rw [ha]
  rfl
theorem qz_dup {ρ : Type} {X : pj_X} {enc : ρ → Option pj_V × pj_M} {pc : Nat} (C : pj_C X) (hd : decode (pj_cc X) pc = .ok (.dup, 1)) : pj_S X enc pc (qs_dup (pc + 1)) := by
  intro K hK L st m r h hR
  obtain ⟨G, A, ⟨cc, own, nL, ret, rk⟩, ⟨p, l, e, R⟩, ⟨s, mi, args, below, meth, c⟩, ⟨cells, slots, Q⟩⟩ := X
  obtain ⟨hx, hb, hml, hown, hts, hk, hnw, hfr, hlo, hce, hsl, hX, hbl, hbA⟩ := C
  unfold qs_dup at h
  split at h
  · intro ls H locs hF hH
    exact lv_dup hx hb hd rfl (hK _ _ _ _ _ h hR ls H locs (hF.stk (pj_okc trivial hF.2.2.2.2)) hH)
  · intro ls H locs hF hH
    exact lv_dup hx hb hd (pj_cat1 G _) (hK _ _ _ _ _ h hR ls H locs (hF.stk (pj_okc (pj_okh hF.2.2.2.2) hF.2.2.2.2)) hH)
  · cases h
theorem qz_pop {ρ : Type} {X : pj_X} {enc : ρ → Option pj_V × pj_M} {pc : Nat} (C : pj_C X) (hd : decode (pj_cc X) pc = .ok (.pop, 1)) : pj_S X enc pc (qs_pop (pc + 1)) := by
  intro K hK L st m r h hR
  obtain ⟨G, A, ⟨cc, own, nL, ret, rk⟩, ⟨p, l, e, R⟩, ⟨s, mi, args, below, meth, c⟩, ⟨cells, slots, Q⟩⟩ := X
  obtain ⟨hx, hb, hml, hown, hts, hk, hnw, hfr, hlo, hce, hsl, hX, hbl, hbA⟩ := C
  unfold qs_pop at h
  split at h
  · intro ls H locs hF hH
    exact lv_pop (va := .int _) hx hb hd rfl (hK _ _ _ _ _ h hR ls H locs (hF.stk (pj_ok1 hF.2.2.2.2)) hH)
  · intro ls H locs hF hH
    exact lv_pop hx hb hd (pj_cat1 G _) (hK _ _ _ _ _ h hR ls H locs (hF.stk (pj_ok1 hF.2.2.2.2)) hH)
  · cases h
theorem qz_dup2 {ρ : Type} {X : pj_X} {enc : ρ → Option pj_V × pj_M} {pc : Nat} (C : pj_C X) (hd : decode (pj_cc X) pc = .ok (.dup2, 1)) : pj_S X enc pc (qs_dup2 (pc + 1)) := by
  intro K hK L st m r h hR
  obtain ⟨G, A, ⟨cc, own, nL, ret, rk⟩, ⟨p, l, e, R⟩, ⟨s, mi, args, below, meth, c⟩, ⟨cells, slots, Q⟩⟩ := X
  obtain ⟨hx, hb, hml, hown, hts, hk, hnw, hfr, hlo, hce, hsl, hX, hbl, hbA⟩ := C
  unfold qs_dup2 at h
  split at h
  · intro ls H locs hF hH
    exact lv_dup2_11 hx hb hd rfl (pj_cat1 G _) (hK _ _ _ _ _ h hR ls H locs (hF.stk (pj_okc trivial (pj_okc (pj_okh (pj_ok1 hF.2.2.2.2)) hF.2.2.2.2))) hH)
  · cases h
def qs_go {ρ : Type} (tgt : Nat) : pj_T ρ := fun K L st m => K tgt L st m
theorem qz_goto {ρ : Type} {X : pj_X} {enc : ρ → Option pj_V × pj_M} {pc : Nat} (C : pj_C X) {off : Int} {tgt : Nat} (hd : decode (pj_cc X) pc = .ok (.goto off, 3)) (ht : (pc : Int) + off = (tgt : Int)) : pj_S X enc pc (qs_go tgt) := by
  intro K hK L st m r h hR
  obtain ⟨G, A, ⟨cc, own, nL, ret, rk⟩, ⟨p, l, e, R⟩, ⟨s, mi, args, below, meth, c⟩, ⟨cells, slots, Q⟩⟩ := X
  obtain ⟨hx, hb, hml, hown, hts, hk, hnw, hfr, hlo, hce, hsl, hX, hbl, hbA⟩ := C
  intro ls H locs hF hH
  exact lv_goto hx hb hd ht (hK _ _ _ _ _ h hR ls H locs hF hH)
def qs_ifeq {ρ : Type} (tgt nx : Nat) : pj_T ρ := fun K L st m => match st with
  | .inl x :: st => if x = 0 then K tgt L st m else K nx L st m
  | _ => none
theorem qz_ifeq {ρ : Type} {X : pj_X} {enc : ρ → Option pj_V × pj_M} {pc : Nat} (C : pj_C X) {off : Int} {tgt : Nat} (hd : decode (pj_cc X) pc = .ok (.ifCond .eq off, 3)) (ht : (pc : Int) + off = (tgt : Int)) : pj_S X enc pc (qs_ifeq tgt (pc + 3)) := by
  intro K hK L st m r h hR
  obtain ⟨G, A, ⟨cc, own, nL, ret, rk⟩, ⟨p, l, e, R⟩, ⟨s, mi, args, below, meth, c⟩, ⟨cells, slots, Q⟩⟩ := X
  obtain ⟨hx, hb, hml, hown, hts, hk, hnw, hfr, hlo, hce, hsl, hX, hbl, hbA⟩ := C
  unfold qs_ifeq at h
  split at h
  · intro ls H locs hF hH
    have hF1 := hF.stk (pj_ok1 hF.2.2.2.2)
    refine lv_if_eq hx hb hd ht (fun c1 => ?_) (fun c1 => ?_)
    · rw [if_pos c1] at h
      exact hK _ _ _ _ _ h hR ls H locs hF1 hH
    · rw [if_neg c1] at h
      exact hK _ _ _ _ _ h hR ls H locs hF1 hH
  · cases h
def qs_ifne {ρ : Type} (tgt nx : Nat) : pj_T ρ := fun K L st m => match st with
  | .inl x :: st => if x = 0 then K nx L st m else K tgt L st m
  | _ => none
theorem qz_ifne {ρ : Type} {X : pj_X} {enc : ρ → Option pj_V × pj_M} {pc : Nat} (C : pj_C X) {off : Int} {tgt : Nat} (hd : decode (pj_cc X) pc = .ok (.ifCond .ne off, 3)) (ht : (pc : Int) + off = (tgt : Int)) : pj_S X enc pc (qs_ifne tgt (pc + 3)) := by
  intro K hK L st m r h hR
  obtain ⟨G, A, ⟨cc, own, nL, ret, rk⟩, ⟨p, l, e, R⟩, ⟨s, mi, args, below, meth, c⟩, ⟨cells, slots, Q⟩⟩ := X
  obtain ⟨hx, hb, hml, hown, hts, hk, hnw, hfr, hlo, hce, hsl, hX, hbl, hbA⟩ := C
  unfold qs_ifne at h
  split at h
  · intro ls H locs hF hH
    have hF1 := hF.stk (pj_ok1 hF.2.2.2.2)
    refine lv_if_ne hx hb hd ht (fun c1 => ?_) (fun c1 => ?_)
    · rw [if_neg c1] at h
      exact hK _ _ _ _ _ h hR ls H locs hF1 hH
    · rw [if_pos c1] at h
      exact hK _ _ _ _ _ h hR ls H locs hF1 hH
  · cases h
def qs_iflt {ρ : Type} (tgt nx : Nat) : pj_T ρ := fun K L st m => match st with
  | .inl x :: st => if x < 0 then K tgt L st m else K nx L st m
  | _ => none
theorem qz_iflt {ρ : Type} {X : pj_X} {enc : ρ → Option pj_V × pj_M} {pc : Nat} (C : pj_C X) {off : Int} {tgt : Nat} (hd : decode (pj_cc X) pc = .ok (.ifCond .lt off, 3)) (ht : (pc : Int) + off = (tgt : Int)) : pj_S X enc pc (qs_iflt tgt (pc + 3)) := by
  intro K hK L st m r h hR
  obtain ⟨G, A, ⟨cc, own, nL, ret, rk⟩, ⟨p, l, e, R⟩, ⟨s, mi, args, below, meth, c⟩, ⟨cells, slots, Q⟩⟩ := X
  obtain ⟨hx, hb, hml, hown, hts, hk, hnw, hfr, hlo, hce, hsl, hX, hbl, hbA⟩ := C
  unfold qs_iflt at h
  split at h
  · intro ls H locs hF hH
    have hF1 := hF.stk (pj_ok1 hF.2.2.2.2)
    refine lv_if_lt hx hb hd ht (fun c1 => ?_) (fun c1 => ?_)
    · rw [if_pos c1] at h
      exact hK _ _ _ _ _ h hR ls H locs hF1 hH
    · rw [if_neg c1] at h
      exact hK _ _ _ _ _ h hR ls H locs hF1 hH
  · cases h
def qs_ifge {ρ : Type} (tgt nx : Nat) : pj_T ρ := fun K L st m => match st with
  | .inl x :: st => if x < 0 then K nx L st m else K tgt L st m
  | _ => none
theorem qz_ifge {ρ : Type} {X : pj_X} {enc : ρ → Option pj_V × pj_M} {pc : Nat} (C : pj_C X) {off : Int} {tgt : Nat} (hd : decode (pj_cc X) pc = .ok (.ifCond .ge off, 3)) (ht : (pc : Int) + off = (tgt : Int)) : pj_S X enc pc (qs_ifge tgt (pc + 3)) := by
  intro K hK L st m r h hR
  obtain ⟨G, A, ⟨cc, own, nL, ret, rk⟩, ⟨p, l, e, R⟩, ⟨s, mi, args, below, meth, c⟩, ⟨cells, slots, Q⟩⟩ := X
  obtain ⟨hx, hb, hml, hown, hts, hk, hnw, hfr, hlo, hce, hsl, hX, hbl, hbA⟩ := C
  unfold qs_ifge at h
  split at h
  · intro ls H locs hF hH
    have hF1 := hF.stk (pj_ok1 hF.2.2.2.2)
    refine lv_if_ge hx hb hd ht (fun c1 => ?_) (fun c1 => ?_)
    · rw [if_neg (Int32.not_lt.mpr c1)] at h
      exact hK _ _ _ _ _ h hR ls H locs hF1 hH
    · rw [if_pos (Int32.not_le.mp c1)] at h
      exact hK _ _ _ _ _ h hR ls H locs hF1 hH
  · cases h
def qs_ifgt {ρ : Type} (tgt nx : Nat) : pj_T ρ := fun K L st m => match st with
  | .inl x :: st => if 0 < x then K tgt L st m else K nx L st m
  | _ => none
theorem qz_ifgt {ρ : Type} {X : pj_X} {enc : ρ → Option pj_V × pj_M} {pc : Nat} (C : pj_C X) {off : Int} {tgt : Nat} (hd : decode (pj_cc X) pc = .ok (.ifCond .gt off, 3)) (ht : (pc : Int) + off = (tgt : Int)) : pj_S X enc pc (qs_ifgt tgt (pc + 3)) := by
  intro K hK L st m r h hR
  obtain ⟨G, A, ⟨cc, own, nL, ret, rk⟩, ⟨p, l, e, R⟩, ⟨s, mi, args, below, meth, c⟩, ⟨cells, slots, Q⟩⟩ := X
  obtain ⟨hx, hb, hml, hown, hts, hk, hnw, hfr, hlo, hce, hsl, hX, hbl, hbA⟩ := C
  unfold qs_ifgt at h
  split at h
  · intro ls H locs hF hH
    have hF1 := hF.stk (pj_ok1 hF.2.2.2.2)
    refine lv_if_gt hx hb hd ht (fun c1 => ?_) (fun c1 => ?_)
    · rw [if_pos c1] at h
      exact hK _ _ _ _ _ h hR ls H locs hF1 hH
    · rw [if_neg c1] at h
      exact hK _ _ _ _ _ h hR ls H locs hF1 hH
  · cases h
def qs_ifle {ρ : Type} (tgt nx : Nat) : pj_T ρ := fun K L st m => match st with
  | .inl x :: st => if 0 < x then K nx L st m else K tgt L st m
  | _ => none
theorem qz_ifle {ρ : Type} {X : pj_X} {enc : ρ → Option pj_V × pj_M} {pc : Nat} (C : pj_C X) {off : Int} {tgt : Nat} (hd : decode (pj_cc X) pc = .ok (.ifCond .le off, 3)) (ht : (pc : Int) + off = (tgt : Int)) : pj_S X enc pc (qs_ifle tgt (pc + 3)) := by
  intro K hK L st m r h hR
  obtain ⟨G, A, ⟨cc, own, nL, ret, rk⟩, ⟨p, l, e, R⟩, ⟨s, mi, args, below, meth, c⟩, ⟨cells, slots, Q⟩⟩ := X
  obtain ⟨hx, hb, hml, hown, hts, hk, hnw, hfr, hlo, hce, hsl, hX, hbl, hbA⟩ := C
  unfold qs_ifle at h
  split at h
  · intro ls H locs hF hH
    have hF1 := hF.stk (pj_ok1 hF.2.2.2.2)
    refine lv_if_le hx hb hd ht (fun c1 => ?_) (fun c1 => ?_)
    · rw [if_neg (Int32.not_lt.mpr c1)] at h
      exact hK _ _ _ _ _ h hR ls H locs hF1 hH
    · rw [if_pos (Int32.not_le.mp c1)] at h
      exact hK _ _ _ _ _ h hR ls H locs hF1 hH
  · cases h
def qs_iceq {ρ : Type} (tgt nx : Nat) : pj_T ρ := fun K L st m => match st with
  | .inl y :: .inl x :: st => if x = y then K tgt L st m else K nx L st m
  | _ => none
theorem qz_iceq {ρ : Type} {X : pj_X} {enc : ρ → Option pj_V × pj_M} {pc : Nat} (C : pj_C X) {off : Int} {tgt : Nat} (hd : decode (pj_cc X) pc = .ok (.if_icmp .eq off, 3)) (ht : (pc : Int) + off = (tgt : Int)) : pj_S X enc pc (qs_iceq tgt (pc + 3)) := by
  intro K hK L st m r h hR
  obtain ⟨G, A, ⟨cc, own, nL, ret, rk⟩, ⟨p, l, e, R⟩, ⟨s, mi, args, below, meth, c⟩, ⟨cells, slots, Q⟩⟩ := X
  obtain ⟨hx, hb, hml, hown, hts, hk, hnw, hfr, hlo, hce, hsl, hX, hbl, hbA⟩ := C
  unfold qs_iceq at h
  split at h
  · intro ls H locs hF hH
    have hF1 := hF.stk (pj_ok1 (pj_ok1 hF.2.2.2.2))
    refine lv_icmp_eq hx hb hd ht (fun c1 => ?_) (fun c1 => ?_)
    · rw [if_pos c1] at h
      exact hK _ _ _ _ _ h hR ls H locs hF1 hH
    · rw [if_neg c1] at h
      exact hK _ _ _ _ _ h hR ls H locs hF1 hH
  · cases h
def qs_icne {ρ : Type} (tgt nx : Nat) : pj_T ρ := fun K L st m => match st with
  | .inl y :: .inl x :: st => if x = y then K nx L st m else K tgt L st m
  | _ => none
theorem qz_icne {ρ : Type} {X : pj_X} {enc : ρ → Option pj_V × pj_M} {pc : Nat} (C : pj_C X) {off : Int} {tgt : Nat} (hd : decode (pj_cc X) pc = .ok (.if_icmp .ne off, 3)) (ht : (pc : Int) + off = (tgt : Int)) : pj_S X enc pc (qs_icne tgt (pc + 3)) := by
  intro K hK L st m r h hR
  obtain ⟨G, A, ⟨cc, own, nL, ret, rk⟩, ⟨p, l, e, R⟩, ⟨s, mi, args, below, meth, c⟩, ⟨cells, slots, Q⟩⟩ := X
  obtain ⟨hx, hb, hml, hown, hts, hk, hnw, hfr, hlo, hce, hsl, hX, hbl, hbA⟩ := C
  unfold qs_icne at h
  split at h
  · intro ls H locs hF hH
    have hF1 := hF.stk (pj_ok1 (pj_ok1 hF.2.2.2.2))
    refine lv_icmp_ne hx hb hd ht (fun c1 => ?_) (fun c1 => ?_)
    · rw [if_neg c1] at h
      exact hK _ _ _ _ _ h hR ls H locs hF1 hH
    · rw [if_pos c1] at h
      exact hK _ _ _ _ _ h hR ls H locs hF1 hH
  · cases h
def qs_iclt {ρ : Type} (tgt nx : Nat) : pj_T ρ := fun K L st m => match st with
  | .inl y :: .inl x :: st => if x < y then K tgt L st m else K nx L st m
  | _ => none
theorem qz_iclt {ρ : Type} {X : pj_X} {enc : ρ → Option pj_V × pj_M} {pc : Nat} (C : pj_C X) {off : Int} {tgt : Nat} (hd : decode (pj_cc X) pc = .ok (.if_icmp .lt off, 3)) (ht : (pc : Int) + off = (tgt : Int)) : pj_S X enc pc (qs_iclt tgt (pc + 3)) := by
  intro K hK L st m r h hR
  obtain ⟨G, A, ⟨cc, own, nL, ret, rk⟩, ⟨p, l, e, R⟩, ⟨s, mi, args, below, meth, c⟩, ⟨cells, slots, Q⟩⟩ := X
  obtain ⟨hx, hb, hml, hown, hts, hk, hnw, hfr, hlo, hce, hsl, hX, hbl, hbA⟩ := C
  unfold qs_iclt at h
  split at h
  · intro ls H locs hF hH
    have hF1 := hF.stk (pj_ok1 (pj_ok1 hF.2.2.2.2))
    refine lv_icmp_lt hx hb hd ht (fun c1 => ?_) (fun c1 => ?_)
    · rw [if_pos c1] at h
      exact hK _ _ _ _ _ h hR ls H locs hF1 hH
    · rw [if_neg c1] at h
      exact hK _ _ _ _ _ h hR ls H locs hF1 hH
  · cases h
def qs_icge {ρ : Type} (tgt nx : Nat) : pj_T ρ := fun K L st m => match st with
  | .inl y :: .inl x :: st => if x < y then K nx L st m else K tgt L st m
  | _ => none
theorem qz_icge {ρ : Type} {X : pj_X} {enc : ρ → Option pj_V × pj_M} {pc : Nat} (C : pj_C X) {off : Int} {tgt : Nat} (hd : decode (pj_cc X) pc = .ok (.if_icmp .ge off, 3)) (ht : (pc : Int) + off = (tgt : Int)) : pj_S X enc pc (qs_icge tgt (pc + 3)) := by
  intro K hK L st m r h hR
  obtain ⟨G, A, ⟨cc, own, nL, ret, rk⟩, ⟨p, l, e, R⟩, ⟨s, mi, args, below, meth, c⟩, ⟨cells, slots, Q⟩⟩ := X
  obtain ⟨hx, hb, hml, hown, hts, hk, hnw, hfr, hlo, hce, hsl, hX, hbl, hbA⟩ := C
  unfold qs_icge at h
  split at h
  · intro ls H locs hF hH
    have hF1 := hF.stk (pj_ok1 (pj_ok1 hF.2.2.2.2))
    refine lv_icmp_ge hx hb hd ht (fun c1 => ?_) (fun c1 => ?_)
    · rw [if_neg (Int32.not_lt.mpr c1)] at h
      exact hK _ _ _ _ _ h hR ls H locs hF1 hH
    · rw [if_pos (Int32.not_le.mp c1)] at h
      exact hK _ _ _ _ _ h hR ls H locs hF1 hH
  · cases h
def qs_icgt {ρ : Type} (tgt nx : Nat) : pj_T ρ := fun K L st m => match st with
  | .inl y :: .inl x :: st => if y < x then K tgt L st m else K nx L st m
  | _ => none
theorem qz_icgt {ρ : Type} {X : pj_X} {enc : ρ → Option pj_V × pj_M} {pc : Nat} (C : pj_C X) {off : Int} {tgt : Nat} (hd : decode (pj_cc X) pc = .ok (.if_icmp .gt off, 3)) (ht : (pc : Int) + off = (tgt : Int)) : pj_S X enc pc (qs_icgt tgt (pc + 3)) := by
  intro K hK L st m r h hR
  obtain ⟨G, A, ⟨cc, own, nL, ret, rk⟩, ⟨p, l, e, R⟩, ⟨s, mi, args, below, meth, c⟩, ⟨cells, slots, Q⟩⟩ := X
  obtain ⟨hx, hb, hml, hown, hts, hk, hnw, hfr, hlo, hce, hsl, hX, hbl, hbA⟩ := C
  unfold qs_icgt at h
  split at h
  · intro ls H locs hF hH
    have hF1 := hF.stk (pj_ok1 (pj_ok1 hF.2.2.2.2))
    refine lv_icmp_gt hx hb hd ht (fun c1 => ?_) (fun c1 => ?_)
    · rw [if_pos c1] at h
      exact hK _ _ _ _ _ h hR ls H locs hF1 hH
    · rw [if_neg c1] at h
      exact hK _ _ _ _ _ h hR ls H locs hF1 hH
  · cases h
def qs_icle {ρ : Type} (tgt nx : Nat) : pj_T ρ := fun K L st m => match st with
  | .inl y :: .inl x :: st => if y < x then K nx L st m else K tgt L st m
  | _ => none
theorem qz_icle {ρ : Type} {X : pj_X} {enc : ρ → Option pj_V × pj_M} {pc : Nat} (C : pj_C X) {off : Int} {tgt : Nat} (hd : decode (pj_cc X) pc = .ok (.if_icmp .le off, 3)) (ht : (pc : Int) + off = (tgt : Int)) : pj_S X enc pc (qs_icle tgt (pc + 3)) := by
  intro K hK L st m r h hR
  obtain ⟨G, A, ⟨cc, own, nL, ret, rk⟩, ⟨p, l, e, R⟩, ⟨s, mi, args, below, meth, c⟩, ⟨cells, slots, Q⟩⟩ := X
  obtain ⟨hx, hb, hml, hown, hts, hk, hnw, hfr, hlo, hce, hsl, hX, hbl, hbA⟩ := C
  unfold qs_icle at h
  split at h
  · intro ls H locs hF hH
    have hF1 := hF.stk (pj_ok1 (pj_ok1 hF.2.2.2.2))
    refine lv_icmp_le hx hb hd ht (fun c1 => ?_) (fun c1 => ?_)
    · rw [if_neg (Int32.not_lt.mpr c1)] at h
      exact hK _ _ _ _ _ h hR ls H locs hF1 hH
    · rw [if_pos (Int32.not_le.mp c1)] at h
      exact hK _ _ _ _ _ h hR ls H locs hF1 hH
  · cases h
