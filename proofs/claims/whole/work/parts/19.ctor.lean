/-! PART 19: constructors: a heap that grows, all of it known. Written by wip/whole/gen/mkctor.py -/
abbrev pc_V : Type := Int32 ⊕ Option Nat
abbrev pc_E : Type := (Nat × List pc_V) ⊕ (Nat × Nat × (Nat → Int32) × (Nat → Option Nat))
def pc_tv (ad : Nat → Nat) (v : pc_V) : Value := match v with
  | .inl x => .int x
  | .inr none => .null
  | .inr (some k) => .ref (ad k)
def pc_te (G : pj_E) (ad : Nat → Nat) (e : pc_E) : va_E := match e with
  | .inl (ci, fs) => .inr (ci, fs.map (pc_tv ad))
  | .inr (1, n, f, _) => .inl (G.2.2.1.1, (n, .inl f))
  | .inr (2, n, _, _) => .inl (G.2.2.1.2.1, (n, .inr (.inl (fun _ => 0))))
  | .inr (3, n, f, _) => .inl (G.2.2.1.2.2.1, (n, .inl f))
  | .inr (k, n, _, g) => .inl (G.2.2.1.2.2.2 (k - 10), (n, .inr (.inr (.inr (.inr (fun i => (g i).map ad))))))
def pc_ws (G : pj_E) (ad : Nat → Nat) (hs : List pc_E) : va_W := hs.mapIdx (fun k e => (ad k, pc_te G ad e))
def pc_okv (n : Nat) (v : pc_V) : Prop := match v with
  | .inr (some k) => k < n
  | _ => True
def pc_oke (n : Nat) (e : pc_E) : Prop := match e with
  | .inl (_, fs) => ∀ v ∈ fs, pc_okv n v
  | .inr (_, _, _, g) => ∀ i k, g i = some k → k < n
def pc_okh (hs : List pc_E) : Prop := ∀ e ∈ hs, pc_oke hs.length e
theorem pc_okv.mono {n n' : Nat} {v : pc_V} (h : pc_okv n v) (hn : n ≤ n') : pc_okv n' v := by
  rcases v with x | _ | k
  · trivial
  · trivial
  · exact Nat.lt_of_lt_of_le h hn
theorem pc_oke.mono {n n' : Nat} {e : pc_E} (h : pc_oke n e) (hn : n ≤ n') : pc_oke n' e := by
  rcases e with ⟨ci, fs⟩ | ⟨k, m, f, g⟩
  · exact fun v hv => (h v hv).mono hn
  · exact fun i k hk => Nat.lt_of_lt_of_le (h i k hk) hn
theorem pc_tv_congr {n : Nat} {ad ad' : Nat → Nat} (h : ∀ k, k < n → ad' k = ad k) {v : pc_V} (hv : pc_okv n v) : pc_tv ad' v = pc_tv ad v := by
  rcases v with x | _ | k
  · rfl
  · rfl
  · simp only [pc_tv, h k hv]
theorem pc_te_congr {G : pj_E} {n : Nat} {ad ad' : Nat → Nat} (h : ∀ k, k < n → ad' k = ad k) {e : pc_E} (he : pc_oke n e) : pc_te G ad' e = pc_te G ad e := by
  rcases e with ⟨ci, fs⟩ | ⟨k, m, f, g⟩
  · simp only [pc_te]
    congr 2
    exact List.map_congr_left (fun v hv => pc_tv_congr h (he v hv))
  · have hg : (fun i => (g i).map ad') = (fun i => (g i).map ad) := by
      funext i
      cases hi : g i with
      | none => rfl
      | some k => simp [h k (he i k hi)]
    unfold pc_te
    split <;> simp_all
theorem pc_ws_at {G : pj_E} {ad : Nat → Nat} {hs : List pc_E} {k : Nat} {e : pc_E} (h : hs[k]? = some e) : (pc_ws G ad hs)[k]? = some (ad k, pc_te G ad e) := by
  simp [pc_ws, h]
theorem pc_ws_of {G : pj_E} {ad : Nat → Nat} {hs : List pc_E} {k : Nat} {q : Nat × va_E} (h : (pc_ws G ad hs)[k]? = some q) : ∃ e, hs[k]? = some e ∧ q = (ad k, pc_te G ad e) := by
  simp only [pc_ws, List.getElem?_mapIdx, Option.map_eq_some_iff] at h
  obtain ⟨t, h1, h2⟩ := h
  exact ⟨t, h1, h2.symm⟩
theorem pc_ws_set {G : pj_E} {ad : Nat → Nat} {hs : List pc_E} {k : Nat} {e : pc_E} : (pc_ws G ad hs).set k (ad k, pc_te G ad e) = pc_ws G ad (hs.set k e) := by
  apply List.ext_getElem?
  intro j
  by_cases hj : j = k
  · subst hj
    simp only [pc_ws, List.getElem?_set, List.getElem?_mapIdx, List.length_mapIdx, if_true]
    split
    · rfl
    · rfl
  · rw [List.getElem?_set_ne (by omega)]
    simp only [pc_ws, List.getElem?_mapIdx]
    rw [List.getElem?_set_ne (by omega)]
theorem pc_ws_push {G : pj_E} {ad ad' : Nat → Nat} {hs : List pc_E} (hok : pc_okh hs) (h : ∀ k, k < hs.length → ad' k = ad k) (q : Nat) (hq : ad' hs.length = q) (e : pc_E) (en : va_E) (he : pc_te G ad' e = en) : pc_ws G ad hs ++ [(q, en)] = pc_ws G ad' (hs ++ [e]) := by
  apply List.ext_getElem?
  intro j
  have hl : (pc_ws G ad hs).length = hs.length := by simp [pc_ws]
  rcases Nat.lt_trichotomy j hs.length with hj | hj | hj
  · rw [List.getElem?_append_left (by rw [hl]; exact hj)]
    have h1 : hs[j]? = some hs[j] := List.getElem?_eq_getElem hj
    rw [pc_ws_at h1, pc_ws_at (show (hs ++ [e])[j]? = some hs[j] by rw [List.getElem?_append_left hj]; exact h1), h j hj, pc_te_congr h (hok _ (List.mem_of_getElem? h1))]
  · subst hj
    rw [List.getElem?_append_right (by rw [hl]; exact Nat.le_refl _), pc_ws_at (show (hs ++ [e])[hs.length]? = some e by simp), hl, hq, he]
    simp
  · rw [List.getElem?_eq_none (by simp [hl]; omega), List.getElem?_eq_none (by simp [pc_ws]; omega)]
/-- what stands while a constructor's body (or the law's beginning) runs -/
def pc_C (X : pj_X) : Prop := match X with
  | (G, A, (cc, own, nL, _, rk), (p, _, _, R), (s, mi, args, _, _, c), _) =>
    p.tables.exec = Jvm.exec ∧ c.code = cc ∧ c.maxLocals = nL ∧ s.vm.findClass own = some mi.cls ∧ (∀ w ∈ pj_tb, w.before args s = true) ∧ va_K G.1 vwCl (pj_tys G) s ∧
    (Cond.arrayClass .int ∈ pj_tb ∧ Cond.arrayClass .long ∈ pj_tb ∧ Cond.arrayClass .boolean ∈ pj_tb) ∧ (va_AO "AlikeSteps$Net" s ∧ va_AO "AlikeSteps$Parting" s ∧ va_AO "AlikeSteps$Teller" s) ∧
    rk + 1 ≤ R.frames ∧ 60 * (rk + 1) ≤ R.locals ∧ (∀ q, s.heap.size ≤ q → A q) ∧ va_X G.2.2.2.1 G.2.2.2.2.1 G.2.2.2.2.2 s s.heap ∧ G.2.2.2.1 < s.heap.size ∧ ¬ A G.2.2.2.1
def pc_Hp (G : pj_E) (A : Nat → Prop) (ad : Nat → Nat) (hs : List pc_E) (s : State) (H : Heap) (locs : List Loc) : Prop := pc_okh hs ∧ va_P G.1 vwCl (pc_ws G ad hs) H ∧ va_D A (pc_ws G ad hs) ∧ va_S A s.heap H locs
def pc_F (G : pj_E) (ad : Nat → Nat) (n nL : Nat) (L : List (Option pc_V)) (st : List pc_V) (ls : Array Slot) : Prop :=
  ls.size = nL ∧ lv_wf ls ∧ L.length = nL ∧ (∀ (i : Nat) (v : pc_V), L[i]? = some (some v) → ls[i]? = some (Slot.val (pc_tv ad v)) ∧ pc_okv n v) ∧ ∀ v ∈ st, pc_okv n v
/-- the first n0 cells lie where they lay -/
def pc_ad (G : pj_E) (n0 n : Nat) (ad : Nat → Nat) : Prop := n0 ≤ n ∧ ∀ k, k < n0 → ad k = G.2.1 k
theorem pc_ad.grow {G : pj_E} {n0 n n' : Nat} {ad ad' : Nat → Nat} (h : pc_ad G n0 n ad) (ha : ∀ k, k < n → ad' k = ad k) (hn : n ≤ n') : pc_ad G n0 n' ad' := ⟨Nat.le_trans h.1 hn, fun k hk => by rw [ha k (Nat.lt_of_lt_of_le hk h.1)]; exact h.2 k hk⟩
def pc_W (X : pj_X) (pc : Nat) (L : List (Option pc_V)) (st : List pc_V) (hs : List pc_E) (cn sn : Nat) : Prop := match X with
  | (G, A, (_, _, nL, _, _), (p, l, e, R), (s, mi, args, below, meth, c), (n0, _, Q)) =>
    ∀ (ad : Nat → Nat) (ls : Array Slot) (H : Heap) (locs : List Loc), pc_ad G n0 hs.length ad → pc_F G ad hs.length nL L st ls → pc_Hp G A ad hs s H locs → W p l e R s mi args below meth c H locs cn sn Q (F0 mi pc ls (st.map (pc_tv ad)))
abbrev pc_T : Type := Nat × Nat → List (Option pc_V) → List pc_V → List pc_E → Nat → Nat → Option (Nat × List (Option pc_V) × List pc_V × List pc_E × Nat × Nat)
/-- a step is the machine's; the first argument: the room's cells and slots -/
def pc_S (X : pj_X) (pc : Nat) (τ : pc_T) : Prop :=
  ∀ (L : List (Option pc_V)) (st : List pc_V) (hs : List pc_E) (cn sn : Nat) (q : Nat × List (Option pc_V) × List pc_V × List pc_E × Nat × Nat), τ (X.2.2.2.1.2.2.2.cells, X.2.2.2.1.2.2.2.slots) L st hs cn sn = some q → pc_W X q.1 q.2.1 q.2.2.1 q.2.2.2.1 q.2.2.2.2.1 q.2.2.2.2.2 → pc_W X pc L st hs cn sn
theorem pc_F.stk {G : pj_E} {ad : Nat → Nat} {n nL : Nat} {L : List (Option pc_V)} {st st' : List pc_V} {ls : Array Slot} (h : pc_F G ad n nL L st ls) (h' : ∀ v ∈ st', pc_okv n v) : pc_F G ad n nL L st' ls := ⟨h.1, h.2.1, h.2.2.1, h.2.2.2.1, h'⟩
theorem pc_okc {n : Nat} {a : pc_V} {st : List pc_V} (h1 : pc_okv n a) (h2 : ∀ v ∈ st, pc_okv n v) : ∀ v ∈ a :: st, pc_okv n v := fun v hv => (List.mem_cons.mp hv).elim (fun e => e ▸ h1) (h2 v)
theorem pc_ok1 {n : Nat} {a : pc_V} {st : List pc_V} (h : ∀ v ∈ a :: st, pc_okv n v) : ∀ v ∈ st, pc_okv n v := fun v hv => h v (List.mem_cons_of_mem _ hv)
theorem pc_okt {n : Nat} {a : pc_V} {st : List pc_V} (h : ∀ v ∈ a :: st, pc_okv n v) : pc_okv n a := h a List.mem_cons_self
def pc_lv (ad : Nat → Nat) (L : List (Option pc_V)) : List (Nat × Value) := (List.range L.length).filterMap (fun i => match L[i]? with
  | some (some v) => some (i, pc_tv ad v)
  | _ => none)
theorem pc_lv_mem {ad : Nat → Nat} {L : List (Option pc_V)} {q : Nat × Value} : q ∈ pc_lv ad L ↔ ∃ v, L[q.1]? = some (some v) ∧ q.2 = pc_tv ad v := by
  unfold pc_lv
  rw [List.mem_filterMap]
  constructor
  · rintro ⟨i, hi, h⟩
    split at h
    · rename_i v hv
      cases h
      exact ⟨v, hv, rfl⟩
    · cases h
  · rintro ⟨v, hv, h2⟩
    refine ⟨q.1, List.mem_range.mpr (List.getElem?_eq_some_iff.mp hv).1, ?_⟩
    rw [hv]
    show some (q.1, pc_tv ad v) = some q
    rw [← h2]
theorem pc_F.has {G : pj_E} {ad : Nat → Nat} {n nL : Nat} {L : List (Option pc_V)} {st : List pc_V} {ls : Array Slot} (h : pc_F G ad n nL L st ls) : lv_has ls nL (pc_lv ad L) := by
  refine ⟨h.1, h.2.1, fun q hq => ?_⟩
  obtain ⟨v, hv, h2⟩ := pc_lv_mem.mp hq
  rw [h2]
  exact (h.2.2.2.1 _ _ hv).1
theorem pc_tv_cat (ad : Nat → Nat) (v : pc_V) : (pc_tv ad v).category = 1 := by
  rcases v with x | _ | k <;> rfl
theorem pc_cat_le (ad : Nat → Nat) (st : List pc_V) : ((st.map (pc_tv ad)).map fun v => v.category).sum = st.length := by
  induction st with
  | nil => rfl
  | cons v st ih => simp only [List.map_cons, List.sum_cons, ih, pc_tv_cat, List.length_cons]; omega
theorem pc_F.st1 {G : pj_E} {ad : Nat → Nat} {n nL i : Nat} {L : List (Option pc_V)} {st : List pc_V} {v : pc_V} {ls ls' : Array Slot} (h : pc_F G ad n nL L (v :: st) ls)
    (h' : lv_has ls' nL ((i, pc_tv ad v) :: (pc_lv ad L).filter (fun q => !(q.1 == i) && !(q.1 + 1 == i && q.2.category == 2)))) : pc_F G ad n nL (L.set i (some v)) st ls' := by
  obtain ⟨h1, h2, h3, h4, h5⟩ := h
  refine ⟨h'.1, h'.2.1, by simp [h3], fun j u hu => ?_, fun u hu => h5 u (List.mem_cons_of_mem _ hu)⟩
  by_cases hj : j = i
  · subst hj
    have hl := (List.getElem?_eq_some_iff.mp hu).1
    rw [List.length_set] at hl
    rw [List.getElem?_set_self hl] at hu
    cases hu
    exact ⟨h'.2.2 _ List.mem_cons_self, h5 _ List.mem_cons_self⟩
  · rw [List.getElem?_set_ne (by omega)] at hu
    refine ⟨h'.2.2 (j, pc_tv ad u) (List.mem_cons_of_mem _ (List.mem_filter.mpr ⟨pc_lv_mem.mpr ⟨u, hu, rfl⟩, ?_⟩)), (h4 _ _ hu).2⟩
    simp only [Bool.and_eq_true, Bool.not_eq_true', beq_eq_false_iff_ne, ne_eq, Bool.and_eq_false_imp, beq_iff_eq]
    refine ⟨hj, fun e1 e2 => ?_⟩
    rw [pc_tv_cat] at e2
    cases e2
/-! steps -/
def rs_ci (v : Int32) (nx : Nat) : pc_T := fun _ L st hs cn sn => some (nx, L, .inl v :: st, hs, cn, sn)
def rs_ldi (i nx : Nat) : pc_T := fun _ L st hs cn sn => match L[i]? with
  | some (some (.inl x)) => some (nx, L, .inl x :: st, hs, cn, sn)
  | _ => none
def rs_lda (i nx : Nat) : pc_T := fun _ L st hs cn sn => match L[i]? with
  | some (some (.inr (some x))) => some (nx, L, .inr (some x) :: st, hs, cn, sn)
  | _ => none
def rs_sti (i nx : Nat) : pc_T := fun _ L st hs cn sn => match st, L[i]? with
  | .inl x :: st, some _ => some (nx, L.set i (some (.inl x)), st, hs, cn, sn)
  | _, _ => none
def rs_sta (i nx : Nat) : pc_T := fun _ L st hs cn sn => match st, L[i]? with
  | .inr (some x) :: st, some _ => some (nx, L.set i (some (.inr (some x))), st, hs, cn, sn)
  | _, _ => none
def rs_inc (i : Nat) (d : Int32) (nx : Nat) : pc_T := fun _ L st hs cn sn => match L[i]? with
  | some (some (.inl x)) => some (nx, L.set i (some (.inl (x + d))), st, hs, cn, sn)
  | _ => none
def rs_dup (nx : Nat) : pc_T := fun _ L st hs cn sn => match st with
  | v :: st => some (nx, L, v :: v :: st, hs, cn, sn)
  | _ => none
def rs_go (tgt : Nat) : pc_T := fun _ L st hs cn sn => some (tgt, L, st, hs, cn, sn)
def rs_icge (tgt nx : Nat) : pc_T := fun _ L st hs cn sn => match st with
  | .inl y :: .inl x :: st => some (if x < y then nx else tgt, L, st, hs, cn, sn)
  | _ => none
theorem rz_iconst {X : pj_X} {pc : Nat} (C : pc_C X) {n : Int} {v : Int32} (hd : decode (pj_cc X) pc = .ok (.iconst n, 1)) (hv : Int32.ofInt n = v) : pc_S X pc (rs_ci v (pc + 1)) := by
  intro L st hs cn sn q h hW
  obtain ⟨G, A, ⟨cc, own, nL, ret, rk⟩, ⟨p, l, e, R⟩, ⟨s, mi, args, below, meth, c⟩, ⟨cells, slots, Q⟩⟩ := X
  obtain ⟨hx, hb, hml, hown, hts, hcl, hta, hao, hfr, hlo, hA, hX, hbl, hbA⟩ := C
  cases h
  intro ad ls H locs h0 hF hH
  exact lv_iconst hx hb hd hv (hW ad ls H locs h0 (hF.stk (pc_okc trivial hF.2.2.2.2)) hH)
theorem rz_bipush {X : pj_X} {pc : Nat} (C : pc_C X) {n : Int} {v : Int32} (hd : decode (pj_cc X) pc = .ok (.bipush n, 2)) (hv : (Int8.ofInt n).toInt32 = v) : pc_S X pc (rs_ci v (pc + 2)) := by
  intro L st hs cn sn q h hW
  obtain ⟨G, A, ⟨cc, own, nL, ret, rk⟩, ⟨p, l, e, R⟩, ⟨s, mi, args, below, meth, c⟩, ⟨cells, slots, Q⟩⟩ := X
  obtain ⟨hx, hb, hml, hown, hts, hcl, hta, hao, hfr, hlo, hA, hX, hbl, hbA⟩ := C
  cases h
  intro ad ls H locs h0 hF hH
  exact lv_bipush hx hb hd hv (hW ad ls H locs h0 (hF.stk (pc_okc trivial hF.2.2.2.2)) hH)
theorem rz_sipush {X : pj_X} {pc : Nat} (C : pc_C X) {n : Int} {v : Int32} (hd : decode (pj_cc X) pc = .ok (.sipush n, 3)) (hv : (Int16.ofInt n).toInt32 = v) : pc_S X pc (rs_ci v (pc + 3)) := by
  intro L st hs cn sn q h hW
  obtain ⟨G, A, ⟨cc, own, nL, ret, rk⟩, ⟨p, l, e, R⟩, ⟨s, mi, args, below, meth, c⟩, ⟨cells, slots, Q⟩⟩ := X
  obtain ⟨hx, hb, hml, hown, hts, hcl, hta, hao, hfr, hlo, hA, hX, hbl, hbA⟩ := C
  cases h
  intro ad ls H locs h0 hF hH
  exact lv_sipush hx hb hd hv (hW ad ls H locs h0 (hF.stk (pc_okc trivial hF.2.2.2.2)) hH)
theorem rz_ldc {X : pj_X} {pc : Nat} (C : pc_C X) {i : Nat} {v : Int32} (hd : decode (pj_cc X) pc = .ok (.ldc i, 2)) (hc : Cond.constant (pj_own X) i v ∈ pj_tb) : pc_S X pc (rs_ci v (pc + 2)) := by
  intro L st hs cn sn q h hW
  obtain ⟨G, A, ⟨cc, own, nL, ret, rk⟩, ⟨p, l, e, R⟩, ⟨s, mi, args, below, meth, c⟩, ⟨cells, slots, Q⟩⟩ := X
  obtain ⟨hx, hb, hml, hown, hts, hcl, hta, hao, hfr, hlo, hA, hX, hbl, hbA⟩ := C
  cases h
  intro ad ls H locs h0 hF hH
  exact lv_ldc hx hb hown (hts _ hc) hd (hW ad ls H locs h0 (hF.stk (pc_okc trivial hF.2.2.2.2)) hH)
theorem rz_iload_n {X : pj_X} {pc : Nat} (C : pc_C X) {k : Fin 4} {i : Nat} (hd : decode (pj_cc X) pc = .ok (.iload_n k, 1)) (hi : (k : Nat) = i) : pc_S X pc (rs_ldi i (pc + 1)) := by
  intro L st hs cn sn q h hW
  obtain ⟨G, A, ⟨cc, own, nL, ret, rk⟩, ⟨p, l, e, R⟩, ⟨s, mi, args, below, meth, c⟩, ⟨cells, slots, Q⟩⟩ := X
  obtain ⟨hx, hb, hml, hown, hts, hcl, hta, hao, hfr, hlo, hA, hX, hbl, hbA⟩ := C
  unfold rs_ldi at h
  split at h
  · rename_i x hx1
    cases h
    intro ad ls H locs h0 hF hH
    exact lv_iload_n hx hb hd hi (hF.2.2.2.1 _ _ hx1).1 (hW ad ls H locs h0 (hF.stk (pc_okc trivial hF.2.2.2.2)) hH)
  · cases h
theorem rz_aload_n {X : pj_X} {pc : Nat} (C : pc_C X) {k : Fin 4} {i : Nat} (hd : decode (pj_cc X) pc = .ok (.aload_n k, 1)) (hi : (k : Nat) = i) : pc_S X pc (rs_lda i (pc + 1)) := by
  intro L st hs cn sn q h hW
  obtain ⟨G, A, ⟨cc, own, nL, ret, rk⟩, ⟨p, l, e, R⟩, ⟨s, mi, args, below, meth, c⟩, ⟨cells, slots, Q⟩⟩ := X
  obtain ⟨hx, hb, hml, hown, hts, hcl, hta, hao, hfr, hlo, hA, hX, hbl, hbA⟩ := C
  unfold rs_lda at h
  split at h
  · rename_i x hx1
    cases h
    intro ad ls H locs h0 hF hH
    have h1 := hF.2.2.2.1 _ _ hx1
    exact lv_aload_n hx hb hd hi h1.1 (hW ad ls H locs h0 (hF.stk (pc_okc h1.2 hF.2.2.2.2)) hH)
  · cases h
theorem rz_istore_n {X : pj_X} {pc : Nat} (C : pc_C X) {k : Fin 4} {i : Nat} (hd : decode (pj_cc X) pc = .ok (.istore_n k, 1)) (hi : (k : Nat) = i) : pc_S X pc (rs_sti i (pc + 1)) := by
  intro L st hs cn sn q h hW
  obtain ⟨G, A, ⟨cc, own, nL, ret, rk⟩, ⟨p, l, e, R⟩, ⟨s, mi, args, below, meth, c⟩, ⟨cells, slots, Q⟩⟩ := X
  obtain ⟨hx, hb, hml, hown, hts, hcl, hta, hao, hfr, hlo, hA, hX, hbl, hbA⟩ := C
  unfold rs_sti at h
  split at h
  · rename_i x st o hx1
    cases h
    intro ad ls H locs h0 hF hH
    have hlt := (List.getElem?_eq_some_iff.mp hx1).1
    rw [hF.2.2.1] at hlt
    exact lv_istore_n hx hb hd hi hF.has hlt rfl (fun ls2 h2 => hW ad ls2 H locs h0 (hF.st1 h2) hH)
  · cases h
theorem rz_astore_n {X : pj_X} {pc : Nat} (C : pc_C X) {k : Fin 4} {i : Nat} (hd : decode (pj_cc X) pc = .ok (.astore_n k, 1)) (hi : (k : Nat) = i) : pc_S X pc (rs_sta i (pc + 1)) := by
  intro L st hs cn sn q h hW
  obtain ⟨G, A, ⟨cc, own, nL, ret, rk⟩, ⟨p, l, e, R⟩, ⟨s, mi, args, below, meth, c⟩, ⟨cells, slots, Q⟩⟩ := X
  obtain ⟨hx, hb, hml, hown, hts, hcl, hta, hao, hfr, hlo, hA, hX, hbl, hbA⟩ := C
  unfold rs_sta at h
  split at h
  · rename_i x st o hx1
    cases h
    intro ad ls H locs h0 hF hH
    have hlt := (List.getElem?_eq_some_iff.mp hx1).1
    rw [hF.2.2.1] at hlt
    exact lv_astore_n hx hb hd hi hF.has hlt rfl (fun ls2 h2 => hW ad ls2 H locs h0 (hF.st1 h2) hH)
  · cases h
theorem rz_iinc {X : pj_X} {pc : Nat} (C : pc_C X) {i : Nat} {n : Int} {d : Int32} (hd : decode (pj_cc X) pc = .ok (.iinc i n, 3)) (hn : Int32.ofInt n = d) : pc_S X pc (rs_inc i d (pc + 3)) := by
  intro L st hs cn sn q h hW
  obtain ⟨G, A, ⟨cc, own, nL, ret, rk⟩, ⟨p, l, e, R⟩, ⟨s, mi, args, below, meth, c⟩, ⟨cells, slots, Q⟩⟩ := X
  obtain ⟨hx, hb, hml, hown, hts, hcl, hta, hao, hfr, hlo, hA, hX, hbl, hbA⟩ := C
  unfold rs_inc at h
  split at h
  · rename_i x hx1
    cases h
    intro ad ls H locs h0 hF hH
    have hlt := (List.getElem?_eq_some_iff.mp hx1).1
    rw [hF.2.2.1] at hlt
    obtain ⟨k, hk1⟩ := List.getElem?_of_mem (pc_lv_mem (ad := ad) (q := (i, .int x)) |>.mpr ⟨.inl x, hx1, rfl⟩)
    refine lv_iinc hx hb hd hF.has hk1 (by rw [hn]) hlt rfl (fun ls2 h2 => hW ad ls2 H locs h0 ?_ hH)
    exact pc_F.st1 (v := .inl (x + d)) (hF.stk (pc_okc trivial hF.2.2.2.2)) h2
  · cases h
theorem rz_dup {X : pj_X} {pc : Nat} (C : pc_C X) (hd : decode (pj_cc X) pc = .ok (.dup, 1)) : pc_S X pc (rs_dup (pc + 1)) := by
  intro L st hs cn sn q h hW
  obtain ⟨G, A, ⟨cc, own, nL, ret, rk⟩, ⟨p, l, e, R⟩, ⟨s, mi, args, below, meth, c⟩, ⟨cells, slots, Q⟩⟩ := X
  obtain ⟨hx, hb, hml, hown, hts, hcl, hta, hao, hfr, hlo, hA, hX, hbl, hbA⟩ := C
  unfold rs_dup at h
  split at h
  · cases h
    intro ad ls H locs h0 hF hH
    exact lv_dup hx hb hd (pc_tv_cat ad _) (hW ad ls H locs h0 (hF.stk (pc_okc (pc_okt hF.2.2.2.2) hF.2.2.2.2)) hH)
  · cases h
theorem rz_goto {X : pj_X} {pc : Nat} (C : pc_C X) {off : Int} {tgt : Nat} (hd : decode (pj_cc X) pc = .ok (.goto off, 3)) (ht : (pc : Int) + off = (tgt : Int)) : pc_S X pc (rs_go tgt) := by
  intro L st hs cn sn q h hW
  obtain ⟨G, A, ⟨cc, own, nL, ret, rk⟩, ⟨p, l, e, R⟩, ⟨s, mi, args, below, meth, c⟩, ⟨cells, slots, Q⟩⟩ := X
  obtain ⟨hx, hb, hml, hown, hts, hcl, hta, hao, hfr, hlo, hA, hX, hbl, hbA⟩ := C
  cases h
  intro ad ls H locs h0 hF hH
  exact lv_goto hx hb hd ht (hW ad ls H locs h0 hF hH)
theorem rz_icge {X : pj_X} {pc : Nat} (C : pc_C X) {off : Int} {tgt : Nat} (hd : decode (pj_cc X) pc = .ok (.if_icmp .ge off, 3)) (ht : (pc : Int) + off = (tgt : Int)) : pc_S X pc (rs_icge tgt (pc + 3)) := by
  intro L st hs cn sn q h hW
  obtain ⟨G, A, ⟨cc, own, nL, ret, rk⟩, ⟨p, l, e, R⟩, ⟨s, mi, args, below, meth, c⟩, ⟨cells, slots, Q⟩⟩ := X
  obtain ⟨hx, hb, hml, hown, hts, hcl, hta, hao, hfr, hlo, hA, hX, hbl, hbA⟩ := C
  unfold rs_icge at h
  split at h
  · rename_i y x st
    cases h
    intro ad ls H locs h0 hF hH
    have hF1 := hF.stk (pc_ok1 (pc_ok1 hF.2.2.2.2))
    have h2 := hW ad ls H locs h0 hF1 hH
    refine lv_icmp_ge hx hb hd ht (fun c1 => ?_) (fun c1 => ?_)
    · simp only [if_neg (Int32.not_lt.mpr c1)] at h2
      exact h2
    · simp only [if_pos (Int32.not_le.mp c1)] at h2
      exact h2
  · cases h
/-! cells -/
def rs_new (ci N : Nat) (fs : List pc_V) (nx : Nat) : pc_T := fun r L st hs cn sn => (match Nat.ble (cn + 1) r.1 && Nat.ble (sn + N) r.2 with
  | true => some (nx, L, .inr (some hs.length) :: st, hs ++ [.inl (ci, fs)], cn + 1, sn + N)
  | false => none)
def rs_newa (k : Nat) (nx : Nat) : pc_T := fun r L st hs cn sn => match st with
  | .inl n :: st => (match (Nat.ble (cn + 1) r.1 && Nat.ble (sn + n.toNatClampNeg) r.2) && (decide (¬ n < 0) && Nat.ble n.toNatClampNeg 100000) with
    | true => some (nx, L, .inr (some hs.length) :: st, hs ++ [.inr (k, n.toNatClampNeg, (fun _ => 0), (fun _ => none))], cn + 1, sn + n.toNatClampNeg)
    | false => none)
  | _ => none
theorem pc_grow {G : pj_E} {A : Nat → Prop} {ad : Nat → Nat} {hs : List pc_E} {s : State} {H H1 : Heap} {locs : List Loc} {q : Nat} {e : pc_E} {en : va_E} (hH : pc_Hp G A ad hs s H locs) (hok : pc_oke 0 e) (he : ∀ ad', pc_te G ad' e = en) (hP : va_P G.1 vwCl (pc_ws G ad hs ++ [(q, en)]) H1) (hD : va_D A (pc_ws G ad hs ++ [(q, en)])) (hS : va_S A s.heap H1 locs) :
    ∃ ad' : Nat → Nat, (∀ k, k < hs.length → ad' k = ad k) ∧ ad' hs.length = q ∧ pc_Hp G A ad' (hs ++ [e]) s H1 locs := by
  refine ⟨fun k => if k = hs.length then q else ad k, fun k hk => if_neg (by omega), if_pos rfl, ?_⟩
  have e1 := pc_ws_push (G := G) (ad := ad) (ad' := fun k => if k = hs.length then q else ad k) hH.1 (fun k hk => if_neg (by omega)) q (if_pos rfl) e en (he _)
  rw [e1] at hP hD
  refine ⟨fun x hx => ?_, hP, hD, hS⟩
  rw [List.length_append]
  rcases List.mem_append.mp hx with h | h
  · exact (hH.1 x h).mono (by simp)
  · rw [List.mem_singleton.mp h]
    exact hok.mono (Nat.zero_le _)
theorem pc_F.grow {G : pj_E} {ad ad' : Nat → Nat} {n nL : Nat} {L : List (Option pc_V)} {st : List pc_V} {ls : Array Slot} (h : pc_F G ad n nL L st ls) (ha : ∀ k, k < n → ad' k = ad k) {n' : Nat} (hn : n ≤ n') : pc_F G ad' n' nL L st ls := by
  refine ⟨h.1, h.2.1, h.2.2.1, fun i v hv => ?_, fun v hv => (h.2.2.2.2 v hv).mono hn⟩
  have h1 := h.2.2.2.1 i v hv
  exact ⟨by rw [pc_tv_congr ha h1.2]; exact h1.1, h1.2.mono hn⟩
theorem pc_map_congr {n : Nat} {ad ad' : Nat → Nat} (ha : ∀ k, k < n → ad' k = ad k) {st : List pc_V} (h : ∀ v ∈ st, pc_okv n v) : st.map (pc_tv ad') = st.map (pc_tv ad) := List.map_congr_left (fun v hv => pc_tv_congr ha (h v hv))
theorem rz_new {X : pj_X} {pc : Nat} (C : pc_C X) {ci N i : Nat} {Cn : String} {T : u_T} {ty : Nat → FieldType} {fs : List pc_V} (hd : decode (pj_cc X) pc = .ok (.new i, 3)) (hc : vwCl[ci]? = some (Cn, T, N)) (hin : ∀ c ∈ u_ws Cn T N, c ∈ pj_tb) (hty : ∀ k, k < N → parseFieldDescriptor (T k).2.2.1 = some (ty k)) (hl : Cond.classLink (pj_own X) i Cn ∈ pj_tb) (hi : Cond.instantiable Cn N ∈ pj_tb) (hini : Cond.initialized Cn ∈ pj_tb)
    (hfs : ∀ j, j < N → defaultValue (ty j) = vp_V (fs.map (pc_tv id)) j) (hfr0 : fs.all (fun v => match v with
      | .inr (some _) => false
      | _ => true) = true) : pc_S X pc (rs_new ci N fs (pc + 3)) := by
  intro L st hs cn sn q h hW
  obtain ⟨G, A, ⟨cc, own, nL, ret, rk⟩, ⟨p, l, e, R⟩, ⟨s, mi, args, below, meth, c⟩, ⟨cells, slots, Q⟩⟩ := X
  obtain ⟨hx, hb, hml, hown, hts, hcl, hta, hao, hfr, hlo, hA, hX, hbl, hbA⟩ := C
  unfold rs_new at h
  split at h
  · rename_i hbq
    simp only [Bool.and_eq_true, Nat.ble_eq] at hbq
    cases h
    intro ad ls H locs h0 hF hH
    have hnr : ∀ v ∈ fs, pc_okv 0 v := by
      intro v hv
      have h1 := List.all_eq_true.mp hfr0 v hv
      rcases v with x | _ | k
      · trivial
      · trivial
      · cases h1
    have hte : ∀ ad', pc_te G ad' (.inl (ci, fs)) = .inr (ci, fs.map (pc_tv id)) := by
      intro ad'
      simp only [pc_te]
      congr 2
      exact List.map_congr_left (fun v hv => pc_tv_congr (n := 0) (fun k hk => by omega) (hnr v hv))
    refine va_new (ci := ci) (fs := fs.map (pc_tv id)) hx hb hts hin ty hty hown (hts _ hl) (hts _ hi) (hts _ hini) hcl hH.2.1 hH.2.2.1 hH.2.2.2 hA hc hfs hbq.1 hbq.2 hd (fun q H1 hP hD hS => ?_)
    obtain ⟨ad', h1, h2, h3⟩ := pc_grow hH (e := .inl (ci, fs)) (fun v hv => (hnr v hv)) hte hP hD hS
    have h4 := hW ad' ls H1 locs (h0.grow h1 (by simp)) ?_ h3
    · rw [List.map_cons, pc_map_congr h1 hF.2.2.2.2] at h4
      simp only [pc_tv, h2] at h4
      exact h4
    · refine pc_F.stk (hF.grow h1 (by simp)) (pc_okc ?_ (fun v hv => (hF.2.2.2.2 v hv).mono (by simp)))
      show hs.length < (hs ++ [_]).length
      simp
  · cases h
theorem rz_newa_int {X : pj_X} {pc : Nat} (C : pc_C X) (hd : decode (pj_cc X) pc = .ok (.newarray .int, 2)) : pc_S X pc (rs_newa 1 (pc + 2)) := by
  intro L st hs cn sn q h hW
  obtain ⟨G, A, ⟨cc, own, nL, ret, rk⟩, ⟨p, l, e, R⟩, ⟨s, mi, args, below, meth, c⟩, ⟨cells, slots, Q⟩⟩ := X
  obtain ⟨hx, hb, hml, hown, hts, hcl, hta, hao, hfr, hlo, hA, hX, hbl, hbA⟩ := C
  unfold rs_newa at h
  split at h
  · rename_i n st
    split at h
    · rename_i hbq
      simp only [Bool.and_eq_true, Nat.ble_eq, decide_eq_true_eq] at hbq
      obtain ⟨⟨b1, b2⟩, b3, b4⟩ := hbq
      cases h
      intro ad ls H locs h0 hF hH
      refine va_newa (atype := .int) (ty := .int) (a0 := (n.toNatClampNeg, .inl (fun _ => 0))) hx hb (hts _ hta.1) rfl hcl hH.2.1 hH.2.2.1 hH.2.2.2 hA (fun cA => rfl) b3 rfl (Nat.le_trans (Nat.mul_le_mul_right _ b4) (by decide)) b1 b2 hd (fun q cA H1 hK1 hP hD hS => ?_)
      have hcA : cA = G.2.2.1.1 := by
        have g1 : va_RA s cA .int := (hK1.2 6 (cA, .int) rfl).2
        have g2 : va_RA s (G.2.2.1.1) .int := (hcl.2 0 _ rfl).2
        exact Option.some.inj (g1.symm.trans g2)
      subst hcA
      obtain ⟨ad', h1, h2, h3⟩ := pc_grow hH (e := .inr (1, n.toNatClampNeg, (fun _ => 0), (fun _ => none))) (fun _ _ h9 => by cases h9) (fun _ => rfl) hP hD hS
      have h4 := hW ad' ls H1 locs (h0.grow h1 (by simp)) ?_ h3
      · rw [List.map_cons, pc_map_congr h1 (pc_ok1 hF.2.2.2.2)] at h4
        simp only [pc_tv, h2] at h4
        exact h4
      · refine pc_F.stk (hF.grow h1 (by simp)) (pc_okc ?_ (fun v hv => (pc_ok1 hF.2.2.2.2 v hv).mono (by simp)))
        show hs.length < (hs ++ [_]).length
        simp
    · cases h
  · cases h
theorem rz_newa_long {X : pj_X} {pc : Nat} (C : pc_C X) (hd : decode (pj_cc X) pc = .ok (.newarray .long, 2)) : pc_S X pc (rs_newa 2 (pc + 2)) := by
  intro L st hs cn sn q h hW
  obtain ⟨G, A, ⟨cc, own, nL, ret, rk⟩, ⟨p, l, e, R⟩, ⟨s, mi, args, below, meth, c⟩, ⟨cells, slots, Q⟩⟩ := X
  obtain ⟨hx, hb, hml, hown, hts, hcl, hta, hao, hfr, hlo, hA, hX, hbl, hbA⟩ := C
  unfold rs_newa at h
  split at h
  · rename_i n st
    split at h
    · rename_i hbq
      simp only [Bool.and_eq_true, Nat.ble_eq, decide_eq_true_eq] at hbq
      obtain ⟨⟨b1, b2⟩, b3, b4⟩ := hbq
      cases h
      intro ad ls H locs h0 hF hH
      refine va_newa (atype := .long) (ty := .long) (a0 := (n.toNatClampNeg, .inr (.inl (fun _ => 0)))) hx hb (hts _ hta.2.1) rfl hcl hH.2.1 hH.2.2.1 hH.2.2.2 hA (fun cA => rfl) b3 rfl (Nat.le_trans (Nat.mul_le_mul_right _ b4) (by decide)) b1 b2 hd (fun q cA H1 hK1 hP hD hS => ?_)
      have hcA : cA = G.2.2.1.2.1 := by
        have g1 : va_RA s cA .long := (hK1.2 6 (cA, .long) rfl).2
        have g2 : va_RA s (G.2.2.1.2.1) .long := (hcl.2 1 _ rfl).2
        exact Option.some.inj (g1.symm.trans g2)
      subst hcA
      obtain ⟨ad', h1, h2, h3⟩ := pc_grow hH (e := .inr (2, n.toNatClampNeg, (fun _ => 0), (fun _ => none))) (fun _ _ h9 => by cases h9) (fun _ => rfl) hP hD hS
      have h4 := hW ad' ls H1 locs (h0.grow h1 (by simp)) ?_ h3
      · rw [List.map_cons, pc_map_congr h1 (pc_ok1 hF.2.2.2.2)] at h4
        simp only [pc_tv, h2] at h4
        exact h4
      · refine pc_F.stk (hF.grow h1 (by simp)) (pc_okc ?_ (fun v hv => (pc_ok1 hF.2.2.2.2 v hv).mono (by simp)))
        show hs.length < (hs ++ [_]).length
        simp
    · cases h
  · cases h
theorem rz_newa_boolean {X : pj_X} {pc : Nat} (C : pc_C X) (hd : decode (pj_cc X) pc = .ok (.newarray .boolean, 2)) : pc_S X pc (rs_newa 3 (pc + 2)) := by
  intro L st hs cn sn q h hW
  obtain ⟨G, A, ⟨cc, own, nL, ret, rk⟩, ⟨p, l, e, R⟩, ⟨s, mi, args, below, meth, c⟩, ⟨cells, slots, Q⟩⟩ := X
  obtain ⟨hx, hb, hml, hown, hts, hcl, hta, hao, hfr, hlo, hA, hX, hbl, hbA⟩ := C
  unfold rs_newa at h
  split at h
  · rename_i n st
    split at h
    · rename_i hbq
      simp only [Bool.and_eq_true, Nat.ble_eq, decide_eq_true_eq] at hbq
      obtain ⟨⟨b1, b2⟩, b3, b4⟩ := hbq
      cases h
      intro ad ls H locs h0 hF hH
      refine va_newa (atype := .boolean) (ty := .boolean) (a0 := (n.toNatClampNeg, .inl (fun _ => 0))) hx hb (hts _ hta.2.2) rfl hcl hH.2.1 hH.2.2.1 hH.2.2.2 hA (fun cA => rfl) b3 rfl (Nat.le_trans (Nat.mul_le_mul_right _ b4) (by decide)) b1 b2 hd (fun q cA H1 hK1 hP hD hS => ?_)
      have hcA : cA = G.2.2.1.2.2.1 := by
        have g1 : va_RA s cA .boolean := (hK1.2 6 (cA, .boolean) rfl).2
        have g2 : va_RA s (G.2.2.1.2.2.1) .boolean := (hcl.2 2 _ rfl).2
        exact Option.some.inj (g1.symm.trans g2)
      subst hcA
      obtain ⟨ad', h1, h2, h3⟩ := pc_grow hH (e := .inr (3, n.toNatClampNeg, (fun _ => 0), (fun _ => none))) (fun _ _ h9 => by cases h9) (fun _ => rfl) hP hD hS
      have h4 := hW ad' ls H1 locs (h0.grow h1 (by simp)) ?_ h3
      · rw [List.map_cons, pc_map_congr h1 (pc_ok1 hF.2.2.2.2)] at h4
        simp only [pc_tv, h2] at h4
        exact h4
      · refine pc_F.stk (hF.grow h1 (by simp)) (pc_okc ?_ (fun v hv => (pc_ok1 hF.2.2.2.2 v hv).mono (by simp)))
        show hs.length < (hs ++ [_]).length
        simp
    · cases h
  · cases h
def rs_newq (cr : Nat) (nx : Nat) : pc_T := fun r L st hs cn sn => match st with
  | .inl n :: st => (match (Nat.ble (cn + 1) r.1 && Nat.ble (sn + n.toNatClampNeg) r.2) && (decide (¬ n < 0) && Nat.ble n.toNatClampNeg 100000) with
    | true => some (nx, L, .inr (some hs.length) :: st, hs ++ [.inr (10 + cr, n.toNatClampNeg, (fun _ => 0), (fun _ => none))], cn + 1, sn + n.toNatClampNeg)
    | false => none)
  | _ => none
theorem rz_newq_4 {X : pj_X} {pc : Nat} (C : pc_C X) {i : Nat} (hd : decode (pj_cc X) pc = .ok (.anewarray i, 3)) (hl : Cond.classLink (pj_own X) i "AlikeSteps$Net" ∈ pj_tb) : pc_S X pc (rs_newq 4 (pc + 3)) := by
  intro L st hs cn sn q h hW
  obtain ⟨G, A, ⟨cc, own, nL, ret, rk⟩, ⟨p, l, e, R⟩, ⟨s, mi, args, below, meth, c⟩, ⟨cells, slots, Q⟩⟩ := X
  obtain ⟨hx, hb, hml, hown, hts, hcl, hta, hao, hfr, hlo, hA, hX, hbl, hbA⟩ := C
  unfold rs_newq at h
  split at h
  · rename_i n st
    split at h
    · rename_i hbq
      simp only [Bool.and_eq_true, Nat.ble_eq, decide_eq_true_eq] at hbq
      obtain ⟨⟨b1, b2⟩, b3, b4⟩ := hbq
      cases h
      intro ad ls H locs h0 hF hH
      refine va_newq hx hb hown (hts _ hl) hao.1 hcl hH.2.1 hH.2.2.1 hH.2.2.2 hA b3 rfl (Nat.le_trans (Nat.mul_le_mul_right _ b4) (by decide)) b1 b2 hd (fun q cA H1 hK1 hP hD hS => ?_)
      have hcA : cA = G.2.2.1.2.2.2 4 := by
        obtain ⟨_, _, _, _, _, g1⟩ := (hK1.2 6 (cA, .object "AlikeSteps$Net") rfl).2
        obtain ⟨_, _, _, _, _, g2⟩ := (hcl.2 3 _ rfl).2
        exact Option.some.inj (g1.symm.trans g2)
      subst hcA
      obtain ⟨ad', h1, h2, h3⟩ := pc_grow hH (e := .inr (10 + 4, n.toNatClampNeg, (fun _ => 0), (fun _ => none))) (fun _ _ h9 => by cases h9) (fun _ => rfl) hP hD hS
      have h4 := hW ad' ls H1 locs (h0.grow h1 (by simp)) ?_ h3
      · rw [List.map_cons, pc_map_congr h1 (pc_ok1 hF.2.2.2.2)] at h4
        simp only [pc_tv, h2] at h4
        exact h4
      · refine pc_F.stk (hF.grow h1 (by simp)) (pc_okc ?_ (fun v hv => (pc_ok1 hF.2.2.2.2 v hv).mono (by simp)))
        show hs.length < (hs ++ [_]).length
        simp
    · cases h
  · cases h
theorem rz_newq_5 {X : pj_X} {pc : Nat} (C : pc_C X) {i : Nat} (hd : decode (pj_cc X) pc = .ok (.anewarray i, 3)) (hl : Cond.classLink (pj_own X) i "AlikeSteps$Parting" ∈ pj_tb) : pc_S X pc (rs_newq 5 (pc + 3)) := by
  intro L st hs cn sn q h hW
  obtain ⟨G, A, ⟨cc, own, nL, ret, rk⟩, ⟨p, l, e, R⟩, ⟨s, mi, args, below, meth, c⟩, ⟨cells, slots, Q⟩⟩ := X
  obtain ⟨hx, hb, hml, hown, hts, hcl, hta, hao, hfr, hlo, hA, hX, hbl, hbA⟩ := C
  unfold rs_newq at h
  split at h
  · rename_i n st
    split at h
    · rename_i hbq
      simp only [Bool.and_eq_true, Nat.ble_eq, decide_eq_true_eq] at hbq
      obtain ⟨⟨b1, b2⟩, b3, b4⟩ := hbq
      cases h
      intro ad ls H locs h0 hF hH
      refine va_newq hx hb hown (hts _ hl) hao.2.1 hcl hH.2.1 hH.2.2.1 hH.2.2.2 hA b3 rfl (Nat.le_trans (Nat.mul_le_mul_right _ b4) (by decide)) b1 b2 hd (fun q cA H1 hK1 hP hD hS => ?_)
      have hcA : cA = G.2.2.1.2.2.2 5 := by
        obtain ⟨_, _, _, _, _, g1⟩ := (hK1.2 6 (cA, .object "AlikeSteps$Parting") rfl).2
        obtain ⟨_, _, _, _, _, g2⟩ := (hcl.2 4 _ rfl).2
        exact Option.some.inj (g1.symm.trans g2)
      subst hcA
      obtain ⟨ad', h1, h2, h3⟩ := pc_grow hH (e := .inr (10 + 5, n.toNatClampNeg, (fun _ => 0), (fun _ => none))) (fun _ _ h9 => by cases h9) (fun _ => rfl) hP hD hS
      have h4 := hW ad' ls H1 locs (h0.grow h1 (by simp)) ?_ h3
      · rw [List.map_cons, pc_map_congr h1 (pc_ok1 hF.2.2.2.2)] at h4
        simp only [pc_tv, h2] at h4
        exact h4
      · refine pc_F.stk (hF.grow h1 (by simp)) (pc_okc ?_ (fun v hv => (pc_ok1 hF.2.2.2.2 v hv).mono (by simp)))
        show hs.length < (hs ++ [_]).length
        simp
    · cases h
  · cases h
theorem rz_newq_9 {X : pj_X} {pc : Nat} (C : pc_C X) {i : Nat} (hd : decode (pj_cc X) pc = .ok (.anewarray i, 3)) (hl : Cond.classLink (pj_own X) i "AlikeSteps$Teller" ∈ pj_tb) : pc_S X pc (rs_newq 9 (pc + 3)) := by
  intro L st hs cn sn q h hW
  obtain ⟨G, A, ⟨cc, own, nL, ret, rk⟩, ⟨p, l, e, R⟩, ⟨s, mi, args, below, meth, c⟩, ⟨cells, slots, Q⟩⟩ := X
  obtain ⟨hx, hb, hml, hown, hts, hcl, hta, hao, hfr, hlo, hA, hX, hbl, hbA⟩ := C
  unfold rs_newq at h
  split at h
  · rename_i n st
    split at h
    · rename_i hbq
      simp only [Bool.and_eq_true, Nat.ble_eq, decide_eq_true_eq] at hbq
      obtain ⟨⟨b1, b2⟩, b3, b4⟩ := hbq
      cases h
      intro ad ls H locs h0 hF hH
      refine va_newq hx hb hown (hts _ hl) hao.2.2 hcl hH.2.1 hH.2.2.1 hH.2.2.2 hA b3 rfl (Nat.le_trans (Nat.mul_le_mul_right _ b4) (by decide)) b1 b2 hd (fun q cA H1 hK1 hP hD hS => ?_)
      have hcA : cA = G.2.2.1.2.2.2 9 := by
        obtain ⟨_, _, _, _, _, g1⟩ := (hK1.2 6 (cA, .object "AlikeSteps$Teller") rfl).2
        obtain ⟨_, _, _, _, _, g2⟩ := (hcl.2 5 _ rfl).2
        exact Option.some.inj (g1.symm.trans g2)
      subst hcA
      obtain ⟨ad', h1, h2, h3⟩ := pc_grow hH (e := .inr (10 + 9, n.toNatClampNeg, (fun _ => 0), (fun _ => none))) (fun _ _ h9 => by cases h9) (fun _ => rfl) hP hD hS
      have h4 := hW ad' ls H1 locs (h0.grow h1 (by simp)) ?_ h3
      · rw [List.map_cons, pc_map_congr h1 (pc_ok1 hF.2.2.2.2)] at h4
        simp only [pc_tv, h2] at h4
        exact h4
      · refine pc_F.stk (hF.grow h1 (by simp)) (pc_okc ?_ (fun v hv => (pc_ok1 hF.2.2.2.2 v hv).mono (by simp)))
        show hs.length < (hs ++ [_]).length
        simp
    · cases h
  · cases h
/-! fields -/
def rs_pf (ci k : Nat) (isr : Bool) (nx : Nat) : pc_T := fun _ L st hs cn sn => match st with
  | v :: .inr (some a) :: st => (match hs[a]? with
    | some (.inl (c, fs)) => (match (Nat.beq c ci && Nat.blt k fs.length) && (match v with
        | .inl _ => !isr
        | .inr (some _) => isr
        | .inr none => false) with
      | true => some (nx, L, st, hs.set a (.inl (c, fs.set k v)), cn, sn)
      | false => none)
    | _ => none)
  | _ => none
def rs_gf (ci k nx : Nat) : pc_T := fun _ L st hs cn sn => match st with
  | .inr (some a) :: st => (match hs[a]? with
    | some (.inl (c, fs)) => (match Nat.beq c ci with
      | true => (match fs[k]? with
        | some v => some (nx, L, v :: st, hs, cn, sn)
        | none => none)
      | false => none)
    | _ => none)
  | _ => none
theorem pc_okh_set {hs : List pc_E} {k : Nat} {e : pc_E} (h : pc_okh hs) (he : pc_oke hs.length e) : pc_okh (hs.set k e) := by
  intro x hx
  rw [List.length_set]
  rcases List.mem_or_eq_of_mem_set hx with h1 | h1
  · exact h x h1
  · rw [h1]; exact he
theorem rz_gf {X : pj_X} {pc : Nat} (C : pc_C X) {ci k i N : Nat} {Cn : String} {T : u_T} (hd : decode (pj_cc X) pc = .ok (.getfield i, 3)) (hc : vwCl[ci]? = some (Cn, T, N)) (hin : ∀ c ∈ u_ws Cn T N, c ∈ pj_tb) (hkN : k < N) (hl : Cond.fieldLink (pj_own X) i (T k).1 (T k).2.1 (T k).2.2.1 ∈ pj_tb) : pc_S X pc (rs_gf ci k (pc + 3)) := by
  intro L st hs cn sn q h hW
  obtain ⟨G, A, ⟨cc, own, nL, ret, rk⟩, ⟨p, l, e, R⟩, ⟨s, mi, args, below, meth, c⟩, ⟨cells, slots, Q⟩⟩ := X
  obtain ⟨hx, hb, hml, hown, hts, hcl, hta, hao, hfr, hlo, hA, hX, hbl, hbA⟩ := C
  unfold rs_gf at h
  split at h
  · rename_i a st
    split at h
    · rename_i c1 fs hc1
      split at h
      · rename_i hbq
        obtain rfl := Nat.eq_of_beq_eq_true hbq
        split at h
        · rename_i v hv
          cases h
          intro ad ls H locs h0 hF hH
          have hov : pc_okv hs.length v := hH.1 _ (List.mem_of_getElem? hc1) v (List.mem_of_getElem? hv)
          exact va_get hx hb hts hin hown hcl hH.2.1 a (pc_ws_at hc1) hc k hkN (hts _ hl) (fun _ h9 => h9) (by rw [List.getElem?_map, hv]; rfl) hd (hW ad ls H locs h0 (hF.stk (pc_okc hov (pc_ok1 hF.2.2.2.2))) hH)
        · cases h
      · cases h
    · cases h
  · cases h
def rs_pz (ci k nx : Nat) : pc_T := fun _ L st hs cn sn => match st with
  | v :: .inr (some a) :: st => (match hs[a]? with
    | some (.inl (c, fs)) => (match (Nat.beq c ci && Nat.blt k fs.length) && (match v with
        | .inl x => decide (x = 0)
        | .inr (some _) => false
        | .inr none => false) with
      | true => some (nx, L, st, hs.set a (.inl (c, fs.set k v)), cn, sn)
      | false => none)
    | _ => none)
  | _ => none
theorem rz_pfF {X : pj_X} {pc : Nat} (C : pc_C X) {ci k i N : Nat} {Cn : String} {T : u_T} {ty0 : Nat → FieldType} (hd : decode (pj_cc X) pc = .ok (.putfield i, 3)) (hc : vwCl[ci]? = some (Cn, T, N)) (hin : ∀ c ∈ u_ws Cn T N, c ∈ pj_tb) (hty : ∀ k, k < N → parseFieldDescriptor (T k).2.2.1 = some (ty0 k)) (hnm : ∀ a, a < N → ∀ b, b < N → a ≠ b → (T a).2.1 ≠ (T b).2.1) (hkN : k < N) (hl : Cond.fieldLink (pj_own X) i (T k).1 (T k).2.1 (T k).2.2.1 ∈ pj_tb) (hfin : (T k).2.2.2 = true) (hin2 : X.2.2.2.2.1.2.2.2.2.1.name = "<init>") (hdecl : (T k).1 = pj_own X) (hrf : ∀ a, narrow (ty0 k) (.ref a) = .ref a ∧ fits (ty0 k) (.ref a) = true) : pc_S X pc (rs_pf ci k true (pc + 3)) := by
  intro L st hs cn sn q h hW
  obtain ⟨G, A, ⟨cc, own, nL, ret, rk⟩, ⟨p, l, e, R⟩, ⟨s, mi, args, below, meth, c⟩, ⟨cells, slots, Q⟩⟩ := X
  obtain ⟨hx, hb, hml, hown, hts, hcl, hta, hao, hfr, hlo, hA, hX, hbl, hbA⟩ := C
  unfold rs_pf at h
  split at h
  · rename_i v a st
    split at h
    · rename_i c1 fs hc1
      split at h
      · rename_i hbq
        simp only [Bool.and_eq_true, Nat.beq_eq] at hbq
        obtain ⟨⟨rfl, hkl⟩, hvk⟩ := hbq
        have hkl : k < fs.length := Nat.le_of_ble_eq_true hkl
        cases h
        intro ad ls H locs h0 hF hH
        have hp := hty k hkN
        obtain ⟨b, rfl⟩ : ∃ b, v = .inr (some b) := by
          rcases v with x | _ | b
          · cases hvk
          · cases hvk
          · exact ⟨b, rfl⟩
        refine va_putF (v := (.ref (ad b))) (ty := ty0 k) hx hb hts hin ty0 hty hnm hown hcl hH.2.1 hH.2.2.1 hH.2.2.2 a (pc_ws_at hc1) hc k hkN (hts _ hl) (fun _ h9 => h9) hfin hin2 hdecl hp (hrf _).1 (hrf _).2 (by simpa using hkl) hd (fun H1 locs1 hP hD hS => ?_)
        have e1 := pc_ws_set (G := G) (ad := ad) (hs := hs) (k := a) (e := .inl (c1, fs.set k (.inr (some b))))
        have e2 : pc_te G ad (.inl (c1, fs.set k (.inr (some b)))) = .inr (c1, (fs.map (pc_tv ad)).set k (.ref (ad b))) := by
          simp only [pc_te, List.map_set]
          rfl
        rw [e2] at e1
        refine hW ad ls H1 locs1 (by simpa using h0) ?_ ⟨pc_okh_set hH.1 ?_, by rw [← e1]; exact hP, by rw [← e1]; exact hD, hS⟩
        · simp only [List.length_set]
          exact hF.stk (pc_ok1 (pc_ok1 hF.2.2.2.2))
        · intro u hu
          rcases List.mem_or_eq_of_mem_set hu with h1 | h1
          · exact hH.1 _ (List.mem_of_getElem? hc1) u h1
          · rw [h1]
            exact pc_okt hF.2.2.2.2
      · cases h
    · cases h
  · cases h
theorem rz_pfI {X : pj_X} {pc : Nat} (C : pc_C X) {ci k i N : Nat} {Cn : String} {T : u_T} {ty0 : Nat → FieldType} (hd : decode (pj_cc X) pc = .ok (.putfield i, 3)) (hc : vwCl[ci]? = some (Cn, T, N)) (hin : ∀ c ∈ u_ws Cn T N, c ∈ pj_tb) (hty : ∀ k, k < N → parseFieldDescriptor (T k).2.2.1 = some (ty0 k)) (hnm : ∀ a, a < N → ∀ b, b < N → a ≠ b → (T a).2.1 ≠ (T b).2.1) (hkN : k < N) (hl : Cond.fieldLink (pj_own X) i (T k).1 (T k).2.1 (T k).2.2.1 ∈ pj_tb) (hfin : (T k).2.2.2 = true) (hin2 : X.2.2.2.2.1.2.2.2.2.1.name = "<init>") (hdecl : (T k).1 = pj_own X) (hi : ty0 k = .int) : pc_S X pc (rs_pf ci k false (pc + 3)) := by
  intro L st hs cn sn q h hW
  obtain ⟨G, A, ⟨cc, own, nL, ret, rk⟩, ⟨p, l, e, R⟩, ⟨s, mi, args, below, meth, c⟩, ⟨cells, slots, Q⟩⟩ := X
  obtain ⟨hx, hb, hml, hown, hts, hcl, hta, hao, hfr, hlo, hA, hX, hbl, hbA⟩ := C
  unfold rs_pf at h
  split at h
  · rename_i v a st
    split at h
    · rename_i c1 fs hc1
      split at h
      · rename_i hbq
        simp only [Bool.and_eq_true, Nat.beq_eq] at hbq
        obtain ⟨⟨rfl, hkl⟩, hvk⟩ := hbq
        have hkl : k < fs.length := Nat.le_of_ble_eq_true hkl
        cases h
        intro ad ls H locs h0 hF hH
        have hp := hty k hkN
        obtain ⟨x, rfl⟩ : ∃ x, v = .inl x := by
          rcases v with x | _ | b
          · exact ⟨x, rfl⟩
          · cases hvk
          · cases hvk
        rw [hi] at hp
        refine va_putF (v := (.int x)) (ty := .int) hx hb hts hin ty0 hty hnm hown hcl hH.2.1 hH.2.2.1 hH.2.2.2 a (pc_ws_at hc1) hc k hkN (hts _ hl) (fun _ h9 => h9) hfin hin2 hdecl hp rfl rfl (by simpa using hkl) hd (fun H1 locs1 hP hD hS => ?_)
        have e1 := pc_ws_set (G := G) (ad := ad) (hs := hs) (k := a) (e := .inl (c1, fs.set k (.inl x)))
        have e2 : pc_te G ad (.inl (c1, fs.set k (.inl x))) = .inr (c1, (fs.map (pc_tv ad)).set k (.int x)) := by
          simp only [pc_te, List.map_set]
          rfl
        rw [e2] at e1
        refine hW ad ls H1 locs1 (by simpa using h0) ?_ ⟨pc_okh_set hH.1 ?_, by rw [← e1]; exact hP, by rw [← e1]; exact hD, hS⟩
        · simp only [List.length_set]
          exact hF.stk (pc_ok1 (pc_ok1 hF.2.2.2.2))
        · intro u hu
          rcases List.mem_or_eq_of_mem_set hu with h1 | h1
          · exact hH.1 _ (List.mem_of_getElem? hc1) u h1
          · rw [h1]
            exact pc_okt hF.2.2.2.2
      · cases h
    · cases h
  · cases h
theorem rz_pfi {X : pj_X} {pc : Nat} (C : pc_C X) {ci k i N : Nat} {Cn : String} {T : u_T} {ty0 : Nat → FieldType} (hd : decode (pj_cc X) pc = .ok (.putfield i, 3)) (hc : vwCl[ci]? = some (Cn, T, N)) (hin : ∀ c ∈ u_ws Cn T N, c ∈ pj_tb) (hty : ∀ k, k < N → parseFieldDescriptor (T k).2.2.1 = some (ty0 k)) (hnm : ∀ a, a < N → ∀ b, b < N → a ≠ b → (T a).2.1 ≠ (T b).2.1) (hkN : k < N) (hl : Cond.fieldLink (pj_own X) i (T k).1 (T k).2.1 (T k).2.2.1 ∈ pj_tb) (hfin : (T k).2.2.2 = false) (hi : ty0 k = .int) : pc_S X pc (rs_pf ci k false (pc + 3)) := by
  intro L st hs cn sn q h hW
  obtain ⟨G, A, ⟨cc, own, nL, ret, rk⟩, ⟨p, l, e, R⟩, ⟨s, mi, args, below, meth, c⟩, ⟨cells, slots, Q⟩⟩ := X
  obtain ⟨hx, hb, hml, hown, hts, hcl, hta, hao, hfr, hlo, hA, hX, hbl, hbA⟩ := C
  unfold rs_pf at h
  split at h
  · rename_i v a st
    split at h
    · rename_i c1 fs hc1
      split at h
      · rename_i hbq
        simp only [Bool.and_eq_true, Nat.beq_eq] at hbq
        obtain ⟨⟨rfl, hkl⟩, hvk⟩ := hbq
        have hkl : k < fs.length := Nat.le_of_ble_eq_true hkl
        cases h
        intro ad ls H locs h0 hF hH
        have hp := hty k hkN
        obtain ⟨x, rfl⟩ : ∃ x, v = .inl x := by
          rcases v with x | _ | b
          · exact ⟨x, rfl⟩
          · cases hvk
          · cases hvk
        rw [hi] at hp
        refine va_put (v := (.int x)) (ty := .int) hx hb hts hin ty0 hty hnm hown hcl hH.2.1 hH.2.2.1 hH.2.2.2 a (pc_ws_at hc1) hc k hkN (hts _ hl) (fun _ h9 => h9) hfin hp rfl rfl (by simpa using hkl) hd (fun H1 locs1 hP hD hS => ?_)
        have e1 := pc_ws_set (G := G) (ad := ad) (hs := hs) (k := a) (e := .inl (c1, fs.set k (.inl x)))
        have e2 : pc_te G ad (.inl (c1, fs.set k (.inl x))) = .inr (c1, (fs.map (pc_tv ad)).set k (.int x)) := by
          simp only [pc_te, List.map_set]
          rfl
        rw [e2] at e1
        refine hW ad ls H1 locs1 (by simpa using h0) ?_ ⟨pc_okh_set hH.1 ?_, by rw [← e1]; exact hP, by rw [← e1]; exact hD, hS⟩
        · simp only [List.length_set]
          exact hF.stk (pc_ok1 (pc_ok1 hF.2.2.2.2))
        · intro u hu
          rcases List.mem_or_eq_of_mem_set hu with h1 | h1
          · exact hH.1 _ (List.mem_of_getElem? hc1) u h1
          · rw [h1]
            exact pc_okt hF.2.2.2.2
      · cases h
    · cases h
  · cases h
theorem rz_pfz {X : pj_X} {pc : Nat} (C : pc_C X) {ci k i N : Nat} {Cn : String} {T : u_T} {ty0 : Nat → FieldType} (hd : decode (pj_cc X) pc = .ok (.putfield i, 3)) (hc : vwCl[ci]? = some (Cn, T, N)) (hin : ∀ c ∈ u_ws Cn T N, c ∈ pj_tb) (hty : ∀ k, k < N → parseFieldDescriptor (T k).2.2.1 = some (ty0 k)) (hnm : ∀ a, a < N → ∀ b, b < N → a ≠ b → (T a).2.1 ≠ (T b).2.1) (hkN : k < N) (hl : Cond.fieldLink (pj_own X) i (T k).1 (T k).2.1 (T k).2.2.1 ∈ pj_tb) (hfin : (T k).2.2.2 = false) (hi : ty0 k = .boolean) : pc_S X pc (rs_pz ci k (pc + 3)) := by
  intro L st hs cn sn q h hW
  obtain ⟨G, A, ⟨cc, own, nL, ret, rk⟩, ⟨p, l, e, R⟩, ⟨s, mi, args, below, meth, c⟩, ⟨cells, slots, Q⟩⟩ := X
  obtain ⟨hx, hb, hml, hown, hts, hcl, hta, hao, hfr, hlo, hA, hX, hbl, hbA⟩ := C
  unfold rs_pz at h
  split at h
  · rename_i v a st
    split at h
    · rename_i c1 fs hc1
      split at h
      · rename_i hbq
        simp only [Bool.and_eq_true, Nat.beq_eq] at hbq
        obtain ⟨⟨rfl, hkl⟩, hvk⟩ := hbq
        have hkl : k < fs.length := Nat.le_of_ble_eq_true hkl
        cases h
        intro ad ls H locs h0 hF hH
        have hp := hty k hkN
        obtain ⟨x, rfl⟩ : ∃ x, v = .inl x := by
          rcases v with x | _ | b
          · exact ⟨x, rfl⟩
          · cases hvk
          · cases hvk
        have hx0 : x = 0 := by simpa using hvk
        subst hx0
        rw [hi] at hp
        refine va_put (v := (.int 0)) (ty := .boolean) hx hb hts hin ty0 hty hnm hown hcl hH.2.1 hH.2.2.1 hH.2.2.2 a (pc_ws_at hc1) hc k hkN (hts _ hl) (fun _ h9 => h9) hfin hp (by decide +kernel) (by decide +kernel) (by simpa using hkl) hd (fun H1 locs1 hP hD hS => ?_)
        have e1 := pc_ws_set (G := G) (ad := ad) (hs := hs) (k := a) (e := .inl (c1, fs.set k (.inl 0)))
        have e2 : pc_te G ad (.inl (c1, fs.set k (.inl 0))) = .inr (c1, (fs.map (pc_tv ad)).set k (.int 0)) := by
          simp only [pc_te, List.map_set]
          rfl
        rw [e2] at e1
        refine hW ad ls H1 locs1 (by simpa using h0) ?_ ⟨pc_okh_set hH.1 ?_, by rw [← e1]; exact hP, by rw [← e1]; exact hD, hS⟩
        · simp only [List.length_set]
          exact hF.stk (pc_ok1 (pc_ok1 hF.2.2.2.2))
        · intro u hu
          rcases List.mem_or_eq_of_mem_set hu with h1 | h1
          · exact hH.1 _ (List.mem_of_getElem? hc1) u h1
          · rw [h1]
            exact pc_okt hF.2.2.2.2
      · cases h
    · cases h
  · cases h
def rs_ast (cr : Nat) (nx : Nat) : pc_T := fun _ L st hs cn sn => match st with
  | .inr (some v) :: .inl i :: .inr (some a) :: st => (match hs[a]?, hs[v]? with
    | some (.inr (k, n, f, g)), some (.inl (c, _)) => (match (Nat.beq k (10 + cr) && Nat.beq c cr) && decide (¬ (i < 0 ∨ n ≤ i.toNatClampNeg)) with
      | true => some (nx, L, st, hs.set a (.inr (k, n, f, va_up g i.toNatClampNeg (some v))), cn, sn)
      | false => none)
    | _, _ => none)
  | _ => none
def rs_iast (nx : Nat) : pc_T := fun _ L st hs cn sn => match st with
  | .inl x :: .inl i :: .inr (some a) :: st => (match hs[a]? with
    | some (.inr (k, n, f, g)) => (match Nat.beq k 1 && decide (¬ (i < 0 ∨ n ≤ i.toNatClampNeg)) with
      | true => some (nx, L, st, hs.set a (.inr (k, n, upd f i.toNatClampNeg x, g)), cn, sn)
      | false => none)
    | _ => none)
  | _ => none
def rs_alen (cr : Nat) (nx : Nat) : pc_T := fun _ L st hs cn sn => match st with
  | .inr (some a) :: st => (match hs[a]? with
    | some (.inr (k, n, _, _)) => (match Nat.beq k (10 + cr) with
      | true => some (nx, L, .inl (Int32.ofNat n) :: st, hs, cn, sn)
      | false => none)
    | _ => none)
  | _ => none
theorem rz_iast {X : pj_X} {pc : Nat} (C : pc_C X) (hd : decode (pj_cc X) pc = .ok (.iastore, 1)) : pc_S X pc (rs_iast (pc + 1)) := by
  intro L st hs cn sn q h hW
  obtain ⟨G, A, ⟨cc, own, nL, ret, rk⟩, ⟨p, l, e, R⟩, ⟨s, mi, args, below, meth, c⟩, ⟨cells, slots, Q⟩⟩ := X
  obtain ⟨hx, hb, hml, hown, hts, hcl, hta, hao, hfr, hlo, hA, hX, hbl, hbA⟩ := C
  unfold rs_iast at h
  split at h
  · rename_i x i a st
    split at h
    · rename_i k n f g hc1
      split at h
      · rename_i hbq
        simp only [Bool.and_eq_true, Nat.beq_eq, decide_eq_true_eq] at hbq
        obtain ⟨rfl, hi⟩ := hbq
        cases h
        intro ad ls H locs h0 hF hH
        refine va_iast hx hb hcl hH.2.1 hH.2.2.1 hH.2.2.2 a 0 (pc_ws_at hc1) rfl hi hd (fun H1 locs1 hP hD hS => ?_)
        have e1 := pc_ws_set (G := G) (ad := ad) (hs := hs) (k := a) (e := .inr (1, n, upd f i.toNatClampNeg x, g))
        refine hW ad ls H1 locs1 (by simpa using h0) ?_ ⟨pc_okh_set hH.1 (show pc_oke hs.length (.inr (1, n, upd f i.toNatClampNeg x, g)) from (show pc_oke hs.length (.inr (1, n, f, g)) from hH.1 _ (List.mem_of_getElem? hc1))), by rw [← e1]; exact hP, by rw [← e1]; exact hD, hS⟩
        simp only [List.length_set]
        exact hF.stk (pc_ok1 (pc_ok1 (pc_ok1 hF.2.2.2.2)))
      · cases h
    · cases h
  · cases h
theorem rz_ast_4 {X : pj_X} {pc : Nat} (C : pc_C X) (hd : decode (pj_cc X) pc = .ok (.aastore, 1)) : pc_S X pc (rs_ast 4 (pc + 1)) := by
  intro L st hs cn sn q h hW
  obtain ⟨G, A, ⟨cc, own, nL, ret, rk⟩, ⟨p, l, e, R⟩, ⟨s, mi, args, below, meth, c⟩, ⟨cells, slots, Q⟩⟩ := X
  obtain ⟨hx, hb, hml, hown, hts, hcl, hta, hao, hfr, hlo, hA, hX, hbl, hbA⟩ := C
  unfold rs_ast at h
  split at h
  · rename_i v i a st
    split at h
    · rename_i k n f g c1 vs hc1 hc2
      split at h
      · rename_i hbq
        simp only [Bool.and_eq_true, Nat.beq_eq, decide_eq_true_eq] at hbq
        obtain ⟨⟨rfl, rfl⟩, hi⟩ := hbq
        cases h
        intro ad ls H locs h0 hF hH
        refine va_astq hx hb hcl hH.2.1 hH.2.2.1 hH.2.2.2 a 3 v 4 (pc_ws_at hc1) rfl (pc_ws_at hc2) vcX4 hi hd (fun H1 locs1 hP hD hS => ?_)
        have e1 := pc_ws_set (G := G) (ad := ad) (hs := hs) (k := a) (e := .inr (10 + 4, n, f, va_up g i.toNatClampNeg (some v)))
        have e2 : pc_te G ad (.inr (10 + 4, n, f, va_up g i.toNatClampNeg (some v))) = .inl (G.2.2.1.2.2.2 4, n, .inr (.inr (.inr (.inr (va_up (fun j => (g j).map ad) i.toNatClampNeg (some (ad v))))))) := by
          simp only [pc_te]
          congr 7
          funext j
          simp only [va_up]
          split <;> rfl
        rw [e2] at e1
        refine hW ad ls H1 locs1 (by simpa using h0) ?_ ⟨pc_okh_set hH.1 ?_, by rw [← e1]; exact hP, by rw [← e1]; exact hD, hS⟩
        · simp only [List.length_set]
          exact hF.stk (pc_ok1 (pc_ok1 (pc_ok1 hF.2.2.2.2)))
        · intro j u hu
          have hog := hH.1 _ (List.mem_of_getElem? hc1)
          simp only [va_up] at hu
          split at hu
          · cases hu
            exact pc_okt hF.2.2.2.2
          · exact hog j u hu
      · cases h
    · cases h
  · cases h
theorem rz_alen_4 {X : pj_X} {pc : Nat} (C : pc_C X) (hd : decode (pj_cc X) pc = .ok (.arraylength, 1)) : pc_S X pc (rs_alen 4 (pc + 1)) := by
  intro L st hs cn sn q h hW
  obtain ⟨G, A, ⟨cc, own, nL, ret, rk⟩, ⟨p, l, e, R⟩, ⟨s, mi, args, below, meth, c⟩, ⟨cells, slots, Q⟩⟩ := X
  obtain ⟨hx, hb, hml, hown, hts, hcl, hta, hao, hfr, hlo, hA, hX, hbl, hbA⟩ := C
  unfold rs_alen at h
  split at h
  · rename_i a st
    split at h
    · rename_i k n f g hc1
      split at h
      · rename_i hbq
        obtain rfl := Nat.eq_of_beq_eq_true hbq
        cases h
        intro ad ls H locs h0 hF hH
        exact va_alen hx hb hcl hH.2.1 a 3 (pc_ws_at hc1) rfl rfl hd (hW ad ls H locs h0 (hF.stk (pc_okc trivial (pc_ok1 hF.2.2.2.2))) hH)
      · cases h
    · cases h
  · cases h
theorem rz_ast_5 {X : pj_X} {pc : Nat} (C : pc_C X) (hd : decode (pj_cc X) pc = .ok (.aastore, 1)) : pc_S X pc (rs_ast 5 (pc + 1)) := by
  intro L st hs cn sn q h hW
  obtain ⟨G, A, ⟨cc, own, nL, ret, rk⟩, ⟨p, l, e, R⟩, ⟨s, mi, args, below, meth, c⟩, ⟨cells, slots, Q⟩⟩ := X
  obtain ⟨hx, hb, hml, hown, hts, hcl, hta, hao, hfr, hlo, hA, hX, hbl, hbA⟩ := C
  unfold rs_ast at h
  split at h
  · rename_i v i a st
    split at h
    · rename_i k n f g c1 vs hc1 hc2
      split at h
      · rename_i hbq
        simp only [Bool.and_eq_true, Nat.beq_eq, decide_eq_true_eq] at hbq
        obtain ⟨⟨rfl, rfl⟩, hi⟩ := hbq
        cases h
        intro ad ls H locs h0 hF hH
        refine va_astq hx hb hcl hH.2.1 hH.2.2.1 hH.2.2.2 a 4 v 5 (pc_ws_at hc1) rfl (pc_ws_at hc2) vcX5 hi hd (fun H1 locs1 hP hD hS => ?_)
        have e1 := pc_ws_set (G := G) (ad := ad) (hs := hs) (k := a) (e := .inr (10 + 5, n, f, va_up g i.toNatClampNeg (some v)))
        have e2 : pc_te G ad (.inr (10 + 5, n, f, va_up g i.toNatClampNeg (some v))) = .inl (G.2.2.1.2.2.2 5, n, .inr (.inr (.inr (.inr (va_up (fun j => (g j).map ad) i.toNatClampNeg (some (ad v))))))) := by
          simp only [pc_te]
          congr 7
          funext j
          simp only [va_up]
          split <;> rfl
        rw [e2] at e1
        refine hW ad ls H1 locs1 (by simpa using h0) ?_ ⟨pc_okh_set hH.1 ?_, by rw [← e1]; exact hP, by rw [← e1]; exact hD, hS⟩
        · simp only [List.length_set]
          exact hF.stk (pc_ok1 (pc_ok1 (pc_ok1 hF.2.2.2.2)))
        · intro j u hu
          have hog := hH.1 _ (List.mem_of_getElem? hc1)
          simp only [va_up] at hu
          split at hu
          · cases hu
            exact pc_okt hF.2.2.2.2
          · exact hog j u hu
      · cases h
    · cases h
  · cases h
theorem rz_alen_5 {X : pj_X} {pc : Nat} (C : pc_C X) (hd : decode (pj_cc X) pc = .ok (.arraylength, 1)) : pc_S X pc (rs_alen 5 (pc + 1)) := by
  intro L st hs cn sn q h hW
  obtain ⟨G, A, ⟨cc, own, nL, ret, rk⟩, ⟨p, l, e, R⟩, ⟨s, mi, args, below, meth, c⟩, ⟨cells, slots, Q⟩⟩ := X
  obtain ⟨hx, hb, hml, hown, hts, hcl, hta, hao, hfr, hlo, hA, hX, hbl, hbA⟩ := C
  unfold rs_alen at h
  split at h
  · rename_i a st
    split at h
    · rename_i k n f g hc1
      split at h
      · rename_i hbq
        obtain rfl := Nat.eq_of_beq_eq_true hbq
        cases h
        intro ad ls H locs h0 hF hH
        exact va_alen hx hb hcl hH.2.1 a 4 (pc_ws_at hc1) rfl rfl hd (hW ad ls H locs h0 (hF.stk (pc_okc trivial (pc_ok1 hF.2.2.2.2))) hH)
      · cases h
    · cases h
  · cases h
theorem rz_ast_9 {X : pj_X} {pc : Nat} (C : pc_C X) (hd : decode (pj_cc X) pc = .ok (.aastore, 1)) : pc_S X pc (rs_ast 9 (pc + 1)) := by
  intro L st hs cn sn q h hW
  obtain ⟨G, A, ⟨cc, own, nL, ret, rk⟩, ⟨p, l, e, R⟩, ⟨s, mi, args, below, meth, c⟩, ⟨cells, slots, Q⟩⟩ := X
  obtain ⟨hx, hb, hml, hown, hts, hcl, hta, hao, hfr, hlo, hA, hX, hbl, hbA⟩ := C
  unfold rs_ast at h
  split at h
  · rename_i v i a st
    split at h
    · rename_i k n f g c1 vs hc1 hc2
      split at h
      · rename_i hbq
        simp only [Bool.and_eq_true, Nat.beq_eq, decide_eq_true_eq] at hbq
        obtain ⟨⟨rfl, rfl⟩, hi⟩ := hbq
        cases h
        intro ad ls H locs h0 hF hH
        refine va_astq hx hb hcl hH.2.1 hH.2.2.1 hH.2.2.2 a 5 v 9 (pc_ws_at hc1) rfl (pc_ws_at hc2) vcX9 hi hd (fun H1 locs1 hP hD hS => ?_)
        have e1 := pc_ws_set (G := G) (ad := ad) (hs := hs) (k := a) (e := .inr (10 + 9, n, f, va_up g i.toNatClampNeg (some v)))
        have e2 : pc_te G ad (.inr (10 + 9, n, f, va_up g i.toNatClampNeg (some v))) = .inl (G.2.2.1.2.2.2 9, n, .inr (.inr (.inr (.inr (va_up (fun j => (g j).map ad) i.toNatClampNeg (some (ad v))))))) := by
          simp only [pc_te]
          congr 7
          funext j
          simp only [va_up]
          split <;> rfl
        rw [e2] at e1
        refine hW ad ls H1 locs1 (by simpa using h0) ?_ ⟨pc_okh_set hH.1 ?_, by rw [← e1]; exact hP, by rw [← e1]; exact hD, hS⟩
        · simp only [List.length_set]
          exact hF.stk (pc_ok1 (pc_ok1 (pc_ok1 hF.2.2.2.2)))
        · intro j u hu
          have hog := hH.1 _ (List.mem_of_getElem? hc1)
          simp only [va_up] at hu
          split at hu
          · cases hu
            exact pc_okt hF.2.2.2.2
          · exact hog j u hu
      · cases h
    · cases h
  · cases h
theorem rz_alen_9 {X : pj_X} {pc : Nat} (C : pc_C X) (hd : decode (pj_cc X) pc = .ok (.arraylength, 1)) : pc_S X pc (rs_alen 9 (pc + 1)) := by
  intro L st hs cn sn q h hW
  obtain ⟨G, A, ⟨cc, own, nL, ret, rk⟩, ⟨p, l, e, R⟩, ⟨s, mi, args, below, meth, c⟩, ⟨cells, slots, Q⟩⟩ := X
  obtain ⟨hx, hb, hml, hown, hts, hcl, hta, hao, hfr, hlo, hA, hX, hbl, hbA⟩ := C
  unfold rs_alen at h
  split at h
  · rename_i a st
    split at h
    · rename_i k n f g hc1
      split at h
      · rename_i hbq
        obtain rfl := Nat.eq_of_beq_eq_true hbq
        cases h
        intro ad ls H locs h0 hF hH
        exact va_alen hx hb hcl hH.2.1 a 5 (pc_ws_at hc1) rfl rfl hd (hW ad ls H locs h0 (hF.stk (pc_okc trivial (pc_ok1 hF.2.2.2.2))) hH)
      · cases h
    · cases h
  · cases h
/-! Object.<init>; constructors -/
def rs_obj (nx : Nat) : pc_T := fun _ L st hs cn sn => match st with
  | .inr (some _) :: st => (match Nat.ble st.length 8 with
    | true => some (nx, L, st, hs, cn, sn)
    | false => none)
  | _ => none
theorem rz_obj {X : pj_X} {pc : Nat} (C : pc_C X) {i : Nat} (hd : decode (pj_cc X) pc = .ok (.invokespecial i, 3)) (h1 : Cond.methodLink (pj_own X) i Lib.objectInit ∈ pj_tb) (h2 : Cond.instanceMethod Lib.objectInit ∈ pj_tb) (h3 : Cond.code Lib.objectInit ⟨#[0xb1]⟩ 1 none ∈ pj_tb) : pc_S X pc (rs_obj (pc + 3)) := by
  intro L st hs cn sn q h hW
  obtain ⟨G, A, ⟨cc, own, nL, ret, rk⟩, ⟨p, l, e, R⟩, ⟨s, mi, args, below, meth, c⟩, ⟨cells, slots, Q⟩⟩ := X
  obtain ⟨hx, hb, hml, hown, hts, hcl, hta, hao, hfr, hlo, hA, hX, hbl, hbA⟩ := C
  unfold rs_obj at h
  split at h
  · rename_i a st
    split at h
    · rename_i hbq
      have hbq := Nat.le_of_ble_eq_true hbq
      cases h
      intro ad ls H locs h0 hF hH
      have hct := pc_cat_le ad st
      exact W.objInit hx hb hown (hts _ h1) (hts _ h2) (hts _ h3) rfl (hF.1.trans hml.symm) rfl hd (by omega) (by show 2 * 0 + _ + 12 ≤ _; rw [hct]; omega) (hW ad ls H locs h0 (hF.stk (pc_ok1 hF.2.2.2.2)) hH)
    · cases h
  · cases h
def pc_Aw (ad : Nat → Nat) (n sz : Nat) : Nat → Prop := fun q => (∃ k, k < n ∧ q = ad k) ∨ sz ≤ q
def pc_Pre (G : pj_E) (ad : Nat → Nat) (hs : List pc_E) (sz : Nat) (U : State) : Prop := U.heap.size = sz ∧ pc_okh hs ∧ va_P G.1 vwCl (pc_ws G ad hs) U.heap ∧ va_K G.1 vwCl (pj_tys G) U ∧ va_D (pc_Aw ad hs.length sz) (pc_ws G ad hs) ∧ (va_AO "AlikeSteps$Net" U ∧ va_AO "AlikeSteps$Parting" U ∧ va_AO "AlikeSteps$Teller" U) ∧ va_X G.2.2.2.1 G.2.2.2.2.1 G.2.2.2.2.2 U U.heap ∧ G.2.2.2.1 < U.heap.size ∧ ¬ pc_Aw ad hs.length sz G.2.2.2.1
def pc_Qc (G : pj_E) (ad : Nat → Nat) (n sz : Nat) (hs : List pc_E) : Array Value → State → Outcome → State → Prop := fun _ st oc t =>
  oc = .returned none ∧ (∃ ad' : Nat → Nat, (∀ k, k < n → ad' k = ad k) ∧ pc_okh hs ∧ n ≤ hs.length ∧ va_P G.1 vwCl (pc_ws G ad' hs) t.heap ∧ va_D (pc_Aw ad n sz) (pc_ws G ad' hs)) ∧ va_F (pc_Aw ad n sz) st t
def pc_rm (rk cn sn : Nat) : Room := { frames := rk + 1, cells := cn, slots := sn, locals := 60 * (rk + 1) }
/-- a constructor's contract: the heap, the cells and slots that it makes -/
def pc_Ct (y : MethodName) (cc : ByteArray) (nL rk : Nat) (F : List pc_V → List pc_E → Option (List pc_E × Nat × Nat)) : Prop :=
  ∀ (l : Launch) (G : pj_E) (ad : Nat → Nat) (sz : Nat) (as : List pc_V) (hs : List pc_E) (r : List pc_E × Nat × Nat), F as hs = some r → (∀ v ∈ as, pc_okv hs.length v) → Met l y (Cond.code y cc nL none :: pj_tb) (pc_rm rk r.2.1 r.2.2) (va_Pc (as.map (pc_tv ad)) (pc_Pre G ad hs sz)) (pc_Qc G ad hs.length sz r.1) r.2.1 r.2.2 (pc_Aw ad hs.length sz)
theorem pc_Pre_blind (G : pj_E) (ad : Nat → Nat) (hs : List pc_E) (sz : Nat) (av : List Value) : FrameBlind (va_Pc av (pc_Pre G ad hs sz)) := by
  intro a U g mk h
  obtain ⟨h0, h1, h2, h3, h4, h5, h6, h7, h8, h9⟩ := h
  exact ⟨h0, h1, h2, h3, va_K.moved (u := U) (U := U.calling g mk a) (Vm.Alike.refl U.vm) h4, h5, ⟨va_AO.moved (u := U) (U := U.calling g mk a) (Vm.Alike.refl U.vm) h6.1, va_AO.moved (u := U) (U := U.calling g mk a) (Vm.Alike.refl U.vm) h6.2.1, va_AO.moved (u := U) (U := U.calling g mk a) (Vm.Alike.refl U.vm) h6.2.2⟩, va_X.moved (u := U) (U := U.calling g mk a) (Vm.Alike.refl U.vm) h7, h8, h9⟩
def rs_init (n : Nat) (F : List pc_V → List pc_E → Option (List pc_E × Nat × Nat)) (nx : Nat) : pc_T := fun r L st hs cn sn => match (st.take n).reverse with
  | .inr (some a) :: as => (match F (.inr (some a) :: as) hs with
    | some (hs', c1, s1) => (match (Nat.ble (cn + c1) r.1 && Nat.ble (sn + s1) r.2) && (Nat.ble (st.drop n).length 8 && Nat.beq (as.length + 1) n) with
      | true => some (nx, L, st.drop n, hs', cn + c1, sn + s1)
      | false => none)
    | none => none)
  | _ => none
def pc_mi (y : MethodName) (cc : ByteArray) (nL n : Nat) : Prop := (Cond.code y cc nL none ∈ pj_tb ∧ Cond.instanceMethod y ∈ pj_tb ∧ Cond.initialized y.cls ∈ pj_tb) ∧ (y.cls ≠ "java/lang/invoke/MethodHandle" ∧ y.cls ≠ "java/lang/invoke/VarHandle" ∧ (parseMethodDescriptor y.desc).map (fun d => d.parameters.length) = some n) ∧ nL ≤ 40 ∧ y.name = "<init>"
theorem pc_callI {p : Program} {l : Launch} {e : Env} {R : Room} {s : State} {mi : MethodId} {args : Array Value} {below : List Frame} {meth : Method} {c : Code} {H : Heap} {locs : List Loc} {cn sn : Nat} {Q : State → Prop} {pc : Nat} {ls : Array Slot} {rest : List Value} {G : pj_E} {A : Nat → Prop} {ad : Nat → Nat} {hs hs' : List pc_E} {as : List pc_V} {a c1 s1 : Nat} {cc : ByteArray} {own : String} {nL rk : Nat}
    {y : MethodName} {cc' : ByteArray} {nL' n rk' i : Nat} {F : List pc_V → List pc_E → Option (List pc_E × Nat × Nat)} (hx : p.tables.exec = Jvm.exec) (hb : c.code = cc) (hml : c.maxLocals = nL) (hown : s.vm.findClass own = some mi.cls) (hts : ∀ w ∈ pj_tb, w.before args s = true) (hcl : va_K G.1 vwCl (pj_tys G) s) (hao : va_AO "AlikeSteps$Net" s ∧ va_AO "AlikeSteps$Parting" s ∧ va_AO "AlikeSteps$Teller" s)
    (hfr : rk + 1 ≤ R.frames) (hlo : 60 * (rk + 1) ≤ R.locals) (hA : ∀ q, s.heap.size ≤ q → A q) (hX : va_X G.2.2.2.1 G.2.2.2.2.1 G.2.2.2.2.2 s s.heap) (hbl : G.2.2.2.1 < s.heap.size) (hbA : ¬ A G.2.2.2.1)
    (hd : decode cc pc = .ok (.invokespecial i, 3)) (ct : pc_Ct y cc' nL' rk' F) (hw : pc_mi y cc' nL' n) (hl : Cond.methodLink own i y ∈ pj_tb) (hrk : rk' < rk) (hF1 : F (.inr (some a) :: as) hs = some (hs', c1, s1)) (hoka : ∀ v ∈ (.inr (some a) : pc_V) :: as, pc_okv hs.length v) (hH : pc_Hp G A ad hs s H locs) (hlen : as.length = n) (hsz : ls.size = nL) (hcat : (rest.map fun v => v.category).sum ≤ 8) (hcn : cn + c1 ≤ R.cells) (hsn : sn + s1 ≤ R.slots)
    (kk : ∀ (ad' : Nat → Nat) (H1 : Heap) (locs1 : List Loc), (∀ k, k < hs.length → ad' k = ad k) → hs.length ≤ hs'.length → pc_Hp G A ad' hs' s H1 locs1 → W p l e R s mi args below meth c H1 locs1 (cn + c1) (sn + s1) Q (F0 mi (pc + 3) ls rest)) : W p l e R s mi args below meth c H locs cn sn Q (F0 mi pc ls ((as.map (pc_tv ad)).reverse ++ .ref (ad a) :: rest)) := by
  have hM := ct l G ad H.size _ hs _ hF1 hoka
  obtain ⟨⟨w1, w2, w4⟩, hdd, hn40, hname⟩ := hw
  have cb : CallB R s args own i y cc' nL' none (Cond.code y cc' nL' none :: pj_tb) (pc_rm rk' c1 s1) c1 s1 n := callB_of n hts (pj_good w1) rfl rfl rfl (hts _ w4) (hts _ hl) hdd ⟨by simp only [pc_rm]; omega, by simp only [pc_rm]; omega⟩
  have hin : ∀ q, pc_Aw ad hs.length H.size q → A q := by
    rintro q (⟨k, hk, rfl⟩ | hq)
    · exact hH.2.2.1.2 k _ (pc_ws_at (List.getElem?_eq_getElem hk))
    · exact hA q (Nat.le_trans hH.2.2.2.1 hq)
  have hrun := va_runI (p := p) (l := l) (e := e) (R := R) (s := s) (m := mi) (args := args) (below := below) (meth := meth) (c := c) (H := H) (locs := locs) (cells := cn) (slots := sn) (As := as.map (pc_tv ad)) (rest := rest) (b := ad a) (g := F0 mi pc ls ((as.map (pc_tv ad)).reverse ++ .ref (ad a) :: rest)) ⟨hx, hb, hml, hown, hts⟩ hM ⟨cb, hname, hts _ w2⟩ ⟨pc_Pre_blind G ad hs H.size _, fun U hU hWm => ⟨rfl, by rw [hU], hH.1, by rw [hU]; exact hH.2.1, va_K.moved hWm.alike hcl, ⟨hH.2.2.1.1, fun k q hk => by
      obtain ⟨e9, h9, rfl⟩ := pc_ws_of hk
      exact Or.inl ⟨k, (List.getElem?_eq_some_iff.mp h9).1, rfl⟩⟩, ⟨va_AO.moved hWm.alike hao.1, va_AO.moved hWm.alike hao.2.1, va_AO.moved hWm.alike hao.2.2⟩, by rw [hU]; exact va_X.moved hWm.alike (hX.kept (hH.2.2.2.2.1 _ hbl hbA)), by rw [hU]; exact Nat.lt_of_lt_of_le hbl hH.2.2.2.1, fun h9 => hbA (hin _ h9)⟩⟩ rfl (by simp [hlen]) hsz rfl (lv_room hcat) hd ⟨hcn, hsn⟩
  intro T hT Xs
  obtain ⟨v, st₀, t, T', L9, h00, X', hL, e1, e2, ⟨hv, ⟨ad', g1, g2, g3, g4, g5⟩, hz, hk⟩, stp⟩ := hrun T hT Xs
  cases hv
  rw [h00] at hz hk
  obtain ⟨hP0, hD0, hS⟩ := hH.2
  obtain ⟨t2, a1, b1⟩ := kk ad' T'.heap (locs ++ L9) g1 g3 ⟨g2, by rw [e1]; exact g4, g5.weaken (fun k q _ h9 => hin _ h9), ⟨Nat.le_trans hS.1 (by rw [e1]; exact hz), fun q h1 h2 => by rw [e1, hk q (Nat.lt_of_lt_of_le h1 hS.1) (fun z => h2 (hin q z))]; exact hS.2.1 q h1 h2, fun q hq => by
      rcases List.mem_append.mp hq with h | h
      · exact hS.2.2 q h
      · exact hin _ (hL q h)⟩⟩ T' rfl X'
  exact ⟨t2, stp t2 a1, b1⟩
theorem rz_init {X : pj_X} {pc : Nat} (C : pc_C X) {y : MethodName} {cc' : ByteArray} {nL' n rk' i : Nat} {F : List pc_V → List pc_E → Option (List pc_E × Nat × Nat)} (hd : decode (pj_cc X) pc = .ok (.invokespecial i, 3)) (ct : pc_Ct y cc' nL' rk' F) (hw : pc_mi y cc' nL' n) (hl : Cond.methodLink (pj_own X) i y ∈ pj_tb) (hrk : rk' < pj_rk X) : pc_S X pc (rs_init (n + 1) F (pc + 3)) := by
  intro L st hs cn sn q h hW
  obtain ⟨G, A, ⟨cc, own, nL, ret, rk⟩, ⟨p, l, e, R⟩, ⟨s, mi, args, below, meth, c⟩, ⟨cells, slots, Q⟩⟩ := X
  obtain ⟨hx, hb, hml, hown, hts, hcl, hta, hao, hfr, hlo, hA, hX, hbl, hbA⟩ := C
  unfold rs_init at h
  split at h
  · rename_i a as hst
    split at h
    · rename_i hs' c1 s1 hF1
      split at h
      · rename_i hbq
        simp only [Bool.and_eq_true, Nat.beq_eq, Nat.ble_eq] at hbq
        obtain ⟨⟨hcn, hsn⟩, hcat, hlen⟩ := hbq
        cases h
        intro ad ls H locs h0 hF hH
        have hok := hF.2.2.2.2
        have hoka : ∀ v ∈ (.inr (some a) : pc_V) :: as, pc_okv hs.length v := by
          rw [← hst]
          exact fun v hv => hok v (List.mem_of_mem_take (List.mem_reverse.mp hv))
        have hct := pc_cat_le ad (st.drop (n + 1))
        have hstk : st.map (pc_tv ad) = (as.map (pc_tv ad)).reverse ++ .ref (ad a) :: (st.drop (n + 1)).map (pc_tv ad) := by
          conv => lhs; rw [pj_split st (n + 1) _ as hst]
          rw [List.map_append, List.map_cons, List.map_reverse]
          rfl
        rw [hstk]
        refine pc_callI (rk := rk) hx hb hml hown hts hcl hao hfr hlo hA hX hbl hbA hd ct hw hl hrk hF1 hoka hH (by omega) hF.1 (by rw [hct]; exact hcat) hcn hsn (fun ad' H1 locs1 g1 g3 hH1 => ?_)
        have h4 := hW ad' ls H1 locs1 (h0.grow g1 g3) ((hF.stk (fun v hv => hok v (List.mem_of_mem_drop hv))).grow g1 g3) hH1
        rw [pc_map_congr g1 (fun v hv => hok v (List.mem_of_mem_drop hv))] at h4
        exact h4
      · cases h
    · cases h
  · cases h
/-! a run: to the first place that isn't in the table; what was computed is laid out at every step (pc_n..: they change nothing) -/
def pc_nn {α : Type} (n : Nat) (k : Nat → α) : α := match n with
  | 0 => k 0
  | n + 1 => k (n + 1)
def pc_nv {α : Type} (v : pc_V) (k : pc_V → α) : α := match v with
  | .inl x => k (.inl x)
  | .inr none => k (.inr none)
  | .inr (some n) => pc_nn n (fun n => k (.inr (some n)))
def pc_nvs {α : Type} (l : List pc_V) (k : List pc_V → α) : α := match l with
  | [] => k []
  | v :: l => pc_nv v (fun v => pc_nvs l (fun l => k (v :: l)))
def pc_nL {α : Type} (l : List (Option pc_V)) (k : List (Option pc_V) → α) : α := match l with
  | [] => k []
  | none :: l => pc_nL l (fun l => k (none :: l))
  | some v :: l => pc_nv v (fun v => pc_nL l (fun l => k (some v :: l)))
def pc_ne {α : Type} (e : pc_E) (k : pc_E → α) : α := match e with
  | .inl (c, fs) => pc_nn c (fun c => pc_nvs fs (fun fs => k (.inl (c, fs))))
  | .inr (t, n, f, g) => pc_nn t (fun t => pc_nn n (fun n => k (.inr (t, n, f, g))))
def pc_nh {α : Type} (l : List pc_E) (k : List pc_E → α) : α := match l with
  | [] => k []
  | e :: l => pc_ne e (fun e => pc_nh l (fun l => k (e :: l)))
theorem pc_nn_eq {α : Type} (n : Nat) (k : Nat → α) : pc_nn n k = k n := by cases n <;> rfl
theorem pc_nv_eq {α : Type} (v : pc_V) (k : pc_V → α) : pc_nv v k = k v := by
  rcases v with x | _ | n
  · rfl
  · rfl
  · simp only [pc_nv, pc_nn_eq]
theorem pc_nvs_eq {α : Type} (l : List pc_V) : ∀ k : List pc_V → α, pc_nvs l k = k l := by
  induction l with
  | nil => intro k; rfl
  | cons v l ih => intro k; simp only [pc_nvs, pc_nv_eq, ih]
theorem pc_nL_eq {α : Type} (l : List (Option pc_V)) : ∀ k : List (Option pc_V) → α, pc_nL l k = k l := by
  induction l with
  | nil => intro k; rfl
  | cons v l ih =>
    intro k
    cases v with
    | none => simp only [pc_nL, ih]
    | some v => simp only [pc_nL, pc_nv_eq, ih]
theorem pc_ne_eq {α : Type} (e : pc_E) (k : pc_E → α) : pc_ne e k = k e := by
  rcases e with ⟨c, fs⟩ | ⟨t, n, f, g⟩
  · simp only [pc_ne, pc_nn_eq, pc_nvs_eq]
  · simp only [pc_ne, pc_nn_eq]
theorem pc_nh_eq {α : Type} (l : List pc_E) : ∀ k : List pc_E → α, pc_nh l k = k l := by
  induction l with
  | nil => intro k; rfl
  | cons e l ih => intro k; simp only [pc_nh, pc_ne_eq, ih]
def pc_run (tb : List (Nat × pc_T)) (r : Nat × Nat) : Nat → Nat → List (Option pc_V) → List pc_V → List pc_E → Nat → Nat → Option (Nat × List (Option pc_V) × List pc_V × List pc_E × Nat × Nat)
  | 0, _, _, _, _, _, _ => none
  | n + 1, pc, L, st, hs, cn, sn => (match pj_at tb pc with
    | none => some (pc, L, st, hs, cn, sn)
    | some τ => (match τ r L st hs cn sn with
      | none => none
      | some (pc', L', st', hs', cn', sn') => pc_nn pc' (fun pc' => pc_nL L' (fun L' => pc_nvs st' (fun st' => pc_nh hs' (fun hs' => pc_nn cn' (fun cn' => pc_nn sn' (fun sn' => pc_run tb r n pc' L' st' hs' cn' sn'))))))))
theorem pc_run_ok {X : pj_X} {tb : List (Nat × pc_T)} (hS : ∀ q ∈ tb, pc_S X q.1 q.2) : ∀ (n pc : Nat) (L : List (Option pc_V)) (st : List pc_V) (hs : List pc_E) (cn sn : Nat) (q : Nat × List (Option pc_V) × List pc_V × List pc_E × Nat × Nat), pc_run tb (X.2.2.2.1.2.2.2.cells, X.2.2.2.1.2.2.2.slots) n pc L st hs cn sn = some q → pc_W X q.1 q.2.1 q.2.2.1 q.2.2.2.1 q.2.2.2.2.1 q.2.2.2.2.2 → pc_W X pc L st hs cn sn := by
  intro n
  induction n with
  | zero => intro pc L st hs cn sn q h; cases h
  | succ n ih =>
    intro pc L st hs cn sn q h hW
    unfold pc_run at h
    split at h
    · cases h
      exact hW
    · rename_i τ hτ
      split at h
      · cases h
      · rename_i pc' L' st' hs' cn' sn' hq
        simp only [pc_nn_eq, pc_nL_eq, pc_nvs_eq, pc_nh_eq] at h
        exact hS _ (pj_at_mem hτ) L st hs cn sn _ hq (ih _ _ _ _ _ _ q h hW)
/-- a constructor: its table; where it ends; its frame; the cells and slots that it makes -/
def pc_ctor (tb : List (Nat × pc_T)) (nL pe c1 s1 : Nat) : List pc_V → List pc_E → Option (List pc_E × Nat × Nat) := fun as hs => match Nat.ble as.length nL with
  | true => (match pc_run tb (c1, s1) 2000 0 (as.map some ++ List.replicate (nL - as.length) none) [] hs 0 0 with
    | some (pc, _, st, hs', cn, sn) => (match (Nat.beq pc pe && Nat.ble hs.length hs'.length) && (st.isEmpty && (Nat.beq cn c1 && Nat.beq sn s1)) with
      | true => some (hs', cn, sn)
      | false => none)
    | none => none)
  | false => none
theorem pc_sl (ad : Nat → Nat) (as : List pc_V) : lg_sl (as.map (pc_tv ad)) = as.map (fun v => Slot.val (pc_tv ad v)) := by
  induction as with
  | nil => rfl
  | cons v as ih =>
    have e1 : lg_sl ((v :: as).map (pc_tv ad)) = (if (pc_tv ad v).category = 2 then [Slot.val (pc_tv ad v), Slot.second] else [Slot.val (pc_tv ad v)]) ++ lg_sl (as.map (pc_tv ad)) := by
      simp [lg_sl]
    rw [e1, ih, if_neg (by rw [pc_tv_cat]; decide)]
    rfl
theorem pc_ct_of {y : MethodName} {cc : ByteArray} {nL rk pe c1 s1 : Nat} {tb : List (Nat × pc_T)} (hy : plainName y.cls = true) (hn : y.name = "<init>") (hpe : decode cc pe = .ok (.return_, 1)) (h3 : Cond.arrayClass .int ∈ pj_tb ∧ Cond.arrayClass .long ∈ pj_tb ∧ Cond.arrayClass .boolean ∈ pj_tb)
    (hSt : ∀ (G : pj_E) (A : Nat → Prop) (P : pj_P) (S : pj_U) (Z : pj_Z), pc_C (G, A, (cc, y.cls, nL, none, rk), P, S, Z) → S.2.2.2.2.1.name = "<init>" → ∀ q ∈ tb, pc_S (G, A, (cc, y.cls, nL, none, rk), P, S, Z) q.1 q.2) : pc_Ct y cc nL rk (pc_ctor tb nL pe c1 s1) := by
  intro l G ad sz as hs r hF hok
  unfold pc_ctor at hF
  split at hF
  · rename_i hle
    have hle := Nat.le_of_ble_eq_true hle
    split at hF
    · rename_i pc L' st hs' cn sn hr2
      split at hF
      · rename_i hbq
        simp only [Bool.and_eq_true, Nat.beq_eq, Nat.ble_eq, List.isEmpty_iff] at hbq
        obtain ⟨⟨rfl, hlen⟩, rfl, rfl, rfl⟩ := hbq
        cases hF
        refine Met.ofW (cc := cc) (maxL := nL) (ret := none) hy rfl ?_
        intro p e s mi args below meth c s₁ B hml hv
        obtain ⟨rfl, rfl, hokh, hP, hK, hD, hao, hX, hbl, hbA⟩ := hv
        have hts := atoms_spec (ws := Cond.code y cc nL none :: pj_tb) B.pre
        have hlocks := B.notSynchronized
        have hret := B.returns
        have hmn : meth.name = "<init>" := (name_of_methodNamed B.named B.method).1.trans hn
        rw [lg_entry_eq]
        have hl := lv_entry (as.map (pc_tv ad)) (n := nL) (by rw [pc_sl]; simpa using hle)
        have hC : pc_C ((G.1, ad, G.2.2), pc_Aw ad hs.length s.heap.size, (cc, y.cls, nL, none, rk), (p, l, e, pc_rm rk cn sn), (s, mi, (as.map (pc_tv ad)).toArray, below, meth, c), (hs.length, 0, MQ below (pc_Qc G ad hs.length s.heap.size hs') (as.map (pc_tv ad)).toArray s cn sn (pc_Aw ad hs.length s.heap.size))) :=
          ⟨B.exec, B.bytes, hml, findClass_of_methodNamed B.named, fun w hw => hts w (List.mem_cons_of_mem _ hw), hK, h3, hao, Nat.le_refl _, Nat.le_refl _, fun q h => Or.inr h, hX, hbl, hbA⟩
        have hrun := pc_run_ok (hSt _ _ _ _ _ hC hmn) 2000 0 _ [] hs 0 0 _ hr2
        refine hrun ?_ ad _ s.heap [] ⟨Nat.le_refl _, fun _ _ => rfl⟩ ?_ ⟨hokh, hP, hD, va_S.rf⟩
        · intro ad' ls H locs h0 hF' hH'
          exact W.vret B.exec B.bytes hret (fun t ht hWm => ⟨rfl, ⟨ad', h0.2, hH'.1, h0.1, by rw [ht]; exact hH'.2.1, hH'.2.2.1⟩, hH'.2.2.2.F ht⟩) hH'.2.2.2.2.2 hpe
        · refine ⟨hl.1, hl.2.1, by simp; omega, fun i v hv => ?_, fun v hv => by cases hv⟩
          rcases Nat.lt_or_ge i as.length with hi | hi
          · rw [List.getElem?_append_left (by simpa using hi), List.getElem?_map] at hv
            obtain ⟨u, hu, e9⟩ := Option.map_eq_some_iff.mp hv
            cases e9
            refine ⟨?_, hok _ (List.mem_of_getElem? hu)⟩
            rw [pc_sl]
            simp only [List.length_map, List.getElem?_toArray]
            rw [List.getElem?_append_left (by simpa using hi), List.getElem?_map, hu]
            rfl
          · rw [List.getElem?_append_right (by simpa using hi)] at hv
            have := List.mem_of_getElem? hv
            rw [List.mem_replicate] at this
            cases this.2
      · cases hF
    · cases hF
  · cases hF
