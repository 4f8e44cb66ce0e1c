/-! PART 03: A PURE MACHINE over the fixed layout: a memory of numbers (ints, longs) by cell and place; values; what an instruction does, in continuation form; and that each such step is what the machine does (pj_S). -/
abbrev pj_M : Type := (Nat → Nat → Int32) × (Nat → Nat → Int64)
abbrev pj_V : Type := Int32 ⊕ (Int64 ⊕ (Nat × Nat × Nat))
/-- the world's unknowns: classes' numbers and slots, addresses of cells, array classes, the script -/
abbrev pj_E : Type := va_G × (Nat → Nat) × (ClassId × ClassId × ClassId × (Nat → ClassId)) × (Nat × Nat × (Nat → Int32))
def pj_tys (G : pj_E) : List (ClassId × FieldType) := [(G.2.2.1.1, .int), (G.2.2.1.2.1, .long), (G.2.2.1.2.2.1, .boolean), (G.2.2.1.2.2.2 4, .object "AlikeSteps$Net"), (G.2.2.1.2.2.2 5, .object "AlikeSteps$Parting"), (G.2.2.1.2.2.2 9, .object "AlikeSteps$Teller")]
def pj_tr (G : pj_E) (v : pj_V) : Value := match v with
  | .inl x => .int x
  | .inr (.inl y) => .long y
  | .inr (.inr (t, _, a)) => if t = 5 then .ref G.2.2.2.1 else .ref (G.2.1 a)
def pj_okv (v : pj_V) : Prop := match v with
  | .inr (.inr (t, x, a)) => t = 5 ∨ pj_lay[a]? = some (t, x)
  | _ => True
def pj_fv (G : pj_E) (m : pj_M) (a k : Nat) (f : Option (Nat × Nat × Nat)) : Value := match f with
  | none => .int (m.1 a k)
  | some q => .ref (G.2.1 (a + q.2.2))
def pj_ent (G : pj_E) (m : pj_M) (a : Nat) (q : Nat × Nat) : va_E := match q with
  | (0, x) => .inr (x, (pj_ct x).mapIdx (fun k f => pj_fv G m a k f))
  | (1, x) => .inl (G.2.2.1.1, (x, .inl (m.1 a)))
  | (2, x) => .inl (G.2.2.1.2.1, (x, .inr (.inl (m.2 a))))
  | (3, x) => .inl (G.2.2.1.2.2.1, (x, .inl (m.1 a)))
  | (_, x) => .inl (G.2.2.1.2.2.2 x, (pj_rlen x, .inr (.inr (.inr (.inr (fun i => some (G.2.1 (a + pj_roff x + pj_rstr x * i))))))))
def pj_ws (G : pj_E) (m : pj_M) : va_W := pj_lay.mapIdx (fun a q => (G.2.1 a, pj_ent G m a q))
theorem pj_ws_at {G : pj_E} {m : pj_M} {a : Nat} {q : Nat × Nat} (h : pj_lay[a]? = some q) : (pj_ws G m)[a]? = some (G.2.1 a, pj_ent G m a q) := by
  simp [pj_ws, h]
theorem pj_ws_of {G : pj_E} {m : pj_M} {a : Nat} {q : Nat × va_E} (h : (pj_ws G m)[a]? = some q) : ∃ t, pj_lay[a]? = some t ∧ q = (G.2.1 a, pj_ent G m a t) := by
  simp only [pj_ws, List.getElem?_mapIdx, Option.map_eq_some_iff] at h
  obtain ⟨t, h1, h2⟩ := h
  exact ⟨t, h1, h2.symm⟩
theorem pj_ent_congr {G : pj_E} {m m' : pj_M} {a : Nat} {q : Nat × Nat} (h1 : m'.1 a = m.1 a) (h2 : m'.2 a = m.2 a) : pj_ent G m' a q = pj_ent G m a q := by
  have hf : ∀ k f, pj_fv G m' a k f = pj_fv G m a k f := by
    intro k f
    cases f with
    | none => simp [pj_fv, h1]
    | some _ => rfl
  unfold pj_ent
  split <;> simp [h1, h2, hf]
theorem pj_ws_set {G : pj_E} {m m' : pj_M} {a : Nat} {q : Nat × Nat} (h : pj_lay[a]? = some q) (h1 : ∀ j, j ≠ a → m'.1 j = m.1 j) (h2 : ∀ j, j ≠ a → m'.2 j = m.2 j) : (pj_ws G m).set a (G.2.1 a, pj_ent G m' a q) = pj_ws G m' := by
  apply List.ext_getElem?
  intro j
  by_cases hj : j = a
  · subst hj
    rw [pj_ws_at h, List.getElem?_set]
    have hl : j < (pj_ws G m).length := by
      have := (List.getElem?_eq_some_iff.mp h).1
      simpa [pj_ws] using this
    simp [hl]
  · rw [List.getElem?_set_ne (by omega)]
    simp only [pj_ws, List.getElem?_mapIdx]
    cases hq : pj_lay[j]? with
    | none => rfl
    | some t => simp [pj_ent_congr (G := G) (q := t) (h1 j hj) (h2 j hj)]
theorem pj_D_irr {G : pj_E} {A : Nat → Prop} {m m' : pj_M} (h : va_D A (pj_ws G m)) : va_D A (pj_ws G m') := by
  refine ⟨fun i j p q hp hq hpq => ?_, fun k q hk => ?_⟩
  · obtain ⟨t1, h1, rfl⟩ := pj_ws_of hp
    obtain ⟨t2, h2, rfl⟩ := pj_ws_of hq
    exact h.1 i j _ _ (pj_ws_at h1) (pj_ws_at h2) hpq
  · obtain ⟨t1, h1, rfl⟩ := pj_ws_of hk
    exact h.2 k (G.2.1 k, pj_ent G m k t1) (pj_ws_at h1)
/-- a number is written; a stretch of ints is copied -/
def pj_wr (m : pj_M) (a k : Nat) (v : Int32) : pj_M := (fun j => if j = a then upd (m.1 a) k v else m.1 j, m.2)
def pj_wl (m : pj_M) (a k : Nat) (v : Int64) : pj_M := (m.1, fun j => if j = a then vp_updL (m.2 a) k v else m.2 j)
def pj_cp (m : pj_M) (a0 sp a1 dp n : Nat) : pj_M := (fun j => if j = a1 then va_cpy (m.1 a0) (m.1 a1) sp dp n else m.1 j, m.2)
/-- locals -/
def pj_clr (o : Option pj_V) : Option pj_V := match o with
  | some (.inr (.inl _)) => none
  | o => o
def pj_inv (L : List (Option pj_V)) (i : Nat) : List (Option pj_V) := match i with
  | 0 => L
  | j + 1 => L.set j (pj_clr ((L[j]?).getD none))
def pj_st1 (L : List (Option pj_V)) (i : Nat) (v : pj_V) : List (Option pj_V) := match L, i with
  | [], _ => []
  | _ :: L, 0 => some v :: L
  | a :: L, 1 => pj_clr a :: L.set 0 (some v)
  | a :: L, j + 2 => a :: pj_st1 L (j + 1) v
def pj_st2 (L : List (Option pj_V)) (i : Nat) (v : pj_V) : List (Option pj_V) := (pj_st1 L i v).set (i + 1) none
theorem pj_st1_eq (v : pj_V) : ∀ (L : List (Option pj_V)) (i : Nat), pj_st1 L i v = (pj_inv L i).set i (some v) := by
  intro L
  induction L with
  | nil => intro i; cases i <;> simp [pj_st1, pj_inv]
  | cons a L ih =>
    intro i
    match i with
    | 0 => rfl
    | 1 => simp [pj_st1, pj_inv]
    | j + 2 =>
      rw [pj_st1, ih (j + 1)]
      simp [pj_inv]
theorem pj_st2_eq (L : List (Option pj_V)) (i : Nat) (v : pj_V) : pj_st2 L i v = ((pj_inv L i).set i (some v)).set (i + 1) none := by
  rw [pj_st2, pj_st1_eq]
def pj_isl (v : pj_V) : Bool := match v with
  | .inr (.inl _) => true
  | _ => false
def pj_cat (st : List pj_V) : Nat := match st with
  | [] => 0
  | v :: st => (match v with
    | .inr (.inl _) => 2
    | _ => 1) + pj_cat st
def pj_l0 (as : List pj_V) : List (Option pj_V) := match as with
  | [] => []
  | .inr (.inl y) :: as => some (.inr (.inl y)) :: none :: pj_l0 as
  | .inl x :: as => some (.inl x) :: pj_l0 as
  | .inr (.inr r) :: as => some (.inr (.inr r)) :: pj_l0 as
theorem pj_tr_cat (G : pj_E) (v : pj_V) : (pj_tr G v).category = 2 ↔ pj_isl v = true := by
  rcases v with x | y | ⟨t, x, a⟩
  · simp [pj_tr, pj_isl, Value.category]
  · simp [pj_tr, pj_isl, Value.category]
  · simp only [pj_tr, pj_isl]
    split <;> simp [Value.category]
theorem pj_cat_eq (G : pj_E) (st : List pj_V) : ((st.map (pj_tr G)).map fun v => v.category).sum = pj_cat st := by
  induction st with
  | nil => rfl
  | cons v st ih =>
    simp only [List.map_cons, List.sum_cons, pj_cat, ih]
    congr 1
    rcases v with x | y | ⟨t, x, a⟩
    · rfl
    · rfl
    · simp only [pj_tr]
      split <;> rfl
def pj_F (G : pj_E) (nL : Nat) (L : List (Option pj_V)) (st : List pj_V) (ls : Array Slot) : Prop :=
  ls.size = nL ∧ lv_wf ls ∧ L.length = nL ∧ (∀ (i : Nat) (v : pj_V), L[i]? = some (some v) → ls[i]? = some (Slot.val (pj_tr G v)) ∧ pj_okv v) ∧ ∀ v ∈ st, pj_okv v
def pj_lv (G : pj_E) (L : List (Option pj_V)) : List (Nat × Value) := (List.range L.length).filterMap (fun i => match L[i]? with
  | some (some v) => some (i, pj_tr G v)
  | _ => none)
theorem pj_lv_mem {G : pj_E} {L : List (Option pj_V)} {q : Nat × Value} : q ∈ pj_lv G L ↔ ∃ v, L[q.1]? = some (some v) ∧ q.2 = pj_tr G v := by
  unfold pj_lv
  rw [List.mem_filterMap]
  constructor
  · rintro ⟨i, hi, h⟩
    split at h
    · rename_i v hv
      cases h
      exact ⟨v, hv, rfl⟩
    · cases h
  · rintro ⟨v, hv, h2⟩
    refine ⟨q.1, List.mem_range.mpr (List.getElem?_eq_some_iff.mp hv).1, ?_⟩
    rw [hv]
    show some (q.1, pj_tr G v) = some q
    rw [← h2]
theorem pj_F.has {G : pj_E} {nL : Nat} {L : List (Option pj_V)} {st : List pj_V} {ls : Array Slot} (h : pj_F G nL L st ls) : lv_has ls nL (pj_lv G L) := by
  refine ⟨h.1, h.2.1, fun q hq => ?_⟩
  obtain ⟨v, hv, h2⟩ := pj_lv_mem.mp hq
  rw [h2]
  exact (h.2.2.2.1 _ _ hv).1
theorem pj_inv_len (L : List (Option pj_V)) (i : Nat) : (pj_inv L i).length = L.length := by
  unfold pj_inv
  split
  · rfl
  · simp
theorem pj_inv_at {L : List (Option pj_V)} {i j : Nat} {v : pj_V} (h : (pj_inv L i)[j]? = some (some v)) : L[j]? = some (some v) ∧ ¬ (j + 1 = i ∧ pj_isl v = true) := by
  unfold pj_inv at h
  split at h
  · exact ⟨h, fun q => by omega⟩
  · rename_i k
    by_cases hj : j = k
    · subst hj
      have hl := (List.getElem?_eq_some_iff.mp h).1
      rw [List.length_set] at hl
      rw [List.getElem?_set_self hl] at h
      have h1 : pj_clr ((L[j]?).getD none) = some v := Option.some.inj h
      rw [List.getElem?_eq_getElem hl] at h1 ⊢
      simp only [Option.getD_some] at h1
      generalize L[j] = o at h1 ⊢
      rcases o with _ | x | y | r
      · cases h1
      · cases h1
        exact ⟨rfl, fun q => by simp [pj_isl] at q⟩
      · cases h1
      · cases h1
        exact ⟨rfl, fun q => by simp [pj_isl] at q⟩
    · rw [List.getElem?_set_ne (by omega)] at h
      exact ⟨h, fun q => by omega⟩
theorem pj_F.st1 {G : pj_E} {nL i : Nat} {L : List (Option pj_V)} {st : List pj_V} {v : pj_V} {ls ls' : Array Slot} (h : pj_F G nL L (v :: st) ls)
    (h' : lv_has ls' nL ((i, pj_tr G v) :: (pj_lv G L).filter (fun q => !(q.1 == i) && !(q.1 + 1 == i && q.2.category == 2)))) : pj_F G nL (pj_st1 L i v) st ls' := by
  obtain ⟨h1, h2, h3, h4, h5⟩ := h
  refine ⟨h'.1, h'.2.1, by simp [pj_st1_eq, pj_inv_len, h3], fun j u hu => ?_, fun u hu => h5 u (List.mem_cons_of_mem _ hu)⟩
  rw [pj_st1_eq] at hu
  by_cases hj : j = i
  · subst hj
    have hl := (List.getElem?_eq_some_iff.mp hu).1
    rw [List.length_set] at hl
    rw [List.getElem?_set_self hl] at hu
    cases hu
    exact ⟨h'.2.2 _ List.mem_cons_self, h5 _ List.mem_cons_self⟩
  · rw [List.getElem?_set_ne (by omega)] at hu
    obtain ⟨hu1, hu2⟩ := pj_inv_at hu
    refine ⟨h'.2.2 (j, pj_tr G u) (List.mem_cons_of_mem _ (List.mem_filter.mpr ⟨pj_lv_mem.mpr ⟨u, hu1, rfl⟩, ?_⟩)), (h4 _ _ hu1).2⟩
    simp only [Bool.and_eq_true, Bool.not_eq_true', beq_eq_false_iff_ne, ne_eq, Bool.and_eq_false_imp, beq_iff_eq]
    refine ⟨hj, fun e1 => ?_⟩
    intro e2
    exact hu2 ⟨e1, (pj_tr_cat G u).mp e2⟩
theorem pj_F.st2 {G : pj_E} {nL i : Nat} {L : List (Option pj_V)} {st : List pj_V} {v : pj_V} {ls ls' : Array Slot} (h : pj_F G nL L (v :: st) ls)
    (h' : lv_has ls' nL ((i, pj_tr G v) :: (pj_lv G L).filter (fun q => !(q.1 == i) && (!(q.1 == i + 1) && !(q.1 + 1 == i && q.2.category == 2))))) : pj_F G nL (pj_st2 L i v) st ls' := by
  obtain ⟨h1, h2, h3, h4, h5⟩ := h
  refine ⟨h'.1, h'.2.1, by simp [pj_st2_eq, pj_inv_len, h3], fun j u hu => ?_, fun u hu => h5 u (List.mem_cons_of_mem _ hu)⟩
  rw [pj_st2_eq] at hu
  by_cases hj1 : j = i + 1
  · subst hj1
    have hl := (List.getElem?_eq_some_iff.mp hu).1
    rw [List.length_set] at hl
    rw [List.getElem?_set_self hl] at hu
    cases hu
  rw [List.getElem?_set_ne (by omega)] at hu
  by_cases hj : j = i
  · subst hj
    have hl := (List.getElem?_eq_some_iff.mp hu).1
    rw [List.length_set] at hl
    rw [List.getElem?_set_self hl] at hu
    cases hu
    exact ⟨h'.2.2 _ List.mem_cons_self, h5 _ List.mem_cons_self⟩
  · rw [List.getElem?_set_ne (by omega)] at hu
    obtain ⟨hu1, hu2⟩ := pj_inv_at hu
    refine ⟨h'.2.2 (j, pj_tr G u) (List.mem_cons_of_mem _ (List.mem_filter.mpr ⟨pj_lv_mem.mpr ⟨u, hu1, rfl⟩, ?_⟩)), (h4 _ _ hu1).2⟩
    simp only [Bool.and_eq_true, Bool.not_eq_true', beq_eq_false_iff_ne, ne_eq, Bool.and_eq_false_imp, beq_iff_eq]
    refine ⟨hj, hj1, fun e1 => ?_⟩
    intro e2
    exact hu2 ⟨e1, (pj_tr_cat G u).mp e2⟩
