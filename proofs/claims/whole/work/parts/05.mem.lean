/-! PART 05: steps on fields, arrays; switches; returns; calls. Written by wip/whole/gen/mkcore2.py -/
def pj_chk : Bool := (List.range 95).all (fun a => match pj_lay[a]? with
  | some (0, ci) => (pj_ct ci).all (fun f => match f with
    | none => true
    | some (t, x, d) => pj_lay[a + d]? == some (t, x))
  | some (4, x) => (List.range (pj_rlen x)).all (fun i => pj_lay[a + pj_roff x + pj_rstr x * i]? == some (0, x))
  | some (1, x) => decide (x < 2 ^ 31)
  | some (2, x) => decide (x < 2 ^ 31)
  | some (3, x) => decide (x < 2 ^ 31)
  | some _ => false
  | none => true)
theorem pj_chk_ok : pj_chk = true := by decide +kernel
theorem pj_lay_lt {a : Nat} {q : Nat × Nat} (h : pj_lay[a]? = some q) : a < 95 := by
  have h1 := (List.getElem?_eq_some_iff.mp h).1
  rw [pj_lay_len] at h1
  exact h1
theorem pj_chk_at {a : Nat} (h : a < 95) : (match pj_lay[a]? with
  | some (0, ci) => (pj_ct ci).all (fun f => match f with
    | none => true
    | some (t, x, d) => pj_lay[a + d]? == some (t, x))
  | some (4, x) => (List.range (pj_rlen x)).all (fun i => pj_lay[a + pj_roff x + pj_rstr x * i]? == some (0, x))
  | some (1, x) => decide (x < 2 ^ 31)
  | some (2, x) => decide (x < 2 ^ 31)
  | some (3, x) => decide (x < 2 ^ 31)
  | some _ => false
  | none => true) = true := List.all_eq_true.mp pj_chk_ok a (List.mem_range.mpr h)
theorem pj_lay_fld {a ci k t x d : Nat} (h : pj_lay[a]? = some (0, ci)) (hf : (pj_ct ci)[k]? = some (some (t, x, d))) : pj_lay[a + d]? = some (t, x) := by
  have h1 := pj_chk_at (pj_lay_lt h)
  rw [h] at h1
  have h2 := List.all_eq_true.mp h1 _ (List.mem_of_getElem? hf)
  exact eq_of_beq h2
theorem pj_lay_ref {a x i : Nat} (h : pj_lay[a]? = some (4, x)) (hi : i < pj_rlen x) : pj_lay[a + pj_roff x + pj_rstr x * i]? = some (0, x) := by
  have h1 := pj_chk_at (pj_lay_lt h)
  rw [h] at h1
  have h2 := List.all_eq_true.mp h1 i (List.mem_range.mpr hi)
  exact eq_of_beq h2
theorem pj_lay_5 {a t x : Nat} (h : pj_lay[a]? = some (t, x)) : t ≠ 5 := by
  intro e
  subst e
  have h1 := pj_chk_at (pj_lay_lt h)
  rw [h] at h1
  cases h1
theorem pj_tr_lay {G : pj_E} {t x a : Nat} (h : pj_lay[a]? = some (t, x)) : pj_tr G (.inr (.inr (t, x, a))) = .ref (G.2.1 a) := by
  simp only [pj_tr, if_neg (pj_lay_5 h)]
theorem pj_okl {t x a : Nat} (h : pj_okv (.inr (.inr (t, x, a)))) (ht : t ≠ 5) : pj_lay[a]? = some (t, x) := h.elim (fun e => absurd e ht) id
/-! fields -/
def qs_gf {ρ : Type} (ci k nx : Nat) : pj_T ρ := fun K L st m => match st with
  | .inr (.inr (t, x, a)) :: st => (match Nat.beq t 0 && Nat.beq x ci with
    | true => (match (pj_ct ci)[k]? with
      | some none => K nx L (.inl (m.1 a k) :: st) m
      | some (some (t', x', d)) => K nx L (.inr (.inr (t', x', a + d)) :: st) m
      | none => none)
    | false => none)
  | _ => none
def qs_pf {ρ : Type} (ci k nx : Nat) : pj_T ρ := fun K L st m => match st with
  | .inl v :: .inr (.inr (t, x, a)) :: st => (match Nat.beq t 0 && Nat.beq x ci with
    | true => (match (pj_ct ci)[k]? with
      | some none => K nx L st (pj_wr m a k v)
      | _ => none)
    | false => none)
  | _ => none
def qs_pz {ρ : Type} (ci k nx : Nat) : pj_T ρ := fun K L st m => match st with
  | .inl v :: .inr (.inr (t, x, a)) :: st => (match Nat.beq t 0 && Nat.beq x ci with
    | true => (match (pj_ct ci)[k]? with
      | some none => if v = 0 then K nx L st (pj_wr m a k 0) else if v = 1 then K nx L st (pj_wr m a k 1) else none
      | _ => none)
    | false => none)
  | _ => none
theorem pj_b2 {a b c d : Nat} (h : (Nat.beq a b && Nat.beq c d) = true) : a = b ∧ c = d := by
  simp only [Bool.and_eq_true, Nat.beq_eq] at h
  exact h
theorem pj_fs_at {G : pj_E} {m : pj_M} {a ci k : Nat} {f : Option (Nat × Nat × Nat)} (h : (pj_ct ci)[k]? = some f) : ((pj_ct ci).mapIdx (fun k f => pj_fv G m a k f))[k]? = some (pj_fv G m a k f) := by
  simp [h]
theorem pj_wr_at (m : pj_M) (a k : Nat) (v : Int32) : (pj_wr m a k v).1 a = upd (m.1 a) k v := by
  simp [pj_wr]
theorem pj_wr_ne {m : pj_M} {a k j : Nat} {v : Int32} (h : j ≠ a) : (pj_wr m a k v).1 j = m.1 j := by
  simp [pj_wr, h]
theorem pj_fs_set {G : pj_E} {m : pj_M} {a ci k : Nat} {v : Int32} (h : (pj_ct ci)[k]? = some none) : ((pj_ct ci).mapIdx (fun j f => pj_fv G m a j f)).set k (.int v) = (pj_ct ci).mapIdx (fun j f => pj_fv G (pj_wr m a k v) a j f) := by
  apply List.ext_getElem?
  intro j
  have hlt := (List.getElem?_eq_some_iff.mp h).1
  by_cases hj : j = k
  · subst hj
    rw [List.getElem?_set_self (by simpa using hlt), pj_fs_at h]
    simp [pj_fv, pj_wr_at, upd]
  · rw [List.getElem?_set_ne (by omega)]
    simp only [List.getElem?_mapIdx]
    cases hf : (pj_ct ci)[j]? with
    | none => rfl
    | some f =>
      cases f with
      | none => simp [pj_fv, pj_wr_at, upd, hj]
      | some q => rfl
theorem pj_H.wr {G : pj_E} {A : Nat → Prop} {m m' : pj_M} {s : State} {H1 : Heap} {locs1 : List Loc} {a : Nat} {q : Nat × Nat} {en : va_E} (hq : pj_lay[a]? = some q) (h1 : ∀ j, j ≠ a → m'.1 j = m.1 j) (h2 : ∀ j, j ≠ a → m'.2 j = m.2 j) (he : pj_ent G m' a q = en)
    (hP : va_P G.1 vwCl ((pj_ws G m).set a (G.2.1 a, en)) H1) (hD : va_D A (pj_ws G m)) (hS : va_S A s.heap H1 locs1) : pj_H G A m' s H1 locs1 := by
  subst he
  rw [pj_ws_set hq h1 h2] at hP
  exact ⟨hP, pj_D_irr hD, hS⟩
theorem qz_gf {ρ : Type} {X : pj_X} {enc : ρ → Option pj_V × pj_M} {pc : Nat} (C : pj_C X) {ci k i N : Nat} {Cn : String} {T : u_T} (hd : decode (pj_cc X) pc = .ok (.getfield i, 3)) (hc : vwCl[ci]? = some (Cn, T, N)) (hin : ∀ c ∈ u_ws Cn T N, c ∈ pj_tb) (hkN : k < N) (hl : Cond.fieldLink (pj_own X) i (T k).1 (T k).2.1 (T k).2.2.1 ∈ pj_tb) : pj_S X enc pc (qs_gf ci k (pc + 3)) := by
  intro K hK L st m r h hR
  obtain ⟨G, A, ⟨cc, own, nL, ret, rk⟩, ⟨p, l, e, R⟩, ⟨s, mi, args, below, meth, c⟩, ⟨cells, slots, Q⟩⟩ := X
  obtain ⟨hx, hb, hml, hown, hts, hk, hnw, hfr, hlo, hce, hsl, hX, hbl, hbA⟩ := C
  unfold qs_gf at h
  split at h
  · rename_i t x a st
    split at h
    · rename_i hbq
      obtain ⟨rfl, rfl⟩ := pj_b2 hbq
      intro ls H locs hF hH
      have hla := pj_okl (pj_okh hF.2.2.2.2) (by decide)
      rw [List.map_cons, pj_tr_lay hla]
      split at h
      · rename_i hf
        exact va_get hx hb hts hin hown hk hH.1 a (pj_ws_at hla) hc k hkN (hts _ hl) (fun _ h9 => h9) (pj_fs_at hf) hd (hK _ _ _ _ _ h hR ls H locs (hF.stk (pj_okc trivial (pj_ok1 hF.2.2.2.2))) hH)
      · rename_i t' x' d hf
        have hl2 := pj_lay_fld hla hf
        have h2 := hK _ _ _ _ _ h hR ls H locs (hF.stk (pj_okc (Or.inr hl2) (pj_ok1 hF.2.2.2.2))) hH
        rw [List.map_cons, pj_tr_lay hl2] at h2
        exact va_get hx hb hts hin hown hk hH.1 a (pj_ws_at hla) hc k hkN (hts _ hl) (fun _ h9 => h9) (pj_fs_at hf) hd h2
      · cases h
    · cases h
  · cases h
theorem qz_pf {ρ : Type} {X : pj_X} {enc : ρ → Option pj_V × pj_M} {pc : Nat} (C : pj_C X) {ci k i N : Nat} {Cn : String} {T : u_T} {ty0 : Nat → FieldType} (hd : decode (pj_cc X) pc = .ok (.putfield i, 3)) (hc : vwCl[ci]? = some (Cn, T, N)) (hin : ∀ c ∈ u_ws Cn T N, c ∈ pj_tb) (hty : ∀ k, k < N → parseFieldDescriptor (T k).2.2.1 = some (ty0 k)) (hnm : ∀ a, a < N → ∀ b, b < N → a ≠ b → (T a).2.1 ≠ (T b).2.1) (hkN : k < N) (hl : Cond.fieldLink (pj_own X) i (T k).1 (T k).2.1 (T k).2.2.1 ∈ pj_tb) (hfin : (T k).2.2.2 = false) (hi : ty0 k = .int) : pj_S X enc pc (qs_pf ci k (pc + 3)) := by
  intro K hK L st m r h hR
  obtain ⟨G, A, ⟨cc, own, nL, ret, rk⟩, ⟨p, l, e, R⟩, ⟨s, mi, args, below, meth, c⟩, ⟨cells, slots, Q⟩⟩ := X
  obtain ⟨hx, hb, hml, hown, hts, hk, hnw, hfr, hlo, hce, hsl, hX, hbl, hbA⟩ := C
  unfold qs_pf at h
  split at h
  · rename_i v t x a st
    split at h
    · rename_i hbq
      obtain ⟨rfl, rfl⟩ := pj_b2 hbq
      intro ls H locs hF hH
      have hla := pj_okl (pj_okh (pj_ok1 hF.2.2.2.2)) (by decide)
      rw [List.map_cons, List.map_cons, pj_tr_lay hla]
      split at h
      · rename_i hf
        have hlt := (List.getElem?_eq_some_iff.mp hf).1
        have hp := hty k hkN
        rw [hi] at hp
        refine va_put hx hb hts hin ty0 hty hnm hown hk hH.1 hH.2.1 hH.2.2 a (pj_ws_at hla) hc k hkN (hts _ hl) (fun _ h9 => h9) hfin (ty := .int) (v := .int v) hp rfl rfl (by simpa using hlt) hd (fun H1 locs1 hP hD hS => ?_)
        exact hK _ _ _ _ _ h hR ls H1 locs1 (hF.stk (pj_ok1 (pj_ok1 hF.2.2.2.2))) (pj_H.wr hla (fun j hj => pj_wr_ne hj) (fun j hj => rfl) (by rw [pj_fs_set hf]; rfl) hP hH.2.1 hS)
      · cases h
    · cases h
  · cases h
theorem qz_pz {ρ : Type} {X : pj_X} {enc : ρ → Option pj_V × pj_M} {pc : Nat} (C : pj_C X) {ci k i N : Nat} {Cn : String} {T : u_T} {ty0 : Nat → FieldType} (hd : decode (pj_cc X) pc = .ok (.putfield i, 3)) (hc : vwCl[ci]? = some (Cn, T, N)) (hin : ∀ c ∈ u_ws Cn T N, c ∈ pj_tb) (hty : ∀ k, k < N → parseFieldDescriptor (T k).2.2.1 = some (ty0 k)) (hnm : ∀ a, a < N → ∀ b, b < N → a ≠ b → (T a).2.1 ≠ (T b).2.1) (hkN : k < N) (hl : Cond.fieldLink (pj_own X) i (T k).1 (T k).2.1 (T k).2.2.1 ∈ pj_tb) (hfin : (T k).2.2.2 = false) (hi : ty0 k = .boolean) : pj_S X enc pc (qs_pz ci k (pc + 3)) := by
  intro K hK L st m r h hR
  obtain ⟨G, A, ⟨cc, own, nL, ret, rk⟩, ⟨p, l, e, R⟩, ⟨s, mi, args, below, meth, c⟩, ⟨cells, slots, Q⟩⟩ := X
  obtain ⟨hx, hb, hml, hown, hts, hk, hnw, hfr, hlo, hce, hsl, hX, hbl, hbA⟩ := C
  unfold qs_pz at h
  split at h
  · rename_i v t x a st
    split at h
    · rename_i hbq
      obtain ⟨rfl, rfl⟩ := pj_b2 hbq
      intro ls H locs hF hH
      have hla := pj_okl (pj_okh (pj_ok1 hF.2.2.2.2)) (by decide)
      rw [List.map_cons, List.map_cons, pj_tr_lay hla]
      split at h
      · rename_i hf
        have hlt := (List.getElem?_eq_some_iff.mp hf).1
        have hp := hty k hkN
        rw [hi] at hp
        split at h
        · rename_i hv
          subst hv
          refine va_put hx hb hts hin ty0 hty hnm hown hk hH.1 hH.2.1 hH.2.2 a (pj_ws_at hla) hc k hkN (hts _ hl) (fun _ h9 => h9) hfin (ty := .boolean) (v := .int 0) hp (by decide +kernel) (by decide +kernel) (by simpa using hlt) hd (fun H1 locs1 hP hD hS => ?_)
          exact hK _ _ _ _ _ h hR ls H1 locs1 (hF.stk (pj_ok1 (pj_ok1 hF.2.2.2.2))) (pj_H.wr hla (fun j hj => pj_wr_ne hj) (fun j hj => rfl) (by rw [pj_fs_set hf]; rfl) hP hH.2.1 hS)
        · split at h
          · rename_i hv
            subst hv
            refine va_put hx hb hts hin ty0 hty hnm hown hk hH.1 hH.2.1 hH.2.2 a (pj_ws_at hla) hc k hkN (hts _ hl) (fun _ h9 => h9) hfin (ty := .boolean) (v := .int 1) hp (by decide +kernel) (by decide +kernel) (by simpa using hlt) hd (fun H1 locs1 hP hD hS => ?_)
            exact hK _ _ _ _ _ h hR ls H1 locs1 (hF.stk (pj_ok1 (pj_ok1 hF.2.2.2.2))) (pj_H.wr hla (fun j hj => pj_wr_ne hj) (fun j hj => rfl) (by rw [pj_fs_set hf]; rfl) hP hH.2.1 hS)
          · cases h
      · cases h
    · cases h
  · cases h
/-! arrays -/
def qs_iald {ρ : Type} (nx : Nat) : pj_T ρ := fun K L st m => match st with
  | .inl i :: .inr (.inr (t, x, a)) :: st => (match Nat.beq t 1 with
    | true => if i < 0 ∨ x ≤ i.toNatClampNeg then none else K nx L (.inl (m.1 a i.toNatClampNeg) :: st) m
    | false => none)
  | _ => none
def qs_iast {ρ : Type} (nx : Nat) : pj_T ρ := fun K L st m => match st with
  | .inl v :: .inl i :: .inr (.inr (t, x, a)) :: st => (match Nat.beq t 1 with
    | true => if i < 0 ∨ x ≤ i.toNatClampNeg then none else K nx L st (pj_wr m a i.toNatClampNeg v)
    | false => none)
  | _ => none
def qs_lald {ρ : Type} (nx : Nat) : pj_T ρ := fun K L st m => match st with
  | .inl i :: .inr (.inr (t, x, a)) :: st => (match Nat.beq t 2 with
    | true => if i < 0 ∨ x ≤ i.toNatClampNeg then none else K nx L (.inr (.inl (m.2 a i.toNatClampNeg)) :: st) m
    | false => none)
  | _ => none
def qs_last {ρ : Type} (nx : Nat) : pj_T ρ := fun K L st m => match st with
  | .inr (.inl v) :: .inl i :: .inr (.inr (t, x, a)) :: st => (match Nat.beq t 2 with
    | true => if i < 0 ∨ x ≤ i.toNatClampNeg then none else K nx L st (pj_wl m a i.toNatClampNeg v)
    | false => none)
  | _ => none
def qs_zald {ρ : Type} (nx : Nat) : pj_T ρ := fun K L st m => match st with
  | .inl i :: .inr (.inr (t, x, a)) :: st => (match Nat.beq t 3 with
    | true => if i < 0 ∨ x ≤ i.toNatClampNeg then none else K nx L (.inl (m.1 a i.toNatClampNeg) :: st) m
    | false => none)
  | _ => none
def qs_zast {ρ : Type} (nx : Nat) : pj_T ρ := fun K L st m => match st with
  | .inl v :: .inl i :: .inr (.inr (t, x, a)) :: st => (match Nat.beq t 3 with
    | true => if i < 0 ∨ x ≤ i.toNatClampNeg then none else if v = 0 then K nx L st (pj_wr m a i.toNatClampNeg 0) else if v = 1 then K nx L st (pj_wr m a i.toNatClampNeg 1) else none
    | false => none)
  | _ => none
def qs_aald {ρ : Type} (nx : Nat) : pj_T ρ := fun K L st m => match st with
  | .inl i :: .inr (.inr (t, x, a)) :: st => (match Nat.beq t 4 with
    | true => if i < 0 ∨ pj_rlen x ≤ i.toNatClampNeg then none else K nx L (.inr (.inr (0, x, a + pj_roff x + pj_rstr x * i.toNatClampNeg)) :: st) m
    | false => none)
  | _ => none
def qs_alen {ρ : Type} (nx : Nat) : pj_T ρ := fun K L st m => match st with
  | .inr (.inr (t, x, _)) :: st => (match Nat.beq t 1 with
    | true => K nx L (.inl (Int32.ofNat x) :: st) m
    | false => none)
  | _ => none
/-- the law's script: its length, its ints -/
def qs_sald {ρ : Type} (n : Nat) (xs : Nat → Int32) (nx : Nat) : pj_T ρ := fun K L st m => match st with
  | .inl i :: .inr (.inr (t, _, _)) :: st => (match Nat.beq t 5 with
    | true => if i < 0 ∨ n ≤ i.toNatClampNeg then none else K nx L (.inl (xs i.toNatClampNeg) :: st) m
    | false => none)
  | _ => none
def qs_slen {ρ : Type} (n : Nat) (nx : Nat) : pj_T ρ := fun K L st m => match st with
  | .inr (.inr (t, _, _)) :: st => (match Nat.beq t 5 with
    | true => K nx L (.inl (Int32.ofNat n) :: st) m
    | false => none)
  | _ => none
theorem pj_wl_at (m : pj_M) (a k : Nat) (v : Int64) : (pj_wl m a k v).2 a = vp_updL (m.2 a) k v := by
  simp [pj_wl]
theorem pj_wl_ne {m : pj_M} {a k j : Nat} {v : Int64} (h : j ≠ a) : (pj_wl m a k v).2 j = m.2 j := by
  simp [pj_wl, h]

theorem qz_iald {ρ : Type} {X : pj_X} {enc : ρ → Option pj_V × pj_M} {pc : Nat} (C : pj_C X) (hd : decode (pj_cc X) pc = .ok (.iaload, 1)) : pj_S X enc pc (qs_iald (pc + 1)) := by
  intro K hK L st m r h hR
  obtain ⟨G, A, ⟨cc, own, nL, ret, rk⟩, ⟨p, l, e, R⟩, ⟨s, mi, args, below, meth, c⟩, ⟨cells, slots, Q⟩⟩ := X
  obtain ⟨hx, hb, hml, hown, hts, hk, hnw, hfr, hlo, hce, hsl, hX, hbl, hbA⟩ := C
  unfold qs_iald at h
  split at h
  · rename_i i t x a st
    split at h
    · rename_i hbq
      obtain rfl := Nat.eq_of_beq_eq_true hbq
      split at h
      · cases h
      · rename_i hi
        intro ls H locs hF hH
        have hla := pj_okl (pj_okh (pj_ok1 hF.2.2.2.2)) (by decide)
        rw [List.map_cons, List.map_cons, pj_tr_lay hla]
        exact va_iald hx hb hk hH.1 a 0 (pj_ws_at hla) rfl hi hd (hK _ _ _ _ _ h hR ls H locs (hF.stk (pj_okc trivial (pj_ok1 (pj_ok1 hF.2.2.2.2)))) hH)
    · cases h
  · cases h
theorem qz_lald {ρ : Type} {X : pj_X} {enc : ρ → Option pj_V × pj_M} {pc : Nat} (C : pj_C X) (hd : decode (pj_cc X) pc = .ok (.laload, 1)) : pj_S X enc pc (qs_lald (pc + 1)) := by
  intro K hK L st m r h hR
  obtain ⟨G, A, ⟨cc, own, nL, ret, rk⟩, ⟨p, l, e, R⟩, ⟨s, mi, args, below, meth, c⟩, ⟨cells, slots, Q⟩⟩ := X
  obtain ⟨hx, hb, hml, hown, hts, hk, hnw, hfr, hlo, hce, hsl, hX, hbl, hbA⟩ := C
  unfold qs_lald at h
  split at h
  · rename_i i t x a st
    split at h
    · rename_i hbq
      obtain rfl := Nat.eq_of_beq_eq_true hbq
      split at h
      · cases h
      · rename_i hi
        intro ls H locs hF hH
        have hla := pj_okl (pj_okh (pj_ok1 hF.2.2.2.2)) (by decide)
        rw [List.map_cons, List.map_cons, pj_tr_lay hla]
        exact va_lald hx hb hk hH.1 a 1 (pj_ws_at hla) rfl hi hd (hK _ _ _ _ _ h hR ls H locs (hF.stk (pj_okc trivial (pj_ok1 (pj_ok1 hF.2.2.2.2)))) hH)
    · cases h
  · cases h
theorem qz_zald {ρ : Type} {X : pj_X} {enc : ρ → Option pj_V × pj_M} {pc : Nat} (C : pj_C X) (hd : decode (pj_cc X) pc = .ok (.baload, 1)) : pj_S X enc pc (qs_zald (pc + 1)) := by
  intro K hK L st m r h hR
  obtain ⟨G, A, ⟨cc, own, nL, ret, rk⟩, ⟨p, l, e, R⟩, ⟨s, mi, args, below, meth, c⟩, ⟨cells, slots, Q⟩⟩ := X
  obtain ⟨hx, hb, hml, hown, hts, hk, hnw, hfr, hlo, hce, hsl, hX, hbl, hbA⟩ := C
  unfold qs_zald at h
  split at h
  · rename_i i t x a st
    split at h
    · rename_i hbq
      obtain rfl := Nat.eq_of_beq_eq_true hbq
      split at h
      · cases h
      · rename_i hi
        intro ls H locs hF hH
        have hla := pj_okl (pj_okh (pj_ok1 hF.2.2.2.2)) (by decide)
        rw [List.map_cons, List.map_cons, pj_tr_lay hla]
        exact va_zald hx hb hk hH.1 a 2 (pj_ws_at hla) rfl hi hd (hK _ _ _ _ _ h hR ls H locs (hF.stk (pj_okc trivial (pj_ok1 (pj_ok1 hF.2.2.2.2)))) hH)
    · cases h
  · cases h
theorem qz_iast {ρ : Type} {X : pj_X} {enc : ρ → Option pj_V × pj_M} {pc : Nat} (C : pj_C X) (hd : decode (pj_cc X) pc = .ok (.iastore, 1)) : pj_S X enc pc (qs_iast (pc + 1)) := by
  intro K hK L st m r h hR
  obtain ⟨G, A, ⟨cc, own, nL, ret, rk⟩, ⟨p, l, e, R⟩, ⟨s, mi, args, below, meth, c⟩, ⟨cells, slots, Q⟩⟩ := X
  obtain ⟨hx, hb, hml, hown, hts, hk, hnw, hfr, hlo, hce, hsl, hX, hbl, hbA⟩ := C
  unfold qs_iast at h
  split at h
  · rename_i v i t x a st
    split at h
    · rename_i hbq
      obtain rfl := Nat.eq_of_beq_eq_true hbq
      split at h
      · cases h
      · rename_i hi
        intro ls H locs hF hH
        have hla := pj_okl (pj_okh (pj_ok1 (pj_ok1 hF.2.2.2.2))) (by decide)
        rw [List.map_cons, List.map_cons, List.map_cons, pj_tr_lay hla]
        refine va_iast hx hb hk hH.1 hH.2.1 hH.2.2 a 0 (pj_ws_at hla) rfl hi hd (fun H1 locs1 hP hD hS => ?_)
        exact hK _ _ _ _ _ h hR ls H1 locs1 (hF.stk (pj_ok1 (pj_ok1 (pj_ok1 hF.2.2.2.2)))) (pj_H.wr (m := m) (m' := pj_wr m a i.toNatClampNeg v) hla (fun j hj => pj_wr_ne hj) (fun j hj => rfl) (by simp only [pj_ent, pj_wr_at]) hP hH.2.1 hS)
    · cases h
  · cases h
theorem qz_last {ρ : Type} {X : pj_X} {enc : ρ → Option pj_V × pj_M} {pc : Nat} (C : pj_C X) (hd : decode (pj_cc X) pc = .ok (.lastore, 1)) : pj_S X enc pc (qs_last (pc + 1)) := by
  intro K hK L st m r h hR
  obtain ⟨G, A, ⟨cc, own, nL, ret, rk⟩, ⟨p, l, e, R⟩, ⟨s, mi, args, below, meth, c⟩, ⟨cells, slots, Q⟩⟩ := X
  obtain ⟨hx, hb, hml, hown, hts, hk, hnw, hfr, hlo, hce, hsl, hX, hbl, hbA⟩ := C
  unfold qs_last at h
  split at h
  · rename_i v i t x a st
    split at h
    · rename_i hbq
      obtain rfl := Nat.eq_of_beq_eq_true hbq
      split at h
      · cases h
      · rename_i hi
        intro ls H locs hF hH
        have hla := pj_okl (pj_okh (pj_ok1 (pj_ok1 hF.2.2.2.2))) (by decide)
        rw [List.map_cons, List.map_cons, List.map_cons, pj_tr_lay hla]
        refine va_last hx hb hk hH.1 hH.2.1 hH.2.2 a 1 (pj_ws_at hla) rfl hi hd (fun H1 locs1 hP hD hS => ?_)
        exact hK _ _ _ _ _ h hR ls H1 locs1 (hF.stk (pj_ok1 (pj_ok1 (pj_ok1 hF.2.2.2.2)))) (pj_H.wr (m := m) (m' := pj_wl m a i.toNatClampNeg v) hla (fun _ _ => rfl) (fun j hj => pj_wl_ne hj) (by simp only [pj_ent, pj_wl_at]) hP hH.2.1 hS)
    · cases h
  · cases h
theorem qz_zast {ρ : Type} {X : pj_X} {enc : ρ → Option pj_V × pj_M} {pc : Nat} (C : pj_C X) (hd : decode (pj_cc X) pc = .ok (.bastore, 1)) : pj_S X enc pc (qs_zast (pc + 1)) := by
  intro K hK L st m r h hR
  obtain ⟨G, A, ⟨cc, own, nL, ret, rk⟩, ⟨p, l, e, R⟩, ⟨s, mi, args, below, meth, c⟩, ⟨cells, slots, Q⟩⟩ := X
  obtain ⟨hx, hb, hml, hown, hts, hk, hnw, hfr, hlo, hce, hsl, hX, hbl, hbA⟩ := C
  unfold qs_zast at h
  split at h
  · rename_i v i t x a st
    split at h
    · rename_i hbq
      obtain rfl := Nat.eq_of_beq_eq_true hbq
      split at h
      · cases h
      · rename_i hi
        intro ls H locs hF hH
        have hla := pj_okl (pj_okh (pj_ok1 (pj_ok1 hF.2.2.2.2))) (by decide)
        rw [List.map_cons, List.map_cons, List.map_cons, pj_tr_lay hla]
        refine va_zast hx hb hk hH.1 hH.2.1 hH.2.2 a 2 (pj_ws_at hla) rfl hi hd (fun H1 locs1 hP hD hS => ?_)
        split at h
        · rename_i hv
          subst hv
          exact hK _ _ _ _ _ h hR ls H1 locs1 (hF.stk (pj_ok1 (pj_ok1 (pj_ok1 hF.2.2.2.2)))) (pj_H.wr hla (fun j hj => pj_wr_ne hj) (fun j hj => rfl) (by simp only [pj_ent, pj_wr_at, show vp_nar .boolean 0 = 0 by decide +kernel]) hP hH.2.1 hS)
        · split at h
          · rename_i hv
            subst hv
            exact hK _ _ _ _ _ h hR ls H1 locs1 (hF.stk (pj_ok1 (pj_ok1 (pj_ok1 hF.2.2.2.2)))) (pj_H.wr hla (fun j hj => pj_wr_ne hj) (fun j hj => rfl) (by simp only [pj_ent, pj_wr_at, show vp_nar .boolean 1 = 1 by decide +kernel]) hP hH.2.1 hS)
          · cases h
    · cases h
  · cases h
theorem qz_aald {ρ : Type} {X : pj_X} {enc : ρ → Option pj_V × pj_M} {pc : Nat} (C : pj_C X) (hd : decode (pj_cc X) pc = .ok (.aaload, 1)) : pj_S X enc pc (qs_aald (pc + 1)) := by
  intro K hK L st m r h hR
  obtain ⟨G, A, ⟨cc, own, nL, ret, rk⟩, ⟨p, l, e, R⟩, ⟨s, mi, args, below, meth, c⟩, ⟨cells, slots, Q⟩⟩ := X
  obtain ⟨hx, hb, hml, hown, hts, hk, hnw, hfr, hlo, hce, hsl, hX, hbl, hbA⟩ := C
  unfold qs_aald at h
  split at h
  · rename_i i t x a st
    split at h
    · rename_i hbq
      obtain rfl := Nat.eq_of_beq_eq_true hbq
      split at h
      · cases h
      · rename_i hi
        intro ls H locs hF hH
        have hla := pj_okl (pj_okh (pj_ok1 hF.2.2.2.2)) (by decide)
        rw [List.map_cons, List.map_cons, pj_tr_lay hla]
        have hl2 := pj_lay_ref hla (show i.toNatClampNeg < pj_rlen x by omega)
        have h2 := hK _ _ _ _ _ h hR ls H locs (hF.stk (pj_okc (Or.inr hl2) (pj_ok1 (pj_ok1 hF.2.2.2.2)))) hH
        rw [List.map_cons, pj_tr_lay hl2] at h2
        have hx0 : x = 4 ∨ x = 5 ∨ x = 9 := by
          have hlt : 0 < pj_rlen x := by omega
          unfold pj_rlen at hlt
          split at hlt <;> simp_all
        rcases hx0 with rfl | rfl | rfl
        · exact va_aldq hx hb hk hH.1 a 3 (pj_ws_at hla) rfl hi hd h2
        · exact va_aldq hx hb hk hH.1 a 4 (pj_ws_at hla) rfl hi hd h2
        · exact va_aldq hx hb hk hH.1 a 5 (pj_ws_at hla) rfl hi hd h2
    · cases h
  · cases h
theorem qz_alen {ρ : Type} {X : pj_X} {enc : ρ → Option pj_V × pj_M} {pc : Nat} (C : pj_C X) (hd : decode (pj_cc X) pc = .ok (.arraylength, 1)) : pj_S X enc pc (qs_alen (pc + 1)) := by
  intro K hK L st m r h hR
  obtain ⟨G, A, ⟨cc, own, nL, ret, rk⟩, ⟨p, l, e, R⟩, ⟨s, mi, args, below, meth, c⟩, ⟨cells, slots, Q⟩⟩ := X
  obtain ⟨hx, hb, hml, hown, hts, hk, hnw, hfr, hlo, hce, hsl, hX, hbl, hbA⟩ := C
  unfold qs_alen at h
  split at h
  · rename_i t x a st
    split at h
    · rename_i hbq
      obtain rfl := Nat.eq_of_beq_eq_true hbq
      intro ls H locs hF hH
      have hla := pj_okl (pj_okh hF.2.2.2.2) (by decide)
      rw [List.map_cons, pj_tr_lay hla]
      exact va_alen hx hb hk hH.1 a 0 (pj_ws_at hla) rfl rfl hd (hK _ _ _ _ _ h hR ls H locs (hF.stk (pj_okc trivial (pj_ok1 hF.2.2.2.2))) hH)
    · cases h
  · cases h
def pj_sL (X : pj_X) : Nat := X.1.2.2.2.2.1
def pj_sxs (X : pj_X) : Nat → Int32 := X.1.2.2.2.2.2
theorem qz_sald {ρ : Type} {X : pj_X} {enc : ρ → Option pj_V × pj_M} {pc : Nat} (C : pj_C X) {n : Nat} {xs : Nat → Int32} (hn : pj_sL X = n) (hs : pj_sxs X = xs) (hd : decode (pj_cc X) pc = .ok (.iaload, 1)) : pj_S X enc pc (qs_sald n xs (pc + 1)) := by
  intro K hK L st m r h hR
  obtain ⟨G, A, ⟨cc, own, nL, ret, rk⟩, ⟨p, l, e, R⟩, ⟨s, mi, args, below, meth, c⟩, ⟨cells, slots, Q⟩⟩ := X
  obtain ⟨hx, hb, hml, hown, hts, hk, hnw, hfr, hlo, hce, hsl, hX, hbl, hbA⟩ := C
  subst hn
  subst hs
  unfold qs_sald at h
  split at h
  · rename_i i t x a st
    split at h
    · rename_i hbq
      obtain rfl := Nat.eq_of_beq_eq_true hbq
      split at h
      · cases h
      · rename_i hi
        intro ls H locs hF hH
        exact va_sld hx hb hX hbl hbA hH.2.2 hi hd (hK _ _ _ _ _ h hR ls H locs (hF.stk (pj_okc trivial (pj_ok1 (pj_ok1 hF.2.2.2.2)))) hH)
    · cases h
  · cases h
theorem qz_slen {ρ : Type} {X : pj_X} {enc : ρ → Option pj_V × pj_M} {pc : Nat} (C : pj_C X) {n : Nat} (hn : pj_sL X = n) (hd : decode (pj_cc X) pc = .ok (.arraylength, 1)) : pj_S X enc pc (qs_slen n (pc + 1)) := by
  intro K hK L st m r h hR
  obtain ⟨G, A, ⟨cc, own, nL, ret, rk⟩, ⟨p, l, e, R⟩, ⟨s, mi, args, below, meth, c⟩, ⟨cells, slots, Q⟩⟩ := X
  obtain ⟨hx, hb, hml, hown, hts, hk, hnw, hfr, hlo, hce, hsl, hX, hbl, hbA⟩ := C
  subst hn
  unfold qs_slen at h
  split at h
  · rename_i t x a st
    split at h
    · rename_i hbq
      obtain rfl := Nat.eq_of_beq_eq_true hbq
      intro ls H locs hF hH
      exact va_slen hx hb hX hbl hbA hH.2.2 hd (hK _ _ _ _ _ h hR ls H locs (hF.stk (pj_okc trivial (pj_ok1 hF.2.2.2.2))) hH)
    · cases h
  · cases h
