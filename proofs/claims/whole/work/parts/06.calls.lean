/-! PART 06: switches, returns, the library's own calls, calls, the run of a body, contracts. Written by wip/whole/gen/mkcore3.py -/
def pj_sw {ρ : Type} (K : pj_K ρ) (L : List (Option pj_V)) (st : List pj_V) (m : pj_M) (d : Nat) (x : Int32) (ps : List (Int32 × Nat)) : Option ρ := match ps with
  | [] => K d L st m
  | q :: ps => if x = q.1 then K q.2 L st m else pj_sw K L st m d x ps
def qs_sw {ρ : Type} (ps : List (Int32 × Nat)) (d : Nat) : pj_T ρ := fun K L st m => match st with
  | .inl x :: st => pj_sw K L st m d x ps
  | _ => none
theorem pj_sw_of {ρ : Type} {K : pj_K ρ} {L : List (Option pj_V)} {st : List pj_V} {m : pj_M} {d : Nat} {x : Int32} {ps : List (Int32 × Nat)} {r : ρ} (h : pj_sw K L st m d x ps = some r) :
    (∃ (k : Nat) (q : Int32 × Nat), ps[k]? = some q ∧ x = q.1 ∧ K q.2 L st m = some r) ∨ ((∀ q ∈ ps, x ≠ q.1) ∧ K d L st m = some r) := by
  induction ps with
  | nil => exact Or.inr ⟨fun q hq => by simp at hq, h⟩
  | cons q ps ih =>
    unfold pj_sw at h
    split at h
    · rename_i hq
      exact Or.inl ⟨0, q, rfl, hq, h⟩
    · rename_i hq
      rcases ih h with ⟨k, q2, h1, h2, h3⟩ | ⟨h1, h2⟩
      · exact Or.inl ⟨k + 1, q2, by simpa using h1, h2, h3⟩
      · refine Or.inr ⟨fun q2 hq2 => ?_, h2⟩
        rcases List.mem_cons.mp hq2 with rfl | hq3
        · exact hq
        · exact h1 q2 hq3
def pj_tsok (pc : Nat) (lo hi dflt : Int) (offs : List Int) (ps : List (Int32 × Nat)) (d : Nat) : Bool :=
  (List.range ps.length).all (fun k => match ps[k]?, offs[k]? with
    | some q, some off => decide ((pc : Int) + off = (q.2 : Int)) && decide (q.1.toInt = lo + (k : Int))
    | _, _ => false) && (decide ((ps.length : Int) = hi - lo + 1) && decide ((pc : Int) + dflt = (d : Int)))
theorem qz_tsw {ρ : Type} {X : pj_X} {enc : ρ → Option pj_V × pj_M} {pc : Nat} (C : pj_C X) {dflt lo hi : Int} {offs : Array Int} {len d : Nat} {ps : List (Int32 × Nat)} (hd : decode (pj_cc X) pc = .ok (.tableswitch dflt lo hi offs, len)) (hps : pj_tsok pc lo hi dflt offs.toList ps d = true) : pj_S X enc pc (qs_sw ps d) := by
  intro K hK L st m r h hR
  obtain ⟨G, A, ⟨cc, own, nL, ret, rk⟩, ⟨p, l, e, R⟩, ⟨s, mi, args, below, meth, c⟩, ⟨cells, slots, Q⟩⟩ := X
  obtain ⟨hx, hb, hml, hown, hts, hk, hnw, hfr, hlo, hce, hsl, hX, hbl, hbA⟩ := C
  unfold qs_sw at h
  simp only [pj_tsok, Bool.and_eq_true, decide_eq_true_eq] at hps
  obtain ⟨hp1, hp2, hp3⟩ := hps
  have hp : ∀ (k : Nat) (q : Int32 × Nat), ps[k]? = some q → ∃ off, offs[k]? = some off ∧ (pc : Int) + off = (q.2 : Int) ∧ q.1.toInt = lo + (k : Int) := by
    intro k q hq
    have h1 := List.all_eq_true.mp hp1 k (List.mem_range.mpr (List.getElem?_eq_some_iff.mp hq).1)
    rw [hq] at h1
    cases ho : offs.toList[k]? with
    | none => rw [ho] at h1; cases h1
    | some off =>
      rw [ho] at h1
      simp only [Bool.and_eq_true, decide_eq_true_eq] at h1
      exact ⟨off, by simpa using ho, h1.1, h1.2⟩
  split at h
  · rename_i x st
    intro ls H locs hF hH
    have hF1 := hF.stk (pj_ok1 hF.2.2.2.2)
    rcases pj_sw_of h with ⟨k, q, h1, h2, h3⟩ | ⟨h1, h2⟩
    · obtain ⟨off, g1, g2, g3⟩ := hp k q h1
      have hlt := (List.getElem?_eq_some_iff.mp h1).1
      subst h2
      refine lv_tableIn hx hb hd (by omega) (by omega) (off := off) ?_ g2 (hK _ _ _ _ _ h3 hR ls H locs hF1 hH)
      rw [g3, show (lo + (k : Int) - lo).toNat = k by omega]
      exact g1
    · refine lv_tableOut hx hb hd ?_ hp3 (hK _ _ _ _ _ h2 hR ls H locs hF1 hH)
      rcases Int.lt_or_le x.toInt lo with q1 | q1
      · exact Or.inl q1
      rcases Int.lt_or_le hi x.toInt with q2 | q2
      · exact Or.inr q2
      exfalso
      have hk1 : (x.toInt - lo).toNat < ps.length := by omega
      have hq : ps[(x.toInt - lo).toNat]? = some (ps[(x.toInt - lo).toNat]'hk1) := List.getElem?_eq_getElem hk1
      obtain ⟨off, g1, g2, g3⟩ := hp _ _ hq
      refine h1 _ (List.mem_of_getElem? hq) (Int32.toInt_inj.mp ?_)
      rw [g3]
      omega
  · cases h
def pj_lsok (pc : Nat) (dflt : Int) (pr : List (Int × Int)) (ps : List (Int32 × Nat)) (d : Nat) : Bool := match pr, ps with
  | [], [] => decide ((pc : Int) + dflt = (d : Int))
  | a :: pr, q :: ps => (decide (q.1.toInt = a.1) && decide ((pc : Int) + a.2 = (q.2 : Int))) && pj_lsok pc dflt pr ps d
  | _, _ => false
theorem pj_ls_of {ρ : Type} {K : pj_K ρ} {L : List (Option pj_V)} {st : List pj_V} {m : pj_M} {d pc : Nat} {dflt : Int} {x : Int32} {r : ρ} (ps : List (Int32 × Nat)) : ∀ (pr : List (Int × Int)), pj_lsok pc dflt pr ps d = true → pj_sw K L st m d x ps = some r →
    ∃ tgt : Nat, (pc : Int) + Op.lookupswitch.offset pr dflt x.toInt = (tgt : Int) ∧ K tgt L st m = some r := by
  induction ps with
  | nil =>
    intro pr hp h
    cases pr with
    | nil => exact ⟨d, by simpa [pj_lsok, Op.lookupswitch.offset_nil] using hp, h⟩
    | cons _ _ => cases hp
  | cons q ps ih =>
    intro pr hp h
    cases pr with
    | nil => cases hp
    | cons a pr =>
      obtain ⟨a, o⟩ := a
      simp only [pj_lsok, Bool.and_eq_true, decide_eq_true_eq] at hp
      obtain ⟨⟨g1, g2⟩, g3⟩ := hp
      unfold pj_sw at h
      rw [Op.lookupswitch.offset_cons]
      split at h
      · rename_i hq
        rw [if_pos (by rw [hq, g1])]
        exact ⟨q.2, g2, h⟩
      · rename_i hq
        rw [if_neg (fun e => hq (Int32.toInt_inj.mp (by rw [g1, e])))]
        exact ih pr g3 h
theorem qz_lsw {ρ : Type} {X : pj_X} {enc : ρ → Option pj_V × pj_M} {pc : Nat} (C : pj_C X) {dflt : Int} {pr : Array (Int × Int)} {len d : Nat} {ps : List (Int32 × Nat)} (hd : decode (pj_cc X) pc = .ok (.lookupswitch dflt pr, len)) (hso : (pr.toList.zip (pr.toList.drop 1)).all (fun (a, next) => a.1 < next.1) = true) (hps : pj_lsok pc dflt pr.toList ps d = true) : pj_S X enc pc (qs_sw ps d) := by
  intro K hK L st m r h hR
  obtain ⟨G, A, ⟨cc, own, nL, ret, rk⟩, ⟨p, l, e, R⟩, ⟨s, mi, args, below, meth, c⟩, ⟨cells, slots, Q⟩⟩ := X
  obtain ⟨hx, hb, hml, hown, hts, hk, hnw, hfr, hlo, hce, hsl, hX, hbl, hbA⟩ := C
  unfold qs_sw at h
  split at h
  · rename_i x st
    intro ls H locs hF hH
    have hF1 := hF.stk (pj_ok1 hF.2.2.2.2)
    obtain ⟨tgt, h1, h2⟩ := pj_ls_of ps _ hps h
    exact lv_lookup hx hb hd hso rfl h1 (hK _ _ _ _ _ h2 hR ls H locs hF1 hH)
  · cases h
/-! returns -/
def pj_eI (q : Int32 × pj_M) : Option pj_V × pj_M := (some (.inl q.1), q.2)
def pj_eL (q : Int64 × pj_M) : Option pj_V × pj_M := (some (.inr (.inl q.1)), q.2)
def pj_eR (cr : Nat) (q : Nat × pj_M) : Option pj_V × pj_M := (some (.inr (.inr (0, cr, q.1))), q.2)
def pj_eV (m : pj_M) : Option pj_V × pj_M := (none, m)
def qs_iret : pj_T (Int32 × pj_M) := fun _ _ st m => match st with
  | [.inl v] => some (v, m)
  | _ => none
def qs_zret : pj_T (Int32 × pj_M) := fun _ _ st m => match st with
  | [.inl v] => if v = 0 then some (0, m) else if v = 1 then some (1, m) else none
  | _ => none
def qs_lret : pj_T (Int64 × pj_M) := fun _ _ st m => match st with
  | [.inr (.inl v)] => some (v, m)
  | _ => none
def qs_aret (cr : Nat) : pj_T (Nat × pj_M) := fun _ _ st m => match st with
  | [.inr (.inr (t, x, a))] => (match Nat.beq t 0 && Nat.beq x cr with
    | true => some (a, m)
    | false => none)
  | _ => none
def qs_vret : pj_T pj_M := fun _ _ st m => match st with
  | [] => some m
  | _ => none
theorem qz_iret {X : pj_X} {pc : Nat} (C : pj_C X) (hd : decode (pj_cc X) pc = .ok (.ireturn, 1)) (hr : pj_retT X = some .int) : pj_S X pj_eI pc qs_iret := by
  intro K hK L st m r h hR
  obtain ⟨G, A, ⟨cc, own, nL, ret, rk⟩, ⟨p, l, e, R⟩, ⟨s, mi, args, below, meth, c⟩, ⟨cells, slots, Q⟩⟩ := X
  obtain ⟨hx, hb, hml, hown, hts, hk, hnw, hfr, hlo, hce, hsl, hX, hbl, hbA⟩ := C
  unfold qs_iret at h
  split at h
  · cases h
    intro ls H locs hF hH
    exact hR pc ls H locs ⟨hd, .int, hr, rfl⟩ (fun v hv => by cases hv; trivial) hH
  · cases h
theorem qz_zret {X : pj_X} {pc : Nat} (C : pj_C X) (hd : decode (pj_cc X) pc = .ok (.ireturn, 1)) (hr : pj_retT X = some .boolean) : pj_S X pj_eI pc qs_zret := by
  intro K hK L st m r h hR
  obtain ⟨G, A, ⟨cc, own, nL, ret, rk⟩, ⟨p, l, e, R⟩, ⟨s, mi, args, below, meth, c⟩, ⟨cells, slots, Q⟩⟩ := X
  obtain ⟨hx, hb, hml, hown, hts, hk, hnw, hfr, hlo, hce, hsl, hX, hbl, hbA⟩ := C
  unfold qs_zret at h
  split at h
  · split at h
    · rename_i hv
      subst hv
      cases h
      intro ls H locs hF hH
      exact hR pc ls H locs ⟨hd, .boolean, hr, (by decide +kernel : narrow .boolean (.int 0) = .int 0)⟩ (fun v hv => by cases hv; trivial) hH
    · split at h
      · rename_i hv
        subst hv
        cases h
        intro ls H locs hF hH
        exact hR pc ls H locs ⟨hd, .boolean, hr, (by decide +kernel : narrow .boolean (.int 1) = .int 1)⟩ (fun v hv => by cases hv; trivial) hH
      · cases h
  · cases h
theorem qz_lret {X : pj_X} {pc : Nat} (C : pj_C X) (hd : decode (pj_cc X) pc = .ok (.lreturn, 1)) (hr : pj_retT X = some .long) : pj_S X pj_eL pc qs_lret := by
  intro K hK L st m r h hR
  obtain ⟨G, A, ⟨cc, own, nL, ret, rk⟩, ⟨p, l, e, R⟩, ⟨s, mi, args, below, meth, c⟩, ⟨cells, slots, Q⟩⟩ := X
  obtain ⟨hx, hb, hml, hown, hts, hk, hnw, hfr, hlo, hce, hsl, hX, hbl, hbA⟩ := C
  unfold qs_lret at h
  split at h
  · cases h
    intro ls H locs hF hH
    exact hR pc ls H locs ⟨hd, hr⟩ (fun v hv => by cases hv; trivial) hH
  · cases h
theorem qz_aret {X : pj_X} {pc cr : Nat} {n : String} (C : pj_C X) (hd : decode (pj_cc X) pc = .ok (.areturn, 1)) (hr : pj_retT X = some (.object n)) : pj_S X (pj_eR cr) pc (qs_aret cr) := by
  intro K hK L st m r h hR
  obtain ⟨G, A, ⟨cc, own, nL, ret, rk⟩, ⟨p, l, e, R⟩, ⟨s, mi, args, below, meth, c⟩, ⟨cells, slots, Q⟩⟩ := X
  obtain ⟨hx, hb, hml, hown, hts, hk, hnw, hfr, hlo, hce, hsl, hX, hbl, hbA⟩ := C
  unfold qs_aret at h
  split at h
  · split at h
    · rename_i hbq
      obtain ⟨rfl, rfl⟩ := pj_b2 hbq
      cases h
      intro ls H locs hF hH
      exact hR pc ls H locs ⟨hd, n, hr⟩ (fun v hv => by cases hv; exact pj_okh hF.2.2.2.2) hH
    · cases h
  · cases h
theorem qz_vret {X : pj_X} {pc : Nat} (C : pj_C X) (hd : decode (pj_cc X) pc = .ok (.return_, 1)) (hr : pj_retT X = none) : pj_S X pj_eV pc qs_vret := by
  intro K hK L st m r h hR
  obtain ⟨G, A, ⟨cc, own, nL, ret, rk⟩, ⟨p, l, e, R⟩, ⟨s, mi, args, below, meth, c⟩, ⟨cells, slots, Q⟩⟩ := X
  obtain ⟨hx, hb, hml, hown, hts, hk, hnw, hfr, hlo, hce, hsl, hX, hbl, hbA⟩ := C
  unfold qs_vret at h
  split at h
  · cases h
    intro ls H locs hF hH
    exact hR pc ls H locs ⟨hd, hr⟩ (fun v hv => by cases hv) hH
  · cases h
/-! the library's own -/
def qs_cpi {ρ : Type} (nx : Nat) : pj_T ρ := fun K L st m => match st with
  | .inl n :: .inl dp :: .inr (.inr (t1, x1, a1)) :: .inl sp :: .inr (.inr (t0, x0, a0)) :: st => (match (Nat.beq t1 1 && Nat.beq t0 1) && Nat.ble (pj_cat st) 8 with
    | true => if (sp < 0 ∨ dp < 0 ∨ n < 0) ∨ x0 < sp.toNatClampNeg + n.toNatClampNeg ∨ x1 < dp.toNatClampNeg + n.toNatClampNeg then none else K nx L st (pj_cp m a0 sp.toNatClampNeg a1 dp.toNatClampNeg n.toNatClampNeg)
    | false => none)
  | _ => none
theorem qz_cpi {ρ : Type} {X : pj_X} {enc : ρ → Option pj_V × pj_M} {pc : Nat} (C : pj_C X) {i : Nat} (hd : decode (pj_cc X) pc = .ok (.invokestatic i, 3)) (h1 : Cond.methodLink (pj_own X) i arraycopyName ∈ pj_tb) (h2 : Cond.native arraycopyName ∈ pj_tb) (h3 : Cond.static arraycopyName ∈ pj_tb) (h4 : Cond.initialized "java/lang/System" ∈ pj_tb) : pj_S X enc pc (qs_cpi (pc + 3)) := by
  intro K hK L st m r h hR
  obtain ⟨G, A, ⟨cc, own, nL, ret, rk⟩, ⟨p, l, e, R⟩, ⟨s, mi, args, below, meth, c⟩, ⟨cells, slots, Q⟩⟩ := X
  obtain ⟨hx, hb, hml, hown, hts, hk, hnw, hfr, hlo, hce, hsl, hX, hbl, hbA⟩ := C
  unfold qs_cpi at h
  split at h
  · rename_i n dp t1 x1 a1 sp t0 x0 a0 st
    split at h
    · rename_i hbq
      simp only [Bool.and_eq_true, Nat.beq_eq, Nat.ble_eq] at hbq
      obtain ⟨⟨rfl, rfl⟩, hcat⟩ := hbq
      split at h
      · cases h
      · rename_i hi
        simp only [not_or, Nat.not_lt] at hi
        obtain ⟨⟨i1, i2, i3⟩, i4, i5⟩ := hi
        intro ls H locs hF hH
        have hok := hF.2.2.2.2
        have hla1 := pj_okl (pj_okh (pj_ok1 (pj_ok1 hok))) (by decide)
        have hla0 := pj_okl (pj_okh (pj_ok1 (pj_ok1 (pj_ok1 (pj_ok1 hok))))) (by decide)
        rw [List.map_cons, List.map_cons, List.map_cons, List.map_cons, List.map_cons, pj_tr_lay hla1, pj_tr_lay hla0]
        have hnf : nativeFrameWords "java/lang/System" "arraycopy" 5 = 7 := by decide +kernel
        have hct := pj_cat_eq G st
        refine va_copyi hx hb (hml.trans hF.1.symm) hown (hts _ h1) (hts _ h2) (hts _ h3) (hts _ h4) hk hH.1 hH.2.1 hH.2.2 a0 a1 0 0 (pj_ws_at hla0) (pj_ws_at hla1) rfl rfl rfl i1 i2 i3 i4 i5 (fun _ _ => rfl) (by omega) (by rw [hct, hnf]; omega) hd (fun H1 locs1 hP hD hS => ?_)
        exact hK _ _ _ _ _ h hR ls H1 locs1 (hF.stk (pj_ok1 (pj_ok1 (pj_ok1 (pj_ok1 (pj_ok1 hok)))))) (pj_H.wr (m := m) (m' := pj_cp m a0 sp.toNatClampNeg a1 dp.toNatClampNeg n.toNatClampNeg) hla1 (fun j hj => by simp [pj_cp, hj]) (fun _ _ => rfl) (by simp [pj_ent, pj_cp]) hP hH.2.1 hS)
    · cases h
  · cases h
def qs_mmax {ρ : Type} (nx : Nat) : pj_T ρ := fun K L st m => match st with
  | .inl y :: .inl x :: st => (match Nat.ble (pj_cat st) 8 with
    | true => K nx L (.inl (if x < y then y else x) :: st) m
    | false => none)
  | _ => none
def qs_mmin {ρ : Type} (nx : Nat) : pj_T ρ := fun K L st m => match st with
  | .inl y :: .inl x :: st => (match Nat.ble (pj_cat st) 8 with
    | true => K nx L (.inl (if y < x then y else x) :: st) m
    | false => none)
  | _ => none
def qs_lmin {ρ : Type} (nx : Nat) : pj_T ρ := fun K L st m => match st with
  | .inr (.inl y) :: .inr (.inl x) :: st => (match Nat.ble (pj_cat st) 8 with
    | true => K nx L (.inr (.inl (if y < x then y else x)) :: st) m
    | false => none)
  | _ => none
theorem qz_mmax {ρ : Type} {X : pj_X} {enc : ρ → Option pj_V × pj_M} {pc : Nat} (C : pj_C X) {i : Nat} (hd : decode (pj_cc X) pc = .ok (.invokestatic i, 3)) (h1 : Cond.methodLink (pj_own X) i Lib.Math.max.name ∈ pj_tb) (h2 : Cond.static Lib.Math.max.name ∈ pj_tb) (h3 : Cond.initialized "java/lang/Math" ∈ pj_tb) (h4 : Cond.code Lib.Math.max.name Lib.Math.max.code 2 (some .int) ∈ pj_tb) : pj_S X enc pc (qs_mmax (pc + 3)) := by
  intro K hK L st m r h hR
  obtain ⟨G, A, ⟨cc, own, nL, ret, rk⟩, ⟨p, l, e, R⟩, ⟨s, mi, args, below, meth, c⟩, ⟨cells, slots, Q⟩⟩ := X
  obtain ⟨hx, hb, hml, hown, hts, hk, hnw, hfr, hlo, hce, hsl, hX, hbl, hbA⟩ := C
  unfold qs_mmax at h
  split at h
  · rename_i y x st
    split at h
    · rename_i hbq
      have hbq := Nat.le_of_ble_eq_true hbq
      intro ls H locs hF hH
      have hct := pj_cat_eq G st
      exact va_mmax hx hb (hml.trans hF.1.symm) hown (hts _ h1) (hts _ h2) (hts _ h3) (hts _ h4) (by omega) (by rw [hct]; omega) hce hsl hd (hK _ _ _ _ _ h hR ls H locs (hF.stk (pj_okc trivial (pj_ok1 (pj_ok1 hF.2.2.2.2)))) hH)
    · cases h
  · cases h
theorem qz_mmin {ρ : Type} {X : pj_X} {enc : ρ → Option pj_V × pj_M} {pc : Nat} (C : pj_C X) {i : Nat} (hd : decode (pj_cc X) pc = .ok (.invokestatic i, 3)) (h1 : Cond.methodLink (pj_own X) i Lib.Math.min.name ∈ pj_tb) (h2 : Cond.static Lib.Math.min.name ∈ pj_tb) (h3 : Cond.initialized "java/lang/Math" ∈ pj_tb) (h4 : Cond.code Lib.Math.min.name Lib.Math.min.code 2 (some .int) ∈ pj_tb) : pj_S X enc pc (qs_mmin (pc + 3)) := by
  intro K hK L st m r h hR
  obtain ⟨G, A, ⟨cc, own, nL, ret, rk⟩, ⟨p, l, e, R⟩, ⟨s, mi, args, below, meth, c⟩, ⟨cells, slots, Q⟩⟩ := X
  obtain ⟨hx, hb, hml, hown, hts, hk, hnw, hfr, hlo, hce, hsl, hX, hbl, hbA⟩ := C
  unfold qs_mmin at h
  split at h
  · rename_i y x st
    split at h
    · rename_i hbq
      have hbq := Nat.le_of_ble_eq_true hbq
      intro ls H locs hF hH
      have hct := pj_cat_eq G st
      exact va_mmin hx hb (hml.trans hF.1.symm) hown (hts _ h1) (hts _ h2) (hts _ h3) (hts _ h4) (by omega) (by rw [hct]; omega) hce hsl hd (hK _ _ _ _ _ h hR ls H locs (hF.stk (pj_okc trivial (pj_ok1 (pj_ok1 hF.2.2.2.2)))) hH)
    · cases h
  · cases h
theorem qz_lmin {ρ : Type} {X : pj_X} {enc : ρ → Option pj_V × pj_M} {pc : Nat} (C : pj_C X) {i : Nat} (hd : decode (pj_cc X) pc = .ok (.invokestatic i, 3)) (h1 : Cond.methodLink (pj_own X) i Lib.MathLoose.min_long.x ∈ pj_tb) (h2 : Cond.static Lib.MathLoose.min_long.x ∈ pj_tb) (h3 : Cond.initialized "java/lang/Math" ∈ pj_tb) (h4 : Cond.code Lib.MathLoose.min_long.x Lib.MathLoose.min_long.code 4 (some .long) ∈ pj_tb) : pj_S X enc pc (qs_lmin (pc + 3)) := by
  intro K hK L st m r h hR
  obtain ⟨G, A, ⟨cc, own, nL, ret, rk⟩, ⟨p, l, e, R⟩, ⟨s, mi, args, below, meth, c⟩, ⟨cells, slots, Q⟩⟩ := X
  obtain ⟨hx, hb, hml, hown, hts, hk, hnw, hfr, hlo, hce, hsl, hX, hbl, hbA⟩ := C
  unfold qs_lmin at h
  split at h
  · rename_i y x st
    split at h
    · rename_i hbq
      have hbq := Nat.le_of_ble_eq_true hbq
      intro ls H locs hF hH
      have hct := pj_cat_eq G st
      exact va_mmin_long hx hb (hml.trans hF.1.symm) hown (hts _ h1) (hts _ h2) (hts _ h3) (hts _ h4) (by omega) (by rw [hct]; omega) hce hsl hd (hK _ _ _ _ _ h hR ls H locs (hF.stk (pj_okc trivial (pj_ok1 (pj_ok1 hF.2.2.2.2)))) hH)
    · cases h
  · cases h
/-! calls -/
def pj_Aw (G : pj_E) : Nat → Prop := fun q => ∃ a, a < 95 ∧ q = G.2.1 a
def pj_Pre (G : pj_E) (m : pj_M) (U : State) : Prop := va_P G.1 vwCl (pj_ws G m) U.heap ∧ va_K G.1 vwCl (pj_tys G) U ∧ va_D (pj_Aw G) (pj_ws G m) ∧ va_Nw pj_nw U ∧ va_X G.2.2.2.1 G.2.2.2.2.1 G.2.2.2.2.2 U U.heap ∧ G.2.2.2.1 < U.heap.size ∧ ¬ pj_Aw G G.2.2.2.1
def pj_Qc (G : pj_E) (o : Option pj_V) (m : pj_M) : Array Value → State → Outcome → State → Prop := fun _ st oc t =>
  oc = .returned (o.map (pj_tr G)) ∧ (∀ v, o = some v → pj_okv v) ∧ va_P G.1 vwCl (pj_ws G m) t.heap ∧ va_F (pj_Aw G) st t
/-- a method's contract: where its pure text answers, the machine answers so -/
def pj_Ct {σ : Type} (ef : σ → Option pj_V × pj_M) (y : MethodName) (cc : ByteArray) (nL : Nat) (ret : Option FieldType) (rk : Nat) (F : List pj_V → pj_M → Option σ) : Prop :=
  ∀ (l : Launch) (G : pj_E) (as : List pj_V) (m : pj_M) (r : σ), F as m = some r → (∀ v ∈ as, pj_okv v) → Met l y (Cond.code y cc nL ret :: pj_tb) (pj_rm rk) (va_Pc (as.map (pj_tr G)) (pj_Pre G m)) (pj_Qc G (ef r).1 (ef r).2) 0 0 (pj_Aw G)
theorem pj_Pre_blind (G : pj_E) (m : pj_M) (av : List Value) : FrameBlind (va_Pc av (pj_Pre G m)) := by
  intro a U g mk h
  obtain ⟨h0, h1, h2, h3, h4, h5, h6, h7⟩ := h
  exact ⟨h0, h1, va_K.moved (u := U) (U := U.calling g mk a) (Vm.Alike.refl U.vm) h2, h3, va_Nw.same (u := U) (U := U.calling g mk a) rfl rfl h4, va_X.moved (u := U) (U := U.calling g mk a) (Vm.Alike.refl U.vm) h5, h6, h7⟩
theorem pj_D_aw {G : pj_E} {A : Nat → Prop} {m : pj_M} (h : va_D A (pj_ws G m)) : va_D (pj_Aw G) (pj_ws G m) := ⟨h.1, fun k q hk => by
  obtain ⟨t, h1, rfl⟩ := pj_ws_of hk
  exact ⟨k, pj_lay_lt h1, rfl⟩⟩
theorem pj_aw_in {G : pj_E} {A : Nat → Prop} {m : pj_M} (h : va_D A (pj_ws G m)) : ∀ q, pj_Aw G q → A q := by
  rintro q ⟨a, ha, rfl⟩
  rw [← pj_lay_len] at ha
  exact h.2 a _ (pj_ws_at (List.getElem?_eq_getElem ha))
theorem pj_pre_at {G : pj_E} {A : Nat → Prop} {m : pj_M} {s : State} {H : Heap} {locs : List Loc} (hk : va_K G.1 vwCl (pj_tys G) s) (hnw : va_Nw pj_nw s) (hX : va_X G.2.2.2.1 G.2.2.2.2.1 G.2.2.2.2.2 s s.heap) (hbl : G.2.2.2.1 < s.heap.size) (hbA : ¬ A G.2.2.2.1) (hH : pj_H G A m s H locs) : ∀ U : State, U.heap = H → s.WarmedH U.vm → pj_Pre G m U := by
  intro U hU hW
  refine ⟨by rw [hU]; exact hH.1, va_K.moved hW.alike hk, pj_D_aw hH.2.1, va_Nw.warmM hW hnw, ?_, ?_, fun h => hbA (pj_aw_in hH.2.1 _ h)⟩
  · rw [hU]
    exact va_X.moved hW.alike (hX.kept (hH.2.2.2.1 _ hbl hbA))
  · rw [hU]
    exact Nat.lt_of_lt_of_le hbl hH.2.2.1
theorem pj_go {p : Program} {l : Launch} {e : Env} {R : Room} {s : State} {mi : MethodId} {args : Array Value} {below : List Frame} {meth : Method} {c : Code} {H : Heap} {locs : List Loc} {cells slots : Nat} {Q : State → Prop} {pc : Nat} {ls : Array Slot} {st0 rest : List Value} {a : Array Value} {G : pj_E} {A : Nat → Prop} {m m1 : pj_M} {o : Option pj_V}
    (hr : va_Run p l e R s mi args below meth c H locs cells slots 0 0 (F0 mi pc ls st0) rest (pj_Qc G o m1 a) (pj_Aw G)) (hH : pj_H G A m s H locs)
    (kk : ∀ (H1 : Heap) (locs1 : List Loc), (∀ v, o = some v → pj_okv v) → pj_H G A m1 s H1 locs1 → W p l e R s mi args below meth c H1 locs1 cells slots Q (F0 mi (pc + 3) ls ((o.map (pj_tr G)).toList ++ rest))) : W p l e R s mi args below meth c H locs cells slots Q (F0 mi pc ls st0) := by
  intro T hT X
  obtain ⟨v, st₀, t, T', L, h0, X', hL, e1, e2, ⟨hv, hov, hP, hz, hk⟩, st⟩ := hr T hT X
  cases hv
  rw [h0] at hz hk
  obtain ⟨hP0, hD0, hS⟩ := hH
  have hin := pj_aw_in hD0
  obtain ⟨t2, a1, b1⟩ := kk T'.heap (locs ++ L) hov ⟨by rw [e1]; exact hP, pj_D_irr hD0, ⟨Nat.le_trans hS.1 (by rw [e1]; exact hz), fun q h1 h2 => by rw [e1, hk q (Nat.lt_of_lt_of_le h1 hS.1) (fun z => h2 (hin q z))]; exact hS.2.1 q h1 h2, fun q hq => by
      rcases List.mem_append.mp hq with h | h
      · exact hS.2.2 q h
      · exact hin _ (hL q h)⟩⟩ T' rfl X'
  exact ⟨t2, st t2 a1, b1⟩
/-- what the tables say of a method: (its class, descriptor), its words -/
def pj_mv (y : MethodName) (cc : ByteArray) (nL : Nat) (ret : Option FieldType) (n : Nat) : Prop := (Cond.code y cc nL ret ∈ pj_tb ∧ Cond.instanceMethod y ∈ pj_tb ∧ Cond.selects y.cls y y ∈ pj_tb ∧ Cond.initialized y.cls ∈ pj_tb) ∧ (y.cls ≠ "java/lang/invoke/MethodHandle" ∧ y.cls ≠ "java/lang/invoke/VarHandle" ∧ (parseMethodDescriptor y.desc).map (fun d => d.parameters.length) = some n) ∧ nL ≤ 40
def pj_ms (y : MethodName) (cc : ByteArray) (nL : Nat) (ret : Option FieldType) (n : Nat) : Prop := (Cond.code y cc nL ret ∈ pj_tb ∧ Cond.static y ∈ pj_tb ∧ Cond.initialized y.cls ∈ pj_tb) ∧ (y.cls ≠ "java/lang/invoke/MethodHandle" ∧ y.cls ≠ "java/lang/invoke/VarHandle" ∧ (parseMethodDescriptor y.desc).map (fun d => d.parameters.length) = some n) ∧ nL ≤ 40
theorem pj_good {w : Cond} (h : w ∈ pj_tb) : GoodIn pj_tb (w :: pj_tb) := fun c hc => (List.mem_cons.mp hc).elim (fun e => by subst e; exact pj_goodIn _ h) (fun h => pj_goodIn c h)
theorem pj_split {α : Type} (st : List α) (n : Nat) (x : α) (as : List α) (h : (st.take n).reverse = x :: as) : st = as.reverse ++ x :: st.drop n := by
  have h1 : st.take n = as.reverse ++ [x] := by
    rw [← List.reverse_reverse (st.take n), h, List.reverse_cons]
  conv => lhs; rw [← List.take_append_drop n st, h1]
  simp
theorem pj_split0 {α : Type} (st : List α) (n : Nat) : st = (st.take n).reverse.reverse ++ st.drop n := by
  rw [List.reverse_reverse, List.take_append_drop]
/-- a call of an instance method of a class of its own: n the arguments with the receiver -/
def pj_cv {ρ σ : Type} (ci n : Nat) (F : List pj_V → pj_M → Option σ) (k : σ → List pj_V → Option ρ) : List pj_V → pj_M → Option ρ := fun st m => match (st.take n).reverse with
  | .inr (.inr (t, x, a)) :: as => (match (Nat.beq t 0 && Nat.beq x ci) && (Nat.ble (pj_cat (st.drop n)) 8 && Nat.beq (as.length + 1) n) with
    | true => (F (.inr (.inr (t, x, a)) :: as) m).bind (fun q => k q (st.drop n))
    | false => none)
  | _ => none
def pj_cs {ρ σ : Type} (n : Nat) (F : List pj_V → pj_M → Option σ) (k : σ → List pj_V → Option ρ) : List pj_V → pj_M → Option ρ := fun st m => (match Nat.ble (pj_cat (st.drop n)) 8 && Nat.beq (st.take n).length n with
    | true => (F (st.take n).reverse m).bind (fun q => k q (st.drop n))
    | false => none)
theorem pj_wV {ρ : Type} {X : pj_X} {pc : Nat} (C : pj_C X) {σ : Type} {ef : σ → Option pj_V × pj_M} {y : MethodName} {cc' : ByteArray} {nL' n rk' ci i N : Nat} {ret' : Option FieldType} {F : List pj_V → pj_M → Option σ} {T : u_T} (hd : decode (pj_cc X) pc = .ok (.invokevirtual i, 3)) (ct : pj_Ct ef y cc' nL' ret' rk' F) (hw : pj_mv y cc' nL' ret' n) (hl : Cond.methodLink (pj_own X) i y ∈ pj_tb) (hc : vwCl[ci]? = some (y.cls, T, N)) (hrk : rk' < pj_rk X)
    {k : σ → List pj_V → Option ρ} {L : List (Option pj_V)} {st : List pj_V} {m : pj_M} {r : ρ} (h : pj_cv ci (n + 1) F k st m = some r)
    (hk9 : ∀ (q : σ) (rest : List pj_V), k q rest = some r → pj_W X (pc + 3) L ((ef q).1.toList ++ rest) (ef q).2) : pj_W X pc L st m := by
  obtain ⟨G, A, ⟨cc, own, nL, ret, rk⟩, ⟨p, l, e, R⟩, ⟨s, mi, args, below, meth, c⟩, ⟨cells, slots, Q⟩⟩ := X
  obtain ⟨hx, hb, hml, hown, hts, hk, hnw, hfr, hlo, hce, hsl, hX, hbl, hbA⟩ := C
  unfold pj_cv at h
  split at h
  · rename_i t x a as hst
    split at h
    · rename_i hbq
      simp only [Bool.and_eq_true, Nat.beq_eq, Nat.ble_eq] at hbq
      obtain ⟨⟨rfl, rfl⟩, hcat, hlen⟩ := hbq
      obtain ⟨q, hq, hkq⟩ := Option.bind_eq_some_iff.mp h
      intro ls H locs hF hH
      have hok := hF.2.2.2.2
      have hoka : ∀ v ∈ Sum.inr (Sum.inr (0, x, a)) :: as, pj_okv v := by rw [← hst]; exact pj_okt hok
      have hla := pj_okl (pj_okh hoka) (by decide)
      have hM := ct l G _ m q hq hoka
      rw [List.map_cons, pj_tr_lay hla] at hM
      obtain ⟨⟨w1, w2, w3, w4⟩, hdd, hn40⟩ := hw
      have hrk : rk' < rk := hrk
      have cb : CallB R s args own i y cc' nL' ret' (Cond.code y cc' nL' ret' :: pj_tb) (pj_rm rk') 0 0 n := callB_of n hts (pj_good w1) rfl rfl rfl (hts _ w4) (hts _ hl) hdd ⟨by simp only [pj_rm]; omega, by simp only [pj_rm]; omega⟩
      have hct := pj_cat_eq G (st.drop (n + 1))
      refine pj_go (va_runV (As := as.map (pj_tr G)) (rest := (st.drop (n + 1)).map (pj_tr G)) (b := G.2.1 a) ⟨hx, hb, hml, hown, hts⟩ hM ⟨cb, hts _ w2, hts _ w3⟩ ⟨pj_Pre_blind G m _, va_recv hk hH.1 hc (pj_ws_at hla), fun U hU hW => ⟨rfl, pj_pre_at hk hnw hX hbl hbA hH U hU hW⟩⟩ rfl (by simp; omega) hF.1 ?_ (lv_room (by rw [hct]; exact hcat)) hd ⟨by omega, by omega⟩) hH (fun H1 locs1 hov hH1 => ?_)
      · show st.map (pj_tr G) = _
        conv => lhs; rw [pj_split st (n + 1) _ as hst]
        rw [List.map_append, List.map_cons, pj_tr_lay hla, List.map_reverse]
      · have h2 := hk9 q _ hkq ls H1 locs1 (hF.stk ?_) hH1
        · rw [List.map_append] at h2
          cases ho : (ef q).1 with
          | none => rw [ho] at h2; exact h2
          | some v => rw [ho] at h2; exact h2
        · intro v hv
          rcases List.mem_append.mp hv with h3 | h3
          · cases ho : (ef q).1 with
            | none => rw [ho] at h3; cases h3
            | some u =>
              rw [ho] at h3 hov
              simp only [Option.toList_some, List.mem_singleton] at h3
              subst h3
              exact hov _ rfl
          · exact pj_okd hok v h3
    · cases h
  · cases h
theorem pj_wS {ρ : Type} {X : pj_X} {pc : Nat} (C : pj_C X) {σ : Type} {ef : σ → Option pj_V × pj_M} {y : MethodName} {cc' : ByteArray} {nL' n rk' i : Nat} {ret' : Option FieldType} {F : List pj_V → pj_M → Option σ} (hd : decode (pj_cc X) pc = .ok (.invokestatic i, 3)) (ct : pj_Ct ef y cc' nL' ret' rk' F) (hw : pj_ms y cc' nL' ret' n) (hl : Cond.methodLink (pj_own X) i y ∈ pj_tb ∨ (pj_own X = RX7 ∧ Cond.methodLinkNest (pj_own X) i y "AlikeSteps" = pj_nw)) (hrk : rk' < pj_rk X)
    {k : σ → List pj_V → Option ρ} {L : List (Option pj_V)} {st : List pj_V} {m : pj_M} {r : ρ} (h : pj_cs n F k st m = some r)
    (hk9 : ∀ (q : σ) (rest : List pj_V), k q rest = some r → pj_W X (pc + 3) L ((ef q).1.toList ++ rest) (ef q).2) : pj_W X pc L st m := by
  obtain ⟨G, A, ⟨cc, own, nL, ret, rk⟩, ⟨p, l, e, R⟩, ⟨s, mi, args, below, meth, c⟩, ⟨cells, slots, Q⟩⟩ := X
  obtain ⟨hx, hb, hml, hown, hts, hk, hnw, hfr, hlo, hce, hsl, hX, hbl, hbA⟩ := C
  unfold pj_cs at h
  split at h
  · rename_i hbq
    simp only [Bool.and_eq_true, Nat.beq_eq, Nat.ble_eq] at hbq
    obtain ⟨hcat, hlen⟩ := hbq
    obtain ⟨q, hq, hkq⟩ := Option.bind_eq_some_iff.mp h
    intro ls H locs hF hH
    have hok := hF.2.2.2.2
    have hM := ct l G _ m q hq (pj_okt hok)
    obtain ⟨⟨w1, w2, w4⟩, hdd, hn40⟩ := hw
    have hrk : rk' < rk := hrk
    have hct := pj_cat_eq G (st.drop n)
    have hrun : va_Run p l e R s mi args below meth c H locs cells slots 0 0 (F0 mi pc ls (st.map (pj_tr G))) ((st.drop n).map (pj_tr G)) (pj_Qc G (ef q).1 (ef q).2 (((st.take n).reverse.map (pj_tr G)).toArray)) (pj_Aw G) := by
      have hstk : (F0 mi pc ls (st.map (pj_tr G))).stack = ((st.take n).reverse.map (pj_tr G)).reverse ++ (st.drop n).map (pj_tr G) := by
        show st.map (pj_tr G) = _
        conv => lhs; rw [pj_split0 st n]
        rw [List.map_append, List.map_reverse]
      rcases hl with hl | ⟨ho, hl⟩
      · have cb : CallB R s args own i y cc' nL' ret' (Cond.code y cc' nL' ret' :: pj_tb) (pj_rm rk') 0 0 n := callB_of n hts (pj_good w1) rfl rfl rfl (hts _ w4) (hts _ hl) hdd ⟨by simp only [pj_rm]; omega, by simp only [pj_rm]; omega⟩
        exact va_runS (As := (st.take n).reverse.map (pj_tr G)) ⟨hx, hb, hml, hown, hts⟩ hM ⟨cb, hts _ w2⟩ ⟨pj_Pre_blind G m _, fun U hU hW => ⟨rfl, pj_pre_at hk hnw hX hbl hbA hH U hU hW⟩⟩ rfl (by simpa using hlen) hF.1 hstk (lv_room (by rw [hct]; exact hcat)) hd ⟨by omega, by omega⟩
      · have hnw1 : va_Nw (Cond.methodLinkNest own i y "AlikeSteps") s := by
          have e9 : Cond.methodLinkNest own i y "AlikeSteps" = pj_nw := hl
          rw [e9]
          exact hnw
        have cb := va_cnB (own := own) (host := "AlikeSteps") (index := i) (maxL := nL') (mc := 0) (ms := 0) (y := y) (bytes := cc') (ret := ret') (rm := pj_rm rk') (R := R) n hts (pj_good w1) rfl rfl rfl hnw1 (hts _ w4) hdd ⟨by simp only [pj_rm]; omega, by simp only [pj_rm]; omega⟩
        exact va_runSN (As := (st.take n).reverse.map (pj_tr G)) ⟨hx, hb, hml, hown, hts⟩ hM ⟨cb, hts _ w2, trivial⟩ ⟨pj_Pre_blind G m _, fun U hU hW => ⟨rfl, pj_pre_at hk hnw hX hbl hbA hH U hU hW⟩⟩ rfl (by simpa using hlen) hF.1 hstk (lv_room (by rw [hct]; exact hcat)) hd ⟨by omega, by omega⟩
    refine pj_go hrun hH (fun H1 locs1 hov hH1 => ?_)
    have h2 := hk9 q _ hkq ls H1 locs1 (hF.stk ?_) hH1
    · rw [List.map_append] at h2
      cases ho : (ef q).1 with
      | none => rw [ho] at h2; exact h2
      | some v => rw [ho] at h2; exact h2
    · intro v hv
      rcases List.mem_append.mp hv with h3 | h3
      · cases ho : (ef q).1 with
        | none => rw [ho] at h3; cases h3
        | some u =>
          rw [ho] at h3 hov
          simp only [Option.toList_some, List.mem_singleton] at h3
          subst h3
          exact hov _ rfl
      · exact pj_okd hok v h3
  · cases h
def qs_vI {ρ : Type} (ci n : Nat) (F : List pj_V → pj_M → Option (Int32 × pj_M)) (nx : Nat) : pj_T ρ := fun K L st m => pj_cv ci n F (fun q rest => K nx L (.inl q.1 :: rest) q.2) st m
def qs_sI {ρ : Type} (n : Nat) (F : List pj_V → pj_M → Option (Int32 × pj_M)) (nx : Nat) : pj_T ρ := fun K L st m => pj_cs n F (fun q rest => K nx L (.inl q.1 :: rest) q.2) st m
theorem qz_vI {ρ : Type} {X : pj_X} {enc : ρ → Option pj_V × pj_M} {pc : Nat} (C : pj_C X) {y : MethodName} {cc' : ByteArray} {nL' n rk' ci i N : Nat} {ret' : Option FieldType} {F : List pj_V → pj_M → Option (Int32 × pj_M)} {T : u_T} (hd : decode (pj_cc X) pc = .ok (.invokevirtual i, 3)) (ct : pj_Ct pj_eI y cc' nL' ret' rk' F) (hw : pj_mv y cc' nL' ret' n) (hl : Cond.methodLink (pj_own X) i y ∈ pj_tb) (hc : vwCl[ci]? = some (y.cls, T, N)) (hrk : rk' < pj_rk X) : pj_S X enc pc (qs_vI ci (n + 1) F (pc + 3)) := by
  intro K hK L st m r h hR
  exact pj_wV C hd ct hw hl hc hrk h (fun q rest hq => hK _ _ _ _ _ hq hR)
theorem qz_sI {ρ : Type} {X : pj_X} {enc : ρ → Option pj_V × pj_M} {pc : Nat} (C : pj_C X) {y : MethodName} {cc' : ByteArray} {nL' n rk' i : Nat} {ret' : Option FieldType} {F : List pj_V → pj_M → Option (Int32 × pj_M)} (hd : decode (pj_cc X) pc = .ok (.invokestatic i, 3)) (ct : pj_Ct pj_eI y cc' nL' ret' rk' F) (hw : pj_ms y cc' nL' ret' n) (hl : Cond.methodLink (pj_own X) i y ∈ pj_tb ∨ (pj_own X = RX7 ∧ Cond.methodLinkNest (pj_own X) i y "AlikeSteps" = pj_nw)) (hrk : rk' < pj_rk X) : pj_S X enc pc (qs_sI n F (pc + 3)) := by
  intro K hK L st m r h hR
  exact pj_wS C hd ct hw hl hrk h (fun q rest hq => hK _ _ _ _ _ hq hR)
def qs_vL {ρ : Type} (ci n : Nat) (F : List pj_V → pj_M → Option (Int64 × pj_M)) (nx : Nat) : pj_T ρ := fun K L st m => pj_cv ci n F (fun q rest => K nx L (.inr (.inl q.1) :: rest) q.2) st m
def qs_sL {ρ : Type} (n : Nat) (F : List pj_V → pj_M → Option (Int64 × pj_M)) (nx : Nat) : pj_T ρ := fun K L st m => pj_cs n F (fun q rest => K nx L (.inr (.inl q.1) :: rest) q.2) st m
theorem qz_vL {ρ : Type} {X : pj_X} {enc : ρ → Option pj_V × pj_M} {pc : Nat} (C : pj_C X) {y : MethodName} {cc' : ByteArray} {nL' n rk' ci i N : Nat} {ret' : Option FieldType} {F : List pj_V → pj_M → Option (Int64 × pj_M)} {T : u_T} (hd : decode (pj_cc X) pc = .ok (.invokevirtual i, 3)) (ct : pj_Ct pj_eL y cc' nL' ret' rk' F) (hw : pj_mv y cc' nL' ret' n) (hl : Cond.methodLink (pj_own X) i y ∈ pj_tb) (hc : vwCl[ci]? = some (y.cls, T, N)) (hrk : rk' < pj_rk X) : pj_S X enc pc (qs_vL ci (n + 1) F (pc + 3)) := by
  intro K hK L st m r h hR
  exact pj_wV C hd ct hw hl hc hrk h (fun q rest hq => hK _ _ _ _ _ hq hR)
theorem qz_sL {ρ : Type} {X : pj_X} {enc : ρ → Option pj_V × pj_M} {pc : Nat} (C : pj_C X) {y : MethodName} {cc' : ByteArray} {nL' n rk' i : Nat} {ret' : Option FieldType} {F : List pj_V → pj_M → Option (Int64 × pj_M)} (hd : decode (pj_cc X) pc = .ok (.invokestatic i, 3)) (ct : pj_Ct pj_eL y cc' nL' ret' rk' F) (hw : pj_ms y cc' nL' ret' n) (hl : Cond.methodLink (pj_own X) i y ∈ pj_tb ∨ (pj_own X = RX7 ∧ Cond.methodLinkNest (pj_own X) i y "AlikeSteps" = pj_nw)) (hrk : rk' < pj_rk X) : pj_S X enc pc (qs_sL n F (pc + 3)) := by
  intro K hK L st m r h hR
  exact pj_wS C hd ct hw hl hrk h (fun q rest hq => hK _ _ _ _ _ hq hR)
def qs_vR {ρ : Type} (cr ci n : Nat) (F : List pj_V → pj_M → Option (Nat × pj_M)) (nx : Nat) : pj_T ρ := fun K L st m => pj_cv ci n F (fun q rest => K nx L (.inr (.inr (0, cr, q.1)) :: rest) q.2) st m
def qs_sR {ρ : Type} (cr n : Nat) (F : List pj_V → pj_M → Option (Nat × pj_M)) (nx : Nat) : pj_T ρ := fun K L st m => pj_cs n F (fun q rest => K nx L (.inr (.inr (0, cr, q.1)) :: rest) q.2) st m
theorem qz_vR {ρ : Type} {X : pj_X} {enc : ρ → Option pj_V × pj_M} {pc : Nat} (C : pj_C X) {y : MethodName} {cc' : ByteArray} {nL' n rk' cr ci i N : Nat} {ret' : Option FieldType} {F : List pj_V → pj_M → Option (Nat × pj_M)} {T : u_T} (hd : decode (pj_cc X) pc = .ok (.invokevirtual i, 3)) (ct : pj_Ct (pj_eR cr) y cc' nL' ret' rk' F) (hw : pj_mv y cc' nL' ret' n) (hl : Cond.methodLink (pj_own X) i y ∈ pj_tb) (hc : vwCl[ci]? = some (y.cls, T, N)) (hrk : rk' < pj_rk X) : pj_S X enc pc (qs_vR cr ci (n + 1) F (pc + 3)) := by
  intro K hK L st m r h hR
  exact pj_wV C hd ct hw hl hc hrk h (fun q rest hq => hK _ _ _ _ _ hq hR)
theorem qz_sR {ρ : Type} {X : pj_X} {enc : ρ → Option pj_V × pj_M} {pc : Nat} (C : pj_C X) {y : MethodName} {cc' : ByteArray} {nL' n rk' cr i : Nat} {ret' : Option FieldType} {F : List pj_V → pj_M → Option (Nat × pj_M)} (hd : decode (pj_cc X) pc = .ok (.invokestatic i, 3)) (ct : pj_Ct (pj_eR cr) y cc' nL' ret' rk' F) (hw : pj_ms y cc' nL' ret' n) (hl : Cond.methodLink (pj_own X) i y ∈ pj_tb ∨ (pj_own X = RX7 ∧ Cond.methodLinkNest (pj_own X) i y "AlikeSteps" = pj_nw)) (hrk : rk' < pj_rk X) : pj_S X enc pc (qs_sR cr n F (pc + 3)) := by
  intro K hK L st m r h hR
  exact pj_wS C hd ct hw hl hrk h (fun q rest hq => hK _ _ _ _ _ hq hR)
def qs_vV {ρ : Type} (ci n : Nat) (F : List pj_V → pj_M → Option (pj_M)) (nx : Nat) : pj_T ρ := fun K L st m => pj_cv ci n F (fun q rest => K nx L rest q) st m
def qs_sV {ρ : Type} (n : Nat) (F : List pj_V → pj_M → Option (pj_M)) (nx : Nat) : pj_T ρ := fun K L st m => pj_cs n F (fun q rest => K nx L rest q) st m
theorem qz_vV {ρ : Type} {X : pj_X} {enc : ρ → Option pj_V × pj_M} {pc : Nat} (C : pj_C X) {y : MethodName} {cc' : ByteArray} {nL' n rk' ci i N : Nat} {ret' : Option FieldType} {F : List pj_V → pj_M → Option (pj_M)} {T : u_T} (hd : decode (pj_cc X) pc = .ok (.invokevirtual i, 3)) (ct : pj_Ct pj_eV y cc' nL' ret' rk' F) (hw : pj_mv y cc' nL' ret' n) (hl : Cond.methodLink (pj_own X) i y ∈ pj_tb) (hc : vwCl[ci]? = some (y.cls, T, N)) (hrk : rk' < pj_rk X) : pj_S X enc pc (qs_vV ci (n + 1) F (pc + 3)) := by
  intro K hK L st m r h hR
  exact pj_wV C hd ct hw hl hc hrk h (fun q rest hq => hK _ _ _ _ _ hq hR)
theorem qz_sV {ρ : Type} {X : pj_X} {enc : ρ → Option pj_V × pj_M} {pc : Nat} (C : pj_C X) {y : MethodName} {cc' : ByteArray} {nL' n rk' i : Nat} {ret' : Option FieldType} {F : List pj_V → pj_M → Option (pj_M)} (hd : decode (pj_cc X) pc = .ok (.invokestatic i, 3)) (ct : pj_Ct pj_eV y cc' nL' ret' rk' F) (hw : pj_ms y cc' nL' ret' n) (hl : Cond.methodLink (pj_own X) i y ∈ pj_tb ∨ (pj_own X = RX7 ∧ Cond.methodLinkNest (pj_own X) i y "AlikeSteps" = pj_nw)) (hrk : rk' < pj_rk X) : pj_S X enc pc (qs_sV n F (pc + 3)) := by
  intro K hK L st m r h hR
  exact pj_wS C hd ct hw hl hrk h (fun q rest hq => hK _ _ _ _ _ hq hR)
/-! the run of a body -/
def pj_at {α : Type} (tb : List (Nat × α)) (pc : Nat) : Option α := match tb with
  | [] => none
  | q :: tb => (match Nat.beq q.1 pc with
    | true => some q.2
    | false => pj_at tb pc)
abbrev pj_N (ρ : Type) : Type := List (Option pj_V) → List pj_V → pj_M → Option ρ
def pj_run {ρ : Type} (tb : List (Nat × pj_T ρ)) (ct : List (Nat × pj_N ρ)) : Nat → pj_K ρ
  | 0, _, _, _, _ => none
  | n + 1, pc, L, st, m => (match pj_at tb pc with
    | none => none
    | some τ => τ (fun pc' L' st' m' => match pj_at ct pc' with
      | some t => t L' st' m'
      | none => pj_run tb ct n pc' L' st' m') L st m)
theorem pj_at_mem {α : Type} {tb : List (Nat × α)} {pc : Nat} {τ : α} (h : pj_at tb pc = some τ) : (pc, τ) ∈ tb := by
  induction tb with
  | nil => cases h
  | cons q tb ih =>
    unfold pj_at at h
    split at h
    · rename_i hq
      cases h
      obtain ⟨a, b⟩ := q
      obtain rfl := Nat.eq_of_beq_eq_true hq
      exact List.mem_cons_self
    · exact List.mem_cons_of_mem _ (ih h)
/-- t, in the place of what follows at pc, is good -/
def pj_G {ρ : Type} (X : pj_X) (enc : ρ → Option pj_V × pj_M) (pc : Nat) (t : pj_N ρ) : Prop := ∀ L st m r, t L st m = some r → pj_R X (enc r).1 (enc r).2 → pj_W X pc L st m
theorem pj_run_ok {ρ : Type} {X : pj_X} {enc : ρ → Option pj_V × pj_M} {tb : List (Nat × pj_T ρ)} {ct : List (Nat × pj_N ρ)} (hS : ∀ q ∈ tb, pj_S X enc q.1 q.2) (hct : ∀ q ∈ ct, pj_G X enc q.1 q.2) : ∀ (n pc : Nat) (L : List (Option pj_V)) (st : List pj_V) (m : pj_M) (r : ρ), pj_run tb ct n pc L st m = some r → pj_R X (enc r).1 (enc r).2 → pj_W X pc L st m := by
  intro n
  induction n with
  | zero => intro pc L st m r h; cases h
  | succ n ih =>
    intro pc L st m r h hR
    unfold pj_run at h
    split at h
    · cases h
    · rename_i τ hτ
      refine hS _ (pj_at_mem hτ) _ ?_ L st m r h hR
      intro pc' L' st' m' r' h' hR'
      split at h'
      · rename_i t ht
        exact hct _ (pj_at_mem ht) L' st' m' r' h' hR'
      · exact ih pc' L' st' m' r' h' hR'
/-! contracts -/
theorem pj_l0_sl (G : pj_E) (as : List pj_V) : (lg_sl (as.map (pj_tr G))).length = (pj_l0 as).length := by
  induction as with
  | nil => rfl
  | cons v as ih =>
    have e1 : lg_sl ((v :: as).map (pj_tr G)) = (if (pj_tr G v).category = 2 then [Slot.val (pj_tr G v), Slot.second] else [Slot.val (pj_tr G v)]) ++ lg_sl (as.map (pj_tr G)) := by
      simp [lg_sl]
    rw [e1, List.length_append, ih]
    rcases v with x | y | q
    · simp [pj_l0, pj_tr, Value.category]; omega
    · simp [pj_l0, pj_tr, Value.category]; omega
    · rw [if_neg (by rw [pj_cat1]; decide)]
      simp [pj_l0]; omega
theorem pj_l0_args (G : pj_E) (as : List pj_V) : ∀ (k i : Nat) (v : pj_V), (pj_l0 as)[i]? = some (some v) → (k + i, pj_tr G v) ∈ lv_args k (as.map (pj_tr G)) ∧ v ∈ as := by
  induction as with
  | nil => intro k i v h; simp [pj_l0] at h
  | cons u as ih =>
    intro k i v h
    have step1 : ∀ (j : Nat), (pj_l0 as)[j]? = some (some v) → (pj_tr G u).category ≠ 2 → i = j + 1 → (k + i, pj_tr G v) ∈ lv_args k ((u :: as).map (pj_tr G)) ∧ v ∈ u :: as := by
      intro j h1 hc hi
      obtain ⟨g1, g2⟩ := ih (k + 1) j v h1
      refine ⟨?_, List.mem_cons_of_mem _ g2⟩
      rw [List.map_cons]
      simp only [lv_args, if_neg hc]
      rw [hi, show k + (j + 1) = k + 1 + j by omega]
      exact List.mem_cons_of_mem _ g1
    rcases u with x | y | q
    · cases i with
      | zero => simp only [pj_l0, List.getElem?_cons_zero] at h; cases h; exact ⟨by simp [lv_args, pj_tr], List.mem_cons_self⟩
      | succ i => exact step1 i (by simpa [pj_l0] using h) (by simp [pj_tr, Value.category]) rfl
    · cases i with
      | zero => simp only [pj_l0, List.getElem?_cons_zero] at h; cases h; exact ⟨by simp [lv_args, pj_tr], List.mem_cons_self⟩
      | succ i =>
        cases i with
        | zero => simp [pj_l0] at h
        | succ i =>
          obtain ⟨g1, g2⟩ := ih (k + 2) i v (by simpa [pj_l0] using h)
          refine ⟨?_, List.mem_cons_of_mem _ g2⟩
          rw [List.map_cons]
          simp only [lv_args, pj_tr, Value.category, if_true]
          rw [show k + (i + 1 + 1) = k + 2 + i by omega]
          exact List.mem_cons_of_mem _ g1
    · cases i with
      | zero => simp only [pj_l0, List.getElem?_cons_zero] at h; cases h; exact ⟨by simp [lv_args], List.mem_cons_self⟩
      | succ i => exact step1 i (by simpa [pj_l0] using h) (by rw [pj_cat1]; decide) rfl
/-- a method's contract out of the walk of its body -/
theorem pj_ct_of {σ : Type} {ef : σ → Option pj_V × pj_M} {y : MethodName} {cc : ByteArray} {nL : Nat} {ret : Option FieldType} {rk : Nat} {F : List pj_V → pj_M → Option σ} (hy : plainName y.cls = true)
    (hlen : ∀ as m r, F as m = some r → (pj_l0 as).length ≤ nL)
    (hbody : ∀ (G : pj_E) (A : Nat → Prop) (P : Program × Launch × Env × Room) (S : State × MethodId × Array Value × List Frame × Method × Code) (Z : Nat × Nat × (State → Prop)), pj_C (G, A, (cc, y.cls, nL, ret, rk), P, S, Z) → ∀ as m r, F as m = some r → pj_R (G, A, (cc, y.cls, nL, ret, rk), P, S, Z) (ef r).1 (ef r).2 → pj_W (G, A, (cc, y.cls, nL, ret, rk), P, S, Z) 0 (pj_l0 as ++ List.replicate (nL - (pj_l0 as).length) none) [] m) : pj_Ct ef y cc nL ret rk F := by
  intro l G as m r hF hok
  refine Met.ofW (cc := cc) (maxL := nL) (ret := ret) hy rfl ?_
  intro p e s mi args below meth c s₁ B hml hv
  obtain ⟨rfl, hP, hK, hD, hnw, hX, hbl, hbA⟩ := hv
  have hts := atoms_spec (ws := Cond.code y cc nL ret :: pj_tb) B.pre
  have hlocks := B.notSynchronized
  have hret := B.returns
  rw [lg_entry_eq]
  have hle : (lg_sl (as.map (pj_tr G))).length ≤ nL := by rw [pj_l0_sl]; exact hlen as m r hF
  have hl := lv_entry (as.map (pj_tr G)) (n := nL) hle
  have hC : pj_C (G, pj_Aw G, (cc, y.cls, nL, ret, rk), (p, l, e, pj_rm rk), (s, mi, (as.map (pj_tr G)).toArray, below, meth, c), (0, 0, MQ below (pj_Qc G (ef r).1 (ef r).2) (as.map (pj_tr G)).toArray s 0 0 (pj_Aw G))) :=
    ⟨B.exec, B.bytes, hml, findClass_of_methodNamed B.named, fun w hw => hts w (List.mem_cons_of_mem _ hw), hK, hnw, Nat.le_refl _, Nat.le_refl _, Nat.le_refl _, Nat.le_refl _, hX, hbl, hbA⟩
  refine hbody _ _ _ _ _ hC as m r hF ?_ _ s.heap [] ?_ ⟨hP, hD, va_S.rf⟩
  · intro pc ls H locs hrd hov hH
    have hq : ∀ t : State, t.heap = H → s.WarmedH t.vm → pj_Qc G (ef r).1 (ef r).2 (as.map (pj_tr G)).toArray s (.returned ((ef r).1.map (pj_tr G))) t := fun t ht hW => ⟨rfl, hov, by rw [ht]; exact hH.1, hH.2.2.F ht⟩
    generalize (ef r).1 = o at hrd hov hq
    rcases o with _ | v | v | q
    · exact W.vret B.exec B.bytes (hret.trans hrd.2) hq hH.2.2.2.2 hrd.1
    · obtain ⟨h1, ty, h2, h3⟩ := hrd
      exact W.zret B.exec B.bytes (hret.trans h2) h3 hq hH.2.2.2.2 h1
    · exact W.lret B.exec B.bytes (hret.trans hrd.2) hq hH.2.2.2.2 hrd.1
    · obtain ⟨h1, n, h2⟩ := hrd
      obtain ⟨a, ha⟩ := pj_tr_ref G q
      exact W.aret B.exec B.bytes (hret.trans h2) (Or.inl ⟨n, rfl⟩) (Or.inr ⟨a, ha⟩) hq hH.2.2.2.2 h1
  · have hll : (pj_l0 as).length ≤ nL := hlen as m r hF
    refine ⟨hl.1, hl.2.1, by simp; omega, fun i v hv => ?_, fun v hv => by cases hv⟩
    rcases Nat.lt_or_ge i (pj_l0 as).length with hi | hi
    · rw [List.getElem?_append_left hi] at hv
      obtain ⟨g1, g2⟩ := pj_l0_args G as 0 i v hv
      rw [Nat.zero_add] at g1
      exact ⟨hl.2.2 _ g1, hok v g2⟩
    · rw [List.getElem?_append_right hi] at hv
      have := List.mem_of_getElem? hv
      rw [List.mem_replicate] at this
      cases this.2
