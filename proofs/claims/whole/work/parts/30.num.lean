/-! PART 30: numbers: ints that are small naturals; sets as bits; reads behind writes -/
theorem hn_mul (a b : Nat) : nI a * nI b = nI (a * b) := (Int32.ofNat_mul a b).symm
theorem hn_add (a b : Nat) : nI a + nI b = nI (a + b) := nI_add a b
theorem hn_sub {a b : Nat} (h : b ≤ a) : nI a - nI b = nI (a - b) := by
  obtain ⟨c, rfl⟩ := Nat.exists_eq_add_of_le h
  rw [Nat.add_sub_cancel_left, ← hn_add]
  rw [Int32.add_comm, Int32.add_sub_cancel]
theorem hn_inj {a b : Nat} (ha : a < 2 ^ 31) (hb : b < 2 ^ 31) (h : nI a = nI b) : a = b := (nI_eq ha hb).mp h
theorem hn_bv (a : Nat) : (nI a).toBitVec = BitVec.ofNat 32 a := rfl
theorem hn_ext {x y : Int32} (h : x.toBitVec = y.toBitVec) : x = y := Int32.toBitVec_inj.mp h
theorem hn_or (a b : Nat) : nI a ||| nI b = nI (a ||| b) := by
  apply hn_ext
  apply BitVec.eq_of_getLsbD_eq
  intro i hi
  simp [Int32.toBitVec_or, hn_bv, hi]
theorem hn_and (a b : Nat) : nI a &&& nI b = nI (a &&& b) := by
  apply hn_ext
  apply BitVec.eq_of_getLsbD_eq
  intro i hi
  simp [Int32.toBitVec_and, hn_bv, hi]
theorem hn_shl1 : ∀ j, j < 31 → (1 : Int32) <<< (nI j &&& 31) = nI (2 ^ j) := by decide +kernel
theorem hn_sh31 : ∀ j, j < 32 → ((nI j &&& 31).toBitVec.smod 32).toNat = j := by decide +kernel
theorem hn_msb {s : Nat} (hs : s < 2 ^ 31) : (BitVec.ofNat 32 s).msb = false := by
  rw [BitVec.msb_eq_decide]
  simp
  omega
theorem hn_shr {s j : Nat} (hs : s < 2 ^ 31) (hj : j < 32) : nI s >>> (nI j &&& 31) = nI (s >>> j) := by
  apply hn_ext
  apply BitVec.eq_of_getLsbD_eq
  intro i hi
  have e1 : (nI s >>> (nI j &&& 31)).toBitVec = BitVec.sshiftRight (BitVec.ofNat 32 s) j := by
    show (BitVec.sshiftRight' (nI s).toBitVec ((nI j &&& 31).toBitVec.smod 32)) = _
    rw [BitVec.sshiftRight', hn_sh31 j hj]
    rfl
  rw [e1, BitVec.getLsbD_sshiftRight, hn_msb hs]
  simp only [hn_bv, BitVec.getLsbD_ofNat, Nat.testBit_shiftRight]
  by_cases h1 : j + i < 32
  · simp [h1, hi]
  · have h2 : s.testBit (j + i) = false := Nat.testBit_lt_two_pow (Nat.lt_of_lt_of_le hs (Nat.pow_le_pow_right (by decide) (by omega)))
    simp [h1, h2]
theorem hn_and1 (a : Nat) : nI a &&& 1 = nI (a % 2) := by
  have h := hn_and a 1
  rw [Nat.and_one_is_mod] at h
  exact h
theorem hn_bit {s j : Nat} (hs : s < 2 ^ 31) (hj : j < 32) : (nI s >>> (nI j &&& 31)) &&& 1 = nI (if s.testBit j then 1 else 0) := by
  rw [hn_shr hs hj, hn_and1]
  congr 1
  rw [Nat.testBit_eq_decide_div_mod_eq, Nat.shiftRight_eq_div_pow]
  have : s / 2 ^ j % 2 = 0 ∨ s / 2 ^ j % 2 = 1 := by omega
  rcases this with h | h <;> simp [h]
theorem hn_lt {a b : Nat} (ha : a < 2 ^ 31) (hb : b < 2 ^ 31) : (nI a < nI b) = (a < b) := propext (nI_ltI ha hb)
theorem hn_le {a b : Nat} (ha : a < 2 ^ 31) (hb : b < 2 ^ 31) : (nI a ≤ nI b) = (a ≤ b) := propext (nI_leI ha hb)
theorem hn_eq {a b : Nat} (ha : a < 2 ^ 31) (hb : b < 2 ^ 31) : (nI a = nI b) = (a = b) := propext (nI_eq ha hb)
theorem hn_n0 {a : Nat} (ha : a < 2 ^ 31) : (nI a < 0) = False := eq_false (nI_pos ha)
theorem hn_cl {a : Nat} (ha : a < 2 ^ 31) : (nI a).toNatClampNeg = a := nI_clamp ha
/-- an index that is in its row -/
theorem hn_in {i n : Nat} (h : i < n) (hn : n < 2 ^ 31) : ¬ (nI i < 0 ∨ n ≤ (nI i).toNatClampNeg) := nI_in h hn
/-- an int is among the first n, or not -/
def inb (x : Int32) (n : Nat) : Prop := ∃ j, j < n ∧ x = nI j
theorem inb_iff {x : Int32} {n : Nat} (hn : n ≤ 2 ^ 31) : inb x n ↔ 0 ≤ x.toInt ∧ x.toInt < n := by
  constructor
  · rintro ⟨j, h1, rfl⟩
    rw [nI_toInt (by omega)]
    omega
  · rintro ⟨h1, h2⟩
    refine ⟨x.toInt.toNat, by omega, ?_⟩
    apply Int32.toInt_inj.mp
    rw [nI_toInt (by omega)]
    omega
theorem hr_wr (m : pj_M) (a k : Nat) (v : Int32) (a' k' : Nat) : (pj_wr m a k v).1 a' k' = if a' = a ∧ k' = k then v else m.1 a' k' := by
  simp only [pj_wr]
  by_cases h1 : a' = a
  · subst h1
    simp [upd]
  · simp [h1]
theorem hr_wr2 (m : pj_M) (a k : Nat) (v : Int32) : (pj_wr m a k v).2 = m.2 := rfl
theorem hr_wrs (m : pj_M) (a k : Nat) (v : Int32) : (pj_wr m a k v).1 a k = v := by simp [hr_wr]
theorem hr_wrk {m : pj_M} {a k k' : Nat} {v : Int32} (h : k' ≠ k) : (pj_wr m a k v).1 a k' = m.1 a k' := by simp [hr_wr, h]
theorem hr_wra {m : pj_M} {a k a' : Nat} {v : Int32} (h : a' ≠ a) : (pj_wr m a k v).1 a' = m.1 a' := by
  funext k'
  simp [hr_wr, h]
theorem hr_wl (m : pj_M) (a k : Nat) (v : Int64) (a' k' : Nat) : (pj_wl m a k v).2 a' k' = if a' = a ∧ k' = k then v else m.2 a' k' := by
  simp only [pj_wl]
  by_cases h1 : a' = a
  · subst h1
    simp [vp_updL]
  · simp [h1]
theorem hr_wl1 (m : pj_M) (a k : Nat) (v : Int64) : (pj_wl m a k v).1 = m.1 := rfl
theorem hr_cp (m : pj_M) (a0 sp a1 dp n a' k' : Nat) : (pj_cp m a0 sp a1 dp n).1 a' k' = if a' = a1 ∧ dp ≤ k' ∧ k' < dp + n then m.1 a0 (sp + (k' - dp)) else m.1 a' k' := by
  simp only [pj_cp]
  by_cases h1 : a' = a1
  · subst h1
    simp [va_cpy]
  · simp [h1]
/-- only the cells of a list have changed -/
def fr (l : List Nat) (m m' : pj_M) : Prop := ∀ a, a ∉ l → m'.1 a = m.1 a ∧ m'.2 a = m.2 a
theorem fr.rf (l : List Nat) (m : pj_M) : fr l m m := fun _ _ => ⟨rfl, rfl⟩
theorem fr.tr {l : List Nat} {m m1 m2 : pj_M} (h1 : fr l m m1) (h2 : fr l m1 m2) : fr l m m2 := fun a ha => ⟨(h2 a ha).1.trans (h1 a ha).1, (h2 a ha).2.trans (h1 a ha).2⟩
theorem fr.mono {l l' : List Nat} {m m' : pj_M} (h : fr l m m') (hl : ∀ a ∈ l, a ∈ l') : fr l' m m' := fun a ha => h a (fun h2 => ha (hl a h2))
theorem fr.wr (l : List Nat) (m : pj_M) {a : Nat} (ha : a ∈ l) (k : Nat) (v : Int32) : fr l m (pj_wr m a k v) := fun b hb => ⟨hr_wra (fun e => hb (e ▸ ha)), rfl⟩
theorem fr.wl (l : List Nat) (m : pj_M) {a : Nat} (ha : a ∈ l) (k : Nat) (v : Int64) : fr l m (pj_wl m a k v) := fun b hb => ⟨rfl, by
  funext k'
  have h1 : b ≠ a := fun e => hb (e ▸ ha)
  simp [hr_wl, h1]⟩
theorem fr.cp (l : List Nat) (m : pj_M) {a1 : Nat} (ha : a1 ∈ l) (a0 sp dp n : Nat) : fr l m (pj_cp m a0 sp a1 dp n) := fun b hb => ⟨by
  funext k'
  have h1 : b ≠ a1 := fun e => hb (e ▸ ha)
  simp [hr_cp, h1], rfl⟩
theorem sx8 (x : Int32) : (x <<< ((24 : Int32) &&& 31)) >>> ((24 : Int32) &&& 31) = x.toInt8.toInt32 := by
  apply hn_ext
  have e1 : ((x <<< ((24 : Int32) &&& 31)) >>> ((24 : Int32) &&& 31)).toBitVec = (x.toBitVec <<< 24).sshiftRight 24 := rfl
  have e2 : (x.toInt8.toInt32).toBitVec = (x.toBitVec.signExtend 8).signExtend 32 := rfl
  rw [e1, e2]
  apply BitVec.eq_of_getLsbD_eq
  intro i hi
  rw [BitVec.getLsbD_sshiftRight, BitVec.getLsbD_signExtend, BitVec.msb_eq_getLsbD_last]
  simp only [BitVec.getLsbD_shiftLeft, BitVec.getLsbD_signExtend, BitVec.msb_eq_getLsbD_last]
  by_cases h : i < 8
  · simp [h, hi, show 24 + i < 32 by omega, show ¬ 24 + i < 24 by omega, show i < 32 by omega]
  · simp [h, hi, show ¬ 24 + i < 32 by omega]
theorem sx16 (x : Int32) : (x <<< ((16 : Int32) &&& 31)) >>> ((16 : Int32) &&& 31) = x.toInt16.toInt32 := by
  apply hn_ext
  have e1 : ((x <<< ((16 : Int32) &&& 31)) >>> ((16 : Int32) &&& 31)).toBitVec = (x.toBitVec <<< 16).sshiftRight 16 := rfl
  have e2 : (x.toInt16.toInt32).toBitVec = (x.toBitVec.signExtend 16).signExtend 32 := rfl
  rw [e1, e2]
  apply BitVec.eq_of_getLsbD_eq
  intro i hi
  rw [BitVec.getLsbD_sshiftRight, BitVec.getLsbD_signExtend, BitVec.msb_eq_getLsbD_last]
  simp only [BitVec.getLsbD_shiftLeft, BitVec.getLsbD_signExtend, BitVec.msb_eq_getLsbD_last]
  by_cases h : i < 16
  · simp [h, hi, show 16 + i < 32 by omega, show ¬ 16 + i < 16 by omega, show i < 32 by omega]
  · simp [h, hi, show ¬ 16 + i < 32 by omega]
