/-! PART 39: blocks, rounds: what both sides work out -/
/-- the set of those below n with a property -/
def st (p : Nat → Bool) : Nat → Nat
  | 0 => 0
  | n + 1 => st p n ||| (if p n then 2 ^ n else 0)
theorem st_lt (p : Nat → Bool) (n : Nat) : st p n < 2 ^ n := by
  induction n with
  | zero => exact Nat.two_pow_pos 0
  | succ n ih =>
    simp only [st]
    refine Nat.or_lt_two_pow (Nat.lt_of_lt_of_le ih (Nat.pow_le_pow_right (by decide) (by omega))) ?_
    split
    · exact Nat.pow_lt_pow_right (by decide) (by omega)
    · exact Nat.two_pow_pos _
theorem st_tb (p : Nat → Bool) (n i : Nat) : (st p n).testBit i = (decide (i < n) && p i) := by
  induction n with
  | zero => simp [st]
  | succ n ih =>
    simp only [st, Nat.testBit_or, ih]
    by_cases hi : i = n
    · subst hi
      by_cases hp : p i = true
      · simp [hp, Nat.testBit_two_pow_self]
      · simp [hp]
    · have h1 : decide (i < n + 1) = decide (i < n) := by
        simp only [decide_eq_decide]
        omega
      rw [h1]
      by_cases hp : p n = true
      · simp [hp, Nat.testBit_two_pow_of_ne (show n ≠ i by omega)]
      · simp [hp]
theorem st_congr {p q : Nat → Bool} {n : Nat} (h : ∀ i, i < n → p i = q i) : st p n = st q n := by
  induction n with
  | zero => rfl
  | succ n ih => simp only [st, ih (fun i hi => h i (by omega)), h n (by omega)]
/-- the least one with the same key -/
def lkj (κ : Nat → Nat × Nat) (s : Nat) : Nat → Nat
  | 0 => s
  | j + 1 => if κ (s - (j + 1)) = κ s then s - (j + 1) else lkj κ s j
def lk (κ : Nat → Nat × Nat) (s : Nat) : Nat := lkj κ s s
theorem lkj_le (κ : Nat → Nat × Nat) (s j : Nat) : lkj κ s j ≤ s := by
  induction j with
  | zero => exact Nat.le_refl _
  | succ j ih =>
    simp only [lkj]
    split
    · omega
    · exact ih
theorem lkj_eq (κ : Nat → Nat × Nat) (s j : Nat) : κ (lkj κ s j) = κ s := by
  induction j with
  | zero => rfl
  | succ j ih =>
    simp only [lkj]
    split
    · assumption
    · exact ih
theorem lkj_min (κ : Nat → Nat × Nat) (s j k : Nat) (hk : s - j ≤ k) (hj : j ≤ s) (h : κ k = κ s) : lkj κ s j ≤ k := by
  induction j with
  | zero => simpa [lkj] using hk
  | succ j ih =>
    simp only [lkj]
    by_cases h1 : κ (s - (j + 1)) = κ s
    · rw [if_pos h1]
      exact hk
    · rw [if_neg h1]
      refine ih ?_ (by omega)
      rcases Nat.lt_or_ge k (s - j) with h2 | h2
      · obtain rfl : k = s - (j + 1) := by omega
        exact absurd h h1
      · exact h2
theorem lk_le (κ : Nat → Nat × Nat) (s : Nat) : lk κ s ≤ s := lkj_le κ s s
theorem lk_eq (κ : Nat → Nat × Nat) (s : Nat) : κ (lk κ s) = κ s := lkj_eq κ s s
theorem lk_min {κ : Nat → Nat × Nat} {s k : Nat} (h : κ k = κ s) : lk κ s ≤ k := lkj_min κ s s k (by omega) (Nat.le_refl _) h
theorem lk_lk (κ : Nat → Nat × Nat) (s : Nat) : lk κ (lk κ s) = lk κ s := by
  have h1 := lk_le κ (lk κ s)
  have h2 : lk κ s ≤ lk κ (lk κ s) := lk_min ((lk_eq κ (lk κ s)).trans (lk_eq κ s))
  omega
theorem lk_iff {κ : Nat → Nat × Nat} {s t : Nat} : lk κ s = lk κ t ↔ κ s = κ t := by
  constructor
  · intro h
    rw [← lk_eq κ s, ← lk_eq κ t, h]
  · intro h
    have h1 : lk κ s ≤ lk κ t := lk_min ((lk_eq κ t).trans h.symm)
    have h2 : lk κ t ≤ lk κ s := lk_min ((lk_eq κ s).trans h)
    omega
/-- how many first ones there are below s; the block of s -/
def cn (κ : Nat → Nat × Nat) : Nat → Nat
  | 0 => 0
  | s + 1 => cn κ s + (if lk κ s = s then 1 else 0)
def bk (κ : Nat → Nat × Nat) (s : Nat) : Nat := cn κ (lk κ s)
theorem cn_mono (κ : Nat → Nat × Nat) {s t : Nat} (h : s ≤ t) : cn κ s ≤ cn κ t := by
  induction t with
  | zero =>
    obtain rfl : s = 0 := by omega
    exact Nat.le_refl _
  | succ t ih =>
    rcases Nat.lt_or_ge t s with h1 | h1
    · obtain rfl : s = t + 1 := by omega
      exact Nat.le_refl _
    · have := ih h1
      simp only [cn]
      omega
theorem cn_le (κ : Nat → Nat × Nat) (s : Nat) : cn κ s ≤ s := by
  induction s with
  | zero => exact Nat.le_refl _
  | succ s ih =>
    simp only [cn]
    split <;> omega
theorem cn_pos (κ : Nat → Nat × Nat) {s : Nat} (h : 0 < s) : 0 < cn κ s := by
  have h1 := cn_mono κ (s := 1) (t := s) (by omega)
  have h2 : cn κ 1 = 1 := by
    simp only [cn]
    rw [if_pos (by have := lk_le κ 0; omega)]
  omega
theorem bk_lt (κ : Nat → Nat × Nat) {s n : Nat} (h : s < n) : bk κ s < cn κ n := by
  have h1 := cn_mono κ (s := lk κ s + 1) (t := n) (by have := lk_le κ s; omega)
  have h2 : cn κ (lk κ s + 1) = cn κ (lk κ s) + 1 := by simp only [cn, lk_lk, if_true]
  unfold bk
  omega
theorem bk_le (κ : Nat → Nat × Nat) (s : Nat) : bk κ s ≤ s := by
  have := bk_lt κ (s := s) (n := s + 1) (by omega)
  have := cn_le κ (s + 1)
  omega
theorem bk_iff {κ : Nat → Nat × Nat} {s t : Nat} : bk κ s = bk κ t ↔ κ s = κ t := by
  rw [← lk_iff]
  constructor
  · intro h
    have key : ∀ a b, lk κ a = a → a < b → cn κ a < cn κ b := by
      intro a b ha hab
      have h1 := cn_mono κ (s := a + 1) (t := b) (by omega)
      have h2 : cn κ (a + 1) = cn κ a + 1 := by simp only [cn, ha, if_true]
      omega
    rcases Nat.lt_trichotomy (lk κ s) (lk κ t) with h1 | h1 | h1
    · have := key _ _ (lk_lk κ s) h1
      simp only [bk] at h
      omega
    · exact h1
    · have := key _ _ (lk_lk κ t) h1
      simp only [bk] at h
      omega
  · intro h
    simp only [bk, h]
theorem bk_lk {κ : Nat → Nat × Nat} {s : Nat} : bk κ (lk κ s) = bk κ s := bk_iff.mpr (lk_eq κ s)
theorem bk_new {κ : Nat → Nat × Nat} {s : Nat} (h : lk κ s = s) : bk κ s = cn κ s := by simp only [bk, h]
theorem cn_ref {κ κ' : Nat → Nat × Nat} {n : Nat} (h : ∀ s t, s < n → t < n → κ' s = κ' t → κ s = κ t) : cn κ n ≤ cn κ' n := by
  have key : ∀ j, j ≤ n → cn κ j ≤ cn κ' j := by
    intro j
    induction j with
    | zero => intro _; exact Nat.le_refl _
    | succ j ih =>
      intro hj
      have := ih (by omega)
      simp only [cn]
      by_cases h1 : lk κ j = j
      · have h2 : lk κ' j = j := by
          have h3 := lk_le κ' j
          have h4 : κ (lk κ' j) = κ j := h _ _ (by omega) (by omega) (lk_eq κ' j)
          have h5 := lk_min h4
          omega
        rw [if_pos h1, if_pos h2]
        omega
      · rw [if_neg h1]
        split <;> omega
  exact key n (Nat.le_refl _)
/-- marked -/
def mkb (S : sy) (s : Nat) : Bool := decide (S.2.1 s = 2 ∨ S.2.1 s = 5)
def mks (S : sy) : Nat := st (mkb S) S.1
/-- the blocks of a set, as bits; the states of a block -/
def bo (f : Nat → Nat) (set n : Nat) : Nat := un (fun t => 2 ^ f t) set n
def sb (f : Nat → Nat) (b n : Nat) : Nat := st (fun t => decide (f t = b)) n
/-- where signs come from by a letter -/
def sgs (S : sy) (q : Nat) (f : Nat → Nat) (s a : Nat) : Nat := if q = 2 then un (go S a) (itp (go S 0) (sb f (f s) S.1) (2 ^ s) 10) 10 else mv S q a s
def sgl (S : sy) (q : Nat) (f : Nat → Nat) (s : Nat) : Nat → Nat
  | 0 => 0
  | a + 1 => sgl S q f s a ||| (bo f (sgs S q f s a) S.1 * 2 ^ (10 * a))
def sgn (S : sy) (q : Nat) (f : Nat → Nat) (s : Nat) : Nat := if q = 2 then sgl S q f s 4 &&& (2 ^ f s ^^^ (2 ^ 64 - 1)) else sgl S q f s 4
def ky (S : sy) (q : Nat) : Nat → Nat → Nat × Nat
  | 0 => fun s => (if mkb S s then 1 else 0, 0)
  | r + 1 => fun s => (sgn S q (bk (ky S q r)) s, bk (ky S q r) s)
def bl (S : sy) (q r : Nat) : Nat → Nat := bk (ky S q r)
def ct (S : sy) (q r : Nat) : Nat := cn (ky S q r) S.1
def rdj (S : sy) (q : Nat) : Nat → Nat
  | 0 => 10
  | j + 1 => if ct S q (10 - (j + 1) + 1) = ct S q (10 - (j + 1)) then 10 - (j + 1) else rdj S q j
/-- rounds -/
def rd (S : sy) (q : Nat) : Nat := if q = 3 then 0 else rdj S q 10
theorem ct_step (S : sy) (q r : Nat) : ct S q r ≤ ct S q (r + 1) := by
  refine cn_ref (fun s t _ _ h => ?_)
  have h1 : bk (ky S q r) s = bk (ky S q r) t := (Prod.mk.inj h).2
  exact bk_iff.mp h1
theorem ct_le (S : sy) (q r : Nat) : ct S q r ≤ S.1 := cn_le _ _
theorem rdj_stop {S : sy} {q : Nat} {j : Nat} (hj : j ≤ 10) (h : rdj S q j < 10) : ct S q (rdj S q j + 1) = ct S q (rdj S q j) := by
  induction j with
  | zero => simp [rdj] at h
  | succ j ih =>
    simp only [rdj] at h ⊢
    by_cases h1 : ct S q (10 - (j + 1) + 1) = ct S q (10 - (j + 1))
    · simp only [if_pos h1] at h ⊢
      exact h1
    · simp only [if_neg h1] at h ⊢
      exact ih (by omega) h
theorem rdj_go {S : sy} {q : Nat} {j r : Nat} (hj : j ≤ 10) (h1 : 10 - j ≤ r) (h2 : r < rdj S q j) : ct S q r < ct S q (r + 1) := by
  induction j with
  | zero => simp [rdj] at h2; omega
  | succ j ih =>
    simp only [rdj] at h2
    by_cases h3 : ct S q (10 - (j + 1) + 1) = ct S q (10 - (j + 1))
    · rw [if_pos h3] at h2
      omega
    · rw [if_neg h3] at h2
      rcases Nat.lt_or_ge r (10 - j) with h4 | h4
      · obtain rfl : r = 10 - (j + 1) := by omega
        have := ct_step S q (10 - (j + 1))
        omega
      · exact ih (by omega) h4 h2
theorem rdj_le (S : sy) (q j : Nat) : rdj S q j ≤ 10 := by
  induction j with
  | zero => exact Nat.le_refl _
  | succ j ih =>
    simp only [rdj]
    split
    · omega
    · exact ih
theorem rd_go {S : sy} {q r : Nat} (h : r < rd S q) : ct S q r < ct S q (r + 1) := by
  unfold rd at h
  split at h
  · omega
  · exact rdj_go (Nat.le_refl _) (by omega) h
theorem ct_grow {S : sy} {q r : Nat} (h : r ≤ rd S q) : ct S q 0 + r ≤ ct S q r := by
  induction r with
  | zero => exact Nat.le_refl _
  | succ r ih =>
    have := rd_go (S := S) (q := q) (r := r) (by omega)
    have := ih (by omega)
    omega
theorem rd_le9 {S : sy} (hw : wfS S) (q : Nat) : rd S q ≤ 9 := by
  have h1 := ct_grow (S := S) (q := q) (Nat.le_refl _)
  have h2 := ct_le S q (rd S q)
  have h3 := hw.1
  rcases Nat.eq_zero_or_pos S.1 with h4 | h4
  · omega
  · have h5 : 0 < ct S q 0 := cn_pos _ h4
    omega
theorem rd_stop {S : sy} (hw : wfS S) {q : Nat} (hq : q ≠ 3) : ct S q (rd S q + 1) = ct S q (rd S q) := by
  have h := rd_le9 hw q
  unfold rd at h ⊢
  rw [if_neg hq] at h ⊢
  exact rdj_stop (Nat.le_refl _) (by omega)
theorem rd3 (S : sy) : rd S 3 = 0 := rfl
/-- blocks only get finer -/
theorem bl_fine {S : sy} {q r s t : Nat} (h : bl S q r s ≠ bl S q r t) : bl S q (r + 1) s ≠ bl S q (r + 1) t := by
  intro h1
  have h2 := bk_iff.mp h1
  exact h (Prod.mk.inj h2).2
theorem bl_fine' {S : sy} {q r r' s t : Nat} (hr : r ≤ r') (h : bl S q r s ≠ bl S q r t) : bl S q r' s ≠ bl S q r' t := by
  induction r' with
  | zero =>
    obtain rfl : r = 0 := by omega
    exact h
  | succ r' ih =>
    rcases Nat.lt_or_ge r' r with h1 | h1
    · obtain rfl : r = r' + 1 := by omega
      exact h
    · exact bl_fine (ih h1)
theorem bl_le (S : sy) (q r s : Nat) : bl S q r s ≤ s := bk_le _ _
theorem bo_lt {f : Nat → Nat} {set n k : Nat} (h : ∀ t, t < n → f t < k) : bo f set n < 2 ^ k := un_lt n (fun t ht => Nat.pow_lt_pow_right (by decide) (h t ht))
theorem bo_tb {f : Nat → Nat} {set n b : Nat} : (bo f set n).testBit b = true ↔ ∃ t, t < n ∧ set.testBit t = true ∧ f t = b := by
  unfold bo
  rw [un_tb]
  constructor
  · rintro ⟨t, h1, h2, h3⟩
    refine ⟨t, h1, h2, ?_⟩
    rw [Nat.testBit_two_pow] at h3
    simpa using h3
  · rintro ⟨t, h1, h2, h3⟩
    exact ⟨t, h1, h2, by rw [h3]; exact Nat.testBit_two_pow_self⟩
theorem or_mul2 (a b k : Nat) : (a ||| b) * 2 ^ k = (a * 2 ^ k) ||| (b * 2 ^ k) := by
  rw [← Nat.shiftLeft_eq, ← Nat.shiftLeft_eq, ← Nat.shiftLeft_eq, Nat.shiftLeft_or_distrib]
theorem sgl_lt {S : sy} {q : Nat} {f : Nat → Nat} {s : Nat} (hf : ∀ t, t < S.1 → f t < 10) (a : Nat) : sgl S q f s a < 2 ^ (10 * a) := by
  induction a with
  | zero => exact Nat.two_pow_pos _
  | succ a ih =>
    simp only [sgl]
    refine Nat.or_lt_two_pow (Nat.lt_of_lt_of_le ih (Nat.pow_le_pow_right (by decide) (by omega))) ?_
    rw [show 10 * (a + 1) = 10 + 10 * a by omega, Nat.pow_add]
    exact Nat.mul_lt_mul_of_pos_right (bo_lt hf) (Nat.two_pow_pos _)
theorem sgn_lt {S : sy} {q : Nat} {f : Nat → Nat} {s : Nat} (hf : ∀ t, t < S.1 → f t < 10) : sgn S q f s < 2 ^ 40 := by
  have h := sgl_lt (S := S) (q := q) (s := s) hf 4
  unfold sgn
  split
  · exact Nat.lt_of_le_of_lt Nat.and_le_left h
  · exact h
/-- longs: bits -/
theorem ll_bv (a : Nat) : (lN a).toBitVec = BitVec.ofNat 64 a := rfl
theorem ll_ext {x y : Int64} (h : x.toBitVec = y.toBitVec) : x = y := Int64.toBitVec_inj.mp h
theorem ll_or (a b : Nat) : lN a ||| lN b = lN (a ||| b) := by
  apply ll_ext
  apply BitVec.eq_of_getLsbD_eq
  intro i hi
  simp [Int64.toBitVec_or, ll_bv, hi]
theorem ll_and (a b : Nat) : lN a &&& lN b = lN (a &&& b) := by
  apply ll_ext
  apply BitVec.eq_of_getLsbD_eq
  intro i hi
  simp [Int64.toBitVec_and, ll_bv, hi]
theorem ll_xor (a b : Nat) : lN a ^^^ lN b = lN (a ^^^ b) := by
  apply ll_ext
  apply BitVec.eq_of_getLsbD_eq
  intro i hi
  simp [Int64.toBitVec_xor, ll_bv, hi]
theorem ll_0 : (0 : Int64) = lN 0 := rfl
theorem ll_1 : (1 : Int64) = lN 1 := rfl
theorem ll_m : (-1 : Int64) = lN (2 ^ 64 - 1) := rfl
theorem ll_sh1 : ∀ k, k < 40 → (1 : Int64) <<< (lN k &&& 63) = lN (2 ^ k) := by decide +kernel
theorem ll_shx : ∀ a, a < 4 → ∀ x, x < 1024 → lN x <<< (lN (10 * a) &&& 63) = lN (x * 2 ^ (10 * a)) := by decide +kernel
theorem ll_cmp {a b : Nat} (ha : a < 2 ^ 63) (hb : b < 2 ^ 63) : (lg_cmp (lN a) (lN b) = nI 0) = (a = b) := propext ((lg_cmp_eq _ _).trans (pk_lEQ ha hb))
