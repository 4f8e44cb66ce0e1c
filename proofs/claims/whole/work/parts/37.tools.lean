/-! PART 37: tools: literals, comparisons, loops -/
theorem ofn (n : Nat) : Int32.ofNat n = nI n := rfl
theorem l0 : (0 : Int32) = nI 0 := rfl
theorem l1 : (1 : Int32) = nI 1 := rfl
theorem l2 : (2 : Int32) = nI 2 := rfl
theorem l3 : (3 : Int32) = nI 3 := rfl
theorem l4 : (4 : Int32) = nI 4 := rfl
theorem l5 : (5 : Int32) = nI 5 := rfl
theorem l6 : (6 : Int32) = nI 6 := rfl
theorem l7 : (7 : Int32) = nI 7 := rfl
theorem l8 : (8 : Int32) = nI 8 := rfl
theorem l9 : (9 : Int32) = nI 9 := rfl
theorem l10 : (10 : Int32) = nI 10 := rfl
theorem l11 : (11 : Int32) = nI 11 := rfl
theorem l12 : (12 : Int32) = nI 12 := rfl
theorem l19 : (19 : Int32) = nI 19 := rfl
theorem l20 : (20 : Int32) = nI 20 := rfl
theorem l30 : (30 : Int32) = nI 30 := rfl
theorem l31 : (31 : Int32) = nI 31 := rfl
theorem l40 : (40 : Int32) = nI 40 := rfl
theorem l72 : (72 : Int32) = nI 72 := rfl
theorem l100 : (100 : Int32) = nI 100 := rfl
theorem lt_t {a b : Nat} (h : a < b) : (a < b) = True := eq_true h
theorem lt_f {a b : Nat} (h : b ≤ a) : (a < b) = False := eq_false (by omega)
theorem le_t {a b : Nat} (h : a ≤ b) : (a ≤ b) = True := eq_true h
theorem le_f {a b : Nat} (h : b < a) : (a ≤ b) = False := eq_false (by omega)
theorem eq_t {a b : Nat} (h : a = b) : (a = b) = True := eq_true h
theorem eq_f {a b : Nat} (h : a < b ∨ b < a) : (a = b) = False := eq_false (by omega)
theorem not_false_iff : (¬ False) = True := eq_true (fun h => h)
theorem ne_m {a : Nat} (h : a < 2 ^ 31) : (nI a = -1000000) = False := by
  refine eq_false (fun e => ?_)
  have h1 := congrArg Int32.toInt e
  rw [nI_toInt h] at h1
  have h2 : (-1000000 : Int32).toInt = -1000000 := rfl
  omega
theorem ne_1 {a : Nat} (h : a < 2 ^ 31) : (nI a = -nI 1) = False := by
  refine eq_false (fun e => ?_)
  have h1 := congrArg Int32.toInt e
  rw [nI_toInt h] at h1
  have h2 : (-nI 1 : Int32).toInt = -1 := rfl
  omega
/-- a bit of a set, as a number -/
def bt (s j : Nat) : Nat := if s.testBit j then 1 else 0
theorem and31 {j : Nat} (h : j < 32) : j &&& 31 = j := by
  rw [show (31 : Nat) = 2 ^ 5 - 1 from rfl, Nat.and_two_pow_sub_one_eq_mod, Nat.mod_eq_of_lt h]
theorem sh_r {s j : Nat} (hj : j < 32) (hs : s < 2 ^ 31) : nI s >>> nI (j &&& 31) = nI (s >>> j) := by
  rw [← hn_and]
  exact hn_shr hs hj
theorem sh_l {j : Nat} (hj : j < 31) : nI 1 <<< nI (j &&& 31) = nI (2 ^ j) := by
  rw [← hn_and]
  exact hn_shl1 j hj
theorem bt_n (s j : Nat) : (s >>> j) &&& 1 = bt s j := by
  rw [Nat.and_one_is_mod, bt, Nat.testBit_eq_decide_div_mod_eq, Nat.shiftRight_eq_div_pow]
  have : s / 2 ^ j % 2 = 0 ∨ s / 2 ^ j % 2 = 1 := by omega
  rcases this with h | h <;> simp [h]
theorem bt_le (s j : Nat) : bt s j ≤ 1 := by
  unfold bt
  split <;> omega
theorem bt_0 (s j : Nat) : (nI (bt s j) = nI 0) = (s.testBit j = false) := by
  unfold bt
  cases s.testBit j
  · simp
  · simp only [if_true]
    exact propext ⟨fun h => absurd h (by decide), fun h => by cases h⟩
theorem bt_1 (s j : Nat) : (nI (bt s j) = nI 1) = (s.testBit j = true) := by
  unfold bt
  cases s.testBit j
  · exact propext ⟨fun h => absurd h (by decide), fun h => by cases h⟩
  · simp
/-- loops that count up: by induction on the fuel -/
theorem lp {P : Nat → Nat → Prop} {n : Nat} (h0 : ∀ z, P (z + 1) n) (hs : ∀ z i, i < n → P z (i + 1) → P (z + 1) i) : ∀ z i, i ≤ n → n - i < z → P z i := by
  intro z
  induction z with
  | zero => intro i _ h; omega
  | succ z ih =>
    intro i hi hz
    rcases Nat.lt_or_ge i n with h | h
    · exact hs z i h (ih (i + 1) (by omega) (by omega))
    · obtain rfl : i = n := by omega
      exact h0 z
theorem lp0 {P : Nat → Nat → Prop} (n : Nat) (hn : n < 5000) (h0 : ∀ z, P (z + 1) n) (hs : ∀ z i, i < n → P z (i + 1) → P (z + 1) i) : P pj_z 0 :=
  lp h0 hs pj_z 0 (by omega) (by have := pj_z_ge; omega)
/-- from a place on -/
theorem lpk {P : Nat → Nat → Prop} (n k : Nat) (hk : k ≤ n) (hn : n < 5000) (h0 : ∀ z, P (z + 1) n) (hs : ∀ z i, k ≤ i → i < n → P z (i + 1) → P (z + 1) i) : P pj_z k := by
  have h := lp (P := fun z i => k ≤ i → P z i) (n := n) (fun z _ => h0 z) (fun z i h1 h2 h3 => hs z i h3 h1 (h2 (by omega))) pj_z k hk (by have := pj_z_ge; omega)
  exact h (Nat.le_refl _)
/-- loops that count down: i is one more than the place -/
theorem ld {P : Nat → Nat → Prop} (h0 : ∀ z, P (z + 1) 0) (hs : ∀ z i, P z i → P (z + 1) (i + 1)) : ∀ z i, i < z → P z i := by
  intro z
  induction z with
  | zero => intro i h; omega
  | succ z ih =>
    intro i hz
    cases i with
    | zero => exact h0 z
    | succ i => exact hs z i (ih i (by omega))
theorem fr.at {l : List Nat} {m m' : pj_M} (h : fr l m m') (a : Nat) (ha : (l.contains a) = false) : m'.1 a = m.1 a := (h a (by simpa using ha)).1
theorem fr.at2 {l : List Nat} {m m' : pj_M} (h : fr l m m') (a : Nat) (ha : (l.contains a) = false) : m'.2 a = m.2 a := (h a (by simpa using ha)).2
