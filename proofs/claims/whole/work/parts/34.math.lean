/-! PART 34: unions over sets -/
/-- what f gives for the members of s below n, together -/
def un (f : Nat → Nat) (s : Nat) : Nat → Nat
  | 0 => 0
  | n + 1 => un f s n ||| (if s.testBit n then f n else 0)
theorem un_lt {f : Nat → Nat} {s k : Nat} (n : Nat) (h : ∀ i, i < n → f i < 2 ^ k) : un f s n < 2 ^ k := by
  induction n with
  | zero => exact Nat.two_pow_pos k
  | succ n ih =>
    simp only [un]
    refine Nat.or_lt_two_pow (ih (fun i hi => h i (by omega))) ?_
    split
    · exact h n (by omega)
    · exact Nat.two_pow_pos k
theorem un_tb (f : Nat → Nat) (s t : Nat) (n : Nat) : (un f s n).testBit t = true ↔ ∃ i, i < n ∧ s.testBit i = true ∧ (f i).testBit t = true := by
  induction n with
  | zero => simp [un]
  | succ n ih =>
    simp only [un, Nat.testBit_or, Bool.or_eq_true, ih]
    constructor
    · rintro (⟨i, h1, h2⟩ | h)
      · exact ⟨i, by omega, h2⟩
      · split at h
        · rename_i hs
          exact ⟨n, by omega, hs, h⟩
        · simp at h
    · rintro ⟨i, h1, h2, h3⟩
      rcases Nat.lt_or_ge i n with hi | hi
      · exact Or.inl ⟨i, hi, h2, h3⟩
      · obtain rfl : i = n := by omega
        exact Or.inr (by rw [if_pos h2]; exact h3)
theorem un_stop {f : Nat → Nat} {s j : Nat} (h : s >>> j = 0) (n : Nat) (hn : j ≤ n) : un f s n = un f s j := by
  induction n with
  | zero =>
    obtain rfl : j = 0 := by omega
    rfl
  | succ n ih =>
    rcases Nat.lt_or_ge n j with hj | hj
    · obtain rfl : j = n + 1 := by omega
      rfl
    · simp only [un]
      have : s.testBit n = false := by
        have h1 : (s >>> j).testBit (n - j) = false := by rw [h]; simp
        rw [Nat.testBit_shiftRight] at h1
        rw [show j + (n - j) = n by omega] at h1
        exact h1
      rw [this, ih hj]
      simp
theorem hx_union {n0 a0 l s : Nat} {f : Nat → Nat} {m : pj_M} (hn0 : l * 10 + 10 ≤ n0) (hn1 : n0 < 2 ^ 31) (hs : s < 2 ^ 31) (hf : ∀ i, i < 10 → m.1 a0 (10 * l + i) = nI (f i)) : ∀ (z i : Nat), i ≤ 10 → 10 - i < z → H_X7_union_5 z n0 a0 (nI l) (nI s) (nI (un f s i)) (nI i) m = some (nI (un f s 10), m) := by
  intro z
  induction z with
  | zero => intro i hi hz; omega
  | succ z ih =>
    intro i hi hz
    rw [H_X7_union_5, show (10 : Int32) = nI 10 from rfl]
    by_cases h : i < 10
    · rw [if_pos (nI_lt h (by decide)), hn_shr hs (by omega)]
      have hsh : s >>> i < 2 ^ 31 := Nat.lt_of_le_of_lt (Nat.shiftRight_le _ _) hs
      by_cases h0 : s >>> i = 0
      · rw [h0, if_pos (show nI 0 = 0 from rfl), un_stop h0 10 hi]
      · rw [if_neg (show ¬ nI (s >>> i) = 0 from fun e => h0 (hn_inj hsh (by decide) e)), ← hn_shr hs (by omega), hn_bit hs (by omega), nI_1, hn_mul, hn_add]
        by_cases hb : s.testBit i = true
        · simp only [hb, if_true]
          rw [if_neg (by decide), if_neg (hn_in (by omega) hn1), hn_cl (by omega), Nat.mul_comm l 10, hf i h, hn_or]
          have e : un f s (i + 1) = un f s i ||| f i := by simp only [un, hb, if_true]
          rw [← e]
          exact ih (i + 1) (by omega) (by omega)
        · rw [if_neg hb, if_pos (show nI 0 = 0 from rfl)]
          have e : un f s (i + 1) = un f s i := by simp [un, hb]
          rw [← e]
          exact ih (i + 1) (by omega) (by omega)
    · obtain rfl : i = 10 := by omega
      rw [if_neg (nI_nlt (by omega) (by decide))]
theorem px_union {n0 a0 l s : Nat} {f : Nat → Nat} {m : pj_M} (hn0 : l * 10 + 10 ≤ n0) (hn1 : n0 < 2 ^ 31) (hs : s < 2 ^ 31) (hf : ∀ i, i < 10 → m.1 a0 (10 * l + i) = nI (f i)) : F_X7_union n0 a0 (nI l) (nI s) m = some (nI (un f s 10), m) :=
  hx_union hn0 hn1 hs hf pj_z 0 (by omega) (by have := pj_z_ge; omega)
theorem mx_states {m : pj_M} : F_X11_states m = some (m.1 83 0, m) := by
  unfold F_X11_states
  rw [if_neg (by decide), c0]
theorem mx_has {m : pj_M} {s j : Nat} (hs : s < 2 ^ 31) (hj : j < 32) : F_X11_has (nI s) (nI j) m = some (nI (if s.testBit j then 1 else 0), m) := by
  unfold F_X11_has
  rw [hn_bit hs hj]
  by_cases hb : s.testBit j = true
  · rw [if_pos hb, if_pos (show nI 1 = 1 from rfl)]
    rfl
  · rw [if_neg hb, if_neg (show ¬ nI 0 = 1 by decide)]
    rfl
theorem hm_to {n l s : Nat} {f : Nat → Nat} {m : pj_M} (hn : n ≤ 10) (hl : l < 4) (hs : s < 2 ^ 31) (h83 : m.1 83 0 = nI n) (hf : ∀ i, i < n → m.1 84 (10 * l + i) = nI (f i)) : ∀ (z i : Nat), i ≤ n → n - i < z → H_X11_to_5 z (nI s) (nI l) (nI (un f s i)) (nI i) m = some (nI (un f s n), m) := by
  intro z
  induction z with
  | zero => intro i hi hz; omega
  | succ z ih =>
    intro i hi hz
    rw [H_X11_to_5, mx_states, h83, show (10 : Int32) = nI 10 from rfl]
    simp only [Option.bind_some]
    by_cases h : i < n
    · rw [if_pos (nI_lt h (by omega)), mx_has hs (by omega), nI_1, hn_mul, hn_add]
      simp only [Option.bind_some]
      by_cases hb : s.testBit i = true
      · have e : un f s (i + 1) = un f s i ||| f i := by simp only [un, hb, if_true]
        rw [if_pos hb, if_neg (show ¬ nI 1 = 0 by decide), if_neg (hn_in (by omega) (by decide)), hn_cl (by omega), hf i h, hn_or, ← e]
        exact ih (i + 1) (by omega) (by omega)
      · have e : un f s (i + 1) = un f s i := by simp [un, hb]
        rw [if_neg hb, if_pos (show nI 0 = 0 from rfl), show (0 : Int32) = nI 0 from rfl, hn_or, Nat.or_zero, ← e]
        exact ih (i + 1) (by omega) (by omega)
    · obtain rfl : i = n := by omega
      rw [if_neg (nI_nlt (by omega) (by omega))]
theorem pm_to {n l s : Nat} {f : Nat → Nat} {m : pj_M} (hn : n ≤ 10) (hl : l < 4) (hs : s < 2 ^ 31) (h83 : m.1 83 0 = nI n) (hf : ∀ i, i < n → m.1 84 (10 * l + i) = nI (f i)) : F_X11_to (nI s) (nI l) m = some (nI (un f s n), m) :=
  hm_to hn hl hs h83 hf pj_z 0 (by omega) (by have := pj_z_ge; omega)
theorem hm_close {n s : Nat} {f : Nat → Nat} {m : pj_M} (hn : n ≤ 10) (hs : s < 2 ^ 31) (h83 : m.1 83 0 = nI n) (hf : ∀ i, i < n → m.1 85 i = nI (f i)) : ∀ (z i : Nat), i ≤ n → n - i < z → H_X11_close_4 z (nI s) (nI (un f s i)) (nI i) m = some (nI (un f s n), m) := by
  intro z
  induction z with
  | zero => intro i hi hz; omega
  | succ z ih =>
    intro i hi hz
    rw [H_X11_close_4, mx_states, h83]
    simp only [Option.bind_some]
    by_cases h : i < n
    · rw [if_pos (nI_lt h (by omega)), mx_has hs (by omega), nI_1]
      simp only [Option.bind_some]
      by_cases hb : s.testBit i = true
      · have e : un f s (i + 1) = un f s i ||| f i := by simp only [un, hb, if_true]
        rw [if_pos hb, if_neg (show ¬ nI 1 = 0 by decide), if_neg (hn_in (by omega) (by decide)), hn_cl (by omega), hf i h, hn_or, ← e]
        exact ih (i + 1) (by omega) (by omega)
      · have e : un f s (i + 1) = un f s i := by simp [un, hb]
        rw [if_neg hb, if_pos (show nI 0 = 0 from rfl), show (0 : Int32) = nI 0 from rfl, hn_or, Nat.or_zero, ← e]
        exact ih (i + 1) (by omega) (by omega)
    · obtain rfl : i = n := by omega
      rw [if_neg (nI_nlt (by omega) (by omega))]
theorem pm_close {n s : Nat} {f : Nat → Nat} {m : pj_M} (hn : n ≤ 10) (hs : s < 2 ^ 31) (h83 : m.1 83 0 = nI n) (hf : ∀ i, i < n → m.1 85 i = nI (f i)) : F_X11_close (nI s) m = some (nI (un f s n), m) :=
  hm_close hn hs h83 hf pj_z 0 (by omega) (by have := pj_z_ge; omega)
/-- silent steps that stay among some: one more, and n of them -/
def stp (f : Nat → Nat) (am s : Nat) : Nat := s ||| (un f s 10 &&& am)
def itp (f : Nat → Nat) (am s : Nat) : Nat → Nat
  | 0 => s
  | n + 1 => stp f am (itp f am s n)
theorem itp_stop {f : Nat → Nat} {am s j : Nat} (h : stp f am (itp f am s j) = itp f am s j) (n : Nat) (hn : j ≤ n) : itp f am s n = itp f am s j := by
  induction n with
  | zero =>
    obtain rfl : j = 0 := by omega
    rfl
  | succ n ih =>
    rcases Nat.lt_or_ge n j with hj | hj
    · obtain rfl : j = n + 1 := by omega
      rfl
    · simp only [itp, ih hj, h]
theorem stp_lt {f : Nat → Nat} {am s k : Nat} (hs : s < 2 ^ k) (hf : ∀ i, i < 10 → f i < 2 ^ k) : stp f am s < 2 ^ k := Nat.or_lt_two_pow hs (Nat.lt_of_le_of_lt Nat.and_le_left (un_lt 10 hf))
theorem itp_lt {f : Nat → Nat} {am s k : Nat} (hs : s < 2 ^ k) (hf : ∀ i, i < 10 → f i < 2 ^ k) (n : Nat) : itp f am s n < 2 ^ k := by
  induction n with
  | zero => exact hs
  | succ n ih => exact stp_lt ih hf
theorem hx_silent {b s am : Nat} {x2 : Int32} {f : Nat → Nat} {m : pj_M} (hs : s < 2 ^ 10) (hf1 : ∀ i, i < 10 → f i < 2 ^ 10) (hf : ∀ i, i < 10 → m.1 (b + 1) i = nI (f i)) (ham : ∀ q, q < 2 ^ 10 → nI q &&& x2 = nI (q &&& am)) : ∀ (z j : Nat), j ≤ 10 → 10 - j < z → H_X7_silentlyWithin_7 z b x2 (nI (itp f am s j)) (nI j) m = some (nI (itp f am s 10), m) := by
  intro z
  induction z with
  | zero => intro i hi hz; omega
  | succ z ih =>
    intro j hj hz
    have hlt := itp_lt (am := am) hs hf1 j
    rw [H_X7_silentlyWithin_7, show (10 : Int32) = nI 10 from rfl]
    by_cases h : j < 10
    · have hu := px_union (n0 := 40) (a0 := b + 1) (l := 0) (s := itp f am s j) (f := f) (m := m) (by decide) (by decide) (by omega) (fun i hi => by rw [Nat.mul_zero, Nat.zero_add]; exact hf i hi)
      have hu : F_X7_union 40 (b + 1) 0 (nI (itp f am s j)) m = some (nI (un f (itp f am s j) 10), m) := hu
      rw [if_pos (nI_lt h (by decide)), hu]
      simp only [Option.bind_some]
      rw [ham _ (un_lt 10 hf1), hn_or, nI_1]
      by_cases he : stp f am (itp f am s j) = itp f am s j
      · rw [if_pos (by rw [show itp f am s j ||| (un f (itp f am s j) 10 &&& am) = itp f am s j from he]), itp_stop he 10 hj]
      · have hlt2 := stp_lt (am := am) hlt hf1
        rw [show itp f am s j ||| (un f (itp f am s j) 10 &&& am) = stp f am (itp f am s j) from rfl, if_neg (fun e => he (hn_inj (Nat.lt_of_lt_of_le hlt2 (by decide)) (by omega) e))]
        exact ih (j + 1) (by omega) (by omega)
    · obtain rfl : j = 10 := by omega
      rw [if_neg (nI_nlt (by omega) (by decide))]
/-- how many of the first ten are in a set -/
def cnt (s : Nat) : Nat → Nat
  | 0 => 0
  | n + 1 => cnt s n + (if s.testBit n then 1 else 0)
theorem cnt_le (s n : Nat) : cnt s n ≤ n := by
  induction n with
  | zero => exact Nat.le_refl _
  | succ n ih => simp only [cnt]; split <;> omega
theorem cnt_mono {s t : Nat} (h : ∀ i, s.testBit i = true → t.testBit i = true) (n : Nat) : cnt s n ≤ cnt t n := by
  induction n with
  | zero => exact Nat.le_refl _
  | succ n ih =>
    simp only [cnt]
    by_cases h1 : s.testBit n = true
    · rw [if_pos h1, if_pos (h n h1)]; omega
    · rw [if_neg h1]; split <;> omega
theorem cnt_lt {s t : Nat} (h : ∀ i, s.testBit i = true → t.testBit i = true) {i n : Nat} (hi : i < n) (h1 : ¬ s.testBit i = true) (h2 : t.testBit i = true) : cnt s n < cnt t n := by
  induction n with
  | zero => omega
  | succ n ih =>
    simp only [cnt]
    rcases Nat.lt_or_ge i n with hin | hin
    · have := ih hin
      by_cases h3 : s.testBit n = true
      · rw [if_pos h3, if_pos (h n h3)]; omega
      · rw [if_neg h3]; split <;> omega
    · obtain rfl : i = n := by omega
      rw [if_neg h1, if_pos h2]
      have := cnt_mono h i
      omega
theorem stp_sub {f : Nat → Nat} {am s i : Nat} (h : s.testBit i = true) : (stp f am s).testBit i = true := by
  simp [stp, h]
theorem stp_grow {f : Nat → Nat} {am s : Nat} (hs : s < 2 ^ 10) (hf : ∀ i, i < 10 → f i < 2 ^ 10) (h : stp f am s ≠ s) : cnt s 10 < cnt (stp f am s) 10 := by
  have hlt := stp_lt (am := am) hs hf
  obtain ⟨i, hi⟩ : ∃ i, (stp f am s).testBit i ≠ s.testBit i := by
    refine Classical.byContradiction (fun hc => h (Nat.eq_of_testBit_eq fun i => ?_))
    exact Classical.byContradiction (fun h2 => hc ⟨i, h2⟩)
  have h1 : ¬ s.testBit i = true := fun h1 => hi (by rw [h1, stp_sub h1])
  have h2 : (stp f am s).testBit i = true := by
    cases h3 : (stp f am s).testBit i with
    | true => rfl
    | false => exact absurd (by rw [h3]; simpa using h1) hi
  have hi10 : i < 10 := by
    rcases Nat.lt_or_ge i 10 with h3 | h3
    · exact h3
    · rw [Nat.testBit_lt_two_pow (Nat.lt_of_lt_of_le hlt (Nat.pow_le_pow_right (by decide) h3))] at h2
      cases h2
  exact cnt_lt (fun _ => stp_sub) hi10 h1 h2
theorem itp_fix {f : Nat → Nat} {am s : Nat} (hs : s < 2 ^ 10) (hf : ∀ i, i < 10 → f i < 2 ^ 10) : stp f am (itp f am s 10) = itp f am s 10 := by
  refine Classical.byContradiction (fun hc => ?_)
  have key : ∀ j, j ≤ 11 → j ≤ cnt (itp f am s j) 10 := by
    intro j
    induction j with
    | zero => intro _; exact Nat.zero_le _
    | succ j ih =>
      intro hj
      have hne : stp f am (itp f am s j) ≠ itp f am s j := fun he => hc (by rw [itp_stop he 10 (by omega), he])
      have := stp_grow (itp_lt hs hf j) hf hne
      have := ih (by omega)
      show j + 1 ≤ cnt (stp f am (itp f am s j)) 10
      omega
  have h1 := key 11 (Nat.le_refl _)
  have h2 := cnt_le (itp f am s 11) 10
  omega
theorem shr_lt {s n : Nat} (h : s < 2 ^ n) : s >>> n = 0 := by
  rw [Nat.shiftRight_eq_div_pow]
  exact Nat.div_eq_of_lt h
theorem hm_reach {n s am : Nat} {x2 : Int32} {f : Nat → Nat} {m : pj_M} (hn : n ≤ 10) (hs : s < 2 ^ n) (hf1 : ∀ i, i < 10 → f i < 2 ^ n) (h83 : m.1 83 0 = nI n) (hf : ∀ i, i < n → m.1 84 i = nI (f i)) (ham : ∀ q, q < 2 ^ 10 → nI q &&& x2 = nI (q &&& am)) : ∀ (z j : Nat), j ≤ 10 → 12 - j < z → H_X11_reaches_5 z x2 (nI (itp f am s j)) 1 m = some (nI (itp f am s 10), m) := by
  have h10 : (2 : Nat) ^ n ≤ 2 ^ 10 := Nat.pow_le_pow_right (by decide) hn
  have hf10 : ∀ i, i < 10 → f i < 2 ^ 10 := fun i hi => Nat.lt_of_lt_of_le (hf1 i hi) h10
  have hs10 : s < 2 ^ 10 := Nat.lt_of_lt_of_le hs h10
  intro z
  induction z with
  | zero => intro i hi hz; omega
  | succ z ih =>
    intro j hj hz
    have hlt := itp_lt (am := am) hs hf1 j
    have hlt10 := itp_lt (am := am) hs10 hf10 j
    rw [H_X11_reaches_5, if_neg (by decide)]
    have hu : F_X11_to (nI (itp f am s j)) 0 m = some (nI (un f (itp f am s j) 10), m) := by
      have h1 := pm_to (n := n) (l := 0) (s := itp f am s j) (f := f) (m := m) hn (by decide) (by omega) h83 (fun i hi => by rw [Nat.mul_zero, Nat.zero_add]; exact hf i hi)
      rw [show (0 : Int32) = nI 0 from rfl, h1, un_stop (shr_lt hlt) 10 hn]
    rw [hu]
    simp only [Option.bind_some]
    rw [ham _ (un_lt 10 hf10), hn_or, show itp f am s j ||| (un f (itp f am s j) 10 &&& am) = stp f am (itp f am s j) from rfl]
    have hlt2 := stp_lt (am := am) hlt10 hf10
    by_cases he : stp f am (itp f am s j) = itp f am s j
    · rw [he, if_pos rfl]
      obtain ⟨z', rfl⟩ : ∃ z', z = z' + 1 := ⟨z - 1, by omega⟩
      rw [H_X11_reaches_5, if_pos rfl, itp_stop he 10 hj]
    · rw [if_neg (fun e => he (hn_inj (Nat.lt_of_lt_of_le hlt2 (by decide)) (by omega) e))]
      have hj10 : j < 10 := by
        rcases Nat.lt_or_ge j 10 with h | h
        · exact h
        · obtain rfl : j = 10 := by omega
          exact absurd (itp_fix hs10 hf10) he
      exact ih (j + 1) (by omega) (by omega)
theorem pm_reach {n s am : Nat} {x2 : Int32} {f : Nat → Nat} {m : pj_M} (hn : n ≤ 10) (hs : s < 2 ^ n) (hf1 : ∀ i, i < 10 → f i < 2 ^ n) (h83 : m.1 83 0 = nI n) (hf : ∀ i, i < n → m.1 84 i = nI (f i)) (ham : ∀ q, q < 2 ^ 10 → nI q &&& x2 = nI (q &&& am)) : F_X11_reaches (nI s) x2 m = some (nI (itp f am s 10), m) :=
  hm_reach hn hs hf1 h83 hf ham pj_z 0 (by omega) (by have := pj_z_ge; omega)
theorem px_silent {b j am : Nat} {x2 : Int32} {f : Nat → Nat} {m : pj_M} (hj : j < 10) (hf1 : ∀ i, i < 10 → f i < 2 ^ 10) (hf : ∀ i, i < 10 → m.1 (b + 1) i = nI (f i)) (ham : ∀ q, q < 2 ^ 10 → nI q &&& x2 = nI (q &&& am)) : F_X7_silentlyWithin b (nI j) x2 m = some (nI (itp f am (2 ^ j) 10), m) := by
  unfold F_X7_silentlyWithin
  rw [hn_shl1 j (by omega)]
  exact hx_silent (Nat.pow_lt_pow_right (by decide) hj) hf1 hf ham pj_z 0 (by omega) (by have := pj_z_ge; omega)
theorem am_m1 (q : Nat) : nI q &&& (-1) = nI (q &&& (2 ^ 32 - 1)) := by
  rw [show (-1 : Int32) = nI (2 ^ 32 - 1) from rfl, hn_and]
