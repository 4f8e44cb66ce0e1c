/-! PART 42: the reference's partsBy -/
theorem pm_bi {m : pj_M} {r s : Nat} (hr : r < 21) (hs : s < 10) : F_X11_blockIn (nI r) (nI s) m = some (m.1 86 (10 * r + s), m) := by
  unfold F_X11_blockIn
  simp (disch := omega) only [Option.bind_some, ofn, l0, l1, l2, l3, l4, l5, l6, l7, l8, l9, l10, l11, l12, l19, l20, l30, l31, l40, l72, l100, hn_mul, hn_add, hn_sub, hn_or, hn_and, sh_r, sh_l, bt_n, bt_0, bt_1, hn_cl, if_true, if_false, ↓reduceIte, hn_lt, hn_le, hn_eq, ne_1, ne_m, lt_t, lt_f, le_t, le_f, eq_t, eq_f, Nat.not_lt_zero, false_or, or_false, or_self, false_and, and_false, true_and, and_true, not_true, not_false_iff]
theorem hm_found {k4 : Int32 → Int32 → Int32 → pj_M → Option (Int32 × pj_M)} {m : pj_M} {ρ n s c b : Nat} {κ : Nat → Nat × Nat} (hn : n ≤ 10) (hρ : ρ < 21) (hk : KM m 87 86 ρ n κ) (hs : s < n) (hb : b < 2 ^ 31) : ∀ z i, i ≤ s → s - i < z → H_X11_numbers_19 k4 z (nI ρ) (nI c) (nI s) (nI b) (nI i) m = J_X11_numbers_105 k4 (nI ρ) (nI c) (nI s) (nI b) m := by
  refine lp ?_ ?_
  · intro z
    rw [H_X11_numbers_19]
    simp (disch := omega) only [Option.bind_some, ofn, l0, l1, l2, l3, l4, l5, l6, l7, l8, l9, l10, l11, l12, l19, l20, l30, l31, l40, l72, l100, hn_mul, hn_add, hn_sub, hn_or, hn_and, sh_r, sh_l, bt_n, bt_0, bt_1, hn_cl, if_true, if_false, ↓reduceIte, hn_lt, hn_le, hn_eq, ne_1, ne_m, lt_t, lt_f, le_t, le_f, eq_t, eq_f, Nat.not_lt_zero, false_or, or_false, or_self, false_and, and_false, true_and, and_true, not_true, not_false_iff]
  · intro z i hi ih
    rw [H_X11_numbers_19]
    obtain ⟨a1, a2, a3, a4, a5⟩ := hk i (by omega)
    obtain ⟨b1, b2, b3, b4, b5⟩ := hk s hs
    unfold J_X11_numbers_71
    rcases Nat.eq_zero_or_pos ρ with h0 | h0
    · subst h0
      simp (disch := omega) only [Option.bind_some, ofn, l0, l1, l2, l3, l4, l5, l6, l7, l8, l9, l10, l11, l12, l19, l20, l30, l31, l40, l72, l100, hn_mul, hn_add, hn_sub, hn_or, hn_and, sh_r, sh_l, bt_n, bt_0, bt_1, hn_cl, if_true, if_false, ↓reduceIte, hn_lt, hn_le, hn_eq, ne_1, ne_m, lt_t, lt_f, le_t, le_f, eq_t, eq_f, Nat.not_lt_zero, false_or, or_false, or_self, false_and, and_false, true_and, and_true, not_true, not_false_iff, a1, b1, ll_cmp]
      simp only [ite_self]
      exact ih
    · have e1 := pm_bi (m := m) (r := ρ - 1) (s := i) (by omega) (by omega)
      have e2 := pm_bi (m := m) (r := ρ - 1) (s := s) (by omega) (by omega)
      rw [a5 h0] at e1
      rw [b5 h0] at e2
      simp (disch := omega) only [Option.bind_some, ofn, l0, l1, l2, l3, l4, l5, l6, l7, l8, l9, l10, l11, l12, l19, l20, l30, l31, l40, l72, l100, hn_mul, hn_add, hn_sub, hn_or, hn_and, sh_r, sh_l, bt_n, bt_0, bt_1, hn_cl, if_true, if_false, ↓reduceIte, hn_lt, hn_le, hn_eq, ne_1, ne_m, lt_t, lt_f, le_t, le_f, eq_t, eq_f, Nat.not_lt_zero, false_or, or_false, or_self, false_and, and_false, true_and, and_true, not_true, not_false_iff, a1, b1, ll_cmp, e1, e2]
      simp only [ite_self]
      exact ih
theorem hm_first {k4 : Int32 → Int32 → Int32 → pj_M → Option (Int32 × pj_M)} {m : pj_M} {ρ n s c : Nat} {κ : Nat → Nat × Nat} (hn : n ≤ 10) (hρ : ρ < 21) (hk : KM m 87 86 ρ n κ) (hs : s < n) (hb : ∀ t, t < s → m.1 86 (10 * ρ + t) = nI (bk κ t)) : ∀ z i, i ≤ s → s - i < z → H_X11_numbers_19 k4 z (nI ρ) (nI c) (nI s) (-1000000) (nI i) m = J_X11_numbers_105 k4 (nI ρ) (nI c) (nI s) (if lkj κ s (s - i) < s then nI (bk κ (lkj κ s (s - i))) else -1000000) m := by
  intro z
  induction z with
  | zero => intro i _ h; omega
  | succ z ih =>
    intro i hi hz
    rcases Nat.lt_or_ge i s with his | his
    · rw [H_X11_numbers_19, lkj_step his]
      obtain ⟨a1, a2, a3, a4, a5⟩ := hk i (by omega)
      obtain ⟨b1, b2, b3, b4, b5⟩ := hk s hs
      have ih := ih (i + 1) (by omega) (by omega)
      have hbi := bk_le κ i
      have hf := hm_found (k4 := k4) (m := m) (ρ := ρ) (n := n) (s := s) (c := c) (b := bk κ i) hn hρ hk hs (by omega) z (i + 1) (by omega) (by omega)
      have e3 := pm_bi (m := m) (r := ρ) (s := i) (by omega) (by omega)
      rw [hb i his] at e3
      unfold J_X11_numbers_71
      rcases Nat.eq_zero_or_pos ρ with h0 | h0
      · subst h0
        have e := hk.eq0 (k := i) (s := s) (by omega) hs
        by_cases h1 : (κ i).1 = (κ s).1
        · simp (disch := omega) only [Option.bind_some, ofn, l0, l1, l2, l3, l4, l5, l6, l7, l8, l9, l10, l11, l12, l19, l20, l30, l31, l40, l72, l100, hn_mul, hn_add, hn_sub, hn_or, hn_and, sh_r, sh_l, bt_n, bt_0, bt_1, hn_cl, if_true, if_false, ↓reduceIte, hn_lt, hn_le, hn_eq, ne_1, ne_m, lt_t, lt_f, le_t, le_f, eq_t, eq_f, Nat.not_lt_zero, false_or, or_false, or_self, false_and, and_false, true_and, and_true, not_true, not_false_iff, a1, b1, ll_cmp, e, h1, e3]
          exact hf
        · simp (disch := omega) only [Option.bind_some, ofn, l0, l1, l2, l3, l4, l5, l6, l7, l8, l9, l10, l11, l12, l19, l20, l30, l31, l40, l72, l100, hn_mul, hn_add, hn_sub, hn_or, hn_and, sh_r, sh_l, bt_n, bt_0, bt_1, hn_cl, if_true, if_false, ↓reduceIte, hn_lt, hn_le, hn_eq, ne_1, ne_m, lt_t, lt_f, le_t, le_f, eq_t, eq_f, Nat.not_lt_zero, false_or, or_false, or_self, false_and, and_false, true_and, and_true, not_true, not_false_iff, a1, b1, ll_cmp, e, h1]
          exact ih
      · have e1 := pm_bi (m := m) (r := ρ - 1) (s := i) (by omega) (by omega)
        have e2 := pm_bi (m := m) (r := ρ - 1) (s := s) (by omega) (by omega)
        rw [a5 h0] at e1
        rw [b5 h0] at e2
        by_cases h1 : (κ i).1 = (κ s).1
        · by_cases h2 : (κ i).2 = (κ s).2
          · simp (disch := omega) only [Option.bind_some, ofn, l0, l1, l2, l3, l4, l5, l6, l7, l8, l9, l10, l11, l12, l19, l20, l30, l31, l40, l72, l100, hn_mul, hn_add, hn_sub, hn_or, hn_and, sh_r, sh_l, bt_n, bt_0, bt_1, hn_cl, if_true, if_false, ↓reduceIte, hn_lt, hn_le, hn_eq, ne_1, ne_m, lt_t, lt_f, le_t, le_f, eq_t, eq_f, Nat.not_lt_zero, false_or, or_false, or_self, false_and, and_false, true_and, and_true, not_true, not_false_iff, a1, b1, ll_cmp, e1, e2, pr_eq, h1, h2, e3]
            exact hf
          · simp (disch := omega) only [Option.bind_some, ofn, l0, l1, l2, l3, l4, l5, l6, l7, l8, l9, l10, l11, l12, l19, l20, l30, l31, l40, l72, l100, hn_mul, hn_add, hn_sub, hn_or, hn_and, sh_r, sh_l, bt_n, bt_0, bt_1, hn_cl, if_true, if_false, ↓reduceIte, hn_lt, hn_le, hn_eq, ne_1, ne_m, lt_t, lt_f, le_t, le_f, eq_t, eq_f, Nat.not_lt_zero, false_or, or_false, or_self, false_and, and_false, true_and, and_true, not_true, not_false_iff, a1, b1, ll_cmp, e1, e2, pr_eq, h1, h2]
            exact ih
        · simp (disch := omega) only [Option.bind_some, ofn, l0, l1, l2, l3, l4, l5, l6, l7, l8, l9, l10, l11, l12, l19, l20, l30, l31, l40, l72, l100, hn_mul, hn_add, hn_sub, hn_or, hn_and, sh_r, sh_l, bt_n, bt_0, bt_1, hn_cl, if_true, if_false, ↓reduceIte, hn_lt, hn_le, hn_eq, ne_1, ne_m, lt_t, lt_f, le_t, le_f, eq_t, eq_f, Nat.not_lt_zero, false_or, or_false, or_self, false_and, and_false, true_and, and_true, not_true, not_false_iff, a1, b1, ll_cmp, e1, e2, pr_eq, h1]
          exact ih
    · obtain rfl : i = s := by omega
      rw [H_X11_numbers_19, Nat.sub_self]
      simp (disch := omega) only [Option.bind_some, ofn, l0, l1, l2, l3, l4, l5, l6, l7, l8, l9, l10, l11, l12, l19, l20, l30, l31, l40, l72, l100, hn_mul, hn_add, hn_sub, hn_or, hn_and, sh_r, sh_l, bt_n, bt_0, bt_1, hn_cl, if_true, if_false, ↓reduceIte, hn_lt, hn_le, hn_eq, ne_1, ne_m, lt_t, lt_f, le_t, le_f, eq_t, eq_f, Nat.not_lt_zero, false_or, or_false, or_self, false_and, and_false, true_and, and_true, not_true, not_false_iff, lkj]
theorem pm_numbers {m : pj_M} {ρ n : Nat} {κ : Nat → Nat × Nat} (hn : n ≤ 10) (hρ : ρ < 21) (h83 : m.1 83 0 = nI n) (hk : KM m 87 86 ρ n κ) : ∃ m', F_X11_numbers (nI ρ) m = some (nI (cn κ n), m') ∧ fw 86 (10 * ρ) (10 * ρ + 10) m m' ∧ ∀ s, s < n → m'.1 86 (10 * ρ + s) = nI (bk κ s) := by
  refine lp0 (P := fun z s => ∀ m, m.1 83 0 = nI n → KM m 87 86 ρ n κ → (∀ t, t < s → m.1 86 (10 * ρ + t) = nI (bk κ t)) → ∃ m', H_X11_numbers_4 z (nI ρ) (nI (cn κ s)) (nI s) m = some (nI (cn κ n), m') ∧ fw 86 (10 * ρ) (10 * ρ + 10) m m' ∧ ∀ s, s < n → m'.1 86 (10 * ρ + s) = nI (bk κ s)) n (by omega) ?_ ?_ m h83 hk (fun t ht => by omega)
  · intro z m h3 hk hb
    refine ⟨m, ?_, fw.rf _ _ _ _, hb⟩
    rw [H_X11_numbers_4, mx_states, h3]
    simp (disch := omega) only [Option.bind_some, ofn, l0, l1, l2, l3, l4, l5, l6, l7, l8, l9, l10, l11, l12, l19, l20, l30, l31, l40, l72, l100, hn_mul, hn_add, hn_sub, hn_or, hn_and, sh_r, sh_l, bt_n, bt_0, bt_1, hn_cl, if_true, if_false, ↓reduceIte, hn_lt, hn_le, hn_eq, ne_1, ne_m, lt_t, lt_f, le_t, le_f, eq_t, eq_f, Nat.not_lt_zero, false_or, or_false, or_self, false_and, and_false, true_and, and_true, not_true, not_false_iff]
  · intro z s hs ih m h3 hk hb
    have hf := fw.wr (B := 86) (lo := 10 * ρ) (hi := 10 * ρ + 10) m (k := 10 * ρ + s) (by omega) (by omega) (nI (bk κ s))
    obtain ⟨m', g1, g2, g3⟩ := ih (pj_wr m 86 (10 * ρ + s) (nI (bk κ s))) (by rw [hr_wra (by decide)]; exact h3) (hk.keep (s := s) hn hf (Nat.le_refl _)) (fun t ht => by
      rw [hr_wr]
      by_cases hts : t = s
      · rw [if_pos ⟨rfl, by omega⟩, hts]
      · rw [if_neg (by omega)]
        exact hb t (by omega))
    refine ⟨m', ?_, hf.tr g2, g3⟩
    have hc := cn_le κ s
    have hl := lk_le κ s
    have e0 := hm_first (k4 := H_X11_numbers_4 z) (c := cn κ s) hn hρ hk hs hb pj_z 0 (by omega) (by have := pj_z_ge; omega)
    rw [H_X11_numbers_4, mx_states, h3]
    simp only [Option.bind_some]
    rw [if_pos (nI_lt hs (by omega))]
    refine e0.trans ?_
    have elk : lkj κ s (s - 0) = lk κ s := rfl
    rw [elk]
    unfold J_X11_numbers_105 J_X11_numbers_128
    by_cases h1 : lk κ s < s
    · have hlt : bk κ s < cn κ s := by
        have := bk_lt κ h1
        rw [bk_lk] at this
        exact this
      have ec : cn κ (s + 1) = cn κ s := by
        simp only [cn]
        rw [if_neg (by omega)]
        rfl
      rw [ec] at g1
      rw [if_pos h1, bk_lk]
      simp (disch := omega) only [Option.bind_some, ofn, l0, l1, l2, l3, l4, l5, l6, l7, l8, l9, l10, l11, l12, l19, l20, l30, l31, l40, l72, l100, hn_mul, hn_add, hn_sub, hn_or, hn_and, sh_r, sh_l, bt_n, bt_0, bt_1, hn_cl, if_true, if_false, ↓reduceIte, hn_lt, hn_le, hn_eq, ne_1, ne_m, lt_t, lt_f, le_t, le_f, eq_t, eq_f, Nat.not_lt_zero, false_or, or_false, or_self, false_and, and_false, true_and, and_true, not_true, not_false_iff, Nat.add_zero]
      exact g1
    · have h2 : lk κ s = s := by omega
      have ec : cn κ (s + 1) = cn κ s + 1 := by
        simp only [cn]
        rw [if_pos h2]
      rw [ec, bk_new h2] at g1
      rw [if_neg h1]
      simp (disch := omega) only [Option.bind_some, ofn, l0, l1, l2, l3, l4, l5, l6, l7, l8, l9, l10, l11, l12, l19, l20, l30, l31, l40, l72, l100, hn_mul, hn_add, hn_sub, hn_or, hn_and, sh_r, sh_l, bt_n, bt_0, bt_1, hn_cl, if_true, if_false, ↓reduceIte, hn_lt, hn_le, hn_eq, ne_1, ne_m, lt_t, lt_f, le_t, le_f, eq_t, eq_f, Nat.not_lt_zero, false_or, or_false, or_self, false_and, and_false, true_and, and_true, not_true, not_false_iff]
      exact g1
theorem pm_bits {m : pj_M} {r n a set : Nat} {f : Nat → Nat} (hn : n ≤ 10) (hr : r < 21) (ha : a < 4) (h83 : m.1 83 0 = nI n) (hset : set < 2 ^ 31) (hf : ∀ t, t < n → f t < 10) (hb : ∀ t, t < n → m.1 86 (10 * r + t) = nI (f t)) : F_X11_bitsOf (nI a) (nI set) (nI r) m = some (lN (bo f set n * 2 ^ (10 * a)), m) := by
  have h : H_X11_bitsOf_6 pj_z (nI a) (nI set) (nI r) (lN (bo f set 0 * 2 ^ (10 * a))) (nI 0) m = some (lN (bo f set n * 2 ^ (10 * a)), m) := by
    refine lp0 (P := fun z i => H_X11_bitsOf_6 z (nI a) (nI set) (nI r) (lN (bo f set i * 2 ^ (10 * a))) (nI i) m = some (lN (bo f set n * 2 ^ (10 * a)), m)) n (by omega) ?_ ?_
    · intro z
      rw [H_X11_bitsOf_6, mx_states, h83]
      simp (disch := omega) only [Option.bind_some, ofn, l0, l1, l2, l3, l4, l5, l6, l7, l8, l9, l10, l11, l12, l19, l20, l30, l31, l40, l72, l100, hn_mul, hn_add, hn_sub, hn_or, hn_and, sh_r, sh_l, bt_n, bt_0, bt_1, hn_cl, if_true, if_false, ↓reduceIte, hn_lt, hn_le, hn_eq, ne_1, ne_m, lt_t, lt_f, le_t, le_f, eq_t, eq_f, Nat.not_lt_zero, false_or, or_false, or_self, false_and, and_false, true_and, and_true, not_true, not_false_iff]
    · intro z i hi ih
      have e1 := pm_bi (m := m) (r := r) (s := i) hr (by omega)
      rw [hb i hi] at e1
      have hfi := hf i hi
      have e0 := mx_has (m := m) (s := set) (j := i) hset (by omega)
      rw [H_X11_bitsOf_6, mx_states, h83]
      by_cases hbit : set.testBit i = true
      · have e : bo f set (i + 1) = bo f set i ||| 2 ^ f i := by simp only [bo, un, hbit, if_true]
        have el : (nI (10 * a + f i)).toInt64 = lN (10 * a + f i) := nI_l (by omega)
        rw [e, or_mul2, ← Nat.pow_add, Nat.add_comm (f i)] at ih
        rw [hbit] at e0
        simp (disch := omega) only [Option.bind_some, ofn, l0, l1, l2, l3, l4, l5, l6, l7, l8, l9, l10, l11, l12, l19, l20, l30, l31, l40, l72, l100, hn_mul, hn_add, hn_sub, hn_or, hn_and, sh_r, sh_l, bt_n, bt_0, bt_1, hn_cl, if_true, if_false, ↓reduceIte, hn_lt, hn_le, hn_eq, ne_1, ne_m, lt_t, lt_f, le_t, le_f, eq_t, eq_f, Nat.not_lt_zero, false_or, or_false, or_self, false_and, and_false, true_and, and_true, not_true, not_false_iff, e0, e1, el]
        rw [ll_sh1 _ (by omega), ll_or]
        exact ih
      · have e : bo f set (i + 1) = bo f set i := by simp [bo, un, hbit]
        rw [e] at ih
        simp only [Bool.not_eq_true] at hbit
        rw [hbit] at e0
        simp only [Bool.false_eq_true, if_false] at e0
        simp (disch := omega) only [Option.bind_some, ofn, l0, l1, l2, l3, l4, l5, l6, l7, l8, l9, l10, l11, l12, l19, l20, l30, l31, l40, l72, l100, hn_mul, hn_add, hn_sub, hn_or, hn_and, sh_r, sh_l, bt_n, bt_0, bt_1, hn_cl, if_true, if_false, ↓reduceIte, hn_lt, hn_le, hn_eq, ne_1, ne_m, lt_t, lt_f, le_t, le_f, eq_t, eq_f, Nat.not_lt_zero, false_or, or_false, or_self, false_and, and_false, true_and, and_true, not_true, not_false_iff, e0]
        rw [ll_0, ll_or, Nat.or_zero]
        exact ih
  unfold F_X11_bitsOf
  have e : lN (bo f set 0 * 2 ^ (10 * a)) = 0 := by
    rw [show bo f set 0 = 0 from rfl, Nat.zero_mul]
    rfl
  rw [e] at h
  exact h
theorem pm_alikeIn {m : pj_M} {r n s : Nat} {f : Nat → Nat} (hn : n ≤ 10) (hr : r < 21) (hs : s < n) (h83 : m.1 83 0 = nI n) (hf : ∀ t, t < n → f t < 10) (hb : ∀ t, t < n → m.1 86 (10 * r + t) = nI (f t)) : F_X11_alikeIn (nI r) (nI s) m = some (nI (sb f (f s) n), m) := by
  refine lp0 (P := fun z i => H_X11_alikeIn_5 z (nI r) (nI s) (nI (sb f (f s) i)) (nI i) m = some (nI (sb f (f s) n), m)) n (by omega) ?_ ?_
  · intro z
    rw [H_X11_alikeIn_5, mx_states, h83]
    simp (disch := omega) only [Option.bind_some, ofn, l0, l1, l2, l3, l4, l5, l6, l7, l8, l9, l10, l11, l12, l19, l20, l30, l31, l40, l72, l100, hn_mul, hn_add, hn_sub, hn_or, hn_and, sh_r, sh_l, bt_n, bt_0, bt_1, hn_cl, if_true, if_false, ↓reduceIte, hn_lt, hn_le, hn_eq, ne_1, ne_m, lt_t, lt_f, le_t, le_f, eq_t, eq_f, Nat.not_lt_zero, false_or, or_false, or_self, false_and, and_false, true_and, and_true, not_true, not_false_iff]
  · intro z i hi ih
    rw [H_X11_alikeIn_5, mx_states, h83]
    have e1 := pm_bi (m := m) (r := r) (s := i) hr (by omega)
    rw [hb i hi] at e1
    have e2 := pm_bi (m := m) (r := r) (s := s) hr (by omega)
    rw [hb s hs] at e2
    have hfi := hf i hi
    have hfs := hf s hs
    by_cases h1 : f i = f s
    · have e : sb f (f s) (i + 1) = sb f (f s) i ||| 2 ^ i := by simp [sb, st, h1]
      rw [e] at ih
      rw [h1] at e1
      simp (disch := omega) only [Option.bind_some, ofn, l0, l1, l2, l3, l4, l5, l6, l7, l8, l9, l10, l11, l12, l19, l20, l30, l31, l40, l72, l100, hn_mul, hn_add, hn_sub, hn_or, hn_and, sh_r, sh_l, bt_n, bt_0, bt_1, hn_cl, if_true, if_false, ↓reduceIte, hn_lt, hn_le, hn_eq, ne_1, ne_m, lt_t, lt_f, le_t, le_f, eq_t, eq_f, Nat.not_lt_zero, false_or, or_false, or_self, false_and, and_false, true_and, and_true, not_true, not_false_iff, e1, e2]
      exact ih
    · have e : sb f (f s) (i + 1) = sb f (f s) i := by simp [sb, st, h1]
      rw [e] at ih
      simp (disch := omega) only [Option.bind_some, ofn, l0, l1, l2, l3, l4, l5, l6, l7, l8, l9, l10, l11, l12, l19, l20, l30, l31, l40, l72, l100, hn_mul, hn_add, hn_sub, hn_or, hn_and, sh_r, sh_l, bt_n, bt_0, bt_1, hn_cl, if_true, if_false, ↓reduceIte, hn_lt, hn_le, hn_eq, ne_1, ne_m, lt_t, lt_f, le_t, le_f, eq_t, eq_f, Nat.not_lt_zero, false_or, or_false, or_self, false_and, and_false, true_and, and_true, not_true, not_false_iff, e1, e2, h1, Nat.or_zero]
      exact ih
theorem pm_signs {m : pj_M} {r s q : Nat} {S : sy} {f : Nat → Nat} (hw : wfS S) (hl : LK m S) (hq : q < 3) (hr : r < 21) (hs : s < S.1) (hf : ∀ t, t < S.1 → f t < 10) (hb : ∀ t, t < S.1 → m.1 86 (10 * r + t) = nI (f t)) : F_X11_signsOf (nI q) (nI s) (nI r) m = some (lN (sgn S q f s), m) := by
  have w1 := hw.1
  have hp := p2_10 w1
  have hfs := hf s hs
  have h83 := hl.1.1
  have e1 := pm_bi (m := m) (r := r) (s := s) hr (by omega)
  rw [hb s hs] at e1
  have loop : ∀ near : Nat, near < 2 ^ S.1 → (q = 2 → near = itp (go S 0) (sb f (f s) S.1) (2 ^ s) 10) → H_X11_signsOf_32 pj_z (nI q) (nI s) (nI r) 0 (nI near) 0 m = some (lN (sgn S q f s), m) := by
    intro near hnear hnq
    refine lp0 (P := fun z a => H_X11_signsOf_32 z (nI q) (nI s) (nI r) (lN (sgl S q f s a)) (nI near) (nI a) m = some (lN (sgn S q f s), m)) 4 (by decide) ?_ ?_
    · intro z
      rw [H_X11_signsOf_32]
      unfold J_X11_signsOf_80 sgn
      by_cases h2 : q = 2
      · simp (disch := omega) only [Option.bind_some, ofn, l0, l1, l2, l3, l4, l5, l6, l7, l8, l9, l10, l11, l12, l19, l20, l30, l31, l40, l72, l100, hn_mul, hn_add, hn_sub, hn_or, hn_and, sh_r, sh_l, bt_n, bt_0, bt_1, hn_cl, if_true, if_false, ↓reduceIte, hn_lt, hn_le, hn_eq, ne_1, ne_m, lt_t, lt_f, le_t, le_f, eq_t, eq_f, Nat.not_lt_zero, false_or, or_false, or_self, false_and, and_false, true_and, and_true, not_true, not_false_iff, h2, e1]
        rw [nI_l (by omega), ll_sh1 _ (by omega), ll_m, ll_xor, ll_and]
      · simp (disch := omega) only [Option.bind_some, ofn, l0, l1, l2, l3, l4, l5, l6, l7, l8, l9, l10, l11, l12, l19, l20, l30, l31, l40, l72, l100, hn_mul, hn_add, hn_sub, hn_or, hn_and, sh_r, sh_l, bt_n, bt_0, bt_1, hn_cl, if_true, if_false, ↓reduceIte, hn_lt, hn_le, hn_eq, ne_1, ne_m, lt_t, lt_f, le_t, le_f, eq_t, eq_f, Nat.not_lt_zero, false_or, or_false, or_self, false_and, and_false, true_and, and_true, not_true, not_false_iff, h2]
    · intro z a ha ih
      rw [H_X11_signsOf_32]
      have hX : sgs S q f s a < 2 ^ S.1 := by
        unfold sgs
        split
        · exact un_lt 10 (fun i _ => go_lt hw a i)
        · exact mv_lt hw q a hs
      have e2 := pm_bits (m := m) (r := r) (n := S.1) (a := a) (set := sgs S q f s a) w1 hr ha h83 (by omega) hf hb
      have ek : lN (sgl S q f s a) ||| lN (bo f (sgs S q f s a) S.1 * 2 ^ (10 * a)) = lN (sgl S q f s (a + 1)) := by rw [ll_or]; rfl
      by_cases h2 : q = 2
      · have e3 := pm_to (n := S.1) (l := a) (s := near) (f := go S a) (m := m) w1 ha (by omega) h83 (fun i hi => hl.2.1 a i ha (by omega))
        have e4 : un (go S a) near S.1 = sgs S q f s a := by
          unfold sgs
          rw [if_pos h2, ← hnq h2, un_stop (shr_lt hnear) 10 w1]
        rw [e4] at e3
        rw [if_pos (show nI a < 4 from nI_lt (b := 4) ha (by decide)), if_pos (by rw [h2]; rfl), e3]
        simp only [Option.bind_some]
        rw [e2]
        simp only [Option.bind_some]
        rw [ek, nI_1]
        exact ih
      · have e3 := pm_moving (r := q) (a := a) (s := s) hw hl (by omega) ha hs
        have e4 : mv S q a s = sgs S q f s a := by
          unfold sgs
          rw [if_neg h2]
        rw [e4] at e3
        rw [if_pos (show nI a < 4 from nI_lt (b := 4) ha (by decide)), if_neg (show ¬ nI q = 2 from fun e => h2 (hn_inj (by omega) (by decide) e)), e3]
        simp only [Option.bind_some]
        rw [e2]
        simp only [Option.bind_some]
        rw [ek, nI_1]
        exact ih
  have hs2 : (2 : Nat) ^ s < 2 ^ S.1 := Nat.pow_lt_pow_right (by decide) hs
  have esh : (1 : Int32) <<< (nI s &&& 31) = nI (2 ^ s) := hn_shl1 s (by omega)
  unfold F_X11_signsOf
  rw [esh]
  by_cases h2 : q = 2
  · have e2 := pm_alikeIn (m := m) (r := r) (n := S.1) (s := s) (f := f) w1 hr hs h83 hf hb
    have e3 := pm_reach (n := S.1) (s := 2 ^ s) (am := sb f (f s) S.1) (x2 := nI (sb f (f s) S.1)) (f := go S 0) (m := m) w1 hs2 (fun i _ => go_lt hw 0 i) h83 (fun k hk => by have := hl.2.1 0 k (by decide) (by omega); rw [Nat.mul_zero, Nat.zero_add] at this; exact this) (fun x _ => hn_and x _)
    have hlt : itp (go S 0) (sb f (f s) S.1) (2 ^ s) 10 < 2 ^ S.1 := itp_lt hs2 (fun i _ => go_lt hw 0 i) 10
    rw [if_pos (by rw [h2]; rfl), e2]
    simp only [Option.bind_some]
    rw [e3]
    simp only [Option.bind_some]
    exact loop _ hlt (fun _ => rfl)
  · rw [if_neg (show ¬ nI q = 2 from fun e => h2 (hn_inj (by omega) (by decide) e))]
    exact loop _ hs2 (fun h => absurd h h2)
