/-! PART 52: walk -/
def wyj (S : sy) (s : Nat) : Nat → Nat
  | 0 => 0
  | a + 1 => wyj S s a + cnt (go S a s) 10
def wy (S : sy) (s : Nat) : Nat := wyj S s 4
theorem wyj_le (S : sy) (s a : Nat) : wyj S s a ≤ 10 * a := by
  induction a with
  | zero => exact Nat.le_refl _
  | succ a ih =>
    simp only [wyj]
    have := cnt_le (go S a s) 10
    omega
theorem px_gone {m : pj_M} {T a s : Nat} {S : sy} (ha : a < 4) (hs : s < 10) (hg : GT m (T + 1) (go S)) : F_X7_gone T (nI a) (nI s) m = some (nI (go S a s), m) := by
  unfold F_X7_gone
  have e1 := hg a s ha hs
  rw [Nat.mul_comm] at e1
  simp (disch := omega) only [Option.bind_some, ofn, l0, l1, l2, l3, l4, l5, l6, l7, l8, l9, l10, l11, l12, l19, l20, l30, l31, l40, l72, l100, hn_mul, hn_add, hn_sub, hn_or, hn_and, sh_r, sh_l, bt_n, bt_0, bt_1, hn_cl, if_true, if_false, ↓reduceIte, hn_lt, hn_le, hn_eq, ne_1, ne_m, lt_t, lt_f, le_t, le_f, eq_t, eq_f, Nat.not_lt_zero, false_or, or_false, or_self, false_and, and_false, true_and, and_true, not_true, not_false_iff, e1]
theorem px_ways {m : pj_M} {T s : Nat} {S : sy} (hw : wfS S) (hs : s < S.1) (hg : GT m (T + 1) (go S)) : F_X7_ways T (nI s) m = some (nI (wy S s), m) := by
  have w1 := hw.1
  refine lp0 (P := fun z a => H_X7_ways_4 z T (nI s) (nI (wyj S s a)) (nI a) m = some (nI (wy S s), m)) 4 (by decide) ?_ ?_
  · intro z
    rw [H_X7_ways_4]
    simp (disch := omega) only [Option.bind_some, ofn, l0, l1, l2, l3, l4, l5, l6, l7, l8, l9, l10, l11, l12, l19, l20, l30, l31, l40, l72, l100, hn_mul, hn_add, hn_sub, hn_or, hn_and, sh_r, sh_l, bt_n, bt_0, bt_1, hn_cl, if_true, if_false, ↓reduceIte, hn_lt, hn_le, hn_eq, ne_1, ne_m, lt_t, lt_f, le_t, le_f, eq_t, eq_f, Nat.not_lt_zero, false_or, or_false, or_self, false_and, and_false, true_and, and_true, not_true, not_false_iff]
    rfl
  · intro z a ha ih
    rw [H_X7_ways_4]
    have e1 := px_gone (T := T) (s := s) ha (by omega) hg
    have e2 := px_bc (m := m) (show go S a s < 1024 from go_lt10 hw a s)
    simp (disch := omega) only [Option.bind_some, ofn, l0, l1, l2, l3, l4, l5, l6, l7, l8, l9, l10, l11, l12, l19, l20, l30, l31, l40, l72, l100, hn_mul, hn_add, hn_sub, hn_or, hn_and, sh_r, sh_l, bt_n, bt_0, bt_1, hn_cl, if_true, if_false, ↓reduceIte, hn_lt, hn_le, hn_eq, ne_1, ne_m, lt_t, lt_f, le_t, le_f, eq_t, eq_f, Nat.not_lt_zero, false_or, or_false, or_self, false_and, and_false, true_and, and_true, not_true, not_false_iff, e1, e2]
    exact ih
theorem pm_ways {m : pj_M} {s : Nat} {S : sy} (hw : wfS S) (hs : s < S.1) (hl : LK m S) : F_X11_pairsOf (nI s) m = some (nI (wy S s), m) := by
  have w1 := hw.1
  refine lp0 (P := fun z a => H_X11_pairsOf_4 z (nI s) (nI (wyj S s a)) (nI a) m = some (nI (wy S s), m)) 4 (by decide) ?_ ?_
  · intro z
    rw [H_X11_pairsOf_4]
    simp (disch := omega) only [Option.bind_some, ofn, l0, l1, l2, l3, l4, l5, l6, l7, l8, l9, l10, l11, l12, l19, l20, l30, l31, l40, l72, l100, hn_mul, hn_add, hn_sub, hn_or, hn_and, sh_r, sh_l, bt_n, bt_0, bt_1, hn_cl, if_true, if_false, ↓reduceIte, hn_lt, hn_le, hn_eq, ne_1, ne_m, lt_t, lt_f, le_t, le_f, eq_t, eq_f, Nat.not_lt_zero, false_or, or_false, or_self, false_and, and_false, true_and, and_true, not_true, not_false_iff]
    rfl
  · intro z a ha ih
    rw [H_X11_pairsOf_4]
    have e1 := hl.2.1 a s ha (by omega)
    have e2 := pm_size (m := m) (show go S a s < 1024 from go_lt10 hw a s)
    simp (disch := omega) only [Option.bind_some, ofn, l0, l1, l2, l3, l4, l5, l6, l7, l8, l9, l10, l11, l12, l19, l20, l30, l31, l40, l72, l100, hn_mul, hn_add, hn_sub, hn_or, hn_and, sh_r, sh_l, bt_n, bt_0, bt_1, hn_cl, if_true, if_false, ↓reduceIte, hn_lt, hn_le, hn_eq, ne_1, ne_m, lt_t, lt_f, le_t, le_f, eq_t, eq_f, Nat.not_lt_zero, false_or, or_false, or_self, false_and, and_false, true_and, and_true, not_true, not_false_iff, e1, e2]
    exact ih
/-- the k-th way: within a letter (j places left), over letters (j left) -/
def inn (X : Nat) : Nat → Int32 → Option Nat × Int32
  | 0, l => (none, l)
  | j + 1, l => if X.testBit (10 - (j + 1)) then (if l = 0 then (some (10 - (j + 1)), l) else inn X j (l - 1)) else inn X j l
def wout (S : sy) (s : Nat) : Nat → Int32 → Nat
  | 0, _ => s
  | j + 1, l => match inn (go S (4 - (j + 1)) s) 10 l with
    | (some t, _) => t
    | (none, l') => wout S s j l'
theorem inn_none {X n j : Nat} (hX : X < 2 ^ n) (hj : j ≤ 10 - n) (l : Int32) : inn X j l = (none, l) := by
  induction j with
  | zero => rfl
  | succ j ih =>
    have : X.testBit (10 - (j + 1)) = false := Nat.testBit_lt_two_pow (Nat.lt_of_lt_of_le hX (Nat.pow_le_pow_right (by decide) (by omega)))
    simp only [inn, this, Bool.false_eq_true, if_false]
    exact ih (by omega)
theorem inn_lt {X n j : Nat} (hX : X < 2 ^ n) {l l' : Int32} {t : Nat} (h : inn X j l = (some t, l')) : t < n := by
  induction j generalizing l with
  | zero => simp [inn] at h
  | succ j ih =>
    simp only [inn] at h
    by_cases hb : X.testBit (10 - (j + 1)) = true
    · rw [if_pos hb] at h
      by_cases hl : l = 0
      · rw [if_pos hl] at h
        have h1 := Option.some.inj (Prod.mk.inj h).1
        rw [← h1]
        exact tb_lt hX hb
      · rw [if_neg hl] at h
        exact ih h
    · rw [if_neg hb] at h
      exact ih h
theorem wout_lt {S : sy} (hw : wfS S) {s : Nat} (hs : s < S.1) (j : Nat) (l : Int32) : wout S s j l < S.1 := by
  induction j generalizing l with
  | zero => exact hs
  | succ j ih =>
    simp only [wout]
    split
    · rename_i t l' h
      exact inn_lt (go_lt hw _ s) h
    · exact ih _
theorem hx_way {m : pj_M} {T s a : Nat} {S : sy} (hw : wfS S) (hs : s < S.1) (ha : a < 4) (hg : GT m (T + 1) (go S)) {k : Nat → Int32 → Int32 → Int32 → pj_M → Option (Int32 × pj_M)} : ∀ z i, i ≤ 10 → 10 - i < z → ∀ l, H_X7_way_14 k z T (nI s) l (nI a) (nI i) m = match inn (go S a s) (10 - i) l with
    | (some t, _) => some (nI t, m)
    | (none, l') => k T (nI s) l' (nI (a + 1)) m := by
  have w1 := hw.1
  refine lp ?_ ?_
  · intro z l
    rw [H_X7_way_14]
    simp (disch := omega) only [Option.bind_some, ofn, l0, l1, l2, l3, l4, l5, l6, l7, l8, l9, l10, l11, l12, l19, l20, l30, l31, l40, l72, l100, hn_mul, hn_add, hn_sub, hn_or, hn_and, sh_r, sh_l, bt_n, bt_0, bt_1, hn_cl, if_true, if_false, ↓reduceIte, hn_lt, hn_le, hn_eq, ne_1, ne_m, lt_t, lt_f, le_t, le_f, eq_t, eq_f, Nat.not_lt_zero, false_or, or_false, or_self, false_and, and_false, true_and, and_true, not_true, not_false_iff]
    rfl
  · intro z i hi ih l
    have e1 := px_gone (m := m) (T := T) (s := s) ha (by omega) hg
    have hgl := go_lt10 hw a s
    obtain ⟨d, hd⟩ : ∃ d, 10 - i = d + 1 := ⟨9 - i, by omega⟩
    rw [show 10 - (i + 1) = d by omega] at ih
    rw [hd, H_X7_way_14]
    simp only [inn]
    rw [show 10 - (d + 1) = i by omega]
    by_cases hb : (go S a s).testBit i = true
    · by_cases hl : l = 0
      · rw [if_pos hb, if_pos hl]
        simp (disch := omega) only [Option.bind_some, ofn, l0, l1, l2, l3, l4, l5, l6, l7, l8, l9, l10, l11, l12, l19, l20, l30, l31, l40, l72, l100, hn_mul, hn_add, hn_sub, hn_or, hn_and, sh_r, sh_l, bt_n, bt_0, bt_1, hn_cl, if_true, if_false, ↓reduceIte, hn_lt, hn_le, hn_eq, ne_1, ne_m, lt_t, lt_f, le_t, le_f, eq_t, eq_f, Nat.not_lt_zero, false_or, or_false, or_self, false_and, and_false, true_and, and_true, not_true, not_false_iff, e1, hb, Bool.true_eq_false, hl]
      · have hl' : ¬ l = nI 0 := hl
        rw [if_pos hb, if_neg hl]
        simp (disch := omega) only [Option.bind_some, ofn, l0, l1, l2, l3, l4, l5, l6, l7, l8, l9, l10, l11, l12, l19, l20, l30, l31, l40, l72, l100, hn_mul, hn_add, hn_sub, hn_or, hn_and, sh_r, sh_l, bt_n, bt_0, bt_1, hn_cl, if_true, if_false, ↓reduceIte, hn_lt, hn_le, hn_eq, ne_1, ne_m, lt_t, lt_f, le_t, le_f, eq_t, eq_f, Nat.not_lt_zero, false_or, or_false, or_self, false_and, and_false, true_and, and_true, not_true, not_false_iff, e1, hb, Bool.true_eq_false, hl']
        exact ih _
    · rw [if_neg hb]
      simp only [Bool.not_eq_true] at hb
      simp (disch := omega) only [Option.bind_some, ofn, l0, l1, l2, l3, l4, l5, l6, l7, l8, l9, l10, l11, l12, l19, l20, l30, l31, l40, l72, l100, hn_mul, hn_add, hn_sub, hn_or, hn_and, sh_r, sh_l, bt_n, bt_0, bt_1, hn_cl, if_true, if_false, ↓reduceIte, hn_lt, hn_le, hn_eq, ne_1, ne_m, lt_t, lt_f, le_t, le_f, eq_t, eq_f, Nat.not_lt_zero, false_or, or_false, or_self, false_and, and_false, true_and, and_true, not_true, not_false_iff, e1, hb]
      exact ih _
theorem px_way {m : pj_M} {T s : Nat} {S : sy} (hw : wfS S) (hs : s < S.1) (hg : GT m (T + 1) (go S)) (l : Int32) : F_X7_way T (nI s) l m = some (nI (wout S s 4 l), m) := by
  have w1 := hw.1
  refine lp0 (P := fun z a => ∀ l, H_X7_way_5 z T (nI s) l (nI a) m = some (nI (wout S s (4 - a) l), m)) 4 (by decide) ?_ ?_ l
  · intro z l
    rw [H_X7_way_5]
    simp (disch := omega) only [Option.bind_some, ofn, l0, l1, l2, l3, l4, l5, l6, l7, l8, l9, l10, l11, l12, l19, l20, l30, l31, l40, l72, l100, hn_mul, hn_add, hn_sub, hn_or, hn_and, sh_r, sh_l, bt_n, bt_0, bt_1, hn_cl, if_true, if_false, ↓reduceIte, hn_lt, hn_le, hn_eq, ne_1, ne_m, lt_t, lt_f, le_t, le_f, eq_t, eq_f, Nat.not_lt_zero, false_or, or_false, or_self, false_and, and_false, true_and, and_true, not_true, not_false_iff]
    rfl
  · intro z a ha ih l
    rw [H_X7_way_5, if_pos (show nI a < 4 from nI_lt (b := 4) ha (by decide))]
    have e := hx_way (m := m) (T := T) hw hs ha hg (k := H_X7_way_5 z) pj_z 0 (by omega) (by have := pj_z_ge; omega) l
    refine Eq.trans e ?_
    obtain ⟨d, hd⟩ : ∃ d, 4 - a = d + 1 := ⟨3 - a, by omega⟩
    rw [show 4 - (a + 1) = d by omega] at ih
    rw [hd]
    simp only [wout]
    rw [show 4 - (d + 1) = a by omega]
    show (match inn (go S a s) 10 l with
      | (some t, _) => some (nI t, m)
      | (none, l') => H_X7_way_5 z T (nI s) l' (nI (a + 1)) m) = _
    cases hin : inn (go S a s) 10 l with
    | mk o l' =>
      cases o with
      | none => exact ih l'
      | some t => rfl
theorem hm_way {m : pj_M} {s a : Nat} {S : sy} (hw : wfS S) (hs : s < S.1) (ha : a < 4) (hl : LK m S) {k : Int32 → Int32 → Int32 → pj_M → Option (Int32 × pj_M)} : ∀ z i, i ≤ S.1 → S.1 - i < z → ∀ l, H_X11_pairAt_14 k z (nI s) l (nI a) (nI i) m = match inn (go S a s) (10 - i) l with
    | (some t, _) => some (nI t, m)
    | (none, l') => k (nI s) l' (nI (a + 1)) m := by
  have w1 := hw.1
  have h83 := hl.1.1
  refine lp ?_ ?_
  · intro z l
    rw [H_X11_pairAt_14, mx_states, h83, inn_none (go_lt hw a s) (Nat.le_refl _)]
    simp (disch := omega) only [Option.bind_some, ofn, l0, l1, l2, l3, l4, l5, l6, l7, l8, l9, l10, l11, l12, l19, l20, l30, l31, l40, l72, l100, hn_mul, hn_add, hn_sub, hn_or, hn_and, sh_r, sh_l, bt_n, bt_0, bt_1, hn_cl, if_true, if_false, ↓reduceIte, hn_lt, hn_le, hn_eq, ne_1, ne_m, lt_t, lt_f, le_t, le_f, eq_t, eq_f, Nat.not_lt_zero, false_or, or_false, or_self, false_and, and_false, true_and, and_true, not_true, not_false_iff]
  · intro z i hi ih l
    have e1 := hl.2.1 a s ha (by omega)
    have hgl := go_lt10 hw a s
    have e2 := mx_has (m := m) (s := go S a s) (j := i) (by omega) (by omega)
    obtain ⟨d, hd⟩ : ∃ d, 10 - i = d + 1 := ⟨9 - i, by omega⟩
    rw [show 10 - (i + 1) = d by omega] at ih
    rw [hd, H_X11_pairAt_14, mx_states, h83]
    simp only [inn]
    rw [show 10 - (d + 1) = i by omega]
    by_cases hb : (go S a s).testBit i = true
    · rw [if_pos hb] at e2
      by_cases hl : l = 0
      · rw [if_pos hb, if_pos hl]
        simp (disch := omega) only [Option.bind_some, ofn, l0, l1, l2, l3, l4, l5, l6, l7, l8, l9, l10, l11, l12, l19, l20, l30, l31, l40, l72, l100, hn_mul, hn_add, hn_sub, hn_or, hn_and, sh_r, sh_l, bt_n, bt_0, bt_1, hn_cl, if_true, if_false, ↓reduceIte, hn_lt, hn_le, hn_eq, ne_1, ne_m, lt_t, lt_f, le_t, le_f, eq_t, eq_f, Nat.not_lt_zero, false_or, or_false, or_self, false_and, and_false, true_and, and_true, not_true, not_false_iff, e1, e2, hl]
      · have hl' : ¬ l = nI 0 := hl
        rw [if_pos hb, if_neg hl]
        simp (disch := omega) only [Option.bind_some, ofn, l0, l1, l2, l3, l4, l5, l6, l7, l8, l9, l10, l11, l12, l19, l20, l30, l31, l40, l72, l100, hn_mul, hn_add, hn_sub, hn_or, hn_and, sh_r, sh_l, bt_n, bt_0, bt_1, hn_cl, if_true, if_false, ↓reduceIte, hn_lt, hn_le, hn_eq, ne_1, ne_m, lt_t, lt_f, le_t, le_f, eq_t, eq_f, Nat.not_lt_zero, false_or, or_false, or_self, false_and, and_false, true_and, and_true, not_true, not_false_iff, e1, e2, hl']
        exact ih _
    · rw [if_neg hb] at e2
      rw [if_neg hb]
      simp (disch := omega) only [Option.bind_some, ofn, l0, l1, l2, l3, l4, l5, l6, l7, l8, l9, l10, l11, l12, l19, l20, l30, l31, l40, l72, l100, hn_mul, hn_add, hn_sub, hn_or, hn_and, sh_r, sh_l, bt_n, bt_0, bt_1, hn_cl, if_true, if_false, ↓reduceIte, hn_lt, hn_le, hn_eq, ne_1, ne_m, lt_t, lt_f, le_t, le_f, eq_t, eq_f, Nat.not_lt_zero, false_or, or_false, or_self, false_and, and_false, true_and, and_true, not_true, not_false_iff, e1, e2]
      exact ih _
theorem pm_way {m : pj_M} {s : Nat} {S : sy} (hw : wfS S) (hs : s < S.1) (hl : LK m S) (l : Int32) : F_X11_pairAt (nI s) l m = some (nI (wout S s 4 l), m) := by
  have w1 := hw.1
  refine lp0 (P := fun z a => ∀ l, H_X11_pairAt_5 z (nI s) l (nI a) m = some (nI (wout S s (4 - a) l), m)) 4 (by decide) ?_ ?_ l
  · intro z l
    rw [H_X11_pairAt_5]
    simp (disch := omega) only [Option.bind_some, ofn, l0, l1, l2, l3, l4, l5, l6, l7, l8, l9, l10, l11, l12, l19, l20, l30, l31, l40, l72, l100, hn_mul, hn_add, hn_sub, hn_or, hn_and, sh_r, sh_l, bt_n, bt_0, bt_1, hn_cl, if_true, if_false, ↓reduceIte, hn_lt, hn_le, hn_eq, ne_1, ne_m, lt_t, lt_f, le_t, le_f, eq_t, eq_f, Nat.not_lt_zero, false_or, or_false, or_self, false_and, and_false, true_and, and_true, not_true, not_false_iff]
    rfl
  · intro z a ha ih l
    rw [H_X11_pairAt_5, if_pos (show nI a < 4 from nI_lt (b := 4) ha (by decide))]
    have e := hm_way (m := m) hw hs ha hl (k := H_X11_pairAt_5 z) pj_z 0 (by omega) (by have := pj_z_ge; omega) l
    refine Eq.trans e ?_
    obtain ⟨d, hd⟩ : ∃ d, 4 - a = d + 1 := ⟨3 - a, by omega⟩
    rw [show 4 - (a + 1) = d by omega] at ih
    rw [hd]
    simp only [wout]
    rw [show 4 - (d + 1) = a by omega]
    show (match inn (go S a s) 10 l with
      | (some t, _) => some (nI t, m)
      | (none, l') => H_X11_pairAt_5 z (nI s) l' (nI (a + 1)) m) = _
    cases hin : inn (go S a s) 10 l with
    | mk o l' =>
      cases o with
      | none => exact ih l'
      | some t => rfl
def wlx (l : Int64) : Int64 := (l * 16807) - (l * 16807) / 2147483647 * 2147483647
def wlk (l : Int64) (w : Nat) : Int32 := (wlx l - wlx l / (nI w).toInt64 * (nI w).toInt64).toInt32
def wk (S : sy) : Nat → Int64 → Nat → Nat
  | 0, _, s => s
  | j + 1, l, s => wk S j (wlx l) (if wy S s = 0 then s else wout S s 4 (wlk l (wy S s)))
theorem l64n : ¬ (2147483647 : Int64) = 0 := by decide
theorem px_walk {m : pj_M} {T : Nat} {S : sy} (hw : wfS S) (hg : GT m (T + 1) (go S)) {n : Nat} (hn : n ≤ 60) {s : Nat} (hs : s < S.1) (l : Int64) : H_X7_endOfWalk_10 pj_z T (nI n) l (nI s) 0 m = some (nI (wk S n l s), m) := by
  refine lp0 (P := fun z i => ∀ l s, s < S.1 → H_X7_endOfWalk_10 z T (nI n) l (nI s) (nI i) m = some (nI (wk S (n - i) l s), m)) n (by omega) ?_ ?_ l s hs
  · intro z l s hs
    rw [H_X7_endOfWalk_10, Nat.sub_self]
    simp (disch := omega) only [Option.bind_some, ofn, l0, l1, l2, l3, l4, l5, l6, l7, l8, l9, l10, l11, l12, l19, l20, l30, l31, l40, l72, l100, hn_mul, hn_add, hn_sub, hn_or, hn_and, sh_r, sh_l, bt_n, bt_0, bt_1, hn_cl, if_true, if_false, ↓reduceIte, hn_lt, hn_le, hn_eq, ne_1, ne_m, lt_t, lt_f, le_t, le_f, eq_t, eq_f, Nat.not_lt_zero, false_or, or_false, or_self, false_and, and_false, true_and, and_true, not_true, not_false_iff, wk]
  · intro z i hi ih l s hs
    have e1 := px_ways (T := T) hw hs hg
    have hy : wy S s ≤ 40 := wyj_le S s 4
    rw [H_X7_endOfWalk_10, if_pos (nI_lt hi (by omega)), if_neg l64n, e1]
    simp only [Option.bind_some]
    rw [show n - i = (n - (i + 1)) + 1 by omega, nI_1]
    simp only [wk]
    by_cases h0 : wy S s = 0
    · rw [if_pos h0, if_neg (by rw [h0]; decide)]
      exact ih _ s hs
    · have e2 : ¬ (nI (wy S s)).toInt64 = 0 := by
        rw [nI_l (by omega)]
        exact fun e => h0 ((pk_lEQ (b := 0) (by omega) (by decide)).mp e)
      rw [if_neg h0, if_pos (show (0 : Int32) < nI (wy S s) from nI_lt (a := 0) (by omega) (by omega)), if_neg e2]
      have e3 := px_way (T := T) hw hs hg (wlk l (wy S s))
      unfold wlk wlx at e3
      rw [e3]
      simp only [Option.bind_some]
      exact ih _ _ (wout_lt hw hs 4 _)
theorem pm_walk {m : pj_M} {S : sy} (hw : wfS S) (hl : LK m S) {n : Nat} (hn : n ≤ 60) {s : Nat} (hs : s < S.1) (l : Int64) : H_X11_walk_51 pj_z (nI n) (nI s) l 0 m = some (nI (wk S n l s), m) := by
  refine lp0 (P := fun z i => ∀ l s, s < S.1 → H_X11_walk_51 z (nI n) (nI s) l (nI i) m = some (nI (wk S (n - i) l s), m)) n (by omega) ?_ ?_ l s hs
  · intro z l s hs
    rw [H_X11_walk_51, Nat.sub_self]
    simp (disch := omega) only [Option.bind_some, ofn, l0, l1, l2, l3, l4, l5, l6, l7, l8, l9, l10, l11, l12, l19, l20, l30, l31, l40, l72, l100, hn_mul, hn_add, hn_sub, hn_or, hn_and, sh_r, sh_l, bt_n, bt_0, bt_1, hn_cl, if_true, if_false, ↓reduceIte, hn_lt, hn_le, hn_eq, ne_1, ne_m, lt_t, lt_f, le_t, le_f, eq_t, eq_f, Nat.not_lt_zero, false_or, or_false, or_self, false_and, and_false, true_and, and_true, not_true, not_false_iff, wk]
  · intro z i hi ih l s hs
    have e1 := pm_ways hw hs hl
    have hy : wy S s ≤ 40 := wyj_le S s 4
    rw [H_X11_walk_51, if_pos (nI_lt hi (by omega)), if_neg l64n, e1]
    simp only [Option.bind_some]
    rw [show n - i = (n - (i + 1)) + 1 by omega, nI_1]
    simp only [wk]
    by_cases h0 : wy S s = 0
    · rw [if_pos h0, if_pos (by rw [h0]; rfl)]
      exact ih _ s hs
    · have e2 : ¬ (nI (wy S s)).toInt64 = 0 := by
        rw [nI_l (by omega)]
        exact fun e => h0 ((pk_lEQ (b := 0) (by omega) (by decide)).mp e)
      rw [if_neg h0, if_neg (nI_ne0 (by omega) (by omega)), if_neg e2]
      have e3 := pm_way hw hs hl (wlk l (wy S s))
      unfold wlk wlx at e3
      rw [e3]
      simp only [Option.bind_some]
      exact ih _ _ (wout_lt hw hs 4 _)
theorem ok_walk {σ : sg} (hσ : WF σ) (x1 x2 x3 : Int32) : OK1 (F_X10_walk x1 x2 x3) (F_X11_walk x1 x2 x3) σ := by
  have hS : wfS σ.2.2.2.2.1 := hσ.2.2.1
  have w1 := hS.1
  by_cases h1 : inb x1 σ.2.2.2.2.1.1
  · by_cases h2 : inb x2 61
    · have X2 : ∀ m, F_X10_within x2 0 60 m = some (1, m) := fun m => px_within_y (n := 60) (by decide) h2
      have M2 : ∀ m, F_X11_in x2 0 60 m = some (1, m) := fun m => pm_in_y (n := 60) (by decide) h2
      by_cases h3 : x3 < 1 ∨ 999999 < x3
      · have X3 : ∀ m, F_X10_within x3 1 999999 m = some (0, m) := fun m => by
          unfold F_X10_within
          by_cases h4 : x3 < 1
          · rw [if_pos h4]
          · rw [if_neg h4, if_pos (h3.resolve_left h4)]
        have M3 : ∀ m, F_X11_in x3 1 999999 m = some (0, m) := X3
        refine ok_same hσ (r := -1000001) (fun m h => ?_) (fun m h => ?_)
        · have hn : XN m 7 σ.2.2.2.2.1 := h.2.2.2.2.1
          simp only [F_X10_walk, nx_has_y (by omega) hn.1 h1, X2, X3, Option.bind_some, ne10, if_false, if_true]
        · have hm : MN m 78 0 σ.2.2.2.2.1 := h.2.2.2.2.1
          simp only [F_X11_walk, mx_st_y (by omega) hm.1 h1, M2, M3, Option.bind_some, ne10, if_false, if_true]
      · have X3 : ∀ m, F_X10_within x3 1 999999 m = some (1, m) := fun m => by
          unfold F_X10_within
          rw [if_neg (fun h => h3 (Or.inl h)), if_neg (fun h => h3 (Or.inr h))]
        have M3 : ∀ m, F_X11_in x3 1 999999 m = some (1, m) := X3
        obtain ⟨s, hs, rfl⟩ := id h1
        obtain ⟨n, hn6, rfl⟩ := id h2
        refine ⟨nI (wk σ.2.2.2.2.1 n x3.toInt64 s), _, hσ, fun c m hc h => ?_, fun m h => ?_⟩
        · obtain ⟨h0, ⟨v, hv, hk⟩, hj⟩ := id h
          have hn : XN m 7 σ.2.2.2.2.1 := h0.2.2.2.2.1
          obtain ⟨m', g1, g2, g3, g4, g5, g6⟩ := kx_steps hS (by omega) hn hk
          refine ⟨m', ?_, xq h g2 hv g3, hi_cx g2⟩
          have e : F_X7_endOfWalk 20 (nI s) (nI n) x3 m' = some (nI (wk σ.2.2.2.2.1 n x3.toInt64 s), m') := px_walk (T := 20) hS g5 (by omega) hs _
          simp only [F_X10_walk, nx_has_y (by omega) hn.1 h1, X2, X3, Option.bind_some, ne10, if_false, g1, e]
        · have hm : MN m 78 0 σ.2.2.2.2.1 := h.2.2.2.2.1
          obtain ⟨m', g1, g2, g3⟩ := km_looks hS hm
          refine ⟨m', ?_, h.keep g2, lo_cm g2⟩
          simp only [F_X11_walk, mx_st_y (by omega) hm.1 h1, M2, M3, Option.bind_some, ne10, if_false, g1]
          exact pm_walk hS g3 (by omega) hs _
    · have X2 : ∀ m, F_X10_within x2 0 60 m = some (0, m) := fun m => px_within_n (n := 60) (by decide) h2
      have M2 : ∀ m, F_X11_in x2 0 60 m = some (0, m) := fun m => pm_in_n (n := 60) (by decide) h2
      refine ok_same hσ (r := -1000001) (fun m h => ?_) (fun m h => ?_)
      · have hn : XN m 7 σ.2.2.2.2.1 := h.2.2.2.2.1
        simp only [F_X10_walk, nx_has_y (by omega) hn.1 h1, X2, Option.bind_some, ne10, if_false, if_true]
      · have hm : MN m 78 0 σ.2.2.2.2.1 := h.2.2.2.2.1
        simp only [F_X11_walk, mx_st_y (by omega) hm.1 h1, M2, Option.bind_some, ne10, if_false, if_true]
  · refine ok_same hσ (r := -1000001) (fun m h => ?_) (fun m h => ?_)
    · have hn : XN m 7 σ.2.2.2.2.1 := h.2.2.2.2.1
      simp only [F_X10_walk, nx_has_n (by omega) hn.1 h1, Option.bind_some, if_true]
    · have hm : MN m 78 0 σ.2.2.2.2.1 := h.2.2.2.2.1
      simp only [F_X11_walk, mx_st_n (by omega) hm.1 h1, Option.bind_some, if_true]
