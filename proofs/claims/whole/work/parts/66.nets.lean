/-! PART 66: nets change -/
theorem px_shift {b x y n : Nat} (hx : x + n ≤ 20) (hy : y + n ≤ 20) (m : pj_M) : ∃ m', F_X4_shiftArcs b (nI x) (nI y) (nI n) m = some m' ∧ fr [b + 2] m m' ∧ ∀ w a, w < 3 → a < 20 → m'.1 (b + 2) (20 * w + a) = if y ≤ a ∧ a < y + n then m.1 (b + 2) (20 * w + (x + (a - y))) else m.1 (b + 2) (20 * w + a) := by
  have key : ∃ m', F_X4_shiftArcs b (nI x) (nI y) (nI n) m = some m' ∧ fr [b + 2] m m' ∧ ∀ w a, w < 3 → a < 20 → m'.1 (b + 2) (20 * w + a) = if 0 ≤ w ∧ y ≤ a ∧ a < y + n then m.1 (b + 2) (20 * w + (x + (a - y))) else m.1 (b + 2) (20 * w + a) := by
    refine lp0 (P := fun z v => ∀ m, ∃ m', H_X4_shiftArcs_3 z b (nI x) (nI y) (nI n) (nI v) m = some m' ∧ fr [b + 2] m m' ∧ ∀ w a, w < 3 → a < 20 → m'.1 (b + 2) (20 * w + a) = if v ≤ w ∧ y ≤ a ∧ a < y + n then m.1 (b + 2) (20 * w + (x + (a - y))) else m.1 (b + 2) (20 * w + a)) 3 (by decide) ?_ ?_ m
    · intro z m
      refine ⟨m, ?_, fr.rf _ _, fun w a hw ha => by rw [if_neg (by omega)]⟩
      rw [H_X4_shiftArcs_3]
      simp (disch := omega) only [Option.bind_some, ofn, l0, l1, l2, l3, l4, l5, l6, l7, l8, l9, l10, l11, l12, l19, l20, l30, l31, l40, l72, l100, hn_mul, hn_add, hn_sub, hn_or, hn_and, sh_r, sh_l, bt_n, bt_0, bt_1, hn_cl, if_true, if_false, ↓reduceIte, hn_lt, hn_le, hn_eq, ne_1, ne_m, lt_t, lt_f, le_t, le_f, eq_t, eq_f, Nat.not_lt_zero, false_or, or_false, or_self, false_and, and_false, true_and, and_true, not_true, not_false_iff]
    · intro z v hv ih m
      obtain ⟨m', g1, g2, g3⟩ := ih (pj_cp m (b + 2) (20 * v + x) (b + 2) (20 * v + y) n)
      refine ⟨m', ?_, (fr.cp _ _ (by simp) _ _ _ _).tr g2, fun w a hw ha => ?_⟩
      · rw [H_X4_shiftArcs_3, ← g1, Nat.mul_comm 20 v]
        simp (disch := omega) only [Option.bind_some, ofn, l0, l1, l2, l3, l4, l5, l6, l7, l8, l9, l10, l11, l12, l19, l20, l30, l31, l40, l72, l100, hn_mul, hn_add, hn_sub, hn_or, hn_and, sh_r, sh_l, bt_n, bt_0, bt_1, hn_cl, if_true, if_false, ↓reduceIte, hn_lt, hn_le, hn_eq, ne_1, ne_m, lt_t, lt_f, le_t, le_f, eq_t, eq_f, Nat.not_lt_zero, false_or, or_false, or_self, false_and, and_false, true_and, and_true, not_true, not_false_iff]
      · rw [g3 w a hw ha, hr_cp, hr_cp]
        by_cases hwv : w = v
        · subst hwv
          rw [if_neg (by omega)]
          by_cases h : y ≤ a ∧ a < y + n
          · rw [if_pos (by omega), if_pos (by omega), show 20 * w + x + (20 * w + a - (20 * w + y)) = 20 * w + (x + (a - y)) by omega]
          · rw [if_neg (by omega), if_neg (by omega)]
        · by_cases h : v + 1 ≤ w ∧ y ≤ a ∧ a < y + n
          · rw [if_pos h, if_neg (by omega), if_pos (by omega)]
          · rw [if_neg h, if_neg (by omega), if_neg (by omega)]
  obtain ⟨m', g1, g2, g3⟩ := key
  exact ⟨m', g1, g2, fun w a hw ha => by
    rw [g3 w a hw ha]
    by_cases h : y ≤ a ∧ a < y + n
    · rw [if_pos ⟨Nat.zero_le _, h⟩, if_pos h]
    · rw [if_neg (fun e => h e.2), if_neg h]⟩
def insS (S : sy) (j : Nat) (x : Nat → Nat) : sy := (S.1, S.2.1, S.2.2.1 + 1, fun a w => if a < j then S.2.2.2 a w else if a = j then x w else S.2.2.2 (a - 1) w)
def remS (S : sy) (j : Nat) : sy := (S.1, S.2.1, S.2.2.1 - 1, fun a w => if a < j then S.2.2.2 a w else S.2.2.2 (a + 1) w)
def turS (S : sy) (j : Nat) : sy := (S.1, S.2.1, S.2.2.1, fun a w => if a = j then (if w = 1 then S.2.2.2 j 2 else if w = 2 then S.2.2.2 j 1 else S.2.2.2 j w) else S.2.2.2 a w)
def kinS (S : sy) (s k : Nat) : sy := (S.1, fun i => if i = s then k else S.2.1 i, S.2.2.1, S.2.2.2)
def parS (S : sy) (j w v : Nat) : sy := (S.1, S.2.1, S.2.2.1, fun a u => if a = j ∧ u = w then v else S.2.2.2 a u)
theorem px_setPart {b j w x v : Nat} (hj : j < 20) (hw : w < 3) {m : pj_M} (h4 : m.1 b 4 = nI v) : F_X4_setArcPart b (nI j) (nI w) (nI x) m = some (pj_wr (pj_wr m (b + 2) (20 * w + j) (nI x)) b 4 (nI (v + 1))) := by
  unfold F_X4_setArcPart
  have e : (pj_wr m (b + 2) (20 * w + j) (nI x)).1 b 4 = nI v := by rw [hr_wra (by omega), h4]
  rw [Nat.mul_comm 20 w] at e ⊢
  simp (disch := omega) only [Option.bind_some, ofn, l0, l1, l2, l3, l4, l5, l6, l7, l8, l9, l10, l11, l12, l19, l20, l30, l31, l40, l72, l100, hn_mul, hn_add, hn_sub, hn_or, hn_and, sh_r, sh_l, bt_n, bt_0, bt_1, hn_cl, if_true, if_false, ↓reduceIte, hn_lt, hn_le, hn_eq, ne_1, ne_m, lt_t, lt_f, le_t, le_f, eq_t, eq_f, Nat.not_lt_zero, false_or, or_false, or_self, false_and, and_false, true_and, and_true, not_true, not_false_iff, e]
theorem px_insert {b j v : Nat} {S : sy} {x : Nat → Nat} {m : pj_M} (hn : XN m b S) (h4 : m.1 b 4 = nI v) (hk : S.2.2.1 < 20) (hj : j ≤ S.2.2.1) : ∃ m', F_X4_insertArc b (nI j) (nI (x 0)) (nI (x 1)) (nI (x 2)) m = some m' ∧ fr [b, b + 2] m m' ∧ XN m' b (insS S j x) ∧ m'.1 b 4 = nI (v + 3) := by
  obtain ⟨n1, n2, n3, n4⟩ := hn
  obtain ⟨m1, g1, g2, g3⟩ := px_shift (b := b) (x := j) (y := j + 1) (n := S.2.2.1 - j) (by omega) (by omega) m
  have e1 : m1.1 b = m.1 b := (g2 b (by simp)).1
  have e2 : m1.1 (b + 1) = m.1 (b + 1) := (g2 (b + 1) (by simp)).1
  have p0 := px_setPart (b := b) (j := j) (w := 0) (x := x 0) (v := v) (m := pj_wr m1 b 3 (nI (S.2.2.1 + 1))) (by omega) (by decide) (by rw [hr_wrk (by decide), e1, h4])
  have p1 := px_setPart (b := b) (j := j) (w := 1) (x := x 1) (v := v + 1) (m := pj_wr (pj_wr (pj_wr m1 b 3 (nI (S.2.2.1 + 1))) (b + 2) (20 * 0 + j) (nI (x 0))) b 4 (nI (v + 1))) (by omega) (by decide) (hr_wrs _ _ _ _)
  have p2 := px_setPart (b := b) (j := j) (w := 2) (x := x 2) (v := v + 1 + 1) (m := pj_wr (pj_wr (pj_wr (pj_wr (pj_wr m1 b 3 (nI (S.2.2.1 + 1))) (b + 2) (20 * 0 + j) (nI (x 0))) b 4 (nI (v + 1))) (b + 2) (20 * 1 + j) (nI (x 1))) b 4 (nI (v + 1 + 1))) (by omega) (by decide) (hr_wrs _ _ _ _)
  refine ⟨pj_wr (pj_wr (pj_wr (pj_wr (pj_wr (pj_wr (pj_wr m1 b 3 (nI (S.2.2.1 + 1))) (b + 2) (20 * 0 + j) (nI (x 0))) b 4 (nI (v + 1))) (b + 2) (20 * 1 + j) (nI (x 1))) b 4 (nI (v + 1 + 1))) (b + 2) (20 * 2 + j) (nI (x 2))) b 4 (nI (v + 1 + 1 + 1)), ?_, ?_, ⟨?_, ?_, fun s hs => ?_, fun a ha w hw => ?_⟩, hr_wrs _ _ _ _⟩
  · unfold F_X4_insertArc
    have s1 : nI S.2.2.1 - nI j = nI (S.2.2.1 - j) := hn_sub hj
    have p0 : F_X4_setArcPart b (nI j) 0 (nI (x 0)) (pj_wr m1 b 3 (nI (S.2.2.1 + 1))) = _ := p0
    have p1 : F_X4_setArcPart b (nI j) 1 (nI (x 1)) _ = _ := p1
    have p2 : F_X4_setArcPart b (nI j) 2 (nI (x 2)) _ = _ := p2
    rw [n2, if_pos (show nI S.2.2.1 < 20 from nI_lt (b := 20) hk (by decide)), if_neg (nI_pos (by omega)), if_neg (nI_nlt hj (by omega)), nI_1, s1, g1]
    simp only [Option.bind_some]
    rw [e1, n2, nI_1, p0]
    simp only [Option.bind_some]
    rw [p1]
    simp only [Option.bind_some]
    rw [p2]
    rfl
  · exact (((((((g2.mono (by simp)).tr (fr.wr _ _ (by simp) _ _)).tr (fr.wr _ _ (by simp) _ _)).tr (fr.wr _ _ (by simp) _ _)).tr (fr.wr _ _ (by simp) _ _)).tr (fr.wr _ _ (by simp) _ _)).tr (fr.wr _ _ (by simp) _ _)).tr (fr.wr _ _ (by simp) _ _)
  · rw [hr_wrk (by decide), hr_wra (by omega), hr_wrk (by decide), hr_wra (by omega), hr_wrk (by decide), hr_wra (by omega), hr_wrk (by decide), e1]
    exact n1
  · rw [hr_wrk (by decide), hr_wra (by omega), hr_wrk (by decide), hr_wra (by omega), hr_wrk (by decide), hr_wra (by omega), hr_wrs]
    rfl
  · rw [hr_wra (by omega), hr_wra (by omega), hr_wra (by omega), hr_wra (by omega), hr_wra (by omega), hr_wra (by omega), hr_wra (by omega), e2]
    exact n3 s hs
  · have ha : a < S.2.2.1 + 1 := ha
    show _ = nI (if a < j then S.2.2.2 a w else if a = j then x w else S.2.2.2 (a - 1) w)
    rw [hr_wra (by omega), hr_wr, hr_wra (by omega), hr_wr, hr_wra (by omega), hr_wr, hr_wra (by omega), g3 w a hw (by omega)]
    by_cases haj : a = j
    · subst haj
      have r1 : (if a < a then S.2.2.2 a w else if a = a then x w else S.2.2.2 (a - 1) w) = x w := by rw [if_neg (by omega), if_pos rfl]
      rw [r1]
      have hw' : w = 0 ∨ w = 1 ∨ w = 2 := by omega
      rcases hw' with rfl | rfl | rfl
      · rw [if_neg (show ¬ (b + 2 = b + 2 ∧ 20 * 0 + a = 20 * 2 + a) by omega), if_neg (show ¬ (b + 2 = b + 2 ∧ 20 * 0 + a = 20 * 1 + a) by omega), if_pos (show b + 2 = b + 2 ∧ 20 * 0 + a = 20 * 0 + a from ⟨rfl, rfl⟩)]
      · rw [if_neg (show ¬ (b + 2 = b + 2 ∧ 20 * 1 + a = 20 * 2 + a) by omega), if_pos (show b + 2 = b + 2 ∧ 20 * 1 + a = 20 * 1 + a from ⟨rfl, rfl⟩)]
      · rw [if_pos (show b + 2 = b + 2 ∧ 20 * 2 + a = 20 * 2 + a from ⟨rfl, rfl⟩)]
    · rw [if_neg (show ¬ (b + 2 = b + 2 ∧ 20 * w + a = 20 * 2 + j) by omega), if_neg (show ¬ (b + 2 = b + 2 ∧ 20 * w + a = 20 * 1 + j) by omega), if_neg (show ¬ (b + 2 = b + 2 ∧ 20 * w + a = 20 * 0 + j) by omega)]
      by_cases hlt : a < j
      · rw [if_neg (show ¬ (j + 1 ≤ a ∧ a < j + 1 + (S.2.2.1 - j)) by omega), if_pos hlt]
        exact n4 a (by omega) w hw
      · rw [if_pos (show j + 1 ≤ a ∧ a < j + 1 + (S.2.2.1 - j) by omega), if_neg hlt, if_neg haj, show 20 * w + (j + (a - (j + 1))) = 20 * w + (a - 1) by omega]
        exact n4 (a - 1) (by omega) w hw
theorem px_remove {b j v : Nat} {S : sy} {m : pj_M} (hn : XN m b S) (h4 : m.1 b 4 = nI v) (hk : S.2.2.1 ≤ 20) (hj : j < S.2.2.1) : ∃ m', F_X4_removeArc b (nI j) m = some m' ∧ fr [b, b + 2] m m' ∧ XN m' b (remS S j) ∧ m'.1 b 4 = nI (v + 1) := by
  obtain ⟨n1, n2, n3, n4⟩ := hn
  obtain ⟨m1, g1, g2, g3⟩ := px_shift (b := b) (x := j + 1) (y := j) (n := S.2.2.1 - j - 1) (by omega) (by omega) m
  have e1 : m1.1 b = m.1 b := (g2 b (by simp)).1
  have e2 : m1.1 (b + 1) = m.1 (b + 1) := (g2 (b + 1) (by simp)).1
  refine ⟨pj_wr (pj_wr m1 b 3 (nI (S.2.2.1 - 1))) b 4 (nI (v + 1)), ?_, ((g2.mono (by simp)).tr (fr.wr _ _ (by simp) _ _)).tr (fr.wr _ _ (by simp) _ _), ⟨?_, ?_, fun s hs => ?_, fun a ha w hw => ?_⟩, hr_wrs _ _ _ _⟩
  · unfold F_X4_removeArc
    have s1 : nI S.2.2.1 - nI j - 1 = nI (S.2.2.1 - j - 1) := by rw [hn_sub (by omega), l1, hn_sub (by omega)]
    have s2 : nI S.2.2.1 - 1 = nI (S.2.2.1 - 1) := hn_sub (b := 1) (by omega)
    rw [nx_arc_y (by omega) n2 ⟨j, hj, rfl⟩]
    simp only [Option.bind_some]
    rw [if_neg ne10, nI_1, n2, s1, g1]
    simp only [Option.bind_some]
    rw [e1, n2, s2, hr_wrk (by decide), e1, h4, nI_1]
  · rw [hr_wrk (by decide), hr_wrk (by decide), e1]
    exact n1
  · rw [hr_wrk (by decide), hr_wrs]
    rfl
  · rw [hr_wra (by omega), hr_wra (by omega), e2]
    exact n3 s hs
  · have ha : a < S.2.2.1 - 1 := ha
    show _ = nI (if a < j then S.2.2.2 a w else S.2.2.2 (a + 1) w)
    rw [hr_wra (by omega), hr_wra (by omega), g3 w a hw (by omega)]
    by_cases hlt : a < j
    · rw [if_neg (by omega), if_pos hlt]
      exact n4 a (by omega) w hw
    · rw [if_pos (by omega), if_neg hlt, show 20 * w + (j + 1 + (a - j)) = 20 * w + (a + 1) by omega]
      exact n4 (a + 1) (by omega) w hw
theorem px_turnArc {b j v : Nat} {S : sy} {m : pj_M} (hn : XN m b S) (h4 : m.1 b 4 = nI v) (hk : S.2.2.1 ≤ 20) (hj : j < S.2.2.1) : ∃ m', F_X4_turnArc b (nI j) m = some m' ∧ fr [b, b + 2] m m' ∧ XN m' b (turS S j) ∧ m'.1 b 4 = nI (v + 2) := by
  obtain ⟨n1, n2, n3, n4⟩ := hn
  have q1 : F_X4_arcPart b (nI j) 1 m = some (nI (S.2.2.2 j 1), m) := (nx_part (w := 1) (by omega) (by decide)).trans (by rw [n4 j hj 1 (by decide)])
  have q2 : F_X4_arcPart b (nI j) 2 m = some (nI (S.2.2.2 j 2), m) := (nx_part (w := 2) (by omega) (by decide)).trans (by rw [n4 j hj 2 (by decide)])
  have p1 := px_setPart (b := b) (j := j) (w := 1) (x := S.2.2.2 j 2) (v := v) (m := m) (by omega) (by decide) h4
  have p2 := px_setPart (b := b) (j := j) (w := 2) (x := S.2.2.2 j 1) (v := v + 1) (m := pj_wr (pj_wr m (b + 2) (20 * 1 + j) (nI (S.2.2.2 j 2))) b 4 (nI (v + 1))) (by omega) (by decide) (hr_wrs _ _ _ _)
  have p1 : F_X4_setArcPart b (nI j) 1 (nI (S.2.2.2 j 2)) m = _ := p1
  have p2 : F_X4_setArcPart b (nI j) 2 (nI (S.2.2.2 j 1)) _ = _ := p2
  refine ⟨pj_wr (pj_wr (pj_wr (pj_wr m (b + 2) (20 * 1 + j) (nI (S.2.2.2 j 2))) b 4 (nI (v + 1))) (b + 2) (20 * 2 + j) (nI (S.2.2.2 j 1))) b 4 (nI (v + 1 + 1)), ?_, (((fr.wr _ _ (by simp) _ _).tr (fr.wr _ _ (by simp) _ _)).tr (fr.wr _ _ (by simp) _ _)).tr (fr.wr _ _ (by simp) _ _), ⟨?_, ?_, fun s hs => ?_, fun a ha w hw => ?_⟩, hr_wrs _ _ _ _⟩
  · unfold F_X4_turnArc
    rw [q1]
    simp only [Option.bind_some]
    rw [q2]
    simp only [Option.bind_some]
    rw [p1]
    simp only [Option.bind_some]
    rw [p2]
    rfl
  · rw [hr_wrk (by decide), hr_wra (by omega), hr_wrk (by decide), hr_wra (by omega)]
    exact n1
  · rw [hr_wrk (by decide), hr_wra (by omega), hr_wrk (by decide), hr_wra (by omega)]
    exact n2
  · rw [hr_wra (by omega), hr_wra (by omega), hr_wra (by omega), hr_wra (by omega)]
    exact n3 s hs
  · have ha : a < S.2.2.1 := ha
    show _ = nI (if a = j then (if w = 1 then S.2.2.2 j 2 else if w = 2 then S.2.2.2 j 1 else S.2.2.2 j w) else S.2.2.2 a w)
    rw [hr_wra (by omega), hr_wr, hr_wra (by omega), hr_wr]
    by_cases haj : a = j
    · subst haj
      rw [if_pos (show a = a from rfl)]
      have hw' : w = 0 ∨ w = 1 ∨ w = 2 := by omega
      rcases hw' with rfl | rfl | rfl
      · rw [if_neg (show ¬ (b + 2 = b + 2 ∧ 20 * 0 + a = 20 * 2 + a) by omega), if_neg (show ¬ (b + 2 = b + 2 ∧ 20 * 0 + a = 20 * 1 + a) by omega), if_neg (show ¬ (0 : Nat) = 1 by omega), if_neg (show ¬ (0 : Nat) = 2 by omega)]
        exact n4 a ha 0 hw
      · rw [if_neg (show ¬ (b + 2 = b + 2 ∧ 20 * 1 + a = 20 * 2 + a) by omega), if_pos (show b + 2 = b + 2 ∧ 20 * 1 + a = 20 * 1 + a from ⟨rfl, rfl⟩), if_pos (show (1 : Nat) = 1 from rfl)]
      · rw [if_pos (show b + 2 = b + 2 ∧ 20 * 2 + a = 20 * 2 + a from ⟨rfl, rfl⟩), if_neg (show ¬ (2 : Nat) = 1 by omega), if_pos (show (2 : Nat) = 2 from rfl)]
    · rw [if_neg (show ¬ (b + 2 = b + 2 ∧ 20 * w + a = 20 * 2 + j) by omega), if_neg (show ¬ (b + 2 = b + 2 ∧ 20 * w + a = 20 * 1 + j) by omega), if_neg haj]
      exact n4 a ha w hw
theorem px_setKind {b s k v : Nat} {S : sy} {m : pj_M} (hn : XN m b S) (h4 : m.1 b 4 = nI v) (h10 : S.1 ≤ 10) (hs : s < S.1) : ∃ m', F_X4_setKind b (nI s) (nI k) m = some m' ∧ fr [b, b + 1] m m' ∧ XN m' b (kinS S s k) ∧ m'.1 b 4 = nI (v + 1) := by
  obtain ⟨n1, n2, n3, n4⟩ := hn
  refine ⟨pj_wr (pj_wr m (b + 1) s (nI k)) b 4 (nI (v + 1)), ?_, (fr.wr _ _ (by simp) _ _).tr (fr.wr _ _ (by simp) _ _), ⟨?_, ?_, fun i hi => ?_, fun a ha w hw => ?_⟩, hr_wrs _ _ _ _⟩
  · unfold F_X4_setKind
    rw [if_neg (hn_in (by omega) (by decide)), hn_cl (by omega), hr_wra (by omega), h4, nI_1]
  · rw [hr_wrk (by decide), hr_wra (by omega)]
    exact n1
  · rw [hr_wrk (by decide), hr_wra (by omega)]
    exact n2
  · show _ = nI (if i = s then k else S.2.1 i)
    rw [hr_wra (by omega), hr_wr]
    by_cases his : i = s
    · rw [if_pos ⟨rfl, his⟩, if_pos his]
    · rw [if_neg (fun e => his e.2), if_neg his]
      exact n3 i hi
  · rw [hr_wra (by omega), hr_wra (by omega)]
    exact n4 a ha w hw
theorem px_takeOver {a b : Nat} {S : sy} {m : pj_M} (hw : wfS S) (hn : XN m b S) (hab : a + 2 < b ∨ b + 2 < a) : ∃ m', F_X4_takeOver a b m = some m' ∧ fr [a, a + 1, a + 2] m m' ∧ XN m' a S ∧ m'.1 a 4 = m.1 a 4 + 1 := by
  obtain ⟨n1, n2, n3, n4⟩ := hn
  obtain ⟨w1, w2, -, -⟩ := hw
  have z0 : (0 : Int32).toNatClampNeg = 0 := rfl
  have z10 : (Int32.ofNat 10).toNatClampNeg = 10 := rfl
  have z60 : (Int32.ofNat 60).toNatClampNeg = 60 := rfl
  have f0 : fr [a, a + 1, a + 2] m (pj_cp (pj_cp m (b + 1) 0 (a + 1) 0 10) (b + 2) 0 (a + 2) 0 60) := (fr.cp _ _ (by simp) _ _ _ _).tr (fr.cp _ _ (by simp) _ _ _ _)
  have eb2 : (pj_cp (pj_cp m (b + 1) 0 (a + 1) 0 10) (b + 2) 0 (a + 2) 0 60).1 b = m.1 b := (f0 b (by simp; omega)).1
  have ea4 : (pj_cp (pj_cp m (b + 1) 0 (a + 1) 0 10) (b + 2) 0 (a + 2) 0 60).1 a = m.1 a := by
    have f1 : fr [a + 1, a + 2] m (pj_cp (pj_cp m (b + 1) 0 (a + 1) 0 10) (b + 2) 0 (a + 2) 0 60) := (fr.cp _ _ (by simp) _ _ _ _).tr (fr.cp _ _ (by simp) _ _ _ _)
    exact (f1 a (by simp)).1
  refine ⟨pj_wr (pj_wr (pj_wr (pj_cp (pj_cp m (b + 1) 0 (a + 1) 0 10) (b + 2) 0 (a + 2) 0 60) a 2 (nI S.1)) a 3 (nI S.2.2.1)) a 4 (m.1 a 4 + 1), ?_, ((f0.tr (fr.wr _ _ (by simp) _ _)).tr (fr.wr _ _ (by simp) _ _)).tr (fr.wr _ _ (by simp) _ _), ⟨?_, ?_, fun s hs => ?_, fun c hc w hw => ?_⟩, hr_wrs _ _ _ _⟩
  · unfold F_X4_takeOver
    simp only [z0, z10, z60]
    rw [if_neg (by decide), if_neg (by decide), hr_wrk (by decide), hr_wrk (by decide), ea4, hr_wra (by omega), eb2, n1, n2]
  · rw [hr_wrk (by decide), hr_wrk (by decide), hr_wrs]
  · rw [hr_wrk (by decide), hr_wrs]
  · rw [hr_wra (by omega), hr_wra (by omega), hr_wra (by omega), hr_cp, if_neg (by omega), hr_cp, if_pos (by omega)]
    rw [show 0 + (s - 0) = s by omega]
    exact n3 s hs
  · rw [hr_wra (by omega), hr_wra (by omega), hr_wra (by omega), hr_cp, if_pos (by omega), hr_cp, if_neg (by omega)]
    rw [show 0 + (20 * w + c - 0) = 20 * w + c by omega]
    exact n4 c hc w hw
/-- acts that can be undone: one more -/
def pushA (A : Nat × (Nat → sy)) (S : sy) : Nat × (Nat → sy) := if A.1 = 20 then (20, fun i => if i = 19 then S else A.2 (i + 1)) else (A.1 + 1, fun i => if i = A.1 then S else A.2 i)
theorem pushA_wf {A : Nat × (Nat → sy)} {S : sy} (h : A.1 ≤ 20 ∧ ∀ i, i < A.1 → wfS (A.2 i)) (hS : wfS S) : (pushA A S).1 ≤ 20 ∧ ∀ i, i < (pushA A S).1 → wfS ((pushA A S).2 i) := by
  unfold pushA
  by_cases h20 : A.1 = 20
  · rw [if_pos h20]
    refine ⟨Nat.le_refl _, fun i hi => ?_⟩
    show wfS (if i = 19 then S else A.2 (i + 1))
    have hi : i < 20 := hi
    by_cases hi9 : i = 19
    · rw [if_pos hi9]
      exact hS
    · rw [if_neg hi9]
      exact h.2 (i + 1) (by omega)
  · rw [if_neg h20]
    refine ⟨by show A.1 + 1 ≤ 20; omega, fun i hi => ?_⟩
    have hi : i < A.1 + 1 := hi
    show wfS (if i = A.1 then S else A.2 i)
    by_cases hin : i = A.1
    · rw [if_pos hin]
      exact hS
    · rw [if_neg hin]
      exact h.2 i (by omega)
def ent (e0 e1 e2 e3 e4 : Int32) : Nat → Int32 := fun k => if k = 0 then e0 else if k = 1 then e1 else if k = 2 then e2 else if k = 3 then e3 else e4
theorem LG_congr {e e' : Nat → Int32} {S S' : sy} (h : LG e S S') (he : ∀ k, k < 5 → e' k = e k) : LG e' S S' := by
  unfold LG at h ⊢
  rw [he 0 (by decide), he 1 (by decide), he 2 (by decide), he 3 (by decide), he 4 (by decide)]
  exact h
theorem hx_note {n : Nat} (hn : n < 20) {e0 e1 e2 e3 e4 : Int32} {m : pj_M} (h1 : m.1 17 1 = nI n) : ∃ m', J_X0_note_34 e0 e1 e2 e3 e4 m = some m' ∧ fr [17, 18] m m' ∧ m'.1 17 1 = nI (n + 1) ∧ ∀ j, m'.1 18 j = if 5 * n ≤ j ∧ j < 5 * n + 5 then ent e0 e1 e2 e3 e4 (j - 5 * n) else m.1 18 j := by
  refine ⟨pj_wr (pj_wr (pj_wr (pj_wr (pj_wr (pj_wr m 18 (5 * n) e0) 18 (5 * n + 1) e1) 18 (5 * n + 2) e2) 18 (5 * n + 3) e3) 18 (5 * n + 4) e4) 17 1 (nI (n + 1)), ?_, (((((fr.wr _ _ (by simp) _ _).tr (fr.wr _ _ (by simp) _ _)).tr (fr.wr _ _ (by simp) _ _)).tr (fr.wr _ _ (by simp) _ _)).tr (fr.wr _ _ (by simp) _ _)).tr (fr.wr _ _ (by simp) _ _), hr_wrs _ _ _ _, fun j => ?_⟩
  · unfold J_X0_note_34
    have e5 : nI n * 5 = nI (5 * n) := by rw [l5, hn_mul, Nat.mul_comm]
    have e6 : nI (5 * n) + 1 = nI (5 * n + 1) := nI_1 _
    have e7 : nI (5 * n) + 2 = nI (5 * n + 2) := hn_add _ 2
    have e8 : nI (5 * n) + 3 = nI (5 * n + 3) := hn_add _ 3
    have e9 : nI (5 * n) + 4 = nI (5 * n + 4) := hn_add _ 4
    simp only [h1, e5, e6, e7, e8, e9, hn_cl (show 5 * n < 2 ^ 31 by omega), hn_cl (show 5 * n + 1 < 2 ^ 31 by omega), hn_cl (show 5 * n + 2 < 2 ^ 31 by omega), hn_cl (show 5 * n + 3 < 2 ^ 31 by omega), hn_cl (show 5 * n + 4 < 2 ^ 31 by omega), hn_in' (show 5 * n < 100 by omega) (show 5 * n < 2 ^ 31 by omega), hn_in' (show 5 * n + 1 < 100 by omega) (show 5 * n + 1 < 2 ^ 31 by omega), hn_in' (show 5 * n + 2 < 100 by omega) (show 5 * n + 2 < 2 ^ 31 by omega), hn_in' (show 5 * n + 3 < 100 by omega) (show 5 * n + 3 < 2 ^ 31 by omega), hn_in' (show 5 * n + 4 < 100 by omega) (show 5 * n + 4 < 2 ^ 31 by omega), if_false]
    rw [hr_wra (by decide), hr_wra (by decide), hr_wra (by decide), hr_wra (by decide), hr_wra (by decide), h1, nI_1]
  · rw [hr_wra (by decide), hr_wr, hr_wr, hr_wr, hr_wr, hr_wr]
    unfold ent
    by_cases c4 : j = 5 * n + 4
    · rw [if_pos ⟨rfl, c4⟩, if_pos (by omega), if_neg (by omega), if_neg (by omega), if_neg (by omega), if_neg (by omega)]
    · rw [if_neg (fun e => c4 e.2)]
      by_cases c3 : j = 5 * n + 3
      · rw [if_pos ⟨rfl, c3⟩, if_pos (by omega), if_neg (by omega), if_neg (by omega), if_neg (by omega), if_pos (by omega)]
      · rw [if_neg (fun e => c3 e.2)]
        by_cases c2 : j = 5 * n + 2
        · rw [if_pos ⟨rfl, c2⟩, if_pos (by omega), if_neg (by omega), if_neg (by omega), if_pos (by omega)]
        · rw [if_neg (fun e => c2 e.2)]
          by_cases c1 : j = 5 * n + 1
          · rw [if_pos ⟨rfl, c1⟩, if_pos (by omega), if_neg (by omega), if_pos (by omega)]
          · rw [if_neg (fun e => c1 e.2)]
            by_cases c0 : j = 5 * n
            · rw [if_pos ⟨rfl, c0⟩, if_pos (by omega), if_pos (by omega)]
            · rw [if_neg (fun e => c0 e.2), if_neg (by omega)]
theorem px_note {S S' : sy} {A : Nat × (Nat → sy)} {e0 e1 e2 e3 e4 : Int32} {m : pj_M} (hA20 : A.1 ≤ 20) (hA : XA m S A) (hL : LG (ent e0 e1 e2 e3 e4) S' S) : ∃ m', F_X0_note e0 e1 e2 e3 e4 m = some m' ∧ fr [17, 18] m m' ∧ XA m' S' (pushA A S) := by
  obtain ⟨h1, h2⟩ := hA
  by_cases h20 : A.1 = 20
  · have z5 : (5 : Int32).toNatClampNeg = 5 := rfl
    have z0 : (0 : Int32).toNatClampNeg = 0 := rfl
    have z95 : (95 : Int32).toNatClampNeg = 95 := rfl
    have f1 : fr [18] m (pj_cp m 18 5 18 0 95) := fr.cp _ _ (by simp) _ _ _ _
    have e17 : (pj_cp m 18 5 18 0 95).1 17 1 = nI 20 := by rw [f1.at 17 rfl, h1, h20]
    obtain ⟨m', g1, g2, g3, g4⟩ := hx_note (n := 19) (e0 := e0) (e1 := e1) (e2 := e2) (e3 := e3) (e4 := e4) (by decide) (m := pj_wr (pj_cp m 18 5 18 0 95) 17 1 (nI 19)) (hr_wrs _ _ _ _)
    refine ⟨m', ?_, ((f1.mono (by simp)).tr (fr.wr _ _ (by simp) _ _)).tr g2, ?_, fun i hi => ?_⟩
    · unfold F_X0_note
      simp only [z5, z0, z95]
      rw [h1, h20, if_pos (show nI 20 = 20 from rfl), if_neg (by decide), e17, show nI 20 - 1 = nI 19 from rfl]
      exact g1
    · rw [g3]
      unfold pushA
      rw [if_pos h20]
    · have eA : pushA A S = (20, fun i => if i = 19 then S else A.2 (i + 1)) := by unfold pushA; rw [if_pos h20]
      rw [eA] at hi ⊢
      have hi : i < 20 := hi
      show LG (fun k => m'.1 18 (5 * i + k)) (hs 20 (fun i => if i = 19 then S else A.2 (i + 1)) S' (i + 1)) (if i = 19 then S else A.2 (i + 1))
      by_cases hi9 : i = 19
      · subst hi9
        rw [if_pos rfl]
        refine LG_congr hL (fun k hk => ?_)
        rw [g4, if_pos (by omega), show 5 * 19 + k - 5 * 19 = k by omega]
      · rw [if_neg hi9]
        have hh := h2 (i + 1) (by omega)
        have e1' : hs A.1 A.2 S (i + 1 + 1) = hs 20 (fun i => if i = 19 then S else A.2 (i + 1)) S' (i + 1) := by
          unfold hs
          rw [h20, if_pos (show i + 1 < 20 by omega)]
          by_cases hi8 : i + 1 = 19
          · rw [if_neg (by omega)]
            exact (if_pos hi8).symm
          · rw [if_pos (by omega)]
            exact (if_neg hi8).symm
        rw [← e1']
        refine LG_congr hh (fun k hk => ?_)
        rw [g4, if_neg (by omega), hr_wra (by decide), hr_cp, if_pos (by omega), show 5 + (5 * i + k - 0) = 5 * (i + 1) + k by omega]
  · obtain ⟨m', g1, g2, g3, g4⟩ := hx_note (n := A.1) (e0 := e0) (e1 := e1) (e2 := e2) (e3 := e3) (e4 := e4) (by omega) (m := m) h1
    refine ⟨m', ?_, g2, ?_, fun i hi => ?_⟩
    · unfold F_X0_note
      rw [h1, if_neg (show ¬ nI A.1 = 20 from fun e => h20 (hn_inj (b := 20) (by omega) (by decide) e))]
      exact g1
    · rw [g3]
      unfold pushA
      rw [if_neg h20]
    · have eA : pushA A S = (A.1 + 1, fun i => if i = A.1 then S else A.2 i) := by unfold pushA; rw [if_neg h20]
      rw [eA] at hi ⊢
      have hi : i < A.1 + 1 := hi
      show LG (fun k => m'.1 18 (5 * i + k)) (hs (A.1 + 1) (fun i => if i = A.1 then S else A.2 i) S' (i + 1)) (if i = A.1 then S else A.2 i)
      by_cases hin : i = A.1
      · subst hin
        rw [if_pos rfl]
        have e : hs (A.1 + 1) (fun i => if i = A.1 then S else A.2 i) S' (A.1 + 1) = S' := by
          unfold hs
          rw [if_neg (by omega)]
        rw [e]
        refine LG_congr hL (fun k hk => ?_)
        rw [g4, if_pos (by omega), show 5 * A.1 + k - 5 * A.1 = k by omega]
      · rw [if_neg hin]
        have hh := h2 i (by omega)
        have e1' : hs A.1 A.2 S (i + 1) = hs (A.1 + 1) (fun i => if i = A.1 then S else A.2 i) S' (i + 1) := by
          unfold hs
          rw [if_pos (show i + 1 < A.1 + 1 by omega)]
          by_cases hi8 : i + 1 = A.1
          · rw [if_neg (by omega)]
            exact (if_pos hi8).symm
          · rw [if_pos (by omega)]
            exact (if_neg hi8).symm
        rw [← e1']
        refine LG_congr hh (fun k hk => ?_)
        rw [g4, if_neg (by omega)]
