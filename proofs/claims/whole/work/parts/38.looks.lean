/-! PART 38: X's Steps.follow whole; the reference's looks and moving -/
theorem px_clets {b : Nat} {S : sy} (hw : wfS S) (m : pj_M) (hg : GT m (b + 1) (go S)) (hc : ∀ k, k < 10 → m.1 (b + 2) k = nI (cl0 S k)) : ∃ m', F_X7_closeLetters b m = some m' ∧ fr [b + 2] m m' ∧ GT m' (b + 2) (cl S) := by
  refine lpk (P := fun z l => ∀ m, GT m (b + 1) (go S) → (∀ a s, a < 4 → s < 10 → a < l → m.1 (b + 2) (10 * a + s) = nI (cl S a s)) → ∃ m', H_X7_closeLetters_2 z b (nI l) m = some m' ∧ fr [b + 2] m m' ∧ GT m' (b + 2) (cl S)) 4 1 (by decide) (by decide) ?_ ?_ m hg ?_
  · intro z m hg hc
    refine ⟨m, ?_, fr.rf _ _, fun a s ha hs => hc a s ha hs ha⟩
    rw [H_X7_closeLetters_2]
    simp (disch := omega) only [Option.bind_some, ofn, l0, l1, l2, l3, l4, l5, l6, l7, l8, l9, l10, l11, l12, l19, l20, l30, l31, l40, l72, l100, hn_mul, hn_add, hn_sub, hn_or, hn_and, sh_r, sh_l, bt_n, bt_0, bt_1, hn_cl, if_true, if_false, ↓reduceIte, hn_lt, hn_le, hn_eq, ne_1, ne_m, lt_t, lt_f, le_t, le_f, eq_t, eq_f, Nat.not_lt_zero, false_or, or_false, or_self, false_and, and_false, true_and, and_true, not_true, not_false_iff]
  · intro z l h1 h2 ih m hg hc
    obtain ⟨m1, g1, g2, g3⟩ := hx_clet (b := b) (l := l) hw ⟨h1, h2⟩ (k2 := H_X7_closeLetters_2 z) pj_z 0 m (by omega) (by have := pj_z_ge; omega) hg (fun a s ha hs h => hc a s ha hs (by omega))
    obtain ⟨m', k1, k2, k3⟩ := ih m1 (fun a s ha hs => by rw [(g2 (b + 1) (by simp)).1]; exact hg a s ha hs) (fun a s ha hs h => g3 a s ha hs h)
    refine ⟨m', ?_, g2.tr k2, k3⟩
    rw [H_X7_closeLetters_2]
    simp (disch := omega) only [Option.bind_some, ofn, l0, l1, l2, l3, l4, l5, l6, l7, l8, l9, l10, l11, l12, l19, l20, l30, l31, l40, l72, l100, hn_mul, hn_add, hn_sub, hn_or, hn_and, sh_r, sh_l, bt_n, bt_0, bt_1, hn_cl, if_true, if_false, ↓reduceIte, hn_lt, hn_le, hn_eq, ne_1, ne_m, lt_t, lt_f, le_t, le_f, eq_t, eq_f, Nat.not_lt_zero, false_or, or_false, or_self, false_and, and_false, true_and, and_true, not_true, not_false_iff]
    exact g1.trans k1
  · intro a s ha hs h
    obtain rfl : a = 0 := by omega
    rw [Nat.mul_zero, Nat.zero_add]
    exact hc s hs
theorem px_follow {b nb : Nat} {S : sy} {m : pj_M} (hw : wfS S) (hn : XN m nb S) (hlt : nb + 2 < b) (hv : ¬ m.1 b 2 = m.1 nb 4) : ∃ m', F_X7_follow b nb m = some m' ∧ fr [b, b + 1, b + 2] m m' ∧ m'.1 b 2 = m.1 nb 4 ∧ GT m' (b + 1) (go S) ∧ GT m' (b + 2) (cl S) := by
  have hn0 : XN (pj_wr m b 2 (m.1 nb 4)) nb S := hn.keep (hr_wra (by omega)) (hr_wra (by omega)) (hr_wra (by omega))
  obtain ⟨m1, a1, a2, a3⟩ := hx_zero (b := b) (nb := nb) pj_z 0 (pj_wr m b 2 (m.1 nb 4)) (by omega) (by have := pj_z_ge; omega)
  have hn1 : XN m1 nb S := hn0.keep (a2 _ (by simp; omega)).1 (a2 _ (by simp; omega)).1 (a2 _ (by simp; omega)).1
  obtain ⟨m2, b1, b2, b3⟩ := hx_arcs (b := b) hw ⟨by omega, by omega, by omega⟩ pj_z 0 m1 (by omega) (by have := pj_z_ge; have := hw.2.1; omega) hn1 (fun a s ha hs => by
    rw [a3 _ (by omega), if_pos (Nat.zero_le _)]
    rfl)
  obtain ⟨m3, c1, c2, c3⟩ := hx_csil (b := b) hw pj_z 0 m2 (by omega) (by have := pj_z_ge; omega) b3 (fun k hk => by omega)
  have g3 : GT m3 (b + 1) (go S) := fun a s ha hs => by
    rw [(c2 (b + 1) (by simp)).1]
    exact b3 a s ha hs
  obtain ⟨m4, d1, d2, d3⟩ := px_clets (b := b) hw m3 g3 c3
  have f1 : fr [b, b + 1, b + 2] m m1 := (fr.wr _ _ (by simp) _ _).tr (a2.mono (by simp))
  have f2 : fr [b, b + 1, b + 2] m1 m4 := ((b2.mono (by simp)).tr (c2.mono (by simp))).tr (d2.mono (by simp))
  refine ⟨m4, ?_, f1.tr f2, ?_, ?_, d3⟩
  · unfold F_X7_follow
    simp only [F_X4_version, Option.bind_some]
    rw [if_neg hv]
    refine a1.trans (b1.trans ?_)
    unfold J_X7_follow_66 F_X7_closeSilent
    have c1' : H_X7_closeSilent_2 pj_z b 0 m2 = some m3 := c1
    rw [c1']
    simp only [Option.bind_some]
    rw [d1]
    rfl
  · rw [(d2 b (by simp)).1, (c2 b (by simp)).1, (b2 b (by simp)).1, (a2 b (by simp)).1, hr_wrs]
  · intro a s ha hs
    rw [(d2 (b + 1) (by simp)).1]
    exact g3 a s ha hs
/-- the reference copies a system -/
theorem pm_copies {n0 A o n2 B p : Nat} (m : pj_M) (hAB : A ≠ B) (h1 : o + 72 ≤ n0) (h2 : p + 72 ≤ n2) (hn0 : n0 < 2 ^ 30) (hn2 : n2 < 2 ^ 30) : ∃ m', F_X11_copies n0 A (nI o) n2 B (nI p) m = some m' ∧ fr [B] m m' ∧ ∀ k, m'.1 B k = if p ≤ k ∧ k < p + 72 then m.1 A (o + (k - p)) else m.1 B k := by
  refine lp0 (P := fun z i => ∀ m, ∃ m', H_X11_copies_3 z n0 A (nI o) n2 B (nI p) (nI i) m = some m' ∧ fr [B] m m' ∧ ∀ k, m'.1 B k = if p + i ≤ k ∧ k < p + 72 then m.1 A (o + (k - p)) else m.1 B k) 72 (by decide) ?_ ?_ m
  · intro z m
    refine ⟨m, ?_, fr.rf _ _, fun k => ?_⟩
    · rw [H_X11_copies_3]
      simp (disch := omega) only [Option.bind_some, ofn, l0, l1, l2, l3, l4, l5, l6, l7, l8, l9, l10, l11, l12, l19, l20, l30, l31, l40, l72, l100, hn_mul, hn_add, hn_sub, hn_or, hn_and, sh_r, sh_l, bt_n, bt_0, bt_1, hn_cl, if_true, if_false, ↓reduceIte, hn_lt, hn_le, hn_eq, ne_1, ne_m, lt_t, lt_f, le_t, le_f, eq_t, eq_f, Nat.not_lt_zero, false_or, or_false, or_self, false_and, and_false, true_and, and_true, not_true, not_false_iff]
    · rw [if_neg (by omega)]
  · intro z i hi ih m
    obtain ⟨m', g1, g2, g3⟩ := ih (pj_wr m B (p + i) (m.1 A (o + i)))
    refine ⟨m', ?_, (fr.wr _ _ (by simp) _ _).tr g2, fun k => ?_⟩
    · rw [H_X11_copies_3]
      simp (disch := omega) only [Option.bind_some, ofn, l0, l1, l2, l3, l4, l5, l6, l7, l8, l9, l10, l11, l12, l19, l20, l30, l31, l40, l72, l100, hn_mul, hn_add, hn_sub, hn_or, hn_and, sh_r, sh_l, bt_n, bt_0, bt_1, hn_cl, if_true, if_false, ↓reduceIte, hn_lt, hn_le, hn_eq, ne_1, ne_m, lt_t, lt_f, le_t, le_f, eq_t, eq_f, Nat.not_lt_zero, false_or, or_false, or_self, false_and, and_false, true_and, and_true, not_true, not_false_iff]
      exact g1
    · rw [g3 k, hr_wra hAB, hr_wr]
      by_cases hk : k = p + i
      · subst hk
        rw [if_neg (by omega), if_pos ⟨rfl, rfl⟩, if_pos (by omega), show o + (p + i - p) = o + i by omega]
      · simp only [hk, and_false, if_false]
        by_cases h4 : p + (i + 1) ≤ k ∧ k < p + 72
        · rw [if_pos h4, if_pos (by omega)]
        · rw [if_neg h4, if_neg (by omega)]
theorem MN.copy {m m' : pj_M} {A o B p : Nat} {S : sy} (hw : wfS S) (h : MN m A o S) (e : ∀ k, m'.1 B k = if p ≤ k ∧ k < p + 72 then m.1 A (o + (k - p)) else m.1 B k) : MN m' B p S := by
  obtain ⟨w1, w2, -, -⟩ := hw
  obtain ⟨h1, h2, h3, h4⟩ := h
  refine ⟨?_, ?_, fun s hs => ?_, fun a ha w hw => ?_⟩
  · rw [e, if_pos (by omega), show o + (p - p) = o by omega]
    exact h1
  · rw [e, if_pos (by omega), show o + (p + 1 - p) = o + 1 by omega]
    exact h2
  · rw [e, if_pos (by omega), show o + (p + 2 + s - p) = o + 2 + s by omega]
    exact h3 s hs
  · rw [e, if_pos (by omega), show o + (p + 12 + 3 * a + w - p) = o + 12 + 3 * a + w by omega]
    exact h4 a ha w hw
theorem MN.keep {m m' : pj_M} {A o : Nat} {S : sy} (h : MN m A o S) (e : m'.1 A = m.1 A) : MN m' A o S := by
  unfold MN
  rw [e]
  exact h
theorem pm_goes {m : pj_M} {a f t K : Nat} {g : Nat → Nat → Nat} (hk : m.1 83 (2 + f) = nI K) (hk5 : K ≤ 5) (ha : a < 4) (hf : f < 10) (ht : t < 10) (hg : GT m 84 g) : ∃ m', F_X11_goesFrom (nI f) (nI a) (nI t) m = some m' ∧ fr [84] m m' ∧ GT m' 84 (if K = 3 then g else gput g a f t) := by
  unfold F_X11_goesFrom
  simp (disch := omega) only [Option.bind_some, ofn, l0, l1, l2, l3, l4, l5, l6, l7, l8, l9, l10, l11, l12, l19, l20, l30, l31, l40, l72, l100, hn_mul, hn_add, hn_sub, hn_or, hn_and, sh_r, sh_l, bt_n, bt_0, bt_1, hn_cl, if_true, if_false, ↓reduceIte, hn_lt, hn_le, hn_eq, ne_1, ne_m, lt_t, lt_f, le_t, le_f, eq_t, eq_f, Nat.not_lt_zero, false_or, or_false, or_self, false_and, and_false, true_and, and_true, not_true, not_false_iff, hk, hg a f ha hf]
  by_cases h3 : K = 3
  · simp (disch := omega) only [Option.bind_some, ofn, l0, l1, l2, l3, l4, l5, l6, l7, l8, l9, l10, l11, l12, l19, l20, l30, l31, l40, l72, l100, hn_mul, hn_add, hn_sub, hn_or, hn_and, sh_r, sh_l, bt_n, bt_0, bt_1, hn_cl, if_true, if_false, ↓reduceIte, hn_lt, hn_le, hn_eq, ne_1, ne_m, lt_t, lt_f, le_t, le_f, eq_t, eq_f, Nat.not_lt_zero, false_or, or_false, or_self, false_and, and_false, true_and, and_true, not_true, not_false_iff, h3]
    exact ⟨m, rfl, fr.rf _ _, hg⟩
  · simp (disch := omega) only [Option.bind_some, ofn, l0, l1, l2, l3, l4, l5, l6, l7, l8, l9, l10, l11, l12, l19, l20, l30, l31, l40, l72, l100, hn_mul, hn_add, hn_sub, hn_or, hn_and, sh_r, sh_l, bt_n, bt_0, bt_1, hn_cl, if_true, if_false, ↓reduceIte, hn_lt, hn_le, hn_eq, ne_1, ne_m, lt_t, lt_f, le_t, le_f, eq_t, eq_f, Nat.not_lt_zero, false_or, or_false, or_self, false_and, and_false, true_and, and_true, not_true, not_false_iff, h3]
    exact ⟨_, rfl, fr.wr _ _ (by simp) _ _, hg.put ha hf⟩
/-- a system looked at -/
def LK (m : pj_M) (S : sy) : Prop := MN m 83 0 S ∧ GT m 84 (go S) ∧ ∀ s, s < S.1 → m.1 85 s = nI (cl0 S s)
theorem hm_looks33 {S : sy} (hw : wfS S) (m : pj_M) (hm : MN m 83 0 S) (hg : GT m 84 (fun _ _ => 0)) : ∃ m', H_X11_looks_33 pj_z 0 m = H_X11_looks_127 pj_z 0 m' ∧ fr [84] m m' ∧ GT m' 84 (go S) := by
  obtain ⟨w1, w2, w3, w4⟩ := id hw
  refine lp0 (P := fun z j => ∀ m, MN m 83 0 S → GT m 84 (goN S j) → ∃ m', H_X11_looks_33 z (nI j) m = H_X11_looks_127 pj_z 0 m' ∧ fr [84] m m' ∧ GT m' 84 (go S)) S.2.2.1 (by omega) ?_ ?_ m hm hg
  · intro z m hm hg
    refine ⟨m, ?_, fr.rf _ _, hg⟩
    rw [H_X11_looks_33]
    have e1 := hm.2.1
    rw [Nat.zero_add] at e1
    simp (disch := omega) only [Option.bind_some, ofn, l0, l1, l2, l3, l4, l5, l6, l7, l8, l9, l10, l11, l12, l19, l20, l30, l31, l40, l72, l100, hn_mul, hn_add, hn_sub, hn_or, hn_and, sh_r, sh_l, bt_n, bt_0, bt_1, hn_cl, if_true, if_false, ↓reduceIte, hn_lt, hn_le, hn_eq, ne_1, ne_m, lt_t, lt_f, le_t, le_f, eq_t, eq_f, Nat.not_lt_zero, false_or, or_false, or_self, false_and, and_false, true_and, and_true, not_true, not_false_iff, e1]
  · intro z j hj ih m hm hg
    obtain ⟨m1, m2, m3, m4⟩ := id hm
    obtain ⟨v0, v1, v2⟩ := w4 j hj
    have k1 := w3 _ v1
    have k2 := w3 _ v2
    rw [Nat.zero_add] at m2
    have p0 := m4 j hj 0 (by decide)
    have p1 := m4 j hj 1 (by decide)
    have p2 := m4 j hj 2 (by decide)
    rw [Nat.zero_add, Nat.add_zero] at p0
    rw [Nat.zero_add] at p1 p2
    have q1 := m3 _ v1
    have q2 := m3 _ v2
    rw [Nat.zero_add] at q1 q2
    obtain ⟨ma, a1, a2, a3⟩ := pm_goes (a := S.2.2.2 j 0) (f := S.2.2.2 j 1) (t := S.2.2.2 j 2) q1 k1.2 v0 (by omega) (by omega) hg
    have hma : MN ma 83 0 S := hm.keep (a2.at 83 rfl)
    by_cases h4 : S.2.1 (S.2.2.2 j 1) < 4
    · obtain ⟨m', g1, g2, g3⟩ := ih ma hma (by
        simp only [goN, garc, if_pos h4]
        exact a3)
      refine ⟨m', ?_, a2.tr g2, g3⟩
      rw [H_X11_looks_33, ← g1]
      have e83 : ma.1 83 = m.1 83 := a2.at 83 rfl
      simp (disch := omega) only [Option.bind_some, ofn, l0, l1, l2, l3, l4, l5, l6, l7, l8, l9, l10, l11, l12, l19, l20, l30, l31, l40, l72, l100, hn_mul, hn_add, hn_sub, hn_or, hn_and, sh_r, sh_l, bt_n, bt_0, bt_1, hn_cl, if_true, if_false, ↓reduceIte, hn_lt, hn_le, hn_eq, ne_1, ne_m, lt_t, lt_f, le_t, le_f, eq_t, eq_f, Nat.not_lt_zero, false_or, or_false, or_self, false_and, and_false, true_and, and_true, not_true, not_false_iff, m2, p0, p1, p2, a1, e83, q1]
    · obtain ⟨mb, b1, b2, b3⟩ := pm_goes (m := ma) (a := S.2.2.2 j 0) (f := S.2.2.2 j 2) (t := S.2.2.2 j 1) (K := S.2.1 (S.2.2.2 j 2)) (by rw [a2.at 83 rfl]; exact q2) k2.2 v0 (by omega) (by omega) a3
      obtain ⟨m', g1, g2, g3⟩ := ih mb (hma.keep (b2.at 83 rfl)) (by
        simp only [goN, garc, if_neg h4]
        exact b3)
      refine ⟨m', ?_, (a2.tr b2).tr g2, g3⟩
      rw [H_X11_looks_33, ← g1]
      have e83 : ma.1 83 = m.1 83 := a2.at 83 rfl
      simp (disch := omega) only [Option.bind_some, ofn, l0, l1, l2, l3, l4, l5, l6, l7, l8, l9, l10, l11, l12, l19, l20, l30, l31, l40, l72, l100, hn_mul, hn_add, hn_sub, hn_or, hn_and, sh_r, sh_l, bt_n, bt_0, bt_1, hn_cl, if_true, if_false, ↓reduceIte, hn_lt, hn_le, hn_eq, ne_1, ne_m, lt_t, lt_f, le_t, le_f, eq_t, eq_f, Nat.not_lt_zero, false_or, or_false, or_self, false_and, and_false, true_and, and_true, not_true, not_false_iff, m2, p0, p1, p2, a1, e83, q1, b1]
theorem hm_looks12 (m : pj_M) : ∃ m', H_X11_looks_12 pj_z 0 m = H_X11_looks_33 pj_z 0 m' ∧ fr [84] m m' ∧ GT m' 84 (fun _ _ => 0) := by
  have key : ∃ m', H_X11_looks_12 pj_z 0 m = H_X11_looks_33 pj_z 0 m' ∧ fr [84] m m' ∧ ∀ k, k < 40 → m'.1 84 k = if 0 ≤ k then nI 0 else m.1 84 k := by
    refine lp0 (P := fun z i => ∀ m, ∃ m', H_X11_looks_12 z (nI i) m = H_X11_looks_33 pj_z 0 m' ∧ fr [84] m m' ∧ ∀ k, k < 40 → m'.1 84 k = if i ≤ k then nI 0 else m.1 84 k) 40 (by decide) ?_ ?_ m
    · intro z m
      refine ⟨m, ?_, fr.rf _ _, fun k hk => by rw [if_neg (by omega)]⟩
      rw [H_X11_looks_12]
      simp (disch := omega) only [Option.bind_some, ofn, l0, l1, l2, l3, l4, l5, l6, l7, l8, l9, l10, l11, l12, l19, l20, l30, l31, l40, l72, l100, hn_mul, hn_add, hn_sub, hn_or, hn_and, sh_r, sh_l, bt_n, bt_0, bt_1, hn_cl, if_true, if_false, ↓reduceIte, hn_lt, hn_le, hn_eq, ne_1, ne_m, lt_t, lt_f, le_t, le_f, eq_t, eq_f, Nat.not_lt_zero, false_or, or_false, or_self, false_and, and_false, true_and, and_true, not_true, not_false_iff]
    · intro z i hi ih m
      obtain ⟨m', g1, g2, g3⟩ := ih (pj_wr m 84 i (nI 0))
      refine ⟨m', ?_, (fr.wr _ _ (by simp) _ _).tr g2, fun k hk => ?_⟩
      · rw [H_X11_looks_12, ← g1]
        simp (disch := omega) only [Option.bind_some, ofn, l0, l1, l2, l3, l4, l5, l6, l7, l8, l9, l10, l11, l12, l19, l20, l30, l31, l40, l72, l100, hn_mul, hn_add, hn_sub, hn_or, hn_and, sh_r, sh_l, bt_n, bt_0, bt_1, hn_cl, if_true, if_false, ↓reduceIte, hn_lt, hn_le, hn_eq, ne_1, ne_m, lt_t, lt_f, le_t, le_f, eq_t, eq_f, Nat.not_lt_zero, false_or, or_false, or_self, false_and, and_false, true_and, and_true, not_true, not_false_iff]
      · rw [g3 k hk, hr_wr]
        by_cases hki : k = i
        · subst hki
          rw [if_neg (by omega), if_pos ⟨rfl, rfl⟩, if_pos (Nat.le_refl _)]
        · simp only [hki, and_false, if_false]
          by_cases h4 : i + 1 ≤ k
          · rw [if_pos h4, if_pos (by omega)]
          · rw [if_neg h4, if_neg (by omega)]
  obtain ⟨m', g1, g2, g3⟩ := key
  exact ⟨m', g1, g2, fun a s ha hs => by rw [g3 _ (by omega), if_pos (Nat.zero_le _)]⟩
theorem cl0_lt {S : sy} (hw : wfS S) {s : Nat} (hs : s < S.1) : cl0 S s < 2 ^ S.1 := itp_lt (Nat.pow_lt_pow_right (by decide) hs) (fun i _ => go_lt hw 0 i) 10
theorem p2_10 {n : Nat} (hn : n ≤ 10) : (2 : Nat) ^ n ≤ 1024 := Nat.pow_le_pow_right (n := 2) (by decide) hn
theorem hm_looks127 {S : sy} (hw : wfS S) (m : pj_M) (hm : MN m 83 0 S) (hg : GT m 84 (go S)) : ∃ m', H_X11_looks_127 pj_z 0 m = some m' ∧ fr [85] m m' ∧ ∀ s, s < S.1 → m'.1 85 s = nI (cl0 S s) := by
  have w1 := hw.1
  refine lp0 (P := fun z j => ∀ m, MN m 83 0 S → GT m 84 (go S) → (∀ s, s < j → m.1 85 s = nI (cl0 S s)) → ∃ m', H_X11_looks_127 z (nI j) m = some m' ∧ fr [85] m m' ∧ ∀ s, s < S.1 → m'.1 85 s = nI (cl0 S s)) S.1 (by omega) ?_ ?_ m hm hg (fun s hs => by omega)
  · intro z m hm hg hc
    refine ⟨m, ?_, fr.rf _ _, hc⟩
    rw [H_X11_looks_127, mx_states]
    have e1 := hm.1
    simp (disch := omega) only [Option.bind_some, ofn, l0, l1, l2, l3, l4, l5, l6, l7, l8, l9, l10, l11, l12, l19, l20, l30, l31, l40, l72, l100, hn_mul, hn_add, hn_sub, hn_or, hn_and, sh_r, sh_l, bt_n, bt_0, bt_1, hn_cl, if_true, if_false, ↓reduceIte, hn_lt, hn_le, hn_eq, ne_1, ne_m, lt_t, lt_f, le_t, le_f, eq_t, eq_f, Nat.not_lt_zero, false_or, or_false, or_self, false_and, and_false, true_and, and_true, not_true, not_false_iff, e1]
  · intro z j hj ih m hm hg hc
    obtain ⟨m', g1, g2, g3⟩ := ih (pj_wr m 85 j (nI (cl0 S j))) (hm.keep (hr_wra (by decide))) (fun a s ha hs => by rw [hr_wra (by decide)]; exact hg a s ha hs) (fun s hs => by
      rw [hr_wr]
      by_cases hsj : s = j
      · rw [if_pos ⟨rfl, hsj⟩, hsj]
      · rw [if_neg (fun q => hsj q.2)]
        exact hc s (by omega))
    refine ⟨m', ?_, (fr.wr _ _ (by simp) _ _).tr g2, g3⟩
    rw [H_X11_looks_127, mx_states]
    have e1 := hm.1
    have hr := pm_reach (n := S.1) (s := 2 ^ j) (am := 1023) (x2 := 1023) (f := go S 0) (m := m) w1 (Nat.pow_lt_pow_right (by decide) hj) (fun i _ => go_lt hw 0 i) e1 (fun i hi => by have := hg 0 i (by decide) (by omega); rw [Nat.mul_zero, Nat.zero_add] at this; exact this) am_1023
    simp (disch := omega) only [Option.bind_some, ofn, l0, l1, l2, l3, l4, l5, l6, l7, l8, l9, l10, l11, l12, l19, l20, l30, l31, l40, l72, l100, hn_mul, hn_add, hn_sub, hn_or, hn_and, sh_r, sh_l, bt_n, bt_0, bt_1, hn_cl, if_true, if_false, ↓reduceIte, hn_lt, hn_le, hn_eq, ne_1, ne_m, lt_t, lt_f, le_t, le_f, eq_t, eq_f, Nat.not_lt_zero, false_or, or_false, or_self, false_and, and_false, true_and, and_true, not_true, not_false_iff, e1, hr]
    exact g1
theorem pm_looks {n1 A o : Nat} {S : sy} {m : pj_M} (hw : wfS S) (hA : A ≠ 83) (hn : o + 72 ≤ n1) (hn1 : n1 < 2 ^ 30) (hm : MN m A o S) : ∃ m', F_X11_looks n1 A (nI o) m = some m' ∧ fr [83, 84, 85] m m' ∧ LK m' S := by
  obtain ⟨m1, a1, a2, a3⟩ := pm_copies (n0 := n1) (A := A) (o := o) (n2 := 72) (B := 83) (p := 0) m hA hn (by decide) hn1 (by decide)
  have h1 : MN m1 83 0 S := hm.copy hw a3
  obtain ⟨m2, b1, b2, b3⟩ := hm_looks12 m1
  obtain ⟨m3, c1, c2, c3⟩ := hm_looks33 hw m2 (h1.keep (b2.at 83 rfl)) b3
  have h3 : MN m3 83 0 S := (h1.keep (b2.at 83 rfl)).keep (c2.at 83 rfl)
  obtain ⟨m4, d1, d2, d3⟩ := hm_looks127 hw m3 h3 c3
  refine ⟨m4, ?_, ((a2.mono (by simp)).tr (b2.mono (by simp))).tr ((c2.mono (by simp)).tr (d2.mono (by simp))), h3.keep (d2.at 83 rfl), fun a s ha hs => ?_, d3⟩
  · unfold F_X11_looks
    have a1' : F_X11_copies n1 A (nI o) 72 83 0 m = some m1 := a1
    rw [a1']
    simp only [Option.bind_some]
    exact b1.trans (c1.trans d1)
  · rw [d2.at 84 rfl]
    exact c3 a s ha hs
/-- moves by a rule and a letter -/
def mv (S : sy) (r a s : Nat) : Nat := if r = 1 then cl S a s else go S a s
theorem cl_lt {S : sy} (hw : wfS S) {a s : Nat} (hs : s < S.1) : cl S a s < 2 ^ S.1 := by
  unfold cl
  split
  · exact cl0_lt hw hs
  · have hX : un (go S a) (cl0 S s) 10 < 2 ^ S.1 := un_lt 10 (fun i _ => go_lt hw a i)
    rw [un_stop (shr_lt hX) 10 hw.1]
    exact un_lt S.1 (fun i hi => cl0_lt hw hi)
theorem mv_lt {S : sy} (hw : wfS S) (r a : Nat) {s : Nat} (hs : s < S.1) : mv S r a s < 2 ^ S.1 := by
  unfold mv
  split
  · exact cl_lt hw hs
  · exact go_lt hw a s
theorem pm_moving {S : sy} {m : pj_M} {r a s : Nat} (hw : wfS S) (hl : LK m S) (hr : r < 4) (ha : a < 4) (hs : s < S.1) : F_X11_moving (nI r) (nI s) (nI a) m = some (nI (mv S r a s), m) := by
  have w1 := hw.1
  have hp := p2_10 w1
  obtain ⟨h1, h2, h3⟩ := hl
  have e1 := h1.1
  have hc := cl0_lt hw hs
  have ht := pm_to (n := S.1) (l := a) (s := cl0 S s) (f := go S a) (m := m) w1 ha (by omega) e1 (fun i hi => h2 a i ha (by omega))
  have hX : un (go S a) (cl0 S s) 10 < 2 ^ S.1 := un_lt 10 (fun i _ => go_lt hw a i)
  have hd := pm_close (n := S.1) (s := un (go S a) (cl0 S s) 10) (f := cl0 S) (m := m) w1 (by omega) e1 h3
  rw [un_stop (shr_lt hc) 10 w1] at hd
  unfold F_X11_moving mv
  by_cases hr1 : r = 1
  · by_cases ha0 : a = 0
    · simp (disch := omega) only [Option.bind_some, ofn, l0, l1, l2, l3, l4, l5, l6, l7, l8, l9, l10, l11, l12, l19, l20, l30, l31, l40, l72, l100, hn_mul, hn_add, hn_sub, hn_or, hn_and, sh_r, sh_l, bt_n, bt_0, bt_1, hn_cl, if_true, if_false, ↓reduceIte, hn_lt, hn_le, hn_eq, ne_1, ne_m, lt_t, lt_f, le_t, le_f, eq_t, eq_f, Nat.not_lt_zero, false_or, or_false, or_self, false_and, and_false, true_and, and_true, not_true, not_false_iff, hr1, ha0, h3 s hs, cl_0]
    · have hX' : un (go S a) (cl0 S s) S.1 < 2 ^ S.1 := un_lt S.1 (fun i _ => go_lt hw a i)
      simp (disch := omega) only [Option.bind_some, ofn, l0, l1, l2, l3, l4, l5, l6, l7, l8, l9, l10, l11, l12, l19, l20, l30, l31, l40, l72, l100, hn_mul, hn_add, hn_sub, hn_or, hn_and, sh_r, sh_l, bt_n, bt_0, bt_1, hn_cl, if_true, if_false, ↓reduceIte, hn_lt, hn_le, hn_eq, ne_1, ne_m, lt_t, lt_f, le_t, le_f, eq_t, eq_f, Nat.not_lt_zero, false_or, or_false, or_self, false_and, and_false, true_and, and_true, not_true, not_false_iff, hr1, ha0, h3 s hs, ht, hd]
      simp only [cl, if_neg ha0]
      rw [un_stop (shr_lt hc) 10 w1, un_stop (shr_lt hX') 10 w1]
  · simp (disch := omega) only [Option.bind_some, ofn, l0, l1, l2, l3, l4, l5, l6, l7, l8, l9, l10, l11, l12, l19, l20, l30, l31, l40, l72, l100, hn_mul, hn_add, hn_sub, hn_or, hn_and, sh_r, sh_l, bt_n, bt_0, bt_1, hn_cl, if_true, if_false, ↓reduceIte, hn_lt, hn_le, hn_eq, ne_1, ne_m, lt_t, lt_f, le_t, le_f, eq_t, eq_f, Nat.not_lt_zero, false_or, or_false, or_self, false_and, and_false, true_and, and_true, not_true, not_false_iff, hr1, h2 a s ha (by omega)]
