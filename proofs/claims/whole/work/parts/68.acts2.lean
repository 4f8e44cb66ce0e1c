/-! PART 68: lay, cut, turn, become -/
theorem insS_wf {S : sy} (hw : wfS S) {j : Nat} {x : Nat → Nat} (hk : S.2.2.1 < 20) (h0 : x 0 < 4) (h1 : x 1 < S.1) (h2 : x 2 < S.1) (hj : j ≤ S.2.2.1) : wfS (insS S j x) := by
  obtain ⟨w1, w2, w3, w4⟩ := hw
  refine ⟨w1, by show S.2.2.1 + 1 ≤ 20; omega, w3, fun a ha => ?_⟩
  have ha : a < S.2.2.1 + 1 := ha
  show (if a < j then S.2.2.2 a 0 else if a = j then x 0 else S.2.2.2 (a - 1) 0) < 4 ∧ (if a < j then S.2.2.2 a 1 else if a = j then x 1 else S.2.2.2 (a - 1) 1) < S.1 ∧ (if a < j then S.2.2.2 a 2 else if a = j then x 2 else S.2.2.2 (a - 1) 2) < S.1
  by_cases hlt : a < j
  · simp only [if_pos hlt]
    exact w4 a (by omega)
  · simp only [if_neg hlt]
    by_cases haj : a = j
    · simp only [if_pos haj]
      exact ⟨h0, h1, h2⟩
    · simp only [if_neg haj]
      exact w4 (a - 1) (by omega)
theorem remS_wf {S : sy} (hw : wfS S) {j : Nat} (hj : j < S.2.2.1) : wfS (remS S j) := by
  obtain ⟨w1, w2, w3, w4⟩ := hw
  refine ⟨w1, by show S.2.2.1 - 1 ≤ 20; omega, w3, fun a ha => ?_⟩
  have ha : a < S.2.2.1 - 1 := ha
  show (if a < j then S.2.2.2 a 0 else S.2.2.2 (a + 1) 0) < 4 ∧ (if a < j then S.2.2.2 a 1 else S.2.2.2 (a + 1) 1) < S.1 ∧ (if a < j then S.2.2.2 a 2 else S.2.2.2 (a + 1) 2) < S.1
  by_cases hlt : a < j
  · simp only [if_pos hlt]
    exact w4 a (by omega)
  · simp only [if_neg hlt]
    exact w4 (a + 1) (by omega)
theorem turS_wf {S : sy} (hw : wfS S) {j : Nat} (hj : j < S.2.2.1) : wfS (turS S j) := by
  obtain ⟨w1, w2, w3, w4⟩ := hw
  refine ⟨w1, w2, w3, fun a ha => ?_⟩
  have ha : a < S.2.2.1 := ha
  obtain ⟨v0, v1, v2⟩ := w4 j hj
  by_cases haj : a = j
  · simp only [turS, if_pos haj]
    exact ⟨v0, v2, v1⟩
  · simp only [turS, if_neg haj]
    exact w4 a ha
theorem kinS_wf {S : sy} (hw : wfS S) {s k : Nat} (hk : 1 ≤ k ∧ k ≤ 5) : wfS (kinS S s k) := by
  obtain ⟨w1, w2, w3, w4⟩ := hw
  refine ⟨w1, w2, fun i hi => ?_, w4⟩
  show 1 ≤ (if i = s then k else S.2.1 i) ∧ (if i = s then k else S.2.1 i) ≤ 5
  by_cases his : i = s
  · simp only [if_pos his]
    exact hk
  · simp only [if_neg his]
    exact w3 i hi
theorem WF.net {σ : sg} (hσ : WF σ) {S' : sy} {A' : Nat × (Nat → sy)} (hS : wfS S') (hA : A'.1 ≤ 20 ∧ ∀ i, i < A'.1 → wfS (A'.2 i)) : WF (σ.1, σ.2.1, σ.2.2.1, σ.2.2.2.1, S', A', σ.2.2.2.2.2.2) := ⟨hσ.1, hσ.2.1, hS, hA, hσ.2.2.2.2⟩
def arcx (l f t : Nat) : Nat → Nat := fun w => if w = 0 then l else if w = 1 then f else t
theorem opg_lay {σ : sg} (hσ : WF σ) {x1 x2 x3 : Int32} (h1 : inb x1 4) (h2 : inb x2 σ.2.2.2.2.1.1) (h3 : inb x3 σ.2.2.2.2.1.1) : OK1 (F_X10_lay x1 x2 x3) (F_X11_lay x1 x2 x3) σ := by
  have hS : wfS σ.2.2.2.2.1 := hσ.2.2.1
  have w1 := hS.1
  have w2 := hS.2.1
  have hA := hσ.2.2.2.1
  have X1 : ∀ m, F_X10_within x1 0 3 m = some (1, m) := fun m => px_within_y (n := 3) (by decide) h1
  by_cases h20 : σ.2.2.2.2.1.2.2.1 = 20
  · refine ok_same hσ (r := -1000003) (fun m h => ?_) (fun m h => ?_)
    · have hn : XN m 7 σ.2.2.2.2.1 := h.2.2.2.2.1
      have e : (m.1 7 3 < 20) = False := by rw [hn.2.1, h20]; exact eq_false (by decide)
      simp only [F_X10_lay, X1, nx_has_y (by omega) hn.1 h2, nx_has_y (by omega) hn.1 h3, F_X4_arcTotal, e, Option.bind_some, ne10, if_false]
    · have hm : MN m 78 0 σ.2.2.2.2.1 := h.2.2.2.2.1
      have e : m.1 78 1 = 20 := by
        have := hm.2.1
        rw [Nat.zero_add, h20] at this
        exact this
      simp only [F_X11_lay, mx_let_y h1, mx_st_y (by omega) hm.1 h2, mx_st_y (by omega) hm.1 h3, Option.bind_some, ne10, if_false, c1, e]
      rfl
  · obtain ⟨l, hl, rfl⟩ := id h1
    obtain ⟨f, hf, rfl⟩ := id h2
    obtain ⟨t, ht, rfl⟩ := id h3
    refine ⟨nI (σ.2.2.2.2.1.2.2.1 + 1), _, hσ.net (insS_wf hS (x := arcx l f t) (by omega) hl hf ht (Nat.le_refl _)) (pushA_wf hA hS), fun c m hc h => ?_, fun m h => ?_⟩
    · obtain ⟨h0, ⟨v, hv, hk⟩, hj⟩ := id h
      have hn : XN m 7 σ.2.2.2.2.1 := h0.2.2.2.2.1
      obtain ⟨m1, g1, g2, g3, g4⟩ := px_insert (b := 7) (j := σ.2.2.2.2.1.2.2.1) (x := arcx l f t) hn hk.1 (by omega) (Nat.le_refl _)
      have hXA : XA m1 σ.2.2.2.2.1 σ.2.2.2.2.2.1 := h0.2.2.2.2.2.1.keep (fun a ha => (g2 a (by simp at ha ⊢; omega)).1)
      obtain ⟨m2, a1, a2, a3⟩ := px_note (e0 := 0) (e1 := 0) (e2 := 0) (e3 := 0) (e4 := 0) (S' := insS σ.2.2.2.2.1 σ.2.2.2.2.1.2.2.1 (arcx l f t)) hA.1 hXA (Or.inl ⟨rfl, rfl, rfl, fun s hs => rfl, fun a ha w hw => by
        show σ.2.2.2.2.1.2.2.2 a w = if a < σ.2.2.2.2.1.2.2.1 then σ.2.2.2.2.1.2.2.2 a w else _
        rw [if_pos ha]⟩)
      have fA : fr [7, 8, 9, 17, 18] m m2 := (g2.mono (by simp)).tr (a2.mono (by simp))
      refine ⟨m2, ?_, h.net (v' := 3) fA (g3.keep (a2.at 7 rfl) (a2.at 8 rfl) (a2.at 9 rfl)) a3 (fun v1 hv1 hvc => ⟨?_, by decide, by decide⟩), fA.hi (by decide)⟩
      · have e : (m.1 7 3 < 20) = True := by rw [hn.2.1]; exact eq_true (nI_lt (b := 20) (by omega) (by decide))
        have g1 : F_X4_insertArc 7 (m.1 7 3) (nI l) (nI f) (nI t) m = some m1 := by rw [hn.2.1]; exact g1
        have e7 : m2.1 7 3 = nI (σ.2.2.2.2.1.2.2.1 + 1) := by rw [a2.at 7 rfl]; exact g3.2.1
        simp only [F_X10_lay, X1, nx_has_y (by omega) hn.1 h2, nx_has_y (by omega) hn.1 h3, F_X4_arcTotal, e, F_X4_addArc, g1, F_X0_noteLaid, a1, e7, Option.bind_some, ne10, if_false, if_true]
      · rw [a2.at 7 rfl, g4, show v1 = v from hn_inj (by omega) (by omega) (hv1.symm.trans hk.1), Nat.add_comm]
    · have hm : MN m 78 0 σ.2.2.2.2.1 := h.2.2.2.2.1
      obtain ⟨m1, g1, g2, g3⟩ := pm_notes hS hA m h.2.2.2.2.2.1 hm
      have hm1 : MN m1 78 0 σ.2.2.2.2.1 := hm.keep (g2.cells [78] (by decide) 78 (by decide))
      have e1 : m1.1 78 1 = nI σ.2.2.2.2.1.2.2.1 := hm1.2.1
      have e0 : m.1 78 1 = nI σ.2.2.2.2.1.2.2.1 := hm.2.1
      have fA : fk (78 :: 80 :: cms) ((72, 16) :: pms) m (pj_wr (pj_wr (pj_wr (pj_wr m1 78 (12 + 3 * σ.2.2.2.2.1.2.2.1) (nI l)) 78 (12 + 3 * σ.2.2.2.2.1.2.2.1 + 1) (nI f)) 78 (12 + 3 * σ.2.2.2.2.1.2.2.1 + 2) (nI t)) 78 1 (nI (σ.2.2.2.2.1.2.2.1 + 1))) := ((((g2.mono (by decide) (by decide)).tr (fk.wr _ (by decide) _ _)).tr (fk.wr _ (by decide) _ _)).tr (fk.wr _ (by decide) _ _)).tr (fk.wr _ (by decide) _ _)
      obtain ⟨n1, n2, n3, n4⟩ := hm1
      refine ⟨_, ?_, h.net fA ⟨?_, hr_wrs _ _ _ _, fun s hs => ?_, fun a ha w hw => ?_⟩ ?_, lo_net fA⟩
      · have ea : nI σ.2.2.2.2.1.2.2.1 = 20 ↔ False := ⟨fun e => h20 (hn_inj (b := 20) (by omega) (by decide) e), fun e => e.elim⟩
        have b0 : (12 : Int32) + 3 * nI σ.2.2.2.2.1.2.2.1 = nI (12 + 3 * σ.2.2.2.2.1.2.2.1) := by rw [l12, l3, hn_mul, hn_add]
        have b1 : nI (12 + 3 * σ.2.2.2.2.1.2.2.1) + 1 = nI (12 + 3 * σ.2.2.2.2.1.2.2.1 + 1) := nI_1 _
        have b2 : nI (12 + 3 * σ.2.2.2.2.1.2.2.1) + 2 = nI (12 + 3 * σ.2.2.2.2.1.2.2.1 + 2) := hn_add _ 2
        have r1 : ∀ k, 12 ≤ k → ∀ (M : pj_M) (x : Int32), (pj_wr M 78 k x).1 78 1 = M.1 78 1 := fun k hk M x => hr_wrk (by omega)
        simp only [F_X11_lay, mx_let_y h1, mx_st_y (by omega) hm.1 h2, mx_st_y (by omega) hm.1 h3, Option.bind_some, ne10, if_false, c1, e0, ea, g1, e1, b0, b1, b2, hn_cl (show 12 + 3 * σ.2.2.2.2.1.2.2.1 < 2 ^ 31 by omega), hn_cl (show 12 + 3 * σ.2.2.2.2.1.2.2.1 + 1 < 2 ^ 31 by omega), hn_cl (show 12 + 3 * σ.2.2.2.2.1.2.2.1 + 2 < 2 ^ 31 by omega), hn_in' (show 12 + 3 * σ.2.2.2.2.1.2.2.1 < 72 by omega) (show 12 + 3 * σ.2.2.2.2.1.2.2.1 < 2 ^ 31 by omega), hn_in' (show 12 + 3 * σ.2.2.2.2.1.2.2.1 + 1 < 72 by omega) (show 12 + 3 * σ.2.2.2.2.1.2.2.1 + 1 < 2 ^ 31 by omega), hn_in' (show 12 + 3 * σ.2.2.2.2.1.2.2.1 + 2 < 72 by omega) (show 12 + 3 * σ.2.2.2.2.1.2.2.1 + 2 < 2 ^ 31 by omega), r1 _ (show 12 ≤ 12 + 3 * σ.2.2.2.2.1.2.2.1 by omega), r1 _ (show 12 ≤ 12 + 3 * σ.2.2.2.2.1.2.2.1 + 1 by omega), r1 _ (show 12 ≤ 12 + 3 * σ.2.2.2.2.1.2.2.1 + 2 by omega), nI_1, hr_wrs, show ((1 : Int32) < 0 ∨ 72 ≤ 1) = False from eq_false (by decide)]
      · rw [hr_wrk (by omega), hr_wrk (by omega), hr_wrk (by omega), hr_wrk (by omega)]
        exact n1
      · have hs : s < σ.2.2.2.2.1.1 := hs
        rw [hr_wrk (by omega), hr_wrk (by omega), hr_wrk (by omega), hr_wrk (by omega)]
        exact n3 s hs
      · have ha : a < σ.2.2.2.2.1.2.2.1 + 1 := ha
        show _ = nI (if a < σ.2.2.2.2.1.2.2.1 then σ.2.2.2.2.1.2.2.2 a w else if a = σ.2.2.2.2.1.2.2.1 then arcx l f t w else σ.2.2.2.2.1.2.2.2 (a - 1) w)
        rw [hr_wrk (by omega), hr_wr, hr_wr, hr_wr]
        by_cases hlt : a < σ.2.2.2.2.1.2.2.1
        · rw [if_neg (show ¬ ((78 : Nat) = 78 ∧ 0 + 12 + 3 * a + w = 12 + 3 * σ.2.2.2.2.1.2.2.1 + 2) by omega), if_neg (show ¬ ((78 : Nat) = 78 ∧ 0 + 12 + 3 * a + w = 12 + 3 * σ.2.2.2.2.1.2.2.1 + 1) by omega), if_neg (show ¬ ((78 : Nat) = 78 ∧ 0 + 12 + 3 * a + w = 12 + 3 * σ.2.2.2.2.1.2.2.1) by omega), if_pos hlt]
          exact n4 a hlt w hw
        · obtain rfl : a = σ.2.2.2.2.1.2.2.1 := by omega
          rw [if_neg hlt, if_pos (show σ.2.2.2.2.1.2.2.1 = σ.2.2.2.2.1.2.2.1 from rfl)]
          have hw' : w = 0 ∨ w = 1 ∨ w = 2 := by omega
          rcases hw' with rfl | rfl | rfl
          · rw [if_neg (by omega), if_neg (by omega), if_pos ⟨rfl, by omega⟩]
            rfl
          · rw [if_neg (by omega), if_pos ⟨rfl, by omega⟩]
            rfl
          · rw [if_pos ⟨rfl, by omega⟩]
            rfl
      · unfold MA at g3 ⊢
        refine ⟨?_, fun i hi => ?_⟩
        · rw [hr_wra (by decide), hr_wra (by decide), hr_wra (by decide), hr_wra (by decide)]
          exact g3.1
        · exact (((((g3.2 i hi).keep (hr_wra (by decide))).keep (hr_wra (by decide))).keep (hr_wra (by decide))).keep (hr_wra (by decide)))
theorem op_lay {σ : sg} (hσ : WF σ) (x1 x2 x3 : Int32) : OK1 (F_X10_lay x1 x2 x3) (F_X11_lay x1 x2 x3) σ := by
  have hS : wfS σ.2.2.2.2.1 := hσ.2.2.1
  have w1 := hS.1
  have w2 := hS.2.1
  by_cases h1 : inb x1 4
  · by_cases h2 : inb x2 σ.2.2.2.2.1.1
    · by_cases h3 : inb x3 σ.2.2.2.2.1.1
      · exact opg_lay hσ h1 h2 h3
      · refine ok_same hσ (r := -1000001) (fun m h => ?_) (fun m h => ?_)
        · have hn : XN m 7 σ.2.2.2.2.1 := h.2.2.2.2.1
          have e1 : F_X10_within x1 0 3 m = some (1, m) := px_within_y (n := 3) (by decide) h1
          have e2 : F_X4_hasState 7 x2 m = some (1, m) := nx_has_y (by omega) hn.1 h2
          have e3 : F_X4_hasState 7 x3 m = some (0, m) := nx_has_n (by omega) hn.1 h3
          simp only [F_X10_lay, e1, e2, e3, Option.bind_some, ne10, if_false, if_true]
        · have hm : MN m 78 0 σ.2.2.2.2.1 := h.2.2.2.2.1
          have e1 : F_X11_isLetter x1 m = some (1, m) := mx_let_y h1
          have e2 : F_X11_isState x2 m = some (1, m) := mx_st_y (by omega) hm.1 h2
          have e3 : F_X11_isState x3 m = some (0, m) := mx_st_n (by omega) hm.1 h3
          simp only [F_X11_lay, e1, e2, e3, Option.bind_some, ne10, if_false, if_true]
    · refine ok_same hσ (r := -1000001) (fun m h => ?_) (fun m h => ?_)
      · have hn : XN m 7 σ.2.2.2.2.1 := h.2.2.2.2.1
        have e1 : F_X10_within x1 0 3 m = some (1, m) := px_within_y (n := 3) (by decide) h1
        have e2 : F_X4_hasState 7 x2 m = some (0, m) := nx_has_n (by omega) hn.1 h2
        simp only [F_X10_lay, e1, e2, Option.bind_some, ne10, if_false, if_true]
      · have hm : MN m 78 0 σ.2.2.2.2.1 := h.2.2.2.2.1
        have e1 : F_X11_isLetter x1 m = some (1, m) := mx_let_y h1
        have e2 : F_X11_isState x2 m = some (0, m) := mx_st_n (by omega) hm.1 h2
        simp only [F_X11_lay, e1, e2, Option.bind_some, ne10, if_false, if_true]
  · refine ok_same hσ (r := -1000001) (fun m h => ?_) (fun m h => ?_)
    · have hn : XN m 7 σ.2.2.2.2.1 := h.2.2.2.2.1
      have e1 : F_X10_within x1 0 3 m = some (0, m) := px_within_n (n := 3) (by decide) h1
      simp only [F_X10_lay, e1, Option.bind_some, ne10, if_false, if_true]
    · have hm : MN m 78 0 σ.2.2.2.2.1 := h.2.2.2.2.1
      have e1 : F_X11_isLetter x1 m = some (0, m) := mx_let_n h1
      simp only [F_X11_lay, e1, Option.bind_some, ne10, if_false, if_true]
theorem hm_cut (k0 : Nat) (hk : k0 ≤ 69) (m : pj_M) : ∃ m', H_X11_cut_22 pj_z (nI k0) m = J_X11_cut_50 m' ∧ fk [78] [] m m' ∧ ∀ x, m'.1 78 x = if k0 ≤ x ∧ x < 69 then m.1 78 (x + 3) else m.1 78 x := by
  refine lpk (P := fun z i => ∀ m, ∃ m', H_X11_cut_22 z (nI i) m = J_X11_cut_50 m' ∧ fk [78] [] m m' ∧ ∀ x, m'.1 78 x = if i ≤ x ∧ x < 69 then m.1 78 (x + 3) else m.1 78 x) 69 k0 hk (by decide) ?_ ?_ m
  · intro z m
    refine ⟨m, ?_, fk.rf _ _ _, fun x => by rw [if_neg (by omega)]⟩
    rw [H_X11_cut_22]
    simp (disch := omega) only [Option.bind_some, ofn, l0, l1, l2, l3, l4, l5, l6, l7, l8, l9, l10, l11, l12, l19, l20, l30, l31, l40, l72, l100, hn_mul, hn_add, hn_sub, hn_or, hn_and, sh_r, sh_l, bt_n, bt_0, bt_1, hn_cl, if_true, if_false, ↓reduceIte, hn_lt, hn_le, hn_eq, ne_1, ne_m, lt_t, lt_f, le_t, le_f, eq_t, eq_f, Nat.not_lt_zero, false_or, or_false, or_self, false_and, and_false, true_and, and_true, not_true, not_false_iff]
  · intro z i hi0 hi ih m
    obtain ⟨m', g1, g2, g3⟩ := ih (pj_wr m 78 i (m.1 78 (i + 3)))
    refine ⟨m', ?_, (fk.wr _ (by decide) _ _).tr g2, fun x => ?_⟩
    · rw [H_X11_cut_22, ← g1]
      simp (disch := omega) only [Option.bind_some, ofn, l0, l1, l2, l3, l4, l5, l6, l7, l8, l9, l10, l11, l12, l19, l20, l30, l31, l40, l72, l100, hn_mul, hn_add, hn_sub, hn_or, hn_and, sh_r, sh_l, bt_n, bt_0, bt_1, hn_cl, if_true, if_false, ↓reduceIte, hn_lt, hn_le, hn_eq, ne_1, ne_m, lt_t, lt_f, le_t, le_f, eq_t, eq_f, Nat.not_lt_zero, false_or, or_false, or_self, false_and, and_false, true_and, and_true, not_true, not_false_iff]
    · rw [g3 x, hr_wr, hr_wr]
      by_cases hx : x = i
      · subst hx
        rw [if_neg (by omega), if_pos ⟨rfl, rfl⟩, if_pos (by omega)]
      · by_cases h : i + 1 ≤ x ∧ x < 69
        · rw [if_pos h, if_neg (by omega), if_pos (by omega)]
        · rw [if_neg h, if_neg (by omega), if_neg (by omega)]
theorem opg_cut {σ : sg} (hσ : WF σ) {x1 : Int32} (h1 : inb x1 σ.2.2.2.2.1.2.2.1) : OK1 (F_X10_cut x1) (F_X11_cut x1) σ := by
  have hS : wfS σ.2.2.2.2.1 := hσ.2.2.1
  have w1 := hS.1
  have w2 := hS.2.1
  have hA := hσ.2.2.2.1
  obtain ⟨j, hj, rfl⟩ := id h1
  refine ⟨nI (σ.2.2.2.2.1.2.2.1 - 1), _, hσ.net (remS_wf hS hj) (pushA_wf hA hS), fun c m hc h => ?_, fun m h => ?_⟩
  · obtain ⟨h0, ⟨v, hv, hk⟩, hjj⟩ := id h
    have hn : XN m 7 σ.2.2.2.2.1 := h0.2.2.2.2.1
    have q0 : F_X4_arcPart 7 (nI j) 0 m = some (nI (σ.2.2.2.2.1.2.2.2 j 0), m) := (nx_part (b := 7) (w := 0) (by omega) (by decide)).trans (by rw [hn.2.2.2 j hj 0 (by decide)])
    have q1 : F_X4_arcPart 7 (nI j) 1 m = some (nI (σ.2.2.2.2.1.2.2.2 j 1), m) := (nx_part (b := 7) (w := 1) (by omega) (by decide)).trans (by rw [hn.2.2.2 j hj 1 (by decide)])
    have q2 : F_X4_arcPart 7 (nI j) 2 m = some (nI (σ.2.2.2.2.1.2.2.2 j 2), m) := (nx_part (b := 7) (w := 2) (by omega) (by decide)).trans (by rw [hn.2.2.2 j hj 2 (by decide)])
    obtain ⟨m1, a1, a2, a3⟩ := px_note (e0 := 1) (e1 := nI j) (e2 := nI (σ.2.2.2.2.1.2.2.2 j 0)) (e3 := nI (σ.2.2.2.2.1.2.2.2 j 1)) (e4 := nI (σ.2.2.2.2.1.2.2.2 j 2)) (S' := remS σ.2.2.2.2.1 j) hA.1 h0.2.2.2.2.2.1 (Or.inr (Or.inl ⟨rfl, rfl, by show σ.2.2.2.2.1.2.2.1 = σ.2.2.2.2.1.2.2.1 - 1 + 1; omega, fun s hs => rfl, j, hj, rfl, rfl, rfl, rfl, fun a ha w hw => by
      show σ.2.2.2.2.1.2.2.2 a w = if a < j then σ.2.2.2.2.1.2.2.2 a w else _
      rw [if_pos ha], fun a ha1 ha2 w hw => by
      show σ.2.2.2.2.1.2.2.2 (a + 1) w = if a < j then _ else σ.2.2.2.2.1.2.2.2 (a + 1) w
      rw [if_neg (by omega)]⟩))
    obtain ⟨m2, g1, g2, g3, g4⟩ := px_remove (b := 7) (j := j) (v := v) (S := σ.2.2.2.2.1) (m := m1) (hn.keep (a2.at 7 rfl) (a2.at 8 rfl) (a2.at 9 rfl)) (by rw [a2.at 7 rfl]; exact hk.1) w2 hj
    have fA : fr [7, 8, 9, 17, 18] m m2 := (a2.mono (by simp)).tr (g2.mono (by simp))
    refine ⟨m2, ?_, h.net (v' := 1) fA g3 (a3.keep (fun a ha => (g2 a (by simp at ha ⊢; omega)).1)) (fun v1 hv1 hvc => ⟨?_, by decide, by decide⟩), fA.hi (by decide)⟩
    · have e7 : m2.1 7 3 = nI (σ.2.2.2.2.1.2.2.1 - 1) := g3.2.1
      simp only [F_X10_cut, nx_arc_y (by omega) hn.2.1 h1, F_X0_noteCut, q0, q1, q2, a1, g1, F_X4_arcTotal, e7, Option.bind_some, ne10, if_false]
    · rw [g4, show v1 = v from hn_inj (by omega) (by omega) (hv1.symm.trans hk.1), Nat.add_comm]
  · have hm : MN m 78 0 σ.2.2.2.2.1 := h.2.2.2.2.1
    obtain ⟨m1, g1, g2, g3⟩ := pm_notes hS hA m h.2.2.2.2.2.1 hm
    have hm1 : MN m1 78 0 σ.2.2.2.2.1 := hm.keep (g2.cells [78] (by decide) 78 (by decide))
    obtain ⟨m2, a1, a2, a3⟩ := hm_cut (12 + 3 * j) (by omega) m1
    obtain ⟨n1, n2, n3, n4⟩ := hm1
    have e1 : m2.1 78 1 = nI σ.2.2.2.2.1.2.2.1 := by rw [a3, if_neg (by omega)]; exact n2
    have fA : fk (78 :: 80 :: cms) ((72, 16) :: pms) m (pj_wr m2 78 1 (nI (σ.2.2.2.2.1.2.2.1 - 1))) := ((g2.mono (by decide) (by decide)).tr (a2.mono (by decide) (by decide))).tr (fk.wr _ (by decide) _ _)
    refine ⟨_, ?_, h.net fA ⟨?_, hr_wrs _ _ _ _, fun s hs => ?_, fun a ha w hw => ?_⟩ ?_, lo_net fA⟩
    · have b0 : (12 : Int32) + 3 * nI j = nI (12 + 3 * j) := by rw [l12, l3, hn_mul, hn_add]
      have e2 : mx_ar_y (m := m) (x := nI j) (n := σ.2.2.2.2.1.2.2.1) (by omega) hm.2.1 h1 = mx_ar_y (by omega) hm.2.1 h1 := rfl
      simp only [F_X11_cut, mx_ar_y (m := m) (x := nI j) (n := σ.2.2.2.2.1.2.2.1) (by omega) hm.2.1 h1, g1, b0, Option.bind_some, ne10, if_false]
      refine a1.trans ?_
      unfold J_X11_cut_50
      simp only [c1, e1, show ((1 : Int32) < 0 ∨ 72 ≤ 1) = False from eq_false (by decide), if_false, show nI σ.2.2.2.2.1.2.2.1 - 1 = nI (σ.2.2.2.2.1.2.2.1 - 1) from hn_sub (b := 1) (by omega), hr_wrs]
    · rw [hr_wrk (by omega), a3, if_neg (by omega)]
      exact n1
    · have hs : s < σ.2.2.2.2.1.1 := hs
      rw [hr_wrk (by omega), a3, if_neg (by omega)]
      exact n3 s hs
    · have ha : a < σ.2.2.2.2.1.2.2.1 - 1 := ha
      show _ = nI (if a < j then σ.2.2.2.2.1.2.2.2 a w else σ.2.2.2.2.1.2.2.2 (a + 1) w)
      rw [hr_wrk (by omega), a3]
      by_cases hlt : a < j
      · rw [if_neg (show ¬ (12 + 3 * j ≤ 0 + 12 + 3 * a + w ∧ 0 + 12 + 3 * a + w < 69) by omega), if_pos hlt]
        exact n4 a (by omega) w hw
      · rw [if_pos (show 12 + 3 * j ≤ 0 + 12 + 3 * a + w ∧ 0 + 12 + 3 * a + w < 69 by omega), if_neg hlt, show 0 + 12 + 3 * a + w + 3 = 0 + 12 + 3 * (a + 1) + w by omega]
        exact n4 (a + 1) (by omega) w hw
    · unfold MA at g3 ⊢
      refine ⟨?_, fun i hi => ?_⟩
      · rw [hr_wra (by decide), a2.1 72 16 (by decide) (by decide)]
        exact g3.1
      · exact ((g3.2 i hi).keep (a2.cells [80] (by decide) 80 (by decide))).keep (hr_wra (by decide))
theorem op_cut {σ : sg} (hσ : WF σ) (x1 : Int32) : OK1 (F_X10_cut x1) (F_X11_cut x1) σ := by
  have hS : wfS σ.2.2.2.2.1 := hσ.2.2.1
  have w1 := hS.1
  have w2 := hS.2.1
  by_cases h1 : inb x1 σ.2.2.2.2.1.2.2.1
  · exact opg_cut hσ h1
  · refine ok_same hσ (r := -1000001) (fun m h => ?_) (fun m h => ?_)
    · have hn : XN m 7 σ.2.2.2.2.1 := h.2.2.2.2.1
      have e1 : F_X4_hasArc 7 x1 m = some (0, m) := nx_arc_n (by omega) hn.2.1 h1
      simp only [F_X10_cut, e1, Option.bind_some, ne10, if_false, if_true]
    · have hm : MN m 78 0 σ.2.2.2.2.1 := h.2.2.2.2.1
      have e1 : F_X11_isArc x1 m = some (0, m) := mx_ar_n (by omega) hm.2.1 h1
      simp only [F_X11_cut, e1, Option.bind_some, ne10, if_false, if_true]
