/-! PART 71: fits -/
def tbk (S : sy) (q : Nat) (g : Nat → Int32) : Bool := alj (fun s => decide (g s = nI (bl S q (rd S q) s))) S.1 S.1
theorem parS_wf {S : sy} (hw : wfS S) {j w v : Nat} (h0 : w = 0 → v < 4) (h1 : w ≠ 0 → v < S.1) : wfS (parS S j w v) := by
  obtain ⟨w1, w2, w3, w4⟩ := hw
  refine ⟨w1, w2, w3, fun a ha => ?_⟩
  obtain ⟨v0, v1, v2⟩ := w4 a ha
  show (if a = j ∧ 0 = w then v else S.2.2.2 a 0) < 4 ∧ (if a = j ∧ 1 = w then v else S.2.2.2 a 1) < S.1 ∧ (if a = j ∧ 2 = w then v else S.2.2.2 a 2) < S.1
  refine ⟨?_, ?_, ?_⟩
  · split
    · rename_i h
      exact h0 h.2.symm
    · exact v0
  · split
    · rename_i h
      exact h1 (by omega)
    · exact v1
  · split
    · rename_i h
      exact h1 (by omega)
    · exact v2
theorem px_tells {m : pj_M} {P q r : Nat} {S : sy} {g : Nat → Int32} (hw : wfS S) (hP : PT m P S q) (hr : r < 8) (h72 : m.1 7 2 = nI S.1) (hit : ∀ i, i < S.1 → m.1 4 (40 * r + i) = g i) : F_X10_tellsBlocks (nI r) P m = some (nI (if tbk S q g then 1 else 0), m) := by
  have w1 := hw.1
  refine lp0 (P := fun z i => H_X10_tellsBlocks_2 z (nI r) P (nI i) m = some (nI (if alj (fun s => decide (g s = nI (bl S q (rd S q) s))) S.1 (S.1 - i) then 1 else 0), m)) S.1 (by omega) ?_ ?_
  · intro z
    rw [H_X10_tellsBlocks_2, Nat.sub_self]
    simp only [F_X4_states, Option.bind_some, h72, alj, if_true]
    rw [if_neg (nI_nlt (Nat.le_refl _) (by omega))]
    rfl
  · intro z i hi ih
    rw [H_X10_tellsBlocks_2, alj_step hi]
    have ei : F_X6_item (nI r) (nI i) m = some (g i, m) := by
      unfold F_X6_item
      have e := hit i hi
      rw [Nat.mul_comm 40 r] at e
      simp (disch := omega) only [Option.bind_some, ofn, l0, l1, l2, l3, l4, l5, l6, l7, l8, l9, l10, l11, l12, l19, l20, l30, l31, l40, l72, l100, hn_mul, hn_add, hn_sub, hn_or, hn_and, sh_r, sh_l, bt_n, bt_0, bt_1, hn_cl, if_true, if_false, ↓reduceIte, hn_lt, hn_le, hn_eq, ne_1, ne_m, lt_t, lt_f, le_t, le_f, eq_t, eq_f, Nat.not_lt_zero, false_or, or_false, or_self, false_and, and_false, true_and, and_true, not_true, not_false_iff, e]
    simp only [F_X4_states, Option.bind_some, h72]
    rw [if_pos (nI_lt hi (by omega)), ei]
    simp only [Option.bind_some]
    rw [px_last hw hP hi]
    simp only [Option.bind_some]
    by_cases he : g i = nI (bl S q (rd S q) i)
    · rw [if_pos he, nI_1]
      simp only [he, decide_true, Bool.true_and]
      exact ih
    · rw [if_neg he]
      simp only [he, decide_false, Bool.false_and, Bool.false_eq_true, if_false]
      rfl
def cft : List Nat := [13, 14, 15, 37, 38, 39, 41, 42, 43, 44, 45, 46, 47, 48, 49, 50, 51, 52]
theorem fr_ft {m m' : pj_M} {q : Nat} (hq : q < 4) (h : fr [41 + 3 * q, 41 + 3 * q + 1, 41 + 3 * q + 2] m m') : fr cft m m' := by
  refine h.mono (fun a ha => ?_)
  have : a = 41 + 3 * q ∨ a = 41 + 3 * q + 1 ∨ a = 41 + 3 * q + 2 := by simpa using ha
  have hq' : q = 0 ∨ q = 1 ∨ q = 2 ∨ q = 3 := by omega
  rcases hq' with rfl | rfl | rfl | rfl <;> rcases this with rfl | rfl | rfl <;> decide
theorem sn_miss {x : Int32} {v : Nat} {V : Prop} (h : sn x v V) {v' : Nat} (hv : v < v') (hb : v' < 2 ^ 31) : ¬ x = nI v' := by
  rcases h with h | ⟨w, h1, h2, h3⟩
  · rw [h]
    exact fun e => nn1 hb e.symm
  · rw [h2]
    exact fun e => by have := hn_inj (by omega) hb e; omega
/-- one choice is tried -/
theorem px_try {m : pj_M} {q j w i r v : Nat} {S : sy} {g : Nat → Int32} (hw : wfS S) (hq : q < 3) (hj : j < S.2.2.1) (hw3 : w < 3) (h0 : w = 0 → i < 4) (h1 : w ≠ 0 → i < S.1) (hr : r < 8) (hn : XN m 7 S) (hit : ∀ i, i < S.1 → m.1 4 (40 * r + i) = g i) (hJ : XJ m v) (hv : v + 2 < 2 ^ 31) : ∃ m1 m2 m3, F_X4_takeOver 13 7 m = some m1 ∧ F_X4_setArcPart 13 (nI j) (nI w) (nI i) m1 = some m2 ∧ F_X1_parting 36 13 (nI q) m2 = some (41 + 3 * q, m3) ∧ F_X10_tellsBlocks (nI r) (41 + 3 * q) m3 = some (nI (if tbk (parS S j w i) q g then 1 else 0), m3) ∧ fr cft m m3 ∧ XJ m3 (v + 2) := by
  have w2 := hw.2.1
  obtain ⟨j1, j2, j3⟩ := hJ
  obtain ⟨m1, g1, g2, g3, g4⟩ := px_takeOver (a := 13) (b := 7) hw hn (by decide)
  rw [j1, nI_1] at g4
  have p := px_setPart (b := 13) (j := j) (w := w) (x := i) (v := v + 1) (m := m1) (by omega) hw3 g4
  have hwP := parS_wf hw (j := j) (w := w) (v := i) h0 h1
  obtain ⟨n1, n2, n3, n4⟩ := g3
  have hn2 : XN (pj_wr (pj_wr m1 (13 + 2) (20 * w + j) (nI i)) 13 4 (nI (v + 1 + 1))) 13 (parS S j w i) := by
    refine ⟨?_, ?_, fun s hs => ?_, fun a ha u hu => ?_⟩
    · rw [hr_wrk (by decide), hr_wra (by decide)]
      exact n1
    · rw [hr_wrk (by decide), hr_wra (by decide)]
      exact n2
    · rw [hr_wra (by decide), hr_wra (by decide)]
      exact n3 s hs
    · have ha : a < S.2.2.1 := ha
      show _ = nI (if a = j ∧ u = w then i else S.2.2.2 a u)
      rw [hr_wra (by decide), hr_wr]
      by_cases he : a = j ∧ u = w
      · rw [if_pos (show 13 + 2 = 13 + 2 ∧ 20 * u + a = 20 * w + j by omega), if_pos he]
      · rw [if_neg (show ¬ (13 + 2 = 13 + 2 ∧ 20 * u + a = 20 * w + j) by omega), if_neg he]
        exact n4 a ha u hu
  have f1 : fr [13, 14, 15] m (pj_wr (pj_wr m1 (13 + 2) (20 * w + j) (nI i)) 13 4 (nI (v + 1 + 1))) := (g2.tr (fr.wr _ _ (by simp) _ _)).tr (fr.wr _ _ (by simp) _ _)
  have e4 : (pj_wr (pj_wr m1 (13 + 2) (20 * w + j) (nI i)) 13 4 (nI (v + 1 + 1))).1 13 4 = nI (v + 2) := hr_wrs _ _ _ _
  obtain ⟨m3, a1, a2, a3, a4, a5⟩ := px_follow (b := 37) (nb := 13) hwP hn2 (by decide) (by
    rw [e4, f1.at 37 rfl]
    exact sn_miss j2 (by omega) hv)
  have hn3 : XN m3 13 (parS S j w i) := hn2.keep (a2.at 13 rfl) (a2.at 14 rfl) (a2.at 15 rfl)
  have e43 : m3.1 13 4 = nI (v + 2) := by rw [a2.at 13 rfl]; exact e4
  have eP : m3.1 (41 + 3 * q) = m.1 (41 + 3 * q) := (a2 (41 + 3 * q) (by simp; omega)).1.trans (f1 (41 + 3 * q) (by simp; omega)).1
  obtain ⟨b1, b2⟩ := j3 q (by omega)
  obtain ⟨m4, c1, c2, c3, c4⟩ := px_pfollow (P := 41 + 3 * q) (nb := 13) (T := 37) (q := q) hwP (by omega) (by omega) (by omega) hn3 (by rw [eP]; exact b1) a4 a5 (by
    rw [e43, eP]
    exact sn_miss b2 (by omega) hv)
  have fA : fr cft m m4 := ((f1.mono (by decide)).tr (a2.mono (by decide))).tr (fr_ft (by omega) c2)
  refine ⟨m1, _, m4, g1, p, ?_, ?_, fA, ?_, ?_, fun q' hq' => ?_⟩
  · unfold F_X1_parting
    have a1 : F_X7_follow (36 + 1) 13 (pj_wr (pj_wr m1 (13 + 2) (20 * w + j) (nI i)) 13 4 (nI (v + 1 + 1))) = some m3 := a1
    rw [a1]
    simp only [Option.bind_some]
    rw [if_neg (hn_in (show q < 4 by omega) (by decide)), hn_cl (by omega)]
    have c1 : F_X5_follow (36 + 4 + 1 + 3 * q) 13 (36 + 1) m3 = some m4 := c1
    rw [c1]
    simp only [Option.bind_some]
    rw [if_neg (hn_in' (show q < 4 by omega) (by omega))]
  · refine px_tells (S := parS S j w i) hwP c3 hr ?_ (fun i hi => ?_)
    · rw [fA.at 7 (by decide)]
      exact hn.1
    · rw [fA.at 4 (by decide)]
      exact hit i hi
  · rw [(c2 13 (by simp; omega)).1]
    exact e43
  · rw [(c2 37 (by simp; omega)).1, a3, e4]
    exact sn.new trivial
  · by_cases hqq : q' = q
    · rw [hqq]
      refine ⟨c3.1, ?_⟩
      rw [c4, e43]
      exact sn.new trivial
    · have e : m4.1 (41 + 3 * q') = m.1 (41 + 3 * q') := (c2 (41 + 3 * q') (by simp; omega)).1.trans ((a2 (41 + 3 * q') (by simp; omega)).1.trans (f1 (41 + 3 * q') (by simp; omega)).1)
      rw [e]
      exact ⟨(j3 q' hq').1, (j3 q' hq').2.old (by omega)⟩
theorem hx_fits {q j w r ch : Nat} {S : sy} {g : Nat → Int32} (hw : wfS S) (hq : q < 3) (hj : j < S.2.2.1) (hw3 : w < 3) (h0 : w = 0 → ch = 4) (h1 : w ≠ 0 → ch = S.1) (hr : r < 8) (m : pj_M) (hn : XN m 7 S) (hit : ∀ i, i < S.1 → m.1 4 (40 * r + i) = g i) (v : Nat) (hJ : XJ m v) (hv : v + 100 < 2 ^ 31) : ∃ m' v', H_X10_fits_105 pj_z (nI q) (nI j) (nI r) (nI w) (nI ch) 0 0 m = some (nI (st (fun i => tbk (parS S j w i) q g) ch), pj_wr m' 0 13 0) ∧ fr cft m m' ∧ XJ m' v' ∧ v' ≤ v + 100 := by
  have w1 := hw.1
  have hch : ch ≤ 10 := by
    by_cases hw0 : w = 0
    · rw [h0 hw0]
      decide
    · rw [h1 hw0]
      exact w1
  refine lp0 (P := fun z i => ∀ (m : pj_M) (v1 : Nat), XN m 7 S → (∀ i, i < S.1 → m.1 4 (40 * r + i) = g i) → XJ m v1 → v1 ≤ v + 2 * i → ∃ m' v', H_X10_fits_105 z (nI q) (nI j) (nI r) (nI w) (nI ch) (nI (st (fun i => tbk (parS S j w i) q g) i)) (nI i) m = some (nI (st (fun i => tbk (parS S j w i) q g) ch), pj_wr m' 0 13 0) ∧ fr cft m m' ∧ XJ m' v' ∧ v' ≤ v + 100) ch (by omega) ?_ ?_ m v hn hit hJ (by omega)
  · intro z m v1 hn hit hJ hv1
    refine ⟨m, v1, ?_, fr.rf _ _, hJ, by omega⟩
    rw [H_X10_fits_105, if_neg (nI_nlt (Nat.le_refl _) (by omega)), bind_id]
    rfl
  · intro z i hi ih m v1 hn hit hJ hv1
    obtain ⟨m1, m2, m3, g1, g2, g3, g4, g5, g6⟩ := px_try (i := i) (g := g) hw hq hj hw3 (fun h => by rw [h0 h] at hi; exact hi) (fun h => by rw [h1 h] at hi; exact hi) hr hn hit hJ (by omega)
    obtain ⟨m', v', a1, a2, a3, a4⟩ := ih m3 (v1 + 2) (hn.keep (g5.at 7 (by decide)) (g5.at 8 (by decide)) (g5.at 9 (by decide))) (fun i hi => by rw [g5.at 4 (by decide)]; exact hit i hi) g6 (by omega)
    refine ⟨m', v', ?_, g5.tr a2, a3, a4⟩
    rw [H_X10_fits_105, if_pos (nI_lt hi (by omega)), g1]
    simp only [Option.bind_some]
    rw [g2]
    simp only [Option.bind_some]
    rw [g3]
    simp only [Option.bind_some]
    rw [g4]
    simp only [Option.bind_some]
    rw [nI_1]
    cases ht : tbk (parS S j w i) q g with
    | true =>
      simp only [st, ht, if_true] at a1 ⊢
      rw [if_neg (show ¬ nI 1 = 0 by decide), hn_shl1 i (by omega), hn_or]
      exact a1
    | false =>
      simp only [st, ht, Bool.false_eq_true, if_false, Nat.or_zero] at a1 ⊢
      rw [if_pos (show nI 0 = 0 from rfl)]
      exact a1
theorem hm_is148 {m : pj_M} {q r : Nat} {S : sy} {g : Nat → Int32} (hw : wfS S) (hl : LK m S) (hP : PB m S q) (hr : r < 8) (hit : ∀ i, i < S.1 → m.1 75 (40 * r + i) = g i) {x1 x2 x4 x5 x6 : Int32} {K : Int32 → Int32 → Int32 → Int32 → Int32 → Int32 → pj_M → Option (Int32 × pj_M)} : ∀ z i, i ≤ S.1 → S.1 - i < z → ∀ b : Bool, H_X11_fits_148 K z x1 x2 (nI r) x4 x5 x6 (nI (if b then 1 else 0)) (nI i) m = J_X11_fits_200 K x1 x2 (nI r) x4 x5 x6 (nI (if (b && alj (fun s => decide (g s = nI (bl S q (rd S q) s))) S.1 (S.1 - i)) then 1 else 0)) m := by
  have w1 := hw.1
  have h83 := hl.1.1
  refine lp ?_ ?_
  · intro z b
    rw [H_X11_fits_148, mx_states, h83, Nat.sub_self]
    simp only [Option.bind_some, alj, Bool.and_true]
    rw [if_neg (nI_nlt (Nat.le_refl _) (by omega))]
  · intro z i hi ih b
    rw [H_X11_fits_148, mx_states, h83, alj_step hi]
    simp only [Option.bind_some]
    rw [if_pos (nI_lt hi (by omega)), nI_1]
    have i1 := ih true
    have i0 := ih false
    simp only [Bool.true_and, Bool.false_and, if_true, Bool.false_eq_true, if_false] at i1 i0
    cases b with
    | false =>
      simp only [Bool.false_and, Bool.false_eq_true, if_false]
      rw [if_pos (show nI 0 = 0 from rfl)]
      exact i0
    | true =>
      simp only [Bool.true_and, if_true]
      rw [if_neg (show ¬ nI 1 = 0 by decide), hP.1, pm_last hw hP hi]
      simp only [Option.bind_some]
      rw [show (40 : Int32) * nI r + nI i = nI (40 * r + i) by rw [l40, hn_mul, hn_add], if_neg (hn_in (by omega) (by decide)), hn_cl (by omega), hit i hi]
      by_cases he : g i = nI (bl S q (rd S q) i)
      · rw [if_pos he.symm]
        simp only [he, decide_true, Bool.true_and]
        exact i1
      · rw [if_neg (fun e => he e.symm)]
        simp only [he, decide_false, Bool.false_and, Bool.false_eq_true, if_false]
        exact i0
theorem hm_fits {q j w r ch : Nat} {S : sy} {g : Nat → Int32} (hw : wfS S) (hq : q < 3) (hj : j < S.2.2.1) (hw3 : w < 3) (h0 : w = 0 → ch = 4) (h1 : w ≠ 0 → ch = S.1) (hr : r < 8) (m : pj_M) (hm : MN m 78 0 S) (hit : ∀ i, i < S.1 → m.1 75 (40 * r + i) = g i) : ∃ m', H_X11_fits_78 pj_z (nI q) (nI j) (nI r) (nI w) 0 0 m = some (nI (st (fun i => tbk (parS S j w i) q g) ch), pj_wr m' 72 4 0) ∧ fk cms pms m m' := by
  have w1 := hw.1
  have w2 := hw.2.1
  have hch : ch ≤ 10 := by
    by_cases hw0 : w = 0
    · rw [h0 hw0]
      decide
    · rw [h1 hw0]
      exact w1
  -- the head of the loop
  have head : ∀ (z : Nat) (acc : Int32) (i : Nat) (m : pj_M), MN m 78 0 S → H_X11_fits_78 (z + 1) (nI q) (nI j) (nI r) (nI w) acc (nI i) m = J_X11_fits_95 (H_X11_fits_78 z) (nI q) (nI j) (nI r) (nI w) acc (nI i) (nI i) (nI ch) m := by
    intro z acc i m hm
    rw [H_X11_fits_78]
    by_cases hw0 : w = 0
    · rw [if_pos (by rw [hw0]; rfl), h0 hw0]
      rfl
    · rw [if_neg (nI_ne0 (by omega) (by omega)), if_neg (by decide), c0, hm.1, h1 hw0]
  refine lp0 (P := fun z i => ∀ m : pj_M, MN m 78 0 S → (∀ i, i < S.1 → m.1 75 (40 * r + i) = g i) → ∃ m', H_X11_fits_78 z (nI q) (nI j) (nI r) (nI w) (nI (st (fun i => tbk (parS S j w i) q g) i)) (nI i) m = some (nI (st (fun i => tbk (parS S j w i) q g) ch), pj_wr m' 72 4 0) ∧ fk cms pms m m') ch (by omega) ?_ ?_ m hm hit
  · intro z m hm hit
    refine ⟨m, ?_, fk.rf _ _ _⟩
    rw [head z _ _ m hm]
    unfold J_X11_fits_95
    rw [if_neg (nI_nlt (Nat.le_refl _) (by omega)), bind_id]
    rfl
  · intro z i hi ih m hm hit
    have hwP := parS_wf hw (j := j) (w := w) (v := i) (fun h => by rw [h0 h] at hi; exact hi) (fun h => by rw [h1 h] at hi; exact hi)
    obtain ⟨m1, g1, g2, g3⟩ := pm_copies (n0 := 72) (A := 78) (o := 0) (n2 := 72) (B := 79) (p := 0) m (by decide) (by decide) (by decide) (by decide) (by decide)
    have g1 : F_X11_copies 72 78 0 72 79 0 m = some m1 := g1
    obtain ⟨n1, n2, n3, n4⟩ := hm.copy hw g3
    have hmP : MN (pj_wr m1 79 (12 + 3 * j + w) (nI i)) 79 0 (parS S j w i) := by
      refine ⟨?_, ?_, fun s hs => ?_, fun a ha u hu => ?_⟩
      · rw [hr_wrk (by omega)]
        exact n1
      · rw [hr_wrk (by omega)]
        exact n2
      · have hs : s < S.1 := hs
        rw [hr_wrk (by omega)]
        exact n3 s hs
      · have ha : a < S.2.2.1 := ha
        show _ = nI (if a = j ∧ u = w then i else S.2.2.2 a u)
        rw [hr_wr]
        by_cases he : a = j ∧ u = w
        · rw [if_pos (show (79 : Nat) = 79 ∧ 0 + 12 + 3 * a + u = 12 + 3 * j + w by omega), if_pos he]
        · rw [if_neg (show ¬ ((79 : Nat) = 79 ∧ 0 + 12 + 3 * a + u = 12 + 3 * j + w) by omega), if_neg he]
          exact n4 a ha u hu
    obtain ⟨m2, a1, a2, a3⟩ := pm_looks (n1 := 72) (A := 79) (o := 0) hwP (by decide) (by decide) (by decide) hmP
    have a1 : F_X11_looks 72 79 0 (pj_wr m1 79 (12 + 3 * j + w) (nI i)) = some m2 := a1
    obtain ⟨m3, b1, b2, b3, b4⟩ := km_parts (q := q) hwP a3 (by omega)
    have fA : fk cms pms m m3 := ((((g2.mono (by decide)).fk _).tr (fk.wr _ (by decide) _ _)).tr ((a2.mono (by decide)).fk _)).tr b2
    have hit3 : ∀ i, i < S.1 → m3.1 75 (40 * r + i) = g i := fun i hi => by
      rw [fA.cells [75] (by decide) 75 (by decide)]
      exact hit i hi
    obtain ⟨m', c1, c2⟩ := ih m3 (hm.keep (fA.cells [78] (by decide) 78 (by decide))) hit3
    refine ⟨m', ?_, fA.tr c2⟩
    have eI : (12 : Int32) + 3 * nI j + nI w = nI (12 + 3 * j + w) := by rw [l12, l3, hn_mul, hn_add, hn_add]
    have e148 := hm_is148 (S := parS S j w i) (q := q) (g := g) hwP b4 b3 hr hit3 (x1 := nI q) (x2 := nI j) (x4 := nI w) (x5 := nI (st (fun i => tbk (parS S j w i) q g) i)) (x6 := nI i) (K := H_X11_fits_78 z) pj_z 0 (Nat.zero_le _) (by have := pj_z_ge; show S.1 - 0 < pj_z; omega) true
    simp only [if_true, Bool.true_and] at e148
    rw [head z _ _ m hm]
    unfold J_X11_fits_95
    rw [if_pos (nI_lt hi (by omega)), g1]
    simp only [Option.bind_some]
    rw [eI, if_neg (hn_in (show 12 + 3 * j + w < 72 by omega) (by decide)), hn_cl (by omega), a1]
    simp only [Option.bind_some]
    rw [b1]
    simp only [Option.bind_some]
    refine Eq.trans e148 ?_
    unfold J_X11_fits_200
    have et : alj (fun s => decide (g s = nI (bl (parS S j w i) q (rd (parS S j w i) q) s))) (parS S j w i).1 ((parS S j w i).1 - 0) = tbk (parS S j w i) q g := rfl
    rw [et, nI_1]
    cases ht : tbk (parS S j w i) q g with
    | true =>
      simp only [st, ht, if_true] at c1 ⊢
      rw [if_neg (show ¬ nI 1 = 0 by decide), hn_shl1 i (by omega), hn_or]
      exact c1
    | false =>
      simp only [st, ht, Bool.false_eq_true, if_false, Nat.or_zero] at c1 ⊢
      rw [if_pos (show nI 0 = 0 from rfl), Int32.or_zero]
      exact c1
