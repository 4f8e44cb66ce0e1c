/-! PART 69: turn, become, undo -/
theorem opg_turn {σ : sg} (hσ : WF σ) {x1 : Int32} (h1 : inb x1 σ.2.2.2.2.1.2.2.1) : OK1 (F_X10_turn x1) (F_X11_turn x1) σ := by
  have hS : wfS σ.2.2.2.2.1 := hσ.2.2.1
  have w1 := hS.1
  have w2 := hS.2.1
  have hA := hσ.2.2.2.1
  obtain ⟨j, hj, rfl⟩ := id h1
  refine ⟨nI (σ.2.2.2.2.1.2.2.2 j 1), _, hσ.net (turS_wf hS hj) (pushA_wf hA hS), fun c m hc h => ?_, fun m h => ?_⟩
  · obtain ⟨h0, ⟨v, hv, hk⟩, hjj⟩ := id h
    have hn : XN m 7 σ.2.2.2.2.1 := h0.2.2.2.2.1
    obtain ⟨m1, g1, g2, g3, g4⟩ := px_turnArc (b := 7) (j := j) (v := v) hn hk.1 w2 hj
    have hXA : XA m1 σ.2.2.2.2.1 σ.2.2.2.2.2.1 := h0.2.2.2.2.2.1.keep (fun a ha => (g2 a (by simp at ha ⊢; omega)).1)
    obtain ⟨m2, a1, a2, a3⟩ := px_note (e0 := 2) (e1 := nI j) (e2 := 0) (e3 := 0) (e4 := 0) (S' := turS σ.2.2.2.2.1 j) hA.1 hXA (Or.inr (Or.inr (Or.inl ⟨rfl, rfl, rfl, fun s hs => rfl, j, hj, rfl, by simp [turS], by simp [turS], by simp [turS], fun a ha hne w hw => by simp [turS, hne]⟩)))
    have fA : fr [7, 8, 9, 17, 18] m m2 := (g2.mono (by simp)).tr (a2.mono (by simp))
    have hn2 : XN m2 7 (turS σ.2.2.2.2.1 j) := g3.keep (a2.at 7 rfl) (a2.at 8 rfl) (a2.at 9 rfl)
    refine ⟨m2, ?_, h.net (v' := 2) fA hn2 a3 (fun v1 hv1 hvc => ⟨?_, by decide, by decide⟩), fA.hi (by decide)⟩
    · have q2 : F_X4_arcPart 7 (nI j) 2 m2 = some (nI (σ.2.2.2.2.1.2.2.2 j 1), m2) := (nx_part (b := 7) (w := 2) (by omega) (by decide)).trans (by
        rw [hn2.2.2.2 j hj 2 (by decide)]
        simp [turS])
      simp only [F_X10_turn, nx_arc_y (by omega) hn.2.1 h1, g1, F_X0_noteTurned, a1, q2, Option.bind_some, ne10, if_false]
    · rw [a2.at 7 rfl, g4, show v1 = v from hn_inj (by omega) (by omega) (hv1.symm.trans hk.1), Nat.add_comm]
  · have hm : MN m 78 0 σ.2.2.2.2.1 := h.2.2.2.2.1
    obtain ⟨m1, g1, g2, g3⟩ := pm_notes hS hA m h.2.2.2.2.2.1 hm
    have hm1 : MN m1 78 0 σ.2.2.2.2.1 := hm.keep (g2.cells [78] (by decide) 78 (by decide))
    obtain ⟨n1, n2, n3, n4⟩ := hm1
    have e1 : m1.1 78 (12 + 3 * j + 1) = nI (σ.2.2.2.2.1.2.2.2 j 1) := by
      have := n4 j hj 1 (by decide)
      rw [Nat.zero_add] at this
      exact this
    have e2 : m1.1 78 (12 + 3 * j + 2) = nI (σ.2.2.2.2.1.2.2.2 j 2) := by
      have := n4 j hj 2 (by decide)
      rw [Nat.zero_add] at this
      exact this
    have fA : fk (78 :: 80 :: cms) ((72, 16) :: pms) m (pj_wr (pj_wr m1 78 (12 + 3 * j + 1) (nI (σ.2.2.2.2.1.2.2.2 j 2))) 78 (12 + 3 * j + 2) (nI (σ.2.2.2.2.1.2.2.2 j 1))) := ((g2.mono (by decide) (by decide)).tr (fk.wr _ (by decide) _ _)).tr (fk.wr _ (by decide) _ _)
    refine ⟨_, ?_, h.net fA ⟨?_, ?_, fun s hs => ?_, fun a ha w hw => ?_⟩ ?_, lo_net fA⟩
    · have b0 : (12 : Int32) + 3 * nI j = nI (12 + 3 * j) := by rw [l12, l3, hn_mul, hn_add]
      have b1 : nI (12 + 3 * j) + 1 = nI (12 + 3 * j + 1) := nI_1 _
      have b2 : nI (12 + 3 * j) + 2 = nI (12 + 3 * j + 2) := hn_add _ 2
      simp only [F_X11_turn, mx_ar_y (m := m) (x := nI j) (n := σ.2.2.2.2.1.2.2.1) (by omega) hm.2.1 h1, g1, b0, b1, b2, hn_cl (show 12 + 3 * j + 1 < 2 ^ 31 by omega), hn_cl (show 12 + 3 * j + 2 < 2 ^ 31 by omega), hn_in' (show 12 + 3 * j + 1 < 72 by omega) (show 12 + 3 * j + 1 < 2 ^ 31 by omega), hn_in' (show 12 + 3 * j + 2 < 72 by omega) (show 12 + 3 * j + 2 < 2 ^ 31 by omega), e1, e2, Option.bind_some, ne10, if_false]
    · rw [hr_wrk (by omega), hr_wrk (by omega)]
      exact n1
    · rw [hr_wrk (by omega), hr_wrk (by omega)]
      exact n2
    · have hs : s < σ.2.2.2.2.1.1 := hs
      rw [hr_wrk (by omega), hr_wrk (by omega)]
      exact n3 s hs
    · have ha : a < σ.2.2.2.2.1.2.2.1 := ha
      show _ = nI (if a = j then (if w = 1 then σ.2.2.2.2.1.2.2.2 j 2 else if w = 2 then σ.2.2.2.2.1.2.2.2 j 1 else σ.2.2.2.2.1.2.2.2 j w) else σ.2.2.2.2.1.2.2.2 a w)
      rw [hr_wr, hr_wr]
      by_cases haj : a = j
      · subst haj
        rw [if_pos (show a = a from rfl)]
        have hw' : w = 0 ∨ w = 1 ∨ w = 2 := by omega
        rcases hw' with rfl | rfl | rfl
        · rw [if_neg (show ¬ ((78 : Nat) = 78 ∧ 0 + 12 + 3 * a + 0 = 12 + 3 * a + 2) by omega), if_neg (show ¬ ((78 : Nat) = 78 ∧ 0 + 12 + 3 * a + 0 = 12 + 3 * a + 1) by omega), if_neg (show ¬ (0 : Nat) = 1 by omega), if_neg (show ¬ (0 : Nat) = 2 by omega)]
          exact n4 a ha 0 hw
        · rw [if_neg (show ¬ ((78 : Nat) = 78 ∧ 0 + 12 + 3 * a + 1 = 12 + 3 * a + 2) by omega), if_pos (show (78 : Nat) = 78 ∧ 0 + 12 + 3 * a + 1 = 12 + 3 * a + 1 by omega), if_pos (show (1 : Nat) = 1 from rfl)]
        · rw [if_pos (show (78 : Nat) = 78 ∧ 0 + 12 + 3 * a + 2 = 12 + 3 * a + 2 by omega), if_neg (show ¬ (2 : Nat) = 1 by omega), if_pos (show (2 : Nat) = 2 from rfl)]
      · rw [if_neg (show ¬ ((78 : Nat) = 78 ∧ 0 + 12 + 3 * a + w = 12 + 3 * j + 2) by omega), if_neg (show ¬ ((78 : Nat) = 78 ∧ 0 + 12 + 3 * a + w = 12 + 3 * j + 1) by omega), if_neg haj]
        exact n4 a ha w hw
    · unfold MA at g3 ⊢
      refine ⟨?_, fun i hi => ?_⟩
      · rw [hr_wra (by decide), hr_wra (by decide)]
        exact g3.1
      · exact ((g3.2 i hi).keep (hr_wra (by decide))).keep (hr_wra (by decide))
theorem op_turn {σ : sg} (hσ : WF σ) (x1 : Int32) : OK1 (F_X10_turn x1) (F_X11_turn x1) σ := by
  have hS : wfS σ.2.2.2.2.1 := hσ.2.2.1
  have w1 := hS.1
  have w2 := hS.2.1
  by_cases h1 : inb x1 σ.2.2.2.2.1.2.2.1
  · exact opg_turn hσ h1
  · refine ok_same hσ (r := -1000001) (fun m h => ?_) (fun m h => ?_)
    · have hn : XN m 7 σ.2.2.2.2.1 := h.2.2.2.2.1
      have e1 : F_X4_hasArc 7 x1 m = some (0, m) := nx_arc_n (by omega) hn.2.1 h1
      simp only [F_X10_turn, e1, Option.bind_some, ne10, if_false, if_true]
    · have hm : MN m 78 0 σ.2.2.2.2.1 := h.2.2.2.2.1
      have e1 : F_X11_isArc x1 m = some (0, m) := mx_ar_n (by omega) hm.2.1 h1
      simp only [F_X11_turn, e1, Option.bind_some, ne10, if_false, if_true]
theorem i32_15 {x : Int32} (h3 : ¬ x < 1) (h4 : ¬ 5 < x) : ∃ n, 1 ≤ n ∧ n ≤ 5 ∧ x = nI n := by
  have e1 : (5 : Int32).toInt = 5 := rfl
  have e2 : (1 : Int32).toInt = 1 := rfl
  rw [Int32.lt_iff_toInt_lt] at h3 h4
  refine ⟨x.toInt.toNat, by omega, by omega, Int32.toInt_inj.mp ?_⟩
  rw [nI_toInt (by omega)]
  omega
theorem ok_become {σ : sg} (hσ : WF σ) (x1 x2 : Int32) : OK1 (F_X10_become x1 x2) (F_X11_become x1 x2) σ := by
  have hS : wfS σ.2.2.2.2.1 := hσ.2.2.1
  have w1 := hS.1
  have w2 := hS.2.1
  have hA := hσ.2.2.2.1
  by_cases h1 : inb x1 σ.2.2.2.2.1.1
  · by_cases h2 : x2 < 1 ∨ 5 < x2
    · have X2 : ∀ m, F_X10_within x2 1 5 m = some (0, m) := fun m => by
        unfold F_X10_within
        by_cases h5 : x2 < 1
        · rw [if_pos h5]
        · rw [if_neg h5, if_pos (h2.resolve_left h5)]
      have M2 : ∀ m, F_X11_in x2 1 5 m = some (0, m) := X2
      refine ok_same hσ (r := -1000001) (fun m h => ?_) (fun m h => ?_)
      · have hn : XN m 7 σ.2.2.2.2.1 := h.2.2.2.2.1
        simp only [F_X10_become, nx_has_y (by omega) hn.1 h1, X2, Option.bind_some, ne10, if_false, if_true]
      · have hm : MN m 78 0 σ.2.2.2.2.1 := h.2.2.2.2.1
        simp only [F_X11_become, mx_st_y (by omega) hm.1 h1, M2, Option.bind_some, ne10, if_false, if_true]
    · have X2 : ∀ m, F_X10_within x2 1 5 m = some (1, m) := fun m => by
        unfold F_X10_within
        rw [if_neg (fun h => h2 (Or.inl h)), if_neg (fun h => h2 (Or.inr h))]
      have M2 : ∀ m, F_X11_in x2 1 5 m = some (1, m) := X2
      obtain ⟨k, hk1, hk5, rfl⟩ := i32_15 (fun h => h2 (Or.inl h)) (fun h => h2 (Or.inr h))
      obtain ⟨s, hs, rfl⟩ := id h1
      have hks := hS.2.2.1 s hs
      have b0 : (2 : Int32) + nI s = nI (2 + s) := by rw [l2, hn_add]
      by_cases hke : σ.2.2.2.2.1.2.1 s = k
      · refine ok_same hσ (r := -1000002) (fun m h => ?_) (fun m h => ?_)
        · have hn : XN m 7 σ.2.2.2.2.1 := h.2.2.2.2.1
          have e3 := nx_kind (m := m) (b := 7) (s := s) (by omega)
          rw [hn.2.2.1 s hs, hke] at e3
          simp only [F_X10_become, nx_has_y (by omega) hn.1 h1, X2, e3, Option.bind_some, ne10, if_false, if_true]
        · have hm : MN m 78 0 σ.2.2.2.2.1 := h.2.2.2.2.1
          have e4 := hm.2.2.1 s hs
          rw [Nat.zero_add, hke] at e4
          simp only [F_X11_become, mx_st_y (by omega) hm.1 h1, M2, b0, hn_cl (show 2 + s < 2 ^ 31 by omega), hn_in' (show 2 + s < 72 by omega) (show 2 + s < 2 ^ 31 by omega), e4, Option.bind_some, ne10, if_false, if_true]
      · have ene : (nI (σ.2.2.2.2.1.2.1 s) = nI k) = False := eq_false (fun e => hke (hn_inj (by omega) (by omega) e))
        refine ⟨nI (σ.2.2.2.2.1.2.1 s), _, hσ.net (kinS_wf hS (s := s) ⟨hk1, hk5⟩) (pushA_wf hA hS), fun c m hc h => ?_, fun m h => ?_⟩
        · obtain ⟨h0, ⟨v, hv, hk⟩, hjj⟩ := id h
          have hn : XN m 7 σ.2.2.2.2.1 := h0.2.2.2.2.1
          have e3 := nx_kind (m := m) (b := 7) (s := s) (by omega)
          rw [hn.2.2.1 s hs] at e3
          obtain ⟨m1, g1, g2, g3, g4⟩ := px_setKind (b := 7) (s := s) (k := k) (v := v) hn hk.1 w1 hs
          have hXA : XA m1 σ.2.2.2.2.1 σ.2.2.2.2.2.1 := h0.2.2.2.2.2.1.keep (fun a ha => (g2 a (by simp at ha ⊢; omega)).1)
          obtain ⟨m2, a1, a2, a3⟩ := px_note (e0 := 3) (e1 := nI s) (e2 := nI (σ.2.2.2.2.1.2.1 s)) (e3 := 0) (e4 := 0) (S' := kinS σ.2.2.2.2.1 s k) hA.1 hXA (Or.inr (Or.inr (Or.inr ⟨rfl, rfl, rfl, ⟨s, hs, rfl, rfl, fun t ht hne => by simp [kinS, hne]⟩, fun a ha w hw => rfl⟩)))
          have fA : fr [7, 8, 9, 17, 18] m m2 := (g2.mono (by simp)).tr (a2.mono (by simp))
          refine ⟨m2, ?_, h.net (v' := 1) fA (g3.keep (a2.at 7 rfl) (a2.at 8 rfl) (a2.at 9 rfl)) a3 (fun v1 hv1 hvc => ⟨?_, by decide, by decide⟩), fA.hi (by decide)⟩
          · simp only [F_X10_become, nx_has_y (by omega) hn.1 h1, X2, e3, ene, g1, F_X0_noteKind, a1, Option.bind_some, ne10, if_false]
          · rw [a2.at 7 rfl, g4, show v1 = v from hn_inj (by omega) (by omega) (hv1.symm.trans hk.1), Nat.add_comm]
        · have hm : MN m 78 0 σ.2.2.2.2.1 := h.2.2.2.2.1
          have e4 := hm.2.2.1 s hs
          rw [Nat.zero_add] at e4
          obtain ⟨m1, g1, g2, g3⟩ := pm_notes hS hA m h.2.2.2.2.2.1 hm
          have hm1 : MN m1 78 0 σ.2.2.2.2.1 := hm.keep (g2.cells [78] (by decide) 78 (by decide))
          obtain ⟨n1, n2, n3, n4⟩ := hm1
          have fA : fk (78 :: 80 :: cms) ((72, 16) :: pms) m (pj_wr m1 78 (2 + s) (nI k)) := (g2.mono (by decide) (by decide)).tr (fk.wr _ (by decide) _ _)
          refine ⟨_, ?_, h.net fA ⟨?_, ?_, fun i hi => ?_, fun a ha w hw => ?_⟩ ?_, lo_net fA⟩
          · simp only [F_X11_become, mx_st_y (by omega) hm.1 h1, M2, b0, hn_cl (show 2 + s < 2 ^ 31 by omega), hn_in' (show 2 + s < 72 by omega) (show 2 + s < 2 ^ 31 by omega), e4, ene, g1, Option.bind_some, ne10, if_false]
          · rw [hr_wrk (by omega)]
            exact n1
          · rw [hr_wrk (by omega)]
            exact n2
          · have hi : i < σ.2.2.2.2.1.1 := hi
            show _ = nI (if i = s then k else σ.2.2.2.2.1.2.1 i)
            rw [hr_wr]
            by_cases his : i = s
            · rw [if_pos (show (78 : Nat) = 78 ∧ 0 + 2 + i = 2 + s by omega), if_pos his]
            · rw [if_neg (show ¬ ((78 : Nat) = 78 ∧ 0 + 2 + i = 2 + s) by omega), if_neg his]
              exact n3 i hi
          · rw [hr_wrk (by omega)]
            exact n4 a ha w hw
          · unfold MA at g3 ⊢
            refine ⟨?_, fun i hi => ?_⟩
            · rw [hr_wra (by decide)]
              exact g3.1
            · exact (g3.2 i hi).keep (hr_wra (by decide))
  · refine ok_same hσ (r := -1000001) (fun m h => ?_) (fun m h => ?_)
    · have hn : XN m 7 σ.2.2.2.2.1 := h.2.2.2.2.1
      simp only [F_X10_become, nx_has_n (by omega) hn.1 h1, Option.bind_some, if_true]
    · have hm : MN m 78 0 σ.2.2.2.2.1 := h.2.2.2.2.1
      simp only [F_X11_become, mx_st_n (by omega) hm.1 h1, Option.bind_some, if_true]
theorem XN.eqv {m : pj_M} {b : Nat} {S S0 : sy} (h : XN m b S) (e1 : S.1 = S0.1) (e2 : S.2.2.1 = S0.2.2.1) (e3 : ∀ s, s < S0.1 → S.2.1 s = S0.2.1 s) (e4 : ∀ a, a < S0.2.2.1 → ∀ w, w < 3 → S.2.2.2 a w = S0.2.2.2 a w) : XN m b S0 := by
  obtain ⟨n1, n2, n3, n4⟩ := h
  refine ⟨by rw [n1, e1], by rw [n2, e2], fun s hs => ?_, fun a ha w hw => ?_⟩
  · rw [n3 s (by omega), e3 s hs]
  · rw [n4 a (by omega) w hw, e4 a ha w hw]
theorem px_undo {n v : Nat} {S S0 : sy} {m : pj_M} (hw : wfS S) (hw0 : wfS S0) (hn0 : 0 < n) (hn20 : n ≤ 20) (h17 : m.1 17 1 = nI n) (hn : XN m 7 S) (h4 : m.1 7 4 = nI v) (hL : LG (fun k => m.1 18 (5 * (n - 1) + k)) S S0) : ∃ m' d, F_X0_undoLatest 7 m = some m' ∧ fr [7, 8, 9, 17] m m' ∧ XN m' 7 S0 ∧ m'.1 17 1 = nI (n - 1) ∧ m'.1 7 4 = nI (d + v) ∧ 0 < d ∧ d ≤ 100 := by
  have w1 := hw.1
  have w2 := hw.2.1
  have e17 : m.1 17 1 - 1 = nI (n - 1) := by rw [h17]; exact hn_sub (b := 1) (by omega)
  have e5 : nI (n - 1) * 5 = nI (5 * (n - 1)) := by rw [l5, hn_mul, Nat.mul_comm]
  have e6 : nI (5 * (n - 1)) + 1 = nI (5 * (n - 1) + 1) := nI_1 _
  have e7 : nI (5 * (n - 1)) + 2 = nI (5 * (n - 1) + 2) := hn_add _ 2
  have e8 : nI (5 * (n - 1)) + 3 = nI (5 * (n - 1) + 3) := hn_add _ 3
  have e9 : nI (5 * (n - 1)) + 4 = nI (5 * (n - 1) + 4) := hn_add _ 4
  have eL : ∀ k, (pj_wr m 17 1 (nI (n - 1))).1 18 k = m.1 18 k := fun k => by rw [hr_wra (by decide)]
  have fA : fr [7, 8, 9, 17] m (pj_wr m 17 1 (nI (n - 1))) := fr.wr _ _ (by simp) _ _
  have hnA : XN (pj_wr m 17 1 (nI (n - 1))) 7 S := hn.keep (hr_wra (by decide)) (hr_wra (by decide)) (hr_wra (by decide))
  have h4A : (pj_wr m 17 1 (nI (n - 1))).1 7 4 = nI v := by rw [hr_wra (by decide)]; exact h4
  have hnz : ¬ nI n = 0 := nI_ne0 hn0 (by omega)
  unfold F_X0_undoLatest
  rw [h17, if_neg hnz]
  rw [h17] at e17
  simp only [e17, hr_wrs, e5, e6, e7, e8, e9, eL, hn_cl (show 5 * (n - 1) < 2 ^ 31 by omega), hn_cl (show 5 * (n - 1) + 1 < 2 ^ 31 by omega), hn_cl (show 5 * (n - 1) + 2 < 2 ^ 31 by omega), hn_cl (show 5 * (n - 1) + 3 < 2 ^ 31 by omega), hn_cl (show 5 * (n - 1) + 4 < 2 ^ 31 by omega), hn_in' (show 5 * (n - 1) < 100 by omega) (show 5 * (n - 1) < 2 ^ 31 by omega), hn_in' (show 5 * (n - 1) + 1 < 100 by omega) (show 5 * (n - 1) + 1 < 2 ^ 31 by omega), hn_in' (show 5 * (n - 1) + 2 < 100 by omega) (show 5 * (n - 1) + 2 < 2 ^ 31 by omega), hn_in' (show 5 * (n - 1) + 3 < 100 by omega) (show 5 * (n - 1) + 3 < 2 ^ 31 by omega), hn_in' (show 5 * (n - 1) + 4 < 100 by omega) (show 5 * (n - 1) + 4 < 2 ^ 31 by omega), if_false]
  have r17 : ∀ m' : pj_M, fr [7, 8, 9] (pj_wr m 17 1 (nI (n - 1))) m' → m'.1 17 1 = nI (n - 1) := fun m' hf => by rw [hf.at 17 rfl, hr_wrs]
  rcases hL with ⟨l0, l1', l2', l3', l4'⟩ | ⟨l0, l1', l2', l3', j, hj, k1, k2, k3, k4, k5, k6⟩ | ⟨l0, l1', l2', l3', j, hj, k1, k2, k3, k4, k5⟩ | ⟨l0, l1', l2', ⟨s, hs, k1, k2, k3⟩, l4'⟩
  · have l0 : m.1 18 (5 * (n - 1)) = nI 0 := l0
    obtain ⟨m1, g1, g2, g3, g4⟩ := px_remove (b := 7) (j := S.2.2.1 - 1) (v := v) hnA h4A w2 (by omega)
    have es : m.1 7 3 - 1 = nI (S.2.2.1 - 1) := by rw [hn.2.1]; exact hn_sub (b := 1) (by omega)
    refine ⟨m1, 1, ?_, fA.tr (g2.mono (by simp)), g3.eqv l1' (by show S.2.2.1 - 1 = S0.2.2.1; omega) (fun s hs => (l3' s (by omega)).symm) (fun a ha w hw => ?_), r17 m1 (g2.mono (by simp)), by rw [g4, Nat.add_comm], by decide, by decide⟩
    · rw [l0, if_pos (show nI 0 = 0 from rfl)]
      simp only [F_X4_arcTotal, Option.bind_some, hr_wra (show (7 : Nat) ≠ 17 by decide), es, g1]
    · show (if a < S.2.2.1 - 1 then S.2.2.2 a w else S.2.2.2 (a + 1) w) = _
      rw [if_pos (by omega), l4' a ha w hw]
  · have l0 : m.1 18 (5 * (n - 1)) = nI 1 := l0
    have hk0 := hw0.2.1
    obtain ⟨m1, g1, g2, g3, g4⟩ := px_insert (b := 7) (j := j) (v := v) (x := fun w => S0.2.2.2 j w) hnA h4A (by omega) (by omega)
    refine ⟨m1, 3, ?_, fA.tr (g2.mono (by simp)), g3.eqv l1' (by show S.2.2.1 + 1 = S0.2.2.1; omega) (fun s hs => (l3' s (by omega)).symm) (fun a ha w hw => ?_), r17 m1 (g2.mono (by simp)), by rw [g4, Nat.add_comm], by decide, by decide⟩
    · rw [l0, if_neg (show ¬ nI 1 = 0 by decide), if_pos (show nI 1 = 1 from rfl)]
      have k1 : m.1 18 (5 * (n - 1) + 1) = nI j := k1
      have k2 : m.1 18 (5 * (n - 1) + 2) = nI (S0.2.2.2 j 0) := k2
      have k3 : m.1 18 (5 * (n - 1) + 3) = nI (S0.2.2.2 j 1) := k3
      have k4 : m.1 18 (5 * (n - 1) + 4) = nI (S0.2.2.2 j 2) := k4
      rw [k1, k2, k3, k4, g1]
      rfl
    · show (if a < j then S.2.2.2 a w else if a = j then S0.2.2.2 j w else S.2.2.2 (a - 1) w) = _
      by_cases hlt : a < j
      · rw [if_pos hlt, k5 a hlt w hw]
      · rw [if_neg hlt]
        by_cases haj : a = j
        · rw [if_pos haj, haj]
        · rw [if_neg haj]
          have := k6 (a - 1) (by omega) (by omega) w hw
          rw [show a - 1 + 1 = a by omega] at this
          exact this.symm
  · have l0 : m.1 18 (5 * (n - 1)) = nI 2 := l0
    obtain ⟨m1, g1, g2, g3, g4⟩ := px_turnArc (b := 7) (j := j) (v := v) hnA h4A w2 hj
    refine ⟨m1, 2, ?_, fA.tr (g2.mono (by simp)), g3.eqv l1' l2'.symm (fun s hs => (l3' s (by omega)).symm) (fun a ha w hw => ?_), r17 m1 (g2.mono (by simp)), by rw [g4, Nat.add_comm], by decide, by decide⟩
    · rw [l0, if_neg (show ¬ nI 2 = 0 by decide), if_neg (show ¬ nI 2 = 1 by decide), if_pos (show nI 2 = 2 from rfl)]
      have k1 : m.1 18 (5 * (n - 1) + 1) = nI j := k1
      rw [k1, g1]
      rfl
    · show (if a = j then (if w = 1 then S.2.2.2 j 2 else if w = 2 then S.2.2.2 j 1 else S.2.2.2 j w) else S.2.2.2 a w) = _
      by_cases haj : a = j
      · subst haj
        rw [if_pos rfl]
        have hw' : w = 0 ∨ w = 1 ∨ w = 2 := by omega
        rcases hw' with rfl | rfl | rfl
        · exact k2.symm
        · exact k3.symm
        · exact k4.symm
      · rw [if_neg haj]
        exact (k5 a (by omega) haj w hw).symm
  · have l0 : m.1 18 (5 * (n - 1)) = nI 3 := l0
    obtain ⟨m1, g1, g2, g3, g4⟩ := px_setKind (b := 7) (s := s) (k := S0.2.1 s) (v := v) hnA h4A w1 hs
    refine ⟨m1, 1, ?_, fA.tr (g2.mono (by simp)), g3.eqv l1' l2'.symm (fun t ht => ?_) (fun a ha w hw => (l4' a (by rw [← l2']; exact ha) w hw).symm), r17 m1 (g2.mono (by simp)), by rw [g4, Nat.add_comm], by decide, by decide⟩
    · rw [l0, if_neg (show ¬ nI 3 = 0 by decide), if_neg (show ¬ nI 3 = 1 by decide), if_neg (show ¬ nI 3 = 2 by decide)]
      have k1 : m.1 18 (5 * (n - 1) + 1) = nI s := k1
      have k2 : m.1 18 (5 * (n - 1) + 2) = nI (S0.2.1 s) := k2
      rw [k1, k2, g1]
      rfl
    · show (if t = s then S0.2.1 s else S.2.1 t) = _
      by_cases hts : t = s
      · rw [if_pos hts, hts]
      · rw [if_neg hts]
        exact (k3 t (by omega) hts).symm
theorem ok_undo {σ : sg} (hσ : WF σ) : OK1 F_X10_undo F_X11_undo σ := by
  have hS : wfS σ.2.2.2.2.1 := hσ.2.2.1
  have hA := hσ.2.2.2.1
  rcases Nat.eq_zero_or_pos σ.2.2.2.2.2.1.1 with h0 | h0
  · refine ok_same hσ (r := -1000002) (fun m h => ?_) (fun m h => ?_)
    · have e : m.1 17 1 = 0 := by rw [h.2.2.2.2.2.1.1, h0]; rfl
      simp only [F_X10_undo, F_X0_size, e, Option.bind_some, if_true]
    · have e : m.1 72 16 = 0 := by rw [h.2.2.2.2.2.1.1, h0]; rfl
      simp only [F_X11_undo, e, if_true]
  · have hS0 := hA.2 (σ.2.2.2.2.2.1.1 - 1) (by omega)
    refine ⟨nI (σ.2.2.2.2.2.1.1 - 1), _, hσ.net (A' := (σ.2.2.2.2.2.1.1 - 1, σ.2.2.2.2.2.1.2)) hS0 ⟨by show σ.2.2.2.2.2.1.1 - 1 ≤ 20; omega, fun i hi => hA.2 i (by have : i < σ.2.2.2.2.2.1.1 - 1 := hi; omega)⟩, fun c m hc h => ?_, fun m h => ?_⟩
    · obtain ⟨h0', ⟨v, hv, hk⟩, hjj⟩ := id h
      have hn : XN m 7 σ.2.2.2.2.1 := h0'.2.2.2.2.1
      obtain ⟨x1, x2⟩ := h0'.2.2.2.2.2.1
      have hLG := x2 (σ.2.2.2.2.2.1.1 - 1) (by omega)
      have ehs : hs σ.2.2.2.2.2.1.1 σ.2.2.2.2.2.1.2 σ.2.2.2.2.1 (σ.2.2.2.2.2.1.1 - 1 + 1) = σ.2.2.2.2.1 := by
        unfold hs
        rw [if_neg (by omega)]
      rw [ehs] at hLG
      obtain ⟨m1, d, g1, g2, g3, g4, g5, g6, g7⟩ := px_undo hS hS0 h0 hA.1 x1 hn hk.1 hLG
      have fA : fr [7, 8, 9, 17, 18] m m1 := g2.mono (by simp)
      refine ⟨m1, ?_, h.net (v' := d) fA g3 ⟨g4, fun i hi => ?_⟩ (fun v1 hv1 hvc => ⟨?_, g6, g7⟩), fA.hi (by decide)⟩
      · have ez : (m.1 17 1 = 0) = False := by rw [x1]; exact eq_false (nI_ne0 h0 (by omega))
        simp only [F_X10_undo, F_X0_size, ez, g1, g4, Option.bind_some, if_false]
      · have hi : i < σ.2.2.2.2.2.1.1 - 1 := hi
        have hh := x2 i (by omega)
        have e : hs σ.2.2.2.2.2.1.1 σ.2.2.2.2.2.1.2 σ.2.2.2.2.1 (i + 1) = hs (σ.2.2.2.2.2.1.1 - 1) σ.2.2.2.2.2.1.2 (σ.2.2.2.2.2.1.2 (σ.2.2.2.2.2.1.1 - 1)) (i + 1) := by
          unfold hs
          rw [if_pos (by omega)]
          by_cases hi1 : i + 1 < σ.2.2.2.2.2.1.1 - 1
          · rw [if_pos hi1]
          · rw [if_neg hi1, show i + 1 = σ.2.2.2.2.2.1.1 - 1 by omega]
        rw [e] at hh
        show LG (fun k => m1.1 18 (5 * i + k)) _ _
        rw [g2.at 18 rfl]
        exact hh
      · rw [g5, show v1 = v from hn_inj (by omega) (by omega) (hv1.symm.trans hk.1)]
    · obtain ⟨y1, y2⟩ := h.2.2.2.2.2.1
      have e1 : m.1 72 16 - 1 = nI (σ.2.2.2.2.2.1.1 - 1) := by rw [y1]; exact hn_sub (b := 1) (by omega)
      have e2 : (72 : Int32) * nI (σ.2.2.2.2.2.1.1 - 1) = nI (72 * (σ.2.2.2.2.2.1.1 - 1)) := by rw [l72, hn_mul]
      obtain ⟨m1, g1, g2, g3⟩ := pm_copies (n0 := 1440) (A := 80) (o := 72 * (σ.2.2.2.2.2.1.1 - 1)) (n2 := 72) (B := 78) (p := 0) (pj_wr m 72 16 (nI (σ.2.2.2.2.2.1.1 - 1))) (by decide) (by omega) (by decide) (by decide) (by decide)
      have g1 : F_X11_copies 1440 80 (nI (72 * (σ.2.2.2.2.2.1.1 - 1))) 72 78 0 (pj_wr m 72 16 (nI (σ.2.2.2.2.2.1.1 - 1))) = some m1 := g1
      have fA : fk (78 :: 80 :: cms) ((72, 16) :: pms) m m1 := (fk.wp _ (by decide) _).tr ((g2.mono (by simp)).fk _)
      have e16 : m1.1 72 16 = nI (σ.2.2.2.2.2.1.1 - 1) := by rw [g2.at 72 rfl, hr_wrs]
      refine ⟨m1, ?_, h.net fA (((y2 _ (by omega)).keep (hr_wra (by decide))).copy hS0 g3) ⟨e16, fun i hi => ?_⟩, lo_net fA⟩
      · have ez : (m.1 72 16 = 0) = False := by rw [y1]; exact eq_false (nI_ne0 h0 (by omega))
        simp only [F_X11_undo, ez, if_false, e1, hr_wrs, e2, g1, e16, Option.bind_some]
      · have hi : i < σ.2.2.2.2.2.1.1 - 1 := hi
        exact ((y2 i (by omega)).keep (hr_wra (by decide))).keep (g2.at 80 rfl)
