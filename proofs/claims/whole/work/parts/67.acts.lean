/-! PART 67: acts: frames, the reference's notes -/
theorem XK.bump {m m' : pj_M} {v v' : Nat} {S S' : sy} (h : XK m v S) (hv : v < v') (h7 : m'.1 7 4 = nI v') (e : ∀ a, (20 ≤ a ∧ a ≤ 35) ∨ (64 ≤ a ∧ a ≤ 71) → m'.1 a = m.1 a) : XK m' v' S' := by
  obtain ⟨k1, k2, k3, k4⟩ := h
  refine ⟨h7, ?_, fun q hq => ?_, fun q hq => ?_⟩
  · rw [e 20 (by omega)]
    exact k2.old hv
  · rw [e (24 + 3 * q) (by omega)]
    exact ⟨(k3 q hq).1, (k3 q hq).2.old hv⟩
  · rw [e (64 + 4 * q) (by omega)]
    exact ⟨(k4 q hq).1, (k4 q hq).2.old hv⟩
/-- X: the net and the acts have changed -/
theorem xR.net {c v' : Nat} {m m' : pj_M} {σ : sg} {S' : sy} {A' : Nat × (Nat → sy)} (h : xR c m σ) (hf : fr [7, 8, 9, 17, 18] m m') (hn : XN m' 7 S') (hA : XA m' S' A') (hv : ∀ v, m.1 7 4 = nI v → v ≤ 100 * c → m'.1 7 4 = nI (v' + v) ∧ 0 < v' ∧ v' ≤ 100) : xR (c + 1) m' (σ.1, σ.2.1, σ.2.2.1, σ.2.2.2.1, S', A', σ.2.2.2.2.2.2) := by
  obtain ⟨⟨h1, h2, h3, h4, h5, h6, h7, h8⟩, ⟨v, hvc, hk⟩, w, hw, hj⟩ := h
  have e : ∀ a, a ∉ [7, 8, 9, 17, 18] → m'.1 a = m.1 a := fun a ha => (hf a ha).1
  obtain ⟨v1, v2, v3⟩ := hv v hk.1 hvc
  refine ⟨⟨h1.keep (fun a ha => e a (by simp at ha ⊢; omega)), ?_, ?_, ?_, hn, hA, h7.keep (fun a ha => e a (by simp at ha ⊢; omega)), ?_⟩, ⟨v' + v, by omega, hk.bump (by omega) v1 (fun a ha => e a (by simp; omega))⟩, w, by omega, hj.keep (fun a ha => e a (by simp; omega))⟩
  · rw [e 0 (by decide)]
    exact h2
  · unfold XT
    rw [e 5 (by decide), e 6 (by decide)]
    exact h3
  · rw [e 0 (by decide)]
    exact h4
  · unfold Xtr
    rw [e 56 (by decide), e 57 (by decide)]
    exact h8
theorem mR.net {m m' : pj_M} {σ : sg} {S' : sy} {A' : Nat × (Nat → sy)} (h : mR m σ) (hf : fk (78 :: 80 :: cms) ((72, 16) :: pms) m m') (hn : MN m' 78 0 S') (hA : MA m' A') : mR m' (σ.1, σ.2.1, σ.2.2.1, σ.2.2.2.1, S', A', σ.2.2.2.2.2.2) := by
  obtain ⟨h1, h2, h3, h4, h5, h6, h7, h8⟩ := h
  have c : ∀ a ∈ [73, 74, 75, 77, 81, 82, 94], m'.1 a = m.1 a := hf.cells _ (by decide)
  have p : ∀ k, k ∈ [4, 6, 7, 32] → m'.1 72 k = m.1 72 k := fun k hk => hf.1 72 k (by decide) (by
    simp only [List.mem_cons, List.not_mem_nil, or_false] at hk
    rcases hk with rfl | rfl | rfl | rfl <;> decide)
  refine ⟨h1.keep (fun a ha => c a (by simp at ha ⊢; omega)), ?_, ?_, ?_, hn, hA, h7.keep (fun a ha => c a (by simp at ha ⊢; omega)), ?_⟩
  · rw [p 4 (by decide)]
    exact h2
  · unfold MT
    rw [p 6 (by decide), c 77 (by decide)]
    exact h3
  · rw [p 7 (by decide)]
    exact h4
  · unfold Mtr
    rw [p 32 (by decide), c 94 (by decide)]
    exact h8
theorem lo_net {m m' : pj_M} (h : fk (78 :: 80 :: cms) ((72, 16) :: pms) m m') : lo m m' := h.lo (by decide) (by decide)
theorem l1368 : (1368 : Int32) = nI 1368 := rfl
theorem hm_shift (m : pj_M) : ∃ m', H_X11_notes_11 pj_z 0 m = J_X11_notes_39 m' ∧ fk [80] [] m m' ∧ ∀ j, m'.1 80 j = if j < 1368 then m.1 80 (j + 72) else m.1 80 j := by
  have key : ∃ m', H_X11_notes_11 pj_z 0 m = J_X11_notes_39 m' ∧ fk [80] [] m m' ∧ ∀ j, m'.1 80 j = if 0 ≤ j ∧ j < 1368 then m.1 80 (j + 72) else m.1 80 j := by
    refine lp0 (P := fun z i => ∀ m, ∃ m', H_X11_notes_11 z (nI i) m = J_X11_notes_39 m' ∧ fk [80] [] m m' ∧ ∀ j, m'.1 80 j = if i ≤ j ∧ j < 1368 then m.1 80 (j + 72) else m.1 80 j) 1368 (by decide) ?_ ?_ m
    · intro z m
      refine ⟨m, ?_, fk.rf _ _ _, fun j => by rw [if_neg (by omega)]⟩
      rw [H_X11_notes_11]
      simp (disch := omega) only [Option.bind_some, ofn, l0, l1, l2, l3, l4, l5, l6, l7, l8, l9, l10, l11, l12, l19, l20, l30, l31, l40, l72, l100, hn_mul, hn_add, hn_sub, hn_or, hn_and, sh_r, sh_l, bt_n, bt_0, bt_1, hn_cl, if_true, if_false, ↓reduceIte, hn_lt, hn_le, hn_eq, ne_1, ne_m, lt_t, lt_f, le_t, le_f, eq_t, eq_f, Nat.not_lt_zero, false_or, or_false, or_self, false_and, and_false, true_and, and_true, not_true, not_false_iff, l1368]
    · intro z i hi ih m
      obtain ⟨m', g1, g2, g3⟩ := ih (pj_wr m 80 i (m.1 80 (i + 72)))
      refine ⟨m', ?_, (fk.wr _ (by decide) _ _).tr g2, fun j => ?_⟩
      · rw [H_X11_notes_11, ← g1]
        simp (disch := omega) only [Option.bind_some, ofn, l0, l1, l2, l3, l4, l5, l6, l7, l8, l9, l10, l11, l12, l19, l20, l30, l31, l40, l72, l100, hn_mul, hn_add, hn_sub, hn_or, hn_and, sh_r, sh_l, bt_n, bt_0, bt_1, hn_cl, if_true, if_false, ↓reduceIte, hn_lt, hn_le, hn_eq, ne_1, ne_m, lt_t, lt_f, le_t, le_f, eq_t, eq_f, Nat.not_lt_zero, false_or, or_false, or_self, false_and, and_false, true_and, and_true, not_true, not_false_iff, l1368]
      · rw [g3 j, hr_wr, hr_wr]
        by_cases hj : j = i
        · subst hj
          rw [if_neg (by omega), if_pos ⟨rfl, rfl⟩, if_pos (by omega)]
        · by_cases h : i + 1 ≤ j ∧ j < 1368
          · rw [if_pos h, if_neg (by omega), if_pos (by omega)]
          · rw [if_neg h, if_neg (by omega), if_neg (by omega)]
  obtain ⟨m', g1, g2, g3⟩ := key
  exact ⟨m', g1, g2, fun j => by
    rw [g3 j]
    by_cases h : j < 1368
    · rw [if_pos ⟨Nat.zero_le _, h⟩, if_pos h]
    · rw [if_neg (fun e => h e.2), if_neg h]⟩
theorem hm_note {n : Nat} {S : sy} (hn : n < 20) (hw : wfS S) (m : pj_M) (h16 : m.1 72 16 = nI n) (hm : MN m 78 0 S) : ∃ m', J_X11_notes_49 m = some m' ∧ fk [80] [(72, 16)] m m' ∧ m'.1 72 16 = nI (n + 1) ∧ MN m' 80 (72 * n) S ∧ ∀ j, j < 72 * n → m'.1 80 j = m.1 80 j := by
  obtain ⟨m1, g1, g2, g3⟩ := pm_copies (n0 := 72) (A := 78) (o := 0) (n2 := 1440) (B := 80) (p := 72 * n) m (by decide) (by decide) (by omega) (by decide) (by decide)
  refine ⟨pj_wr m1 72 16 (nI (n + 1)), ?_, (g2.fk _).tr (fk.wp _ (by decide) _), hr_wrs _ _ _ _, (hm.copy hw g3).keep (hr_wra (by decide)), fun j hj => ?_⟩
  · unfold J_X11_notes_49
    have e : (72 : Int32) * nI n = nI (72 * n) := by rw [l72, hn_mul]
    have g1 : F_X11_copies 72 78 0 1440 80 (nI (72 * n)) m = some m1 := g1
    rw [h16, e, g1]
    simp only [Option.bind_some]
    rw [g2.at 72 rfl, h16, nI_1]
  · rw [hr_wra (by decide), g3, if_neg (by omega)]
theorem MN.place {m m' : pj_M} {A o o' : Nat} {S : sy} (hw : wfS S) (h : MN m A o S) (e : ∀ k, k < 72 → m'.1 A (o' + k) = m.1 A (o + k)) : MN m' A o' S := by
  obtain ⟨w1, w2, -, -⟩ := hw
  obtain ⟨h1, h2, h3, h4⟩ := h
  refine ⟨?_, ?_, fun s hs => ?_, fun a ha w hw => ?_⟩
  · have := e 0 (by decide)
    rw [Nat.add_zero, Nat.add_zero] at this
    rw [this]
    exact h1
  · rw [e 1 (by decide)]
    exact h2
  · rw [Nat.add_assoc, e (2 + s) (by omega), ← Nat.add_assoc]
    exact h3 s hs
  · rw [show o' + 12 + 3 * a + w = o' + (12 + 3 * a + w) by omega, e (12 + 3 * a + w) (by omega), show o + (12 + 3 * a + w) = o + 12 + 3 * a + w by omega]
    exact h4 a ha w hw
theorem pm_notes {S : sy} {A : Nat × (Nat → sy)} (hw : wfS S) (hA20 : A.1 ≤ 20 ∧ ∀ i, i < A.1 → wfS (A.2 i)) (m : pj_M) (hA : MA m A) (hm : MN m 78 0 S) : ∃ m', F_X11_notes m = some m' ∧ fk [80] [(72, 16)] m m' ∧ MA m' (pushA A S) := by
  obtain ⟨h1, h2⟩ := hA
  by_cases h20 : A.1 = 20
  · obtain ⟨m1, g1, g2, g3⟩ := hm_shift m
    have e16 : m1.1 72 16 = nI 20 := by rw [g2.1 72 16 (by decide) (by decide), h1, h20]
    obtain ⟨m', a1, a2, a3, a4, a5⟩ := hm_note (n := 19) (by decide) hw (pj_wr m1 72 16 (nI 19)) (hr_wrs _ _ _ _) ((hm.keep (g2.cells [78] (by decide) 78 (by decide))).keep (hr_wra (by decide)))
    refine ⟨m', ?_, ((g2.mono (by decide) (by decide)).tr (fk.wp _ (by decide) _)).tr a2, ?_, fun i hi => ?_⟩
    · unfold F_X11_notes
      rw [h1, h20, if_pos (show nI 20 = 20 from rfl), g1]
      unfold J_X11_notes_39
      rw [e16, show nI 20 - 1 = nI 19 from rfl]
      exact a1
    · rw [a3]
      unfold pushA
      rw [if_pos h20]
    · have eA : pushA A S = (20, fun i => if i = 19 then S else A.2 (i + 1)) := by unfold pushA; rw [if_pos h20]
      rw [eA] at hi ⊢
      have hi : i < 20 := hi
      show MN m' 80 (72 * i) (if i = 19 then S else A.2 (i + 1))
      by_cases hi9 : i = 19
      · subst hi9
        rw [if_pos rfl]
        exact a4
      · rw [if_neg hi9]
        refine (h2 (i + 1) (by omega)).place (hA20.2 _ (by omega)) (fun k hk => ?_)
        rw [a5 _ (by omega), hr_wra (by decide), g3, if_pos (by omega), show 72 * i + k + 72 = 72 * (i + 1) + k by omega]
  · obtain ⟨m', a1, a2, a3, a4, a5⟩ := hm_note (n := A.1) (by omega) hw m h1 hm
    refine ⟨m', ?_, a2, ?_, fun i hi => ?_⟩
    · unfold F_X11_notes
      rw [h1, if_neg (show ¬ nI A.1 = 20 from fun e => h20 (hn_inj (b := 20) (by omega) (by decide) e))]
      exact a1
    · rw [a3]
      unfold pushA
      rw [if_neg h20]
    · have eA : pushA A S = (A.1 + 1, fun i => if i = A.1 then S else A.2 i) := by unfold pushA; rw [if_neg h20]
      rw [eA] at hi ⊢
      have hi : i < A.1 + 1 := hi
      show MN m' 80 (72 * i) (if i = A.1 then S else A.2 i)
      by_cases hin : i = A.1
      · subst hin
        rw [if_pos rfl]
        exact a4
      · rw [if_neg hin]
        refine (h2 i (by omega)).place (hA20.2 _ (by omega)) (fun k hk => ?_)
        rw [a5 _ (by omega)]
