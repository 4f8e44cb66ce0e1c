/-! PART 53: ask -/
def tl (l : List Int32) : Nat × (Nat → Int32) := (l.length, fun i => l.getD i 0)
/-- X's asker while it answers -/
def AX (m : pj_M) (s p b : Int32) (k : Nat) (l : List Int32) : Prop := m.1 56 1 = nI l.length ∧ (∀ i, i < l.length → m.1 57 i = l.getD i 0) ∧ m.1 56 2 = s ∧ m.1 56 3 = nI k ∧ m.1 56 4 = p ∧ m.1 56 5 = b
theorem l16 : (16 : Int32) = nI 16 := rfl
theorem getD_app {l : List Int32} {x : Int32} {i : Nat} (hi : i < l.length + 1) : (l ++ [x]).getD i 0 = if i = l.length then x else l.getD i 0 := by
  by_cases h : i = l.length
  · rw [if_pos h, List.getD_eq_getElem?_getD, h, List.getElem?_append_right (Nat.le_refl _)]
    simp
  · rw [if_neg h, List.getD_eq_getElem?_getD, List.getElem?_append_left (by omega), List.getD_eq_getElem?_getD]
theorem px_leave {m : pj_M} {s p b x : Int32} {k : Nat} {l : List Int32} (h : AX m s p b k l) (hl : l.length < 16) : ∃ m', F_X2_leave x m = some m' ∧ AX m' s p b k (l ++ [x]) ∧ fr [56, 57] m m' := by
  obtain ⟨h1, h2, h3, h4, h5, h6⟩ := h
  refine ⟨pj_wr (pj_wr m 57 l.length x) 56 1 (nI (l.length + 1)), ?_, ⟨?_, fun i hi => ?_, ?_, ?_, ?_, ?_⟩, (fr.wr _ _ (by simp) _ _).tr (fr.wr _ _ (by simp) _ _)⟩
  · unfold F_X2_leave
    have e : (pj_wr m 57 l.length x).1 56 1 = nI l.length := by rw [hr_wra (by decide), h1]
    simp (disch := omega) only [Option.bind_some, ofn, l0, l1, l2, l3, l4, l5, l6, l7, l8, l9, l10, l11, l12, l19, l20, l30, l31, l40, l72, l100, hn_mul, hn_add, hn_sub, hn_or, hn_and, sh_r, sh_l, bt_n, bt_0, bt_1, hn_cl, if_true, if_false, ↓reduceIte, hn_lt, hn_le, hn_eq, ne_1, ne_m, lt_t, lt_f, le_t, le_f, eq_t, eq_f, Nat.not_lt_zero, false_or, or_false, or_self, false_and, and_false, true_and, and_true, not_true, not_false_iff, h1, l16, e]
  · rw [hr_wrs, List.length_append]
    rfl
  · rw [List.length_append] at hi
    have hi : i < l.length + 1 := hi
    rw [hr_wra (by decide), hr_wr, getD_app hi]
    by_cases he : i = l.length
    · rw [if_pos ⟨rfl, he⟩, if_pos he]
    · rw [if_neg (fun q => he q.2), if_neg he]
      exact h2 i (by omega)
  · rw [hr_wrk (by decide), hr_wra (by decide)]
    exact h3
  · rw [hr_wrk (by decide), hr_wra (by decide)]
    exact h4
  · rw [hr_wrk (by decide), hr_wra (by decide)]
    exact h5
  · rw [hr_wrk (by decide), hr_wra (by decide)]
    exact h6
/-- a body: its number, what it leaves, what it answers -/
def BX (n : Nat) (num : Int32) (d : Nat) (k : Nat) (s p b : Int32) (D : List Int32) (r : Int32) : Prop := ∀ m l, AX m s p b k l → l.length + D.length ≤ 16 → ∃ m', F_X2_body n num (nI d) m = some (r, m') ∧ AX m' s p b k (l ++ D) ∧ fr [56, 57] m m'
theorem n8 {d : Nat} (h : d ≤ 8) : ¬ (8 : Int32) < nI d := nI_nlt (a := 8) (b := d) h (by decide)
theorem bx10 {n d k : Nat} {s p b : Int32} (hd : d ≤ 8) : BX (n + 1) 10 d k s p b [10] p := by
  intro m l h hl
  obtain ⟨m1, g1, g2, g3⟩ := px_leave (x := 10) h (by simp at hl; omega)
  refine ⟨m1, ?_, g2, g3⟩
  rw [F_X2_body, if_neg (n8 hd), g1]
  simp only [Option.bind_some]
  rw [if_pos trivial, g2.2.2.2.2.1]
theorem bx20 {n d k : Nat} {s p b : Int32} (hd : d ≤ 8) : BX (n + 1) 20 d k s p b [20] s := by
  intro m l h hl
  obtain ⟨m1, g1, g2, g3⟩ := px_leave (x := 20) h (by simp at hl; omega)
  refine ⟨m1, ?_, g2, g3⟩
  rw [F_X2_body, if_neg (n8 hd), g1]
  simp only [Option.bind_some]
  rw [if_neg (show ¬ (20 : Int32) = 10 by decide), if_neg (show ¬ (20 : Int32) = 11 by decide), if_neg (show ¬ (20 : Int32) = 12 by decide), if_neg (show ¬ (20 : Int32) = 13 by decide), if_neg (show ¬ (20 : Int32) = 14 by decide), if_neg (show ¬ (20 : Int32) = 15 by decide), if_neg (show ¬ (20 : Int32) = 16 by decide), if_neg (show ¬ (20 : Int32) = 17 by decide), if_neg (show ¬ (20 : Int32) = 18 by decide), if_neg (show ¬ (20 : Int32) = 19 by decide), if_pos trivial, g2.2.2.1]
theorem bx12 {n d k : Nat} {s p b r : Int32} {D : List Int32} (hd : d ≤ 8) (h1 : BX n 11 (d + 1) k s p b D r) : BX (n + 1) 12 d k s p b (12 :: D) (0 - r) := by
  intro m l h hl
  obtain ⟨m1, g1, g2, g3⟩ := px_leave (x := 12) h (by simp at hl; omega)
  obtain ⟨m2, k1, k2, k3⟩ := h1 m1 _ g2 (by simp at hl ⊢; omega)
  refine ⟨m2, ?_, ?_, g3.tr k3⟩
  · rw [F_X2_body, if_neg (n8 hd), g1]
    simp only [Option.bind_some]
    rw [if_neg (show ¬ (12 : Int32) = 10 by decide), if_neg (show ¬ (12 : Int32) = 11 by decide), if_pos trivial, nI_1, k1]
    simp only [Option.bind_some]
    skip
  · rw [List.append_assoc] at k2
    exact k2
theorem bx13 {n d k : Nat} {s p b r : Int32} {D : List Int32} (hd : d ≤ 8) (h1 : BX n 10 (d + 1) k s p b D r) : BX (n + 1) 13 d k s p b (13 :: D) (r - 100) := by
  intro m l h hl
  obtain ⟨m1, g1, g2, g3⟩ := px_leave (x := 13) h (by simp at hl; omega)
  obtain ⟨m2, k1, k2, k3⟩ := h1 m1 _ g2 (by simp at hl ⊢; omega)
  refine ⟨m2, ?_, ?_, g3.tr k3⟩
  · rw [F_X2_body, if_neg (n8 hd), g1]
    simp only [Option.bind_some]
    rw [if_neg (show ¬ (13 : Int32) = 10 by decide), if_neg (show ¬ (13 : Int32) = 11 by decide), if_neg (show ¬ (13 : Int32) = 12 by decide), if_pos trivial, nI_1, k1]
    simp only [Option.bind_some]
    skip
  · rw [List.append_assoc] at k2
    exact k2
theorem bx14 {n d k : Nat} {s p b r : Int32} {D : List Int32} (hd : d ≤ 8) (h1 : BX n 13 (d + 1) k s p b D r) : BX (n + 1) 14 d k s p b (14 :: D) (r * 2) := by
  intro m l h hl
  obtain ⟨m1, g1, g2, g3⟩ := px_leave (x := 14) h (by simp at hl; omega)
  obtain ⟨m2, k1, k2, k3⟩ := h1 m1 _ g2 (by simp at hl ⊢; omega)
  refine ⟨m2, ?_, ?_, g3.tr k3⟩
  · rw [F_X2_body, if_neg (n8 hd), g1]
    simp only [Option.bind_some]
    rw [if_neg (show ¬ (14 : Int32) = 10 by decide), if_neg (show ¬ (14 : Int32) = 11 by decide), if_neg (show ¬ (14 : Int32) = 12 by decide), if_neg (show ¬ (14 : Int32) = 13 by decide), if_pos trivial, nI_1, k1]
    simp only [Option.bind_some]
    skip
  · rw [List.append_assoc] at k2
    exact k2
theorem bx21 {n d k : Nat} {s p b r : Int32} {D : List Int32} (hd : d ≤ 8) (h1 : BX n 20 (d + 1) k s p b D r) : BX (n + 1) 21 d k s p b (21 :: D) (r + b) := by
  intro m l h hl
  obtain ⟨m1, g1, g2, g3⟩ := px_leave (x := 21) h (by simp at hl; omega)
  obtain ⟨m2, k1, k2, k3⟩ := h1 m1 _ g2 (by simp at hl ⊢; omega)
  refine ⟨m2, ?_, ?_, g3.tr k3⟩
  · rw [F_X2_body, if_neg (n8 hd), g1]
    simp only [Option.bind_some]
    rw [if_neg (show ¬ (21 : Int32) = 10 by decide), if_neg (show ¬ (21 : Int32) = 11 by decide), if_neg (show ¬ (21 : Int32) = 12 by decide), if_neg (show ¬ (21 : Int32) = 13 by decide), if_neg (show ¬ (21 : Int32) = 14 by decide), if_neg (show ¬ (21 : Int32) = 15 by decide), if_neg (show ¬ (21 : Int32) = 16 by decide), if_neg (show ¬ (21 : Int32) = 17 by decide), if_neg (show ¬ (21 : Int32) = 18 by decide), if_neg (show ¬ (21 : Int32) = 19 by decide), if_neg (show ¬ (21 : Int32) = 20 by decide), if_pos trivial, nI_1, k1]
    simp only [Option.bind_some]
    rw [k2.2.2.2.2.2]
  · rw [List.append_assoc] at k2
    exact k2
theorem bx22 {n d k : Nat} {s p b r : Int32} {D : List Int32} (hd : d ≤ 8) (h1 : BX n 21 (d + 1) k s p b D r) : BX (n + 1) 22 d k s p b (22 :: D) (r - 1000) := by
  intro m l h hl
  obtain ⟨m1, g1, g2, g3⟩ := px_leave (x := 22) h (by simp at hl; omega)
  obtain ⟨m2, k1, k2, k3⟩ := h1 m1 _ g2 (by simp at hl ⊢; omega)
  refine ⟨m2, ?_, ?_, g3.tr k3⟩
  · rw [F_X2_body, if_neg (n8 hd), g1]
    simp only [Option.bind_some]
    rw [if_neg (show ¬ (22 : Int32) = 10 by decide), if_neg (show ¬ (22 : Int32) = 11 by decide), if_neg (show ¬ (22 : Int32) = 12 by decide), if_neg (show ¬ (22 : Int32) = 13 by decide), if_neg (show ¬ (22 : Int32) = 14 by decide), if_neg (show ¬ (22 : Int32) = 15 by decide), if_neg (show ¬ (22 : Int32) = 16 by decide), if_neg (show ¬ (22 : Int32) = 17 by decide), if_neg (show ¬ (22 : Int32) = 18 by decide), if_neg (show ¬ (22 : Int32) = 19 by decide), if_neg (show ¬ (22 : Int32) = 20 by decide), if_neg (show ¬ (22 : Int32) = 21 by decide), if_pos trivial, nI_1, k1]
    simp only [Option.bind_some]
    skip
  · rw [List.append_assoc] at k2
    exact k2
theorem bx24 {n d k : Nat} {s p b r : Int32} {D : List Int32} (hd : d ≤ 8) (h1 : BX n 21 (d + 1) k s p b D r) : BX (n + 1) 24 d k s p b (24 :: D) (r * 2) := by
  intro m l h hl
  obtain ⟨m1, g1, g2, g3⟩ := px_leave (x := 24) h (by simp at hl; omega)
  obtain ⟨m2, k1, k2, k3⟩ := h1 m1 _ g2 (by simp at hl ⊢; omega)
  refine ⟨m2, ?_, ?_, g3.tr k3⟩
  · rw [F_X2_body, if_neg (n8 hd), g1]
    simp only [Option.bind_some]
    rw [if_neg (show ¬ (24 : Int32) = 10 by decide), if_neg (show ¬ (24 : Int32) = 11 by decide), if_neg (show ¬ (24 : Int32) = 12 by decide), if_neg (show ¬ (24 : Int32) = 13 by decide), if_neg (show ¬ (24 : Int32) = 14 by decide), if_neg (show ¬ (24 : Int32) = 15 by decide), if_neg (show ¬ (24 : Int32) = 16 by decide), if_neg (show ¬ (24 : Int32) = 17 by decide), if_neg (show ¬ (24 : Int32) = 18 by decide), if_neg (show ¬ (24 : Int32) = 19 by decide), if_neg (show ¬ (24 : Int32) = 20 by decide), if_neg (show ¬ (24 : Int32) = 21 by decide), if_neg (show ¬ (24 : Int32) = 22 by decide), if_neg (show ¬ (24 : Int32) = 23 by decide), if_pos trivial, nI_1, k1]
    simp only [Option.bind_some]
    skip
  · rw [List.append_assoc] at k2
    exact k2
theorem bx11 {n d k : Nat} {s p b r1 r2 x : Int32} {D1 D2 : List Int32} (hd : d ≤ 8) (hx : ∀ m, m.1 56 3 = nI k → F_X2_markBody m = some (x, m)) (h1 : BX n 10 (d + 1) k s p b D1 r1) (h2 : BX n x (d + 1) k s p b D2 r2) : BX (n + 1) 11 d k s p b (11 :: (D1 ++ D2)) (r1 + r2) := by
  intro m l h hl
  obtain ⟨m1, g1, g2, g3⟩ := px_leave (x := 11) h (by simp at hl; omega)
  obtain ⟨m2, k1, k2, k3⟩ := h1 m1 _ g2 (by simp at hl ⊢; omega)
  obtain ⟨m3, j1, j2, j3⟩ := h2 m2 _ k2 (by simp at hl ⊢; omega)
  refine ⟨m3, ?_, ?_, (g3.tr k3).tr j3⟩
  · rw [F_X2_body, if_neg (n8 hd), g1]
    simp only [Option.bind_some]
    rw [if_neg (show ¬ (11 : Int32) = 10 by decide), if_pos trivial, nI_1, k1]
    simp only [Option.bind_some]
    rw [hx m2 k2.2.2.2.1]
    simp only [Option.bind_some]
    rw [j1]
    rfl
  · rw [List.append_assoc, List.append_assoc] at j2
    exact j2
theorem bx23 {n d k : Nat} {s p b r1 r2 x : Int32} {D1 D2 : List Int32} (hd : d ≤ 8) (hx : ∀ m, m.1 56 3 = nI k → F_X2_sizeBody m = some (x, m)) (h1 : BX n 20 (d + 1) k s p b D1 r1) (h2 : BX n x (d + 1) k s p b D2 r2) : BX (n + 1) 23 d k s p b (23 :: (D1 ++ D2)) (r1 - r2) := by
  intro m l h hl
  obtain ⟨m1, g1, g2, g3⟩ := px_leave (x := 23) h (by simp at hl; omega)
  obtain ⟨m2, k1, k2, k3⟩ := h1 m1 _ g2 (by simp at hl ⊢; omega)
  obtain ⟨m3, j1, j2, j3⟩ := h2 m2 _ k2 (by simp at hl ⊢; omega)
  refine ⟨m3, ?_, ?_, (g3.tr k3).tr j3⟩
  · rw [F_X2_body, if_neg (n8 hd), g1]
    simp only [Option.bind_some]
    rw [if_neg (show ¬ (23 : Int32) = 10 by decide), if_neg (show ¬ (23 : Int32) = 11 by decide), if_neg (show ¬ (23 : Int32) = 12 by decide), if_neg (show ¬ (23 : Int32) = 13 by decide), if_neg (show ¬ (23 : Int32) = 14 by decide), if_neg (show ¬ (23 : Int32) = 15 by decide), if_neg (show ¬ (23 : Int32) = 16 by decide), if_neg (show ¬ (23 : Int32) = 17 by decide), if_neg (show ¬ (23 : Int32) = 18 by decide), if_neg (show ¬ (23 : Int32) = 19 by decide), if_neg (show ¬ (23 : Int32) = 20 by decide), if_neg (show ¬ (23 : Int32) = 21 by decide), if_neg (show ¬ (23 : Int32) = 22 by decide), if_pos trivial, nI_1, k1]
    simp only [Option.bind_some]
    rw [hx m2 k2.2.2.2.1]
    simp only [Option.bind_some]
    rw [j1]
    rfl
  · rw [List.append_assoc, List.append_assoc] at j2
    exact j2
theorem xsz {m : pj_M} {k : Nat} (h : m.1 56 3 = nI k) : (k = 1 → F_X2_sizeBody m = some (11, m)) ∧ (k = 2 → F_X2_sizeBody m = some (12, m)) ∧ (k = 3 → F_X2_sizeBody m = some (11, m)) ∧ (k = 4 → F_X2_sizeBody m = some (13, m)) ∧ (k = 5 → F_X2_sizeBody m = some (14, m)) := by
  unfold F_X2_sizeBody
  rw [h]
  refine ⟨?_, ?_, ?_, ?_, ?_⟩ <;> (rintro rfl; simp (disch := omega) only [Option.bind_some, ofn, l0, l1, l2, l3, l4, l5, l6, l7, l8, l9, l10, l11, l12, l19, l20, l30, l31, l40, l72, l100, hn_mul, hn_add, hn_sub, hn_or, hn_and, sh_r, sh_l, bt_n, bt_0, bt_1, hn_cl, if_true, if_false, ↓reduceIte, hn_lt, hn_le, hn_eq, ne_1, ne_m, lt_t, lt_f, le_t, le_f, eq_t, eq_f, Nat.not_lt_zero, false_or, or_false, or_self, false_and, and_false, true_and, and_true, not_true, not_false_iff])
theorem xmk {m : pj_M} {k : Nat} (h : m.1 56 3 = nI k) : (k = 1 → F_X2_markBody m = some (21, m)) ∧ (k = 2 → F_X2_markBody m = some (24, m)) ∧ (k = 3 → F_X2_markBody m = some (22, m)) ∧ (k = 4 → F_X2_markBody m = some (23, m)) ∧ (k = 5 → F_X2_markBody m = some (23, m)) := by
  unfold F_X2_markBody
  rw [h]
  refine ⟨?_, ?_, ?_, ?_, ?_⟩ <;> (rintro rfl; simp (disch := omega) only [Option.bind_some, ofn, l0, l1, l2, l3, l4, l5, l6, l7, l8, l9, l10, l11, l12, l19, l20, l30, l31, l40, l72, l100, hn_mul, hn_add, hn_sub, hn_or, hn_and, sh_r, sh_l, bt_n, bt_0, bt_1, hn_cl, if_true, if_false, ↓reduceIte, hn_lt, hn_le, hn_eq, ne_1, ne_m, lt_t, lt_f, le_t, le_f, eq_t, eq_f, Nat.not_lt_zero, false_or, or_false, or_self, false_and, and_false, true_and, and_true, not_true, not_false_iff])
/-- what is answered, what is left, by kind and ask -/
def aks (k : Nat) (s p b : Int32) (w : Nat) : Int32 × List Int32 := match k, w with
  | 1, 0 => (p + (s + b), [11, 10, 21, 20])
  | 1, _ => (s + b, [21, 20])
  | 2, 0 => (0 - (p + (s + b) * 2), [12, 11, 10, 24, 21, 20])
  | 2, _ => ((s + b) * 2, [24, 21, 20])
  | 3, 0 => (p + (s + b - 1000), [11, 10, 22, 21, 20])
  | 3, _ => (s + b - 1000, [22, 21, 20])
  | 4, 0 => (p - 100, [13, 10])
  | 4, _ => (s - (p - 100), [23, 20, 13, 10])
  | _, 0 => ((p - 100) * 2, [14, 13, 10])
  | _, _ => (s - (p - 100) * 2, [23, 20, 14, 13, 10])
theorem px_answer {k w : Nat} {s p b : Int32} (hk : 1 ≤ k ∧ k ≤ 5) (hw : w < 2) {m : pj_M} (h : AX m s p b k []) : ∃ m', F_X2_answer (nI w) m = some ((aks k s p b w).1, m') ∧ AX m' s p b k (aks k s p b w).2 ∧ fr [56, 57] m m' := by
  have a10 : ∀ n d k, d ≤ 8 → BX (n + 1) 10 d k s p b [10] p := fun n d k hd => bx10 hd
  have a20 : ∀ n d k, d ≤ 8 → BX (n + 1) 20 d k s p b [20] s := fun n d k hd => bx20 hd
  have a21 : ∀ n d k, d ≤ 7 → BX (n + 2) 21 d k s p b [21, 20] (s + b) := fun n d k hd => bx21 (by omega) (a20 n (d + 1) k (by omega))
  have a22 : ∀ n d k, d ≤ 6 → BX (n + 3) 22 d k s p b [22, 21, 20] (s + b - 1000) := fun n d k hd => bx22 (by omega) (a21 n (d + 1) k (by omega))
  have a24 : ∀ n d k, d ≤ 6 → BX (n + 3) 24 d k s p b [24, 21, 20] ((s + b) * 2) := fun n d k hd => bx24 (by omega) (a21 n (d + 1) k (by omega))
  have a13 : ∀ n d k, d ≤ 7 → BX (n + 2) 13 d k s p b [13, 10] (p - 100) := fun n d k hd => bx13 (by omega) (a10 n (d + 1) k (by omega))
  have a14 : ∀ n d k, d ≤ 6 → BX (n + 3) 14 d k s p b [14, 13, 10] ((p - 100) * 2) := fun n d k hd => bx14 (by omega) (a13 n (d + 1) k (by omega))
  have key : ∀ (num : Int32) (D : List Int32) (r : Int32), BX 12 num 0 k s p b D r → D.length ≤ 16 → (w = 0 → F_X2_sizeBody m = some (num, m)) → (¬ w = 0 → F_X2_markBody m = some (num, m)) → ∃ m', F_X2_answer (nI w) m = some (r, m') ∧ AX m' s p b k D ∧ fr [56, 57] m m' := by
    intro num D r hB hD h0 h1
    obtain ⟨m', g1, g2, g3⟩ := hB m [] h (by simpa using hD)
    have g1 : F_X2_body 12 num 0 m = some (r, m') := g1
    refine ⟨m', ?_, by simpa using g2, g3⟩
    unfold F_X2_answer
    by_cases hw0 : w = 0
    · rw [if_pos (by rw [hw0]; rfl), h0 hw0]
      simp only [Option.bind_some]
      rw [g1]
      rfl
    · rw [if_neg (show ¬ nI w = 0 from nI_ne0 (by omega) (by omega)), h1 hw0]
      simp only [Option.bind_some]
      rw [g1]
      rfl
  have hS := xsz h.2.2.2.1
  have hM := xmk h.2.2.2.1
  have hk' : k = 1 ∨ k = 2 ∨ k = 3 ∨ k = 4 ∨ k = 5 := by omega
  have hw' : w = 0 ∨ w = 1 := by omega
  rcases hk' with rfl | rfl | rfl | rfl | rfl
  · rcases hw' with rfl | rfl
    · exact key 11 _ _ (bx11 (by omega) (fun m h => (xmk h).1 rfl) (a10 10 1 _ (by omega)) (a21 9 1 _ (by omega))) (by simp [aks]) (fun _ => hS.1 rfl) (fun h => absurd rfl h)
    · exact key 21 _ _ (a21 10 0 _ (by omega)) (by simp [aks]) (fun h => by omega) (fun _ => hM.1 rfl)
  · rcases hw' with rfl | rfl
    · exact key 12 _ _ (bx12 (by omega) (bx11 (by omega) (fun m h => (xmk h).2.1 rfl) (a10 9 2 _ (by omega)) (a24 7 2 _ (by omega)))) (by simp [aks]) (fun _ => hS.2.1 rfl) (fun h => absurd rfl h)
    · exact key 24 _ _ (a24 9 0 _ (by omega)) (by simp [aks]) (fun h => by omega) (fun _ => hM.2.1 rfl)
  · rcases hw' with rfl | rfl
    · exact key 11 _ _ (bx11 (by omega) (fun m h => (xmk h).2.2.1 rfl) (a10 10 1 _ (by omega)) (a22 8 1 _ (by omega))) (by simp [aks]) (fun _ => hS.2.2.1 rfl) (fun h => absurd rfl h)
    · exact key 22 _ _ (a22 9 0 _ (by omega)) (by simp [aks]) (fun h => by omega) (fun _ => hM.2.2.1 rfl)
  · rcases hw' with rfl | rfl
    · exact key 13 _ _ (a13 10 0 _ (by omega)) (by simp [aks]) (fun _ => hS.2.2.2.1 rfl) (fun h => absurd rfl h)
    · exact key 23 _ _ (bx23 (by omega) (fun m h => (xsz h).2.2.2.1 rfl) (a20 10 1 _ (by omega)) (a13 9 1 _ (by omega))) (by simp [aks]) (fun h => by omega) (fun _ => hM.2.2.2.1 rfl)
  · rcases hw' with rfl | rfl
    · exact key 14 _ _ (a14 9 0 _ (by omega)) (by simp [aks]) (fun _ => hS.2.2.2.2 rfl) (fun h => absurd rfl h)
    · exact key 23 _ _ (bx23 (by omega) (fun m h => (xsz h).2.2.2.2 rfl) (a20 10 1 _ (by omega)) (a14 8 1 _ (by omega))) (by simp [aks]) (fun h => by omega) (fun _ => hM.2.2.2.2 rfl)
