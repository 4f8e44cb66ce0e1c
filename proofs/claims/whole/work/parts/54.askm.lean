/-! PART 54: the reference's ask; the call -/
def cma : List Nat := 94 :: cms
def pma : List (Nat × Nat) := (72, 32) :: pms
def AM (m : pj_M) (S : sy) (l : List Int32) : Prop := m.1 72 32 = nI l.length ∧ (∀ i, i < l.length → m.1 94 i = l.getD i 0) ∧ MN m 78 0 S
theorem AM.keep {m m' : pj_M} {S : sy} {l : List Int32} (h : AM m S l) (hf : fk cms pms m m') : AM m' S l := by
  obtain ⟨h1, h2, h3⟩ := h
  refine ⟨?_, ?_, h3.keep (hf.cells [78] (by decide) 78 (by decide))⟩
  · rw [hf.1 72 32 (by decide) (by decide)]
    exact h1
  · rw [hf.cells [94] (by decide) 94 (by decide)]
    exact h2
theorem pm_traces {m : pj_M} {S : sy} {x : Int32} {l : List Int32} (h : AM m S l) (hl : l.length < 16) : ∃ m', F_X11_traces x m = some m' ∧ AM m' S (l ++ [x]) ∧ fk cma pma m m' := by
  obtain ⟨h1, h2, h3⟩ := h
  refine ⟨pj_wr (pj_wr m 94 l.length x) 72 32 (nI (l.length + 1)), ?_, ⟨?_, fun i hi => ?_, (h3.keep (hr_wra (by decide))).keep (hr_wra (by decide))⟩, (fk.wr _ (by decide) _ _).tr (fk.wp _ (by decide) _)⟩
  · unfold F_X11_traces
    have e : (pj_wr m 94 l.length x).1 72 32 = nI l.length := by rw [hr_wra (by decide), h1]
    simp (disch := omega) only [Option.bind_some, ofn, l0, l1, l2, l3, l4, l5, l6, l7, l8, l9, l10, l11, l12, l19, l20, l30, l31, l40, l72, l100, hn_mul, hn_add, hn_sub, hn_or, hn_and, sh_r, sh_l, bt_n, bt_0, bt_1, hn_cl, if_true, if_false, ↓reduceIte, hn_lt, hn_le, hn_eq, ne_1, ne_m, lt_t, lt_f, le_t, le_f, eq_t, eq_f, Nat.not_lt_zero, false_or, or_false, or_self, false_and, and_false, true_and, and_true, not_true, not_false_iff, h1, l16, e]
  · rw [hr_wrs, List.length_append]
    rfl
  · rw [List.length_append] at hi
    have hi : i < l.length + 1 := hi
    rw [hr_wra (by decide), hr_wr, getD_app hi]
    by_cases he : i = l.length
    · rw [if_pos ⟨rfl, he⟩, if_pos he]
    · rw [if_neg (fun q => he q.2), if_neg he]
      exact h2 i (by omega)
theorem fk_a {m m' : pj_M} (h : fk cms pms m m') : fk cma pma m m' := h.mono (by decide) (by decide)
theorem pm_pairs {m : pj_M} {S : sy} {l : List Int32} (hw : wfS S) (h : AM m S l) {s : Nat} (hs : s < S.1) : ∃ m', F_X11_pairs (nI s) m = some (nI (wy S s), m') ∧ AM m' S l ∧ fk cma pma m m' := by
  obtain ⟨m1, g1, g2, g3⟩ := km_looks hw h.2.2
  refine ⟨m1, ?_, h.keep g2, fk_a g2⟩
  simp only [F_X11_pairs, g1, Option.bind_some, pm_ways hw hs g3]
theorem pm_blockOf {m : pj_M} {S : sy} {l : List Int32} (hw : wfS S) (h : AM m S l) {s : Nat} (hs : s < S.1) : ∃ m', F_X11_blockOf 0 (nI s) m = some (nI (bl S 0 (rd S 0) s), m') ∧ AM m' S l ∧ fk cma pma m m' := by
  obtain ⟨m1, g1, g2, g3⟩ := km_looks hw h.2.2
  obtain ⟨m2, a1, a2, a3, a4⟩ := km_parts (q := 0) hw g3 (by decide)
  have a1 : F_X11_partsBy 0 m1 = some (nI (ct S 0 (rd S 0)), m2) := a1
  refine ⟨m2, ?_, h.keep (g2.tr a2), fk_a (g2.tr a2)⟩
  simp only [F_X11_blockOf, g1, a1, a3.1, Option.bind_some, pm_last hw a3 hs]
/-- a piece of the reference's ask: what it leaves, what it answers -/
def BM (f : pj_M → Option (Int32 × pj_M)) (S : sy) (D : List Int32) (r : Int32) : Prop := ∀ m l, AM m S l → l.length + D.length ≤ 16 → ∃ m', f m = some (r, m') ∧ AM m' S (l ++ D) ∧ fk cma pma m m'
theorem BM.trace {f : pj_M → Option (Int32 × pj_M)} {S : sy} {D : List Int32} {r x : Int32} (h : BM f S D r) : BM (fun m => (F_X11_traces x m).bind f) S (x :: D) r := by
  intro m l hA hl
  obtain ⟨m1, g1, g2, g3⟩ := pm_traces (x := x) hA (by simp at hl; omega)
  obtain ⟨m2, k1, k2, k3⟩ := h m1 _ g2 (by simp at hl ⊢; omega)
  refine ⟨m2, ?_, ?_, g3.tr k3⟩
  · show (F_X11_traces x m).bind f = some (r, m2)
    rw [g1]
    exact k1
  · rw [List.append_assoc] at k2
    exact k2
theorem mm_mark {S : sy} (hw : wfS S) {s : Nat} (hs : s < S.1) (k : Int32) {r : Int32} (hr : (if k = 2 then 2 * (nI s + nI (bl S 0 (rd S 0) s)) else if k = 3 then (nI s + nI (bl S 0 (rd S 0) s)) - 1000 else nI s + nI (bl S 0 (rd S 0) s)) = r) : BM (J_X11_placeMark_27 (nI s) k) S [21, 20] r := by
  have h : BM (fun m => (F_X11_blockOf 0 (nI s) m).bind fun q3 => (if k = 2 then (some (2 * (nI s + q3.1), q3.2)) else (if k = 3 then (some ((nI s + q3.1) - 1000, q3.2)) else (some (nI s + q3.1, q3.2))))) S [] r := by
    intro m l hA hl
    obtain ⟨m1, g1, g2, g3⟩ := pm_blockOf hw hA hs
    refine ⟨m1, ?_, by simpa using g2, g3⟩
    show (F_X11_blockOf 0 (nI s) m).bind _ = _
    rw [g1]
    simp only [Option.bind_some]
    rw [← hr]
    split
    · rfl
    · split <;> rfl
  exact (h.trace (x := 20)).trace (x := 21)
theorem mm_kind {S : sy} (hw : wfS S) {s : Nat} (hs : s < S.1) {m : pj_M} {l : List Int32} (h : AM m S l) : F_X11_kindIn (nI s) m = some (nI (S.2.1 s), m) := by
  have w1 := hw.1
  have e4 := h.2.2.2.2.1 s hs
  rw [Nat.zero_add] at e4
  have e3 := mx_kind (m := m) (s := s) (by omega)
  rw [e4] at e3
  exact e3
theorem BM.kind {f g : pj_M → Option (Int32 × pj_M)} {S : sy} {D : List Int32} {r : Int32} (h : BM g S D r) (e : ∀ m l, AM m S l → f m = g m) : BM f S D r := by
  intro m l hA hl
  rw [e m l hA]
  exact h m l hA hl
theorem mm_pmark {S : sy} (hw : wfS S) {s : Nat} (hs : s < S.1) : (S.2.1 s = 1 → BM (F_X11_placeMark (nI s)) S [21, 20] (nI s + nI (bl S 0 (rd S 0) s))) ∧ (S.2.1 s = 2 → BM (F_X11_placeMark (nI s)) S [24, 21, 20] ((nI s + nI (bl S 0 (rd S 0) s)) * 2)) ∧ (S.2.1 s = 3 → BM (F_X11_placeMark (nI s)) S [22, 21, 20] (nI s + nI (bl S 0 (rd S 0) s) - 1000)) := by
  refine ⟨fun hk => ?_, fun hk => ?_, fun hk => ?_⟩
  · refine (mm_mark hw hs (nI 1) (by rw [if_neg (by decide), if_neg (by decide)])).kind (fun m l hA => ?_)
    unfold F_X11_placeMark
    rw [mm_kind hw hs hA, hk]
    simp only [Option.bind_some]
    rw [if_pos (show nI 1 = 1 from rfl)]
  · refine ((mm_mark hw hs (nI 2) (r := (nI s + nI (bl S 0 (rd S 0) s)) * 2) (by rw [if_pos (by decide), Int32.mul_comm])).trace (x := 24)).kind (fun m l hA => ?_)
    unfold F_X11_placeMark
    rw [mm_kind hw hs hA, hk]
    simp only [Option.bind_some]
    rw [if_neg (show ¬ nI 2 = 1 by decide), if_pos (show nI 2 = 2 from rfl)]
  · refine ((mm_mark hw hs (nI 3) (r := nI s + nI (bl S 0 (rd S 0) s) - 1000) (by rw [if_neg (by decide), if_pos (by decide)])).trace (x := 22)).kind (fun m l hA => ?_)
    unfold F_X11_placeMark
    rw [mm_kind hw hs hA, hk]
    simp only [Option.bind_some]
    rw [if_neg (show ¬ nI 3 = 1 by decide), if_neg (show ¬ nI 3 = 2 by decide)]
theorem mm_dsz {S : sy} (hw : wfS S) {s : Nat} (hs : s < S.1) (t : Int32) {r : Int32} (hr : (if t = 0 then nI (wy S s) - 100 else 2 * (nI (wy S s) - 100)) = r) : BM (J_X11_doorSize_25 (nI s) t) S [13, 10] r := by
  have h : BM (fun m => (F_X11_pairs (nI s) m).bind fun q3 => (if t = 0 then (some (q3.1 - 100, q3.2)) else (some (2 * (q3.1 - 100), q3.2)))) S [] r := by
    intro m l hA hl
    obtain ⟨m1, g1, g2, g3⟩ := pm_pairs hw hA hs
    refine ⟨m1, ?_, by simpa using g2, g3⟩
    show (F_X11_pairs (nI s) m).bind _ = _
    rw [g1]
    simp only [Option.bind_some]
    rw [← hr]
    split <;> rfl
  exact (h.trace (x := 10)).trace (x := 13)
theorem mm_door {S : sy} (hw : wfS S) {s : Nat} (hs : s < S.1) : (S.2.1 s = 4 → BM (F_X11_doorSize (nI s)) S [13, 10] (nI (wy S s) - 100)) ∧ (S.2.1 s = 5 → BM (F_X11_doorSize (nI s)) S [14, 13, 10] ((nI (wy S s) - 100) * 2)) := by
  refine ⟨fun hk => ?_, fun hk => ?_⟩
  · refine (mm_dsz hw hs 0 (by rw [if_pos rfl])).kind (fun m l hA => ?_)
    unfold F_X11_doorSize
    rw [mm_kind hw hs hA, hk]
    simp only [Option.bind_some]
    rw [if_neg (show ¬ nI 4 = 5 by decide)]
    simp only [if_true]
  · refine ((mm_dsz hw hs 1 (r := (nI (wy S s) - 100) * 2) (by rw [if_neg ne10, Int32.mul_comm])).trace (x := 14)).kind (fun m l hA => ?_)
    unfold F_X11_doorSize
    rw [mm_kind hw hs hA, hk]
    simp only [Option.bind_some]
    rw [if_pos (show nI 5 = 5 from rfl), if_neg ne10]
theorem mm_psz {S : sy} (hw : wfS S) {s : Nat} (hs : s < S.1) (t : Int32) {D : List Int32} {r r2 : Int32} (h2 : BM (F_X11_placeMark (nI s)) S D r2) (hr : (if t = 0 then nI (wy S s) + r2 else -(nI (wy S s) + r2)) = r) : BM (J_X11_placeSize_25 (nI s) t) S (11 :: 10 :: D) r := by
  have h : BM (fun m => (F_X11_pairs (nI s) m).bind fun q3 => ((F_X11_placeMark (nI s) q3.2).bind fun q4 => (if t = 0 then (some (q3.1 + q4.1, q4.2)) else (some (-(q3.1 + q4.1), q4.2))))) S D r := by
    intro m l hA hl
    obtain ⟨m1, g1, g2, g3⟩ := pm_pairs hw hA hs
    obtain ⟨m2, k1, k2, k3⟩ := h2 m1 l g2 hl
    refine ⟨m2, ?_, k2, g3.tr k3⟩
    show (F_X11_pairs (nI s) m).bind _ = _
    rw [g1]
    simp only [Option.bind_some]
    rw [k1]
    simp only [Option.bind_some]
    rw [← hr]
    split <;> rfl
  exact (h.trace (x := 10)).trace (x := 11)
theorem mm_ask {S : sy} (hw : wfS S) {s w : Nat} (hs : s < S.1) (hw2 : w < 2) : BM (fun m => (F_X11_kindIn (nI s) m).bind fun q3 => (if q3.1 < 4 then (J_X11_ask_39 (nI s) (nI w) 0 q3.2) else (J_X11_ask_39 (nI s) (nI w) 1 q3.2))) S (aks (S.2.1 s) (nI s) (nI (wy S s)) (nI (bl S 0 (rd S 0) s)) w).2 (aks (S.2.1 s) (nI s) (nI (wy S s)) (nI (bl S 0 (rd S 0) s)) w).1 := by
  have hk := hw.2.2.1 s hs
  have hk' : S.2.1 s = 1 ∨ S.2.1 s = 2 ∨ S.2.1 s = 3 ∨ S.2.1 s = 4 ∨ S.2.1 s = 5 := by omega
  have hw' : w = 0 ∨ w = 1 := by omega
  have ePlace : ∀ m l, AM m S l → S.2.1 s < 4 → ((F_X11_kindIn (nI s) m).bind fun q3 => (if q3.1 < 4 then (J_X11_ask_39 (nI s) (nI w) 0 q3.2) else (J_X11_ask_39 (nI s) (nI w) 1 q3.2))) = if w = 0 then F_X11_placeSize (nI s) m else F_X11_placeMark (nI s) m := by
    intro m l hA h4
    rw [mm_kind hw hs hA]
    simp only [Option.bind_some]
    rw [if_pos (show nI (S.2.1 s) < 4 from nI_lt (b := 4) h4 (by decide))]
    unfold J_X11_ask_39
    rcases hw' with rfl | rfl
    · rw [if_pos (show nI 0 = 0 from rfl), if_pos rfl, bind_id]
      rfl
    · rw [if_neg (show ¬ nI 1 = 0 by decide), if_pos rfl, bind_id]
      rfl
  have eDoor : ∀ m l, AM m S l → ¬ S.2.1 s < 4 → ((F_X11_kindIn (nI s) m).bind fun q3 => (if q3.1 < 4 then (J_X11_ask_39 (nI s) (nI w) 0 q3.2) else (J_X11_ask_39 (nI s) (nI w) 1 q3.2))) = if w = 0 then F_X11_doorSize (nI s) m else F_X11_doorMark (nI s) m := by
    intro m l hA h4
    rw [mm_kind hw hs hA]
    simp only [Option.bind_some]
    rw [if_neg (show ¬ nI (S.2.1 s) < 4 from nI_nlt (b := 4) (by omega) (by omega))]
    unfold J_X11_ask_39
    rcases hw' with rfl | rfl
    · rw [if_pos (show nI 0 = 0 from rfl), if_neg ne10, bind_id]
      rfl
    · rw [if_neg (show ¬ nI 1 = 0 by decide), if_neg ne10, bind_id]
      rfl
  have dMark : ∀ {D : List Int32} {r : Int32}, BM (F_X11_doorSize (nI s)) S D r → BM (F_X11_doorMark (nI s)) S (23 :: 20 :: D) (nI s - r) := by
    intro D r h
    have h1 : BM (fun m => (F_X11_doorSize (nI s) m).bind fun q3 => some (nI s - q3.1, q3.2)) S D (nI s - r) := by
      intro m l hA hl
      obtain ⟨m1, g1, g2, g3⟩ := h m l hA hl
      refine ⟨m1, ?_, g2, g3⟩
      show (F_X11_doorSize (nI s) m).bind _ = _
      rw [g1]
      rfl
    exact (h1.trace (x := 20)).trace (x := 23)
  rcases hk' with h | h | h | h | h
  · rcases hw' with rfl | rfl
    · rw [h]
      refine (mm_psz hw hs 0 ((mm_pmark hw hs).1 h) (by rw [if_pos rfl]; rfl)).kind (fun m l hA => ?_)
      refine (ePlace m l hA (by omega)).trans ?_
      rw [if_pos rfl]
      unfold F_X11_placeSize
      rw [mm_kind hw hs hA, h]
      simp only [Option.bind_some]
      rw [if_neg (show ¬ nI 1 = 2 by decide)]
      simp only [if_true]
    · rw [h]
      exact ((mm_pmark hw hs).1 h).kind (fun m l hA => (ePlace m l hA (by omega)).trans (if_neg (by decide)))
  · rcases hw' with rfl | rfl
    · rw [h]
      refine ((mm_psz hw hs 1 ((mm_pmark hw hs).2.1 h) (r := (aks 2 (nI s) (nI (wy S s)) (nI (bl S 0 (rd S 0) s)) 0).1) (by rw [if_neg ne10]; exact (Int32.zero_sub _).symm)).trace (x := 12)).kind (fun m l hA => ?_)
      refine (ePlace m l hA (by omega)).trans ?_
      rw [if_pos rfl]
      unfold F_X11_placeSize
      rw [mm_kind hw hs hA, h]
      simp only [Option.bind_some]
      rw [if_pos (show nI 2 = 2 from rfl), if_neg ne10]
    · rw [h]
      exact ((mm_pmark hw hs).2.1 h).kind (fun m l hA => (ePlace m l hA (by omega)).trans (if_neg (by decide)))
  · rcases hw' with rfl | rfl
    · rw [h]
      refine (mm_psz hw hs 0 ((mm_pmark hw hs).2.2 h) (by rw [if_pos rfl]; rfl)).kind (fun m l hA => ?_)
      refine (ePlace m l hA (by omega)).trans ?_
      rw [if_pos rfl]
      unfold F_X11_placeSize
      rw [mm_kind hw hs hA, h]
      simp only [Option.bind_some]
      rw [if_neg (show ¬ nI 3 = 2 by decide)]
      simp only [if_true]
    · rw [h]
      exact ((mm_pmark hw hs).2.2 h).kind (fun m l hA => (ePlace m l hA (by omega)).trans (if_neg (by decide)))
  · rcases hw' with rfl | rfl
    · rw [h]
      exact ((mm_door hw hs).1 h).kind (fun m l hA => (eDoor m l hA (by omega)).trans (if_pos rfl))
    · rw [h]
      exact (dMark ((mm_door hw hs).1 h)).kind (fun m l hA => (eDoor m l hA (by omega)).trans (if_neg (by decide)))
  · rcases hw' with rfl | rfl
    · rw [h]
      exact ((mm_door hw hs).2 h).kind (fun m l hA => (eDoor m l hA (by omega)).trans (if_pos rfl))
    · rw [h]
      exact (dMark ((mm_door hw hs).2 h)).kind (fun m l hA => (eDoor m l hA (by omega)).trans (if_neg (by decide)))
