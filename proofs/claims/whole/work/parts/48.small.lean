/-! PART 48: feed, fault, status, arc, kind, as, trace, count -/
theorem ok_fault {σ : sg} (hσ : WF σ) : OK1 F_X10_fault F_X11_fault σ :=
  ok_same hσ (r := σ.2.2.2.1) (fun m h => by unfold F_X10_fault; rw [h.2.2.2.1]) (fun m h => by unfold F_X11_fault; rw [h.2.2.2.1])
theorem ok_status {σ : sg} (hσ : WF σ) : OK1 F_X10_status F_X11_status σ :=
  ok_same hσ (r := σ.2.1) (fun m h => by unfold F_X10_status; rw [h.2.1]) (fun m h => by unfold F_X11_status; rw [h.2.1])
theorem opg_arc {σ : sg} (hσ : WF σ) {x1 x2 : Int32} (h1 : inb x1 σ.2.2.2.2.1.2.2.1) (h2 : inb x2 3) : OK1 (F_X10_arc x1 x2) (F_X11_arc x1 x2) σ := by
  have hS : wfS σ.2.2.2.2.1 := hσ.2.2.1
  have w2 := hS.2.1
  obtain ⟨a, ha, rfl⟩ := id h1
  obtain ⟨w, hw, rfl⟩ := id h2
  refine ok_same hσ (r := nI (σ.2.2.2.2.1.2.2.2 a w)) (fun m h => ?_) (fun m h => ?_)
  · have hn : XN m 7 σ.2.2.2.2.1 := h.2.2.2.2.1
    have e2 : F_X10_within (nI w) 0 2 m = some (1, m) := px_within_y (by decide) h2
    have e3 := nx_part (m := m) (b := 7) (a := a) (w := w) (by omega) hw
    have e4 : m.1 (7 + 2) (20 * w + a) = nI (σ.2.2.2.2.1.2.2.2 a w) := hn.2.2.2 a ha w hw
    simp only [F_X10_arc, nx_arc_y (by omega) hn.2.1 h1, e2, e3, e4, Option.bind_some, ne10, if_false]
  · have hm : MN m 78 0 σ.2.2.2.2.1 := h.2.2.2.2.1
    have e2 : F_X11_in (nI w) 0 2 m = some (1, m) := pm_in_y (by decide) h2
    have e4 := hm.2.2.2 a ha w hw
    rw [Nat.zero_add] at e4
    have e1 := mx_ar_y (m := m) (n := σ.2.2.2.2.1.2.2.1) (by omega) hm.2.1 h1
    simp only [F_X11_arc, e1, e2, Option.bind_some, ne10, if_false]
    simp (disch := omega) only [Option.bind_some, ofn, l0, l1, l2, l3, l4, l5, l6, l7, l8, l9, l10, l11, l12, l19, l20, l30, l31, l40, l72, l100, hn_mul, hn_add, hn_sub, hn_or, hn_and, sh_r, sh_l, bt_n, bt_0, bt_1, hn_cl, if_true, if_false, ↓reduceIte, hn_lt, hn_le, hn_eq, ne_1, ne_m, lt_t, lt_f, le_t, le_f, eq_t, eq_f, Nat.not_lt_zero, false_or, or_false, or_self, false_and, and_false, true_and, and_true, not_true, not_false_iff, e4]
theorem op_arc {σ : sg} (hσ : WF σ) (x1 x2 : Int32) : OK1 (F_X10_arc x1 x2) (F_X11_arc x1 x2) σ := by
  have hS : wfS σ.2.2.2.2.1 := hσ.2.2.1
  have w1 := hS.1
  have w2 := hS.2.1
  by_cases h1 : inb x1 σ.2.2.2.2.1.2.2.1
  · by_cases h2 : inb x2 3
    · exact opg_arc hσ h1 h2
    · refine ok_same hσ (r := -1000001) (fun m h => ?_) (fun m h => ?_)
      · have hn : XN m 7 σ.2.2.2.2.1 := h.2.2.2.2.1
        have e1 : F_X4_hasArc 7 x1 m = some (1, m) := nx_arc_y (by omega) hn.2.1 h1
        have e2 : F_X10_within x2 0 2 m = some (0, m) := px_within_n (n := 2) (by decide) h2
        simp only [F_X10_arc, e1, e2, Option.bind_some, ne10, if_false, if_true]
      · have hm : MN m 78 0 σ.2.2.2.2.1 := h.2.2.2.2.1
        have e1 : F_X11_isArc x1 m = some (1, m) := mx_ar_y (by omega) hm.2.1 h1
        have e2 : F_X11_in x2 0 2 m = some (0, m) := pm_in_n (n := 2) (by decide) h2
        simp only [F_X11_arc, e1, e2, Option.bind_some, ne10, if_false, if_true]
  · refine ok_same hσ (r := -1000001) (fun m h => ?_) (fun m h => ?_)
    · have hn : XN m 7 σ.2.2.2.2.1 := h.2.2.2.2.1
      have e1 : F_X4_hasArc 7 x1 m = some (0, m) := nx_arc_n (by omega) hn.2.1 h1
      simp only [F_X10_arc, e1, Option.bind_some, ne10, if_false, if_true]
    · have hm : MN m 78 0 σ.2.2.2.2.1 := h.2.2.2.2.1
      have e1 : F_X11_isArc x1 m = some (0, m) := mx_ar_n (by omega) hm.2.1 h1
      simp only [F_X11_arc, e1, Option.bind_some, ne10, if_false, if_true]
theorem opg_kind {σ : sg} (hσ : WF σ) {x1 : Int32} (h1 : inb x1 σ.2.2.2.2.1.1) : OK1 (F_X10_kind x1) (F_X11_kind x1) σ := by
  have hS : wfS σ.2.2.2.2.1 := hσ.2.2.1
  have w1 := hS.1
  obtain ⟨s, hs, rfl⟩ := id h1
  refine ok_same hσ (r := nI (σ.2.2.2.2.1.2.1 s)) (fun m h => ?_) (fun m h => ?_)
  · have hn : XN m 7 σ.2.2.2.2.1 := h.2.2.2.2.1
    have e3 := nx_kind (m := m) (b := 7) (s := s) (by omega)
    rw [hn.2.2.1 s hs] at e3
    simp only [F_X10_kind, nx_has_y (by omega) hn.1 h1, e3, Option.bind_some, ne10, if_false]
  · have hm : MN m 78 0 σ.2.2.2.2.1 := h.2.2.2.2.1
    have e4 := hm.2.2.1 s hs
    rw [Nat.zero_add] at e4
    have e3 := mx_kind (m := m) (s := s) (by omega)
    rw [e4] at e3
    simp only [F_X11_kind, mx_st_y (by omega) hm.1 h1, e3, Option.bind_some, ne10, if_false]
theorem op_kind {σ : sg} (hσ : WF σ) (x1 : Int32) : OK1 (F_X10_kind x1) (F_X11_kind x1) σ := by
  have hS : wfS σ.2.2.2.2.1 := hσ.2.2.1
  have w1 := hS.1
  have w2 := hS.2.1
  by_cases h1 : inb x1 σ.2.2.2.2.1.1
  · exact opg_kind hσ h1
  · refine ok_same hσ (r := -1000001) (fun m h => ?_) (fun m h => ?_)
    · have hn : XN m 7 σ.2.2.2.2.1 := h.2.2.2.2.1
      have e1 : F_X4_hasState 7 x1 m = some (0, m) := nx_has_n (by omega) hn.1 h1
      simp only [F_X10_kind, e1, Option.bind_some, ne10, if_false, if_true]
    · have hm : MN m 78 0 σ.2.2.2.2.1 := h.2.2.2.2.1
      have e1 : F_X11_isState x1 m = some (0, m) := mx_st_n (by omega) hm.1 h1
      simp only [F_X11_kind, e1, Option.bind_some, ne10, if_false, if_true]
/-- an answer that is well -/
theorem ok_well {fX fM : pj_M → Option (Int32 × pj_M)} {σ : sg} {n : Int32} (hσ : WF σ) (hX : ∀ m, xR0 m σ → fX m = F_X10_fine n m) (hM : ∀ m, mR m σ → fM m = F_X11_well n m) : OK1 fX fM σ := by
  refine ⟨n, (σ.1, 0, σ.2.2), hσ, fun c m hc h => ?_, fun m h => ?_⟩
  · have hf : fk [2, 3, 4] [(0, 13)] m (pj_wr m 0 13 0) := fk.wp _ (by decide) _
    refine ⟨_, hX m h.1, h.row hf (h.1.1.keep (fun a ha => hr_wra (by simp at ha; omega))) (hr_wrs _ _ _ _), hf.hi (by decide) (by decide)⟩
  · have hf : fk (73 :: 74 :: 75 :: cms) ((72, 4) :: pms) m (pj_wr m 72 4 0) := fk.wp _ (by decide) _
    refine ⟨_, hM m h, h.row hf (h.1.keep (fun a ha => hr_wra (by simp at ha; omega))) (hr_wrs _ _ _ _), lo_rw hf⟩
def isa (k j : Nat) : Bool := k == j || j == 0 || (k == 2 && j == 1) || (k == 3 && j == 1) || (k == 5 && j == 4)
theorem px_isa : ∀ k, k < 6 → ∀ j, j < 6 → 1 ≤ k → ∀ m : pj_M, F_X10_isA (nI k) (nI j) m = some (nI (if isa k j then 1 else 0), m) := by
  intro k hk j hj h1 m
  have hk' : k = 1 ∨ k = 2 ∨ k = 3 ∨ k = 4 ∨ k = 5 := by omega
  have hj' : j = 0 ∨ j = 1 ∨ j = 2 ∨ j = 3 ∨ j = 4 ∨ j = 5 := by omega
  rcases hk' with rfl | rfl | rfl | rfl | rfl <;> rcases hj' with rfl | rfl | rfl | rfl | rfl | rfl <;> rfl
theorem as55 (x : Int32) (m : pj_M) : J_X11_as_55 x m = F_X11_well x m := by
  unfold J_X11_as_55
  rw [if_neg ne10, bind_id]
theorem as59 (x : Int32) (m : pj_M) : J_X11_as_59 x m = F_X11_found 3 m := by
  unfold J_X11_as_59
  rw [if_pos rfl, bind_id]
theorem ni10 : ¬ nI 1 = 0 := by decide
theorem ni00 : nI 0 = 0 := rfl
theorem pm_isa : ∀ k, k < 6 → ∀ j, j < 6 → 1 ≤ k → ∀ (m : pj_M) (x : Int32), (if nI j = 0 then J_X11_as_55 x m else (if nI j = nI k then J_X11_as_55 x m else (if nI j = 1 then (if nI k < 4 then J_X11_as_55 x m else (if nI j = 4 then (if nI k = 5 then J_X11_as_55 x m else J_X11_as_59 x m) else J_X11_as_59 x m)) else (if nI j = 4 then (if nI k = 5 then J_X11_as_55 x m else J_X11_as_59 x m) else J_X11_as_59 x m)))) = if isa k j then F_X11_well x m else F_X11_found 3 m := by
  intro k hk j hj h1 m x
  simp only [as55, as59]
  generalize F_X11_well x m = A
  generalize F_X11_found 3 m = B
  have hk' : k = 1 ∨ k = 2 ∨ k = 3 ∨ k = 4 ∨ k = 5 := by omega
  have hj' : j = 0 ∨ j = 1 ∨ j = 2 ∨ j = 3 ∨ j = 4 ∨ j = 5 := by omega
  rcases hk' with rfl | rfl | rfl | rfl | rfl <;> rcases hj' with rfl | rfl | rfl | rfl | rfl | rfl <;> (simp (disch := omega) only [Option.bind_some, ofn, l0, l1, l2, l3, l4, l5, l6, l7, l8, l9, l10, l11, l12, l19, l20, l30, l31, l40, l72, l100, hn_mul, hn_add, hn_sub, hn_or, hn_and, sh_r, sh_l, bt_n, bt_0, bt_1, hn_cl, if_true, if_false, ↓reduceIte, hn_lt, hn_le, hn_eq, ne_1, ne_m, lt_t, lt_f, le_t, le_f, eq_t, eq_f, Nat.not_lt_zero, false_or, or_false, or_self, false_and, and_false, true_and, and_true, not_true, not_false_iff]; rfl)
theorem opg_as {σ : sg} (hσ : WF σ) {x1 x2 : Int32} (h1 : inb x1 σ.2.2.2.2.1.1) (h2 : inb x2 6) : OK1 (F_X10_as x1 x2) (F_X11_as x1 x2) σ := by
  have hS : wfS σ.2.2.2.2.1 := hσ.2.2.1
  have w1 := hS.1
  have X2 : ∀ m, F_X10_within x2 0 5 m = some (1, m) := fun m => px_within_y (n := 5) (by decide) h2
  have M2 : ∀ m, F_X11_in x2 0 5 m = some (1, m) := fun m => pm_in_y (n := 5) (by decide) h2
  obtain ⟨s, hs, rfl⟩ := id h1
  obtain ⟨j, hj, rfl⟩ := id h2
  have hk := hS.2.2.1 s hs
  have X : ∀ m, xR0 m σ → F_X10_as (nI s) (nI j) m = if isa (σ.2.2.2.2.1.2.1 s) j then F_X10_fine (nI s) m else F_X10_found 3 m := fun m h => by
    have hn : XN m 7 σ.2.2.2.2.1 := h.2.2.2.2.1
    have e3 := nx_kind (m := m) (b := 7) (s := s) (by omega)
    rw [hn.2.2.1 s hs] at e3
    have e4 := px_isa (σ.2.2.2.2.1.2.1 s) (by omega) j hj (by omega) m
    simp only [F_X10_as, nx_has_y (by omega) hn.1 h1, X2, e3, e4, Option.bind_some, ne10, if_false]
    cases isa (σ.2.2.2.2.1.2.1 s) j with
    | true => simp only [if_true, ni10, if_false, bind_id]
    | false => simp only [Bool.false_eq_true, if_false, ni00, if_true, bind_id]
  have M : ∀ m, mR m σ → F_X11_as (nI s) (nI j) m = if isa (σ.2.2.2.2.1.2.1 s) j then F_X11_well (nI s) m else F_X11_found 3 m := fun m h => by
    have hm : MN m 78 0 σ.2.2.2.2.1 := h.2.2.2.2.1
    have e4 := hm.2.2.1 s hs
    rw [Nat.zero_add] at e4
    have e3 := mx_kind (m := m) (s := s) (by omega)
    rw [e4] at e3
    simp only [F_X11_as, mx_st_y (by omega) hm.1 h1, M2, e3, Option.bind_some, ne10, if_false]
    exact pm_isa (σ.2.2.2.2.1.2.1 s) (by omega) j hj (by omega) m (nI s)
  cases hi : isa (σ.2.2.2.2.1.2.1 s) j with
  | true => exact ok_well hσ (fun m h => by rw [X m h, hi, if_pos rfl]) (fun m h => by rw [M m h, hi, if_pos rfl])
  | false => exact ok_found (n := 3) hσ (fun m h => by rw [X m h, hi, if_neg Bool.false_ne_true]) (fun m h => by rw [M m h, hi, if_neg Bool.false_ne_true])
theorem op_as {σ : sg} (hσ : WF σ) (x1 x2 : Int32) : OK1 (F_X10_as x1 x2) (F_X11_as x1 x2) σ := by
  have hS : wfS σ.2.2.2.2.1 := hσ.2.2.1
  have w1 := hS.1
  have w2 := hS.2.1
  by_cases h1 : inb x1 σ.2.2.2.2.1.1
  · by_cases h2 : inb x2 6
    · exact opg_as hσ h1 h2
    · refine ok_same hσ (r := -1000001) (fun m h => ?_) (fun m h => ?_)
      · have hn : XN m 7 σ.2.2.2.2.1 := h.2.2.2.2.1
        have e1 : F_X4_hasState 7 x1 m = some (1, m) := nx_has_y (by omega) hn.1 h1
        have e2 : F_X10_within x2 0 5 m = some (0, m) := px_within_n (n := 5) (by decide) h2
        simp only [F_X10_as, e1, e2, Option.bind_some, ne10, if_false, if_true]
      · have hm : MN m 78 0 σ.2.2.2.2.1 := h.2.2.2.2.1
        have e1 : F_X11_isState x1 m = some (1, m) := mx_st_y (by omega) hm.1 h1
        have e2 : F_X11_in x2 0 5 m = some (0, m) := pm_in_n (n := 5) (by decide) h2
        simp only [F_X11_as, e1, e2, Option.bind_some, ne10, if_false, if_true]
  · refine ok_same hσ (r := -1000001) (fun m h => ?_) (fun m h => ?_)
    · have hn : XN m 7 σ.2.2.2.2.1 := h.2.2.2.2.1
      have e1 : F_X4_hasState 7 x1 m = some (0, m) := nx_has_n (by omega) hn.1 h1
      simp only [F_X10_as, e1, Option.bind_some, ne10, if_false, if_true]
    · have hm : MN m 78 0 σ.2.2.2.2.1 := h.2.2.2.2.1
      have e1 : F_X11_isState x1 m = some (0, m) := mx_st_n (by omega) hm.1 h1
      simp only [F_X11_as, e1, Option.bind_some, ne10, if_false, if_true]
theorem ok_trace {σ : sg} (hσ : WF σ) (x1 : Int32) : OK1 (F_X10_trace x1) (F_X11_trace x1) σ := by
  by_cases h1 : inb x1 σ.2.2.2.2.2.2.2.1
  · obtain ⟨i, hi, rfl⟩ := id h1
    refine ok_same hσ (r := σ.2.2.2.2.2.2.2.2 i) (fun m h => ?_) (fun m h => ?_)
    · obtain ⟨t1, t2, t3⟩ := h.2.2.2.2.2.2.2
      have e3 := t3 i hi
      unfold F_X10_trace F_X2_traceAt
      simp (disch := omega) only [Option.bind_some, ofn, l0, l1, l2, l3, l4, l5, l6, l7, l8, l9, l10, l11, l12, l19, l20, l30, l31, l40, l72, l100, hn_mul, hn_add, hn_sub, hn_or, hn_and, sh_r, sh_l, bt_n, bt_0, bt_1, hn_cl, if_true, if_false, ↓reduceIte, hn_lt, hn_le, hn_eq, ne_1, ne_m, lt_t, lt_f, le_t, le_f, eq_t, eq_f, Nat.not_lt_zero, false_or, or_false, or_self, false_and, and_false, true_and, and_true, not_true, not_false_iff, t2, e3]
    · obtain ⟨t1, t2, t3⟩ := h.2.2.2.2.2.2.2
      have e3 := t3 i hi
      unfold F_X11_trace
      rw [t2, (pm_in1 (by omega)).1 h1]
      simp only [Option.bind_some, ne10, if_false]
      simp (disch := omega) only [Option.bind_some, ofn, l0, l1, l2, l3, l4, l5, l6, l7, l8, l9, l10, l11, l12, l19, l20, l30, l31, l40, l72, l100, hn_mul, hn_add, hn_sub, hn_or, hn_and, sh_r, sh_l, bt_n, bt_0, bt_1, hn_cl, if_true, if_false, ↓reduceIte, hn_lt, hn_le, hn_eq, ne_1, ne_m, lt_t, lt_f, le_t, le_f, eq_t, eq_f, Nat.not_lt_zero, false_or, or_false, or_self, false_and, and_false, true_and, and_true, not_true, not_false_iff, e3]
  · refine ok_same hσ (r := -1000000) (fun m h => ?_) (fun m h => ?_)
    · obtain ⟨t1, t2, t3⟩ := h.2.2.2.2.2.2.2
      unfold F_X10_trace F_X2_traceAt
      rw [t2]
      by_cases h0 : x1 < 0
      · rw [if_pos h0]
        rfl
      · rw [if_neg h0, if_neg ((inb_n (by omega) h1).resolve_left h0)]
        rfl
    · obtain ⟨t1, t2, t3⟩ := h.2.2.2.2.2.2.2
      unfold F_X11_trace
      rw [t2, (pm_in1 (by omega)).2 h1]
      rfl
/-- rows that are there -/
def rct (ρ : sr) : Nat → Nat
  | 0 => 0
  | n + 1 => rct ρ n + (match ρ n with
    | none => 0
    | some _ => 1)
theorem px_rct {m : pj_M} {ρ : sr} (h : XR m ρ) : F_X6_size m = some (nI (rct ρ 8), m) := by
  refine lp0 (P := fun z i => H_X6_size_4 z (nI (rct ρ i)) (nI i) m = some (nI (rct ρ 8), m)) 8 (by decide) ?_ ?_
  · intro z
    rw [H_X6_size_4]
    simp (disch := omega) only [Option.bind_some, ofn, l0, l1, l2, l3, l4, l5, l6, l7, l8, l9, l10, l11, l12, l19, l20, l30, l31, l40, l72, l100, hn_mul, hn_add, hn_sub, hn_or, hn_and, sh_r, sh_l, bt_n, bt_0, bt_1, hn_cl, if_true, if_false, ↓reduceIte, hn_lt, hn_le, hn_eq, ne_1, ne_m, lt_t, lt_f, le_t, le_f, eq_t, eq_f, Nat.not_lt_zero, false_or, or_false, or_self, false_and, and_false, true_and, and_true, not_true, not_false_iff]
  · intro z i hi ih
    rw [H_X6_size_4]
    cases hρ : ρ i with
    | none =>
      have e : rct ρ (i + 1) = rct ρ i := by simp only [rct, hρ, Nat.add_zero]
      have e1 : F_X6_isMissing (nI i) m = some (nI 1, m) := xmis_n hi (h.no hi hρ)
      rw [e] at ih
      simp (disch := omega) only [Option.bind_some, ofn, l0, l1, l2, l3, l4, l5, l6, l7, l8, l9, l10, l11, l12, l19, l20, l30, l31, l40, l72, l100, hn_mul, hn_add, hn_sub, hn_or, hn_and, sh_r, sh_l, bt_n, bt_0, bt_1, hn_cl, if_true, if_false, ↓reduceIte, hn_lt, hn_le, hn_eq, ne_1, ne_m, lt_t, lt_f, le_t, le_f, eq_t, eq_f, Nat.not_lt_zero, false_or, or_false, or_self, false_and, and_false, true_and, and_true, not_true, not_false_iff, e1, Nat.add_zero]
      exact ih
    | some v =>
      obtain ⟨l, L, g⟩ := v
      have e : rct ρ (i + 1) = rct ρ i + 1 := by simp only [rct, hρ]
      have e1 : F_X6_isMissing (nI i) m = some (nI 0, m) := xmis_y hi (h.so hi hρ).1 (h.so hi hρ).2.2.1
      rw [e] at ih
      simp (disch := omega) only [Option.bind_some, ofn, l0, l1, l2, l3, l4, l5, l6, l7, l8, l9, l10, l11, l12, l19, l20, l30, l31, l40, l72, l100, hn_mul, hn_add, hn_sub, hn_or, hn_and, sh_r, sh_l, bt_n, bt_0, bt_1, hn_cl, if_true, if_false, ↓reduceIte, hn_lt, hn_le, hn_eq, ne_1, ne_m, lt_t, lt_f, le_t, le_f, eq_t, eq_f, Nat.not_lt_zero, false_or, or_false, or_self, false_and, and_false, true_and, and_true, not_true, not_false_iff, e1]
      exact ih
theorem pm_rct {m : pj_M} {ρ : sr} (h : MR m ρ) : H_X11_count_42 pj_z 0 0 m = some (nI (rct ρ 8), m) := by
  refine lp0 (P := fun z i => H_X11_count_42 z (nI (rct ρ i)) (nI i) m = some (nI (rct ρ 8), m)) 8 (by decide) ?_ ?_
  · intro z
    rw [H_X11_count_42]
    simp (disch := omega) only [Option.bind_some, ofn, l0, l1, l2, l3, l4, l5, l6, l7, l8, l9, l10, l11, l12, l19, l20, l30, l31, l40, l72, l100, hn_mul, hn_add, hn_sub, hn_or, hn_and, sh_r, sh_l, bt_n, bt_0, bt_1, hn_cl, if_true, if_false, ↓reduceIte, hn_lt, hn_le, hn_eq, ne_1, ne_m, lt_t, lt_f, le_t, le_f, eq_t, eq_f, Nat.not_lt_zero, false_or, or_false, or_self, false_and, and_false, true_and, and_true, not_true, not_false_iff]
  · intro z i hi ih
    rw [H_X11_count_42]
    cases hρ : ρ i with
    | none =>
      have e : rct ρ (i + 1) = rct ρ i := by simp only [rct, hρ, Nat.add_zero]
      have e1 : F_X11_isMissing (nI i) m = some (nI 1, m) := mmis_n hi (h.no hi hρ)
      rw [e] at ih
      simp (disch := omega) only [Option.bind_some, ofn, l0, l1, l2, l3, l4, l5, l6, l7, l8, l9, l10, l11, l12, l19, l20, l30, l31, l40, l72, l100, hn_mul, hn_add, hn_sub, hn_or, hn_and, sh_r, sh_l, bt_n, bt_0, bt_1, hn_cl, if_true, if_false, ↓reduceIte, hn_lt, hn_le, hn_eq, ne_1, ne_m, lt_t, lt_f, le_t, le_f, eq_t, eq_f, Nat.not_lt_zero, false_or, or_false, or_self, false_and, and_false, true_and, and_true, not_true, not_false_iff, e1, Nat.add_zero]
      exact ih
    | some v =>
      obtain ⟨l, L, g⟩ := v
      have e : rct ρ (i + 1) = rct ρ i + 1 := by simp only [rct, hρ]
      have e1 : F_X11_isMissing (nI i) m = some (nI 0, m) := mmis_y hi (h.so hi hρ).1 (h.so hi hρ).2.2.1
      rw [e] at ih
      simp (disch := omega) only [Option.bind_some, ofn, l0, l1, l2, l3, l4, l5, l6, l7, l8, l9, l10, l11, l12, l19, l20, l30, l31, l40, l72, l100, hn_mul, hn_add, hn_sub, hn_or, hn_and, sh_r, sh_l, bt_n, bt_0, bt_1, hn_cl, if_true, if_false, ↓reduceIte, hn_lt, hn_le, hn_eq, ne_1, ne_m, lt_t, lt_f, le_t, le_f, eq_t, eq_f, Nat.not_lt_zero, false_or, or_false, or_self, false_and, and_false, true_and, and_true, not_true, not_false_iff, e1]
      exact ih
theorem pm_mks {m : pj_M} {S : sy} (hw : wfS S) (hm : MN m 78 0 S) : H_X11_count_88 pj_z 0 0 m = some (nI (mks S), m) := by
  have w1 := hw.1
  obtain ⟨n1, n2, n3, n4⟩ := hm
  refine lp0 (P := fun z i => H_X11_count_88 z (nI (st (mkb S) i)) (nI i) m = some (nI (mks S), m)) S.1 (by omega) ?_ ?_
  · intro z
    rw [H_X11_count_88]
    simp (disch := omega) only [Option.bind_some, ofn, l0, l1, l2, l3, l4, l5, l6, l7, l8, l9, l10, l11, l12, l19, l20, l30, l31, l40, l72, l100, hn_mul, hn_add, hn_sub, hn_or, hn_and, sh_r, sh_l, bt_n, bt_0, bt_1, hn_cl, if_true, if_false, ↓reduceIte, hn_lt, hn_le, hn_eq, ne_1, ne_m, lt_t, lt_f, le_t, le_f, eq_t, eq_f, Nat.not_lt_zero, false_or, or_false, or_self, false_and, and_false, true_and, and_true, not_true, not_false_iff, n1]
    rfl
  · intro z i hi ih
    rw [H_X11_count_88]
    have hk := hw.2.2.1 i hi
    have ek := n3 i hi
    rw [Nat.zero_add] at ek
    by_cases h2 : S.2.1 i = 2
    · have e : st (mkb S) (i + 1) = st (mkb S) i ||| 2 ^ i := by simp [st, mkb, h2]
      rw [e] at ih
      simp (disch := omega) only [Option.bind_some, ofn, l0, l1, l2, l3, l4, l5, l6, l7, l8, l9, l10, l11, l12, l19, l20, l30, l31, l40, l72, l100, hn_mul, hn_add, hn_sub, hn_or, hn_and, sh_r, sh_l, bt_n, bt_0, bt_1, hn_cl, if_true, if_false, ↓reduceIte, hn_lt, hn_le, hn_eq, ne_1, ne_m, lt_t, lt_f, le_t, le_f, eq_t, eq_f, Nat.not_lt_zero, false_or, or_false, or_self, false_and, and_false, true_and, and_true, not_true, not_false_iff, n1, ek, h2]
      exact ih
    · by_cases h5 : S.2.1 i = 5
      · have e : st (mkb S) (i + 1) = st (mkb S) i ||| 2 ^ i := by simp [st, mkb, h5]
        rw [e] at ih
        simp (disch := omega) only [Option.bind_some, ofn, l0, l1, l2, l3, l4, l5, l6, l7, l8, l9, l10, l11, l12, l19, l20, l30, l31, l40, l72, l100, hn_mul, hn_add, hn_sub, hn_or, hn_and, sh_r, sh_l, bt_n, bt_0, bt_1, hn_cl, if_true, if_false, ↓reduceIte, hn_lt, hn_le, hn_eq, ne_1, ne_m, lt_t, lt_f, le_t, le_f, eq_t, eq_f, Nat.not_lt_zero, false_or, or_false, or_self, false_and, and_false, true_and, and_true, not_true, not_false_iff, n1, ek, h5]
        exact ih
      · have e : st (mkb S) (i + 1) = st (mkb S) i := by simp [st, mkb, h2, h5]
        rw [e] at ih
        simp (disch := omega) only [Option.bind_some, ofn, l0, l1, l2, l3, l4, l5, l6, l7, l8, l9, l10, l11, l12, l19, l20, l30, l31, l40, l72, l100, hn_mul, hn_add, hn_sub, hn_or, hn_and, sh_r, sh_l, bt_n, bt_0, bt_1, hn_cl, if_true, if_false, ↓reduceIte, hn_lt, hn_le, hn_eq, ne_1, ne_m, lt_t, lt_f, le_t, le_f, eq_t, eq_f, Nat.not_lt_zero, false_or, or_false, or_self, false_and, and_false, true_and, and_true, not_true, not_false_iff, n1, ek, h2, h5, Nat.or_zero]
        exact ih
theorem ok_count {σ : sg} (hσ : WF σ) (x1 : Int32) : OK1 (F_X10_count x1) (F_X11_count x1) σ := by
  have hS : wfS σ.2.2.2.2.1 := hσ.2.2.1
  by_cases h0 : x1 = 0
  · refine ok_same hσ (r := nI (rct σ.1 8)) (fun m h => ?_) (fun m h => ?_)
    · unfold F_X10_count
      rw [if_pos h0, px_rct h.1]
      rfl
    · unfold F_X11_count
      rw [if_pos h0, pm_rct h.1]
  · by_cases h1 : x1 = 1
    · refine ok_same hσ (r := nI σ.2.2.2.2.1.1) (fun m h => ?_) (fun m h => ?_)
      · have hn : XN m 7 σ.2.2.2.2.1 := h.2.2.2.2.1
        unfold F_X10_count F_X4_states
        rw [if_neg h0, if_pos h1, hn.1]
        rfl
      · have hm : MN m 78 0 σ.2.2.2.2.1 := h.2.2.2.2.1
        unfold F_X11_count
        rw [if_neg h0, if_pos h1, if_neg (by decide), c0, hm.1]
    · by_cases h2 : x1 = 2
      · refine ok_same hσ (r := nI σ.2.2.2.2.1.2.2.1) (fun m h => ?_) (fun m h => ?_)
        · have hn : XN m 7 σ.2.2.2.2.1 := h.2.2.2.2.1
          unfold F_X10_count F_X4_arcTotal
          rw [if_neg h0, if_neg h1, if_pos h2, hn.2.1]
          rfl
        · have hm : MN m 78 0 σ.2.2.2.2.1 := h.2.2.2.2.1
          have e : m.1 78 1 = nI σ.2.2.2.2.1.2.2.1 := hm.2.1
          unfold F_X11_count
          rw [if_neg h0, if_neg h1, if_pos h2, if_neg (by decide), c1, e]
      · by_cases h3 : x1 = 3
        · refine ok_same hσ (r := nI (mks σ.2.2.2.2.1)) (fun m h => ?_) (fun m h => ?_)
          · unfold F_X10_count
            rw [if_neg h0, if_neg h1, if_neg h2, if_pos h3, px_marked hS h.2.2.2.2.1]
            rfl
          · unfold F_X11_count
            rw [if_neg h0, if_neg h1, if_neg h2, if_pos h3, pm_mks hS h.2.2.2.2.1]
        · by_cases h4 : x1 = 4
          · refine ok_same hσ (r := nI σ.2.2.2.2.2.1.1) (fun m h => ?_) (fun m h => ?_)
            · unfold F_X10_count F_X0_size
              rw [if_neg h0, if_neg h1, if_neg h2, if_neg h3, if_pos h4, h.2.2.2.2.2.1.1]
              rfl
            · unfold F_X11_count
              rw [if_neg h0, if_neg h1, if_neg h2, if_neg h3, if_pos h4, h.2.2.2.2.2.1.1]
          · by_cases h5 : x1 = 5
            · refine ok_same hσ (r := nI σ.2.2.1.1) (fun m h => ?_) (fun m h => ?_)
              · unfold F_X10_count F_X8_size
                rw [if_neg h0, if_neg h1, if_neg h2, if_neg h3, if_neg h4, if_pos h5, h.2.2.1.1]
                rfl
              · unfold F_X11_count
                rw [if_neg h0, if_neg h1, if_neg h2, if_neg h3, if_neg h4, if_pos h5, h.2.2.1.1]
            · refine ok_same hσ (r := -1000001) (fun m h => ?_) (fun m h => ?_)
              · unfold F_X10_count
                rw [if_neg h0, if_neg h1, if_neg h2, if_neg h3, if_neg h4, if_neg h5]
              · unfold F_X11_count
                rw [if_neg h0, if_neg h1, if_neg h2, if_neg h3, if_neg h4, if_neg h5]
/-- X: the tape has changed -/
theorem xR.tape {c : Nat} {m m' : pj_M} {σ : sg} {t' : Nat × (Nat → Int32)} (h : xR c m σ) (hf : fk [6] [(5, 1), (5, 2)] m m') (ht : XT m' t') : xR (c + 1) m' (σ.1, σ.2.1, t', σ.2.2.2) := by
  obtain ⟨⟨h1, h2, h3, h4, h5, h6, h7, h8⟩, ⟨v, hv, hk⟩, w, hw, hj⟩ := h
  have e : ∀ a, a < 5 ∨ 7 ≤ a → m'.1 a = m.1 a ∧ m'.2 a = m.2 a := fun a ha => hf.both a (by simp; omega) (by simp; omega)
  refine ⟨⟨h1.keep (fun a ha => (e a (by simp at ha; omega)).1), ?_, ht, ?_, h5.keep (e 7 (by omega)).1 (e 8 (by omega)).1 (e 9 (by omega)).1, h6.keep (fun a ha => (e a (by simp at ha; omega)).1), h7.keep (fun a ha => (e a (by simp at ha; omega)).1), ?_⟩, ⟨v, by omega, hk.keep (fun a ha => e a (by omega))⟩, w, by omega, hj.keep (fun a ha => (e a (by omega)).1)⟩
  · rw [(e 0 (by omega)).1]
    exact h2
  · rw [(e 0 (by omega)).1]
    exact h4
  · unfold Xtr
    rw [(e 56 (by omega)).1, (e 57 (by omega)).1]
    exact h8
theorem mR.tape {m m' : pj_M} {σ : sg} {t' : Nat × (Nat → Int32)} (h : mR m σ) (hf : fk [77] [(72, 6)] m m') (ht : MT m' t') : mR m' (σ.1, σ.2.1, t', σ.2.2.2) := by
  obtain ⟨h1, h2, h3, h4, h5, h6, h7, h8⟩ := h
  have c : ∀ a ∈ [73, 74, 75, 78, 80, 81, 82, 94], m'.1 a = m.1 a := hf.cells _ (by decide)
  have p : ∀ k, k ∈ [4, 7, 16, 32] → m'.1 72 k = m.1 72 k := fun k hk => hf.1 72 k (by decide) (by
    simp only [List.mem_cons, List.not_mem_nil, or_false] at hk
    rcases hk with rfl | rfl | rfl | rfl <;> decide)
  refine ⟨h1.keep (fun a ha => c a (by simp at ha ⊢; omega)), ?_, ht, ?_, h5.keep (c 78 (by decide)), ?_, h7.keep (fun a ha => c a (by simp at ha ⊢; omega)), ?_⟩
  · rw [p 4 (by decide)]
    exact h2
  · rw [p 7 (by decide)]
    exact h4
  · unfold MA MN
    rw [p 16 (by decide), c 80 (by decide)]
    exact h6
  · unfold Mtr
    rw [p 32 (by decide), c 94 (by decide)]
    exact h8
theorem l140 : (140 : Int32) = nI 140 := rfl
theorem ok_feed {σ : sg} (hσ : WF σ) (x1 : Int32) : OK1 (F_X10_feed x1) (F_X11_feed x1) σ := by
  obtain ⟨w1, w2⟩ := hσ.2.1
  by_cases h1 : inb x1 256
  · have X1 : ∀ m, F_X10_within x1 0 255 m = some (1, m) := fun m => px_within_y (n := 255) (by decide) h1
    have M1 : ∀ m, F_X11_in x1 0 255 m = some (1, m) := fun m => pm_in_y (n := 255) (by decide) h1
    by_cases h2 : σ.2.2.1.1 = 140
    · refine ok_same hσ (r := -1000003) (fun m h => ?_) (fun m h => ?_)
      · have e := h.2.2.1.1
        simp only [F_X10_feed, X1, Option.bind_some, ne10, if_false, F_X8_isFull, e, h2]
        rfl
      · have e := h.2.2.1.1
        simp only [F_X11_feed, M1, Option.bind_some, ne10, if_false, e, h2]
        rfl
    · obtain ⟨b, hb, rfl⟩ := id h1
      refine ⟨nI (σ.2.2.1.1 + 1), (σ.1, σ.2.1, (σ.2.2.1.1 + 1, fun i => if i = σ.2.2.1.1 then nI b else σ.2.2.1.2 i), σ.2.2.2), ⟨hσ.1, ⟨by show σ.2.2.1.1 + 1 ≤ 140; omega, fun i hi => ?_⟩, hσ.2.2⟩, fun c m hc h => ?_, fun m h => ?_⟩
      · have hi : i < σ.2.2.1.1 + 1 := hi
        show ∃ b', b' < 256 ∧ (if i = σ.2.2.1.1 then nI b else σ.2.2.1.2 i) = nI b'
        by_cases he : i = σ.2.2.1.1
        · rw [if_pos he]
          exact ⟨b, hb, rfl⟩
        · rw [if_neg he]
          exact w2 i (by omega)
      · obtain ⟨t1, t2⟩ := h.1.2.2.1
        have hf : fk [6] [(5, 1), (5, 2)] m (pj_wr (pj_wr m 6 σ.2.2.1.1 (nI b)) 5 1 (nI (σ.2.2.1.1 + 1))) := (fk.wr _ (by decide) _ _).tr (fk.wp _ (by decide) _)
        refine ⟨_, ?_, h.tape hf ⟨hr_wrs _ _ _ _, fun i hi => ?_⟩, hf.hi (by decide) (by decide)⟩
        · have e5 : (pj_wr m 6 σ.2.2.1.1 (nI b)).1 5 1 = nI σ.2.2.1.1 := by rw [hr_wra (by decide), t1]
          simp only [F_X10_feed, X1, Option.bind_some, ne10, if_false]
          unfold F_X8_append F_X8_isFull
          simp (disch := omega) only [Option.bind_some, ofn, l0, l1, l2, l3, l4, l5, l6, l7, l8, l9, l10, l11, l12, l19, l20, l30, l31, l40, l72, l100, hn_mul, hn_add, hn_sub, hn_or, hn_and, sh_r, sh_l, bt_n, bt_0, bt_1, hn_cl, if_true, if_false, ↓reduceIte, hn_lt, hn_le, hn_eq, ne_1, ne_m, lt_t, lt_f, le_t, le_f, eq_t, eq_f, Nat.not_lt_zero, false_or, or_false, or_self, false_and, and_false, true_and, and_true, not_true, not_false_iff, t1, l140, e5, hr_wrs]
        · rw [hr_wra (by decide), hr_wr]
          by_cases he : i = σ.2.2.1.1
          · rw [if_pos ⟨rfl, he⟩]
            simp [he]
          · rw [if_neg (fun q => he q.2)]
            simp only [he, if_false]
            exact t2 i (by have : i < σ.2.2.1.1 + 1 := hi; omega)
      · obtain ⟨t1, t2⟩ := h.2.2.1
        have hf : fk [77] [(72, 6)] m (pj_wr (pj_wr m 77 σ.2.2.1.1 (nI b)) 72 6 (nI (σ.2.2.1.1 + 1))) := (fk.wr _ (by decide) _ _).tr (fk.wp _ (by decide) _)
        refine ⟨_, ?_, h.tape hf ⟨hr_wrs _ _ _ _, fun i hi => ?_⟩, hf.lo (by decide) (by decide)⟩
        · have e5 : (pj_wr m 77 σ.2.2.1.1 (nI b)).1 72 6 = nI σ.2.2.1.1 := by rw [hr_wra (by decide), t1]
          simp only [F_X11_feed, M1, Option.bind_some, ne10, if_false]
          simp (disch := omega) only [Option.bind_some, ofn, l0, l1, l2, l3, l4, l5, l6, l7, l8, l9, l10, l11, l12, l19, l20, l30, l31, l40, l72, l100, hn_mul, hn_add, hn_sub, hn_or, hn_and, sh_r, sh_l, bt_n, bt_0, bt_1, hn_cl, if_true, if_false, ↓reduceIte, hn_lt, hn_le, hn_eq, ne_1, ne_m, lt_t, lt_f, le_t, le_f, eq_t, eq_f, Nat.not_lt_zero, false_or, or_false, or_self, false_and, and_false, true_and, and_true, not_true, not_false_iff, t1, l140, e5, hr_wrs]
        · rw [hr_wra (by decide), hr_wr]
          by_cases he : i = σ.2.2.1.1
          · rw [if_pos ⟨rfl, he⟩]
            simp [he]
          · rw [if_neg (fun q => he q.2)]
            simp only [he, if_false]
            exact t2 i (by have : i < σ.2.2.1.1 + 1 := hi; omega)
  · have X1 : ∀ m, F_X10_within x1 0 255 m = some (0, m) := fun m => px_within_n (n := 255) (by decide) h1
    have M1 : ∀ m, F_X11_in x1 0 255 m = some (0, m) := fun m => pm_in_n (n := 255) (by decide) h1
    refine ok_same hσ (r := -1000001) (fun m h => ?_) (fun m h => ?_)
    · simp only [F_X10_feed, X1, Option.bind_some, if_true]
    · simp only [F_X11_feed, M1, Option.bind_some, if_true]
