/-! PART 58: holds as a call -/
theorem hstp_h {S : sy} {q c h h' : Nat} {f f' : Nat → Nat} {op op' : Option Nat} (e : hstp S q (some (h, f, op)) c = some (h', f', op')) : h' ≤ h + 1 := by
  simp only [hstp] at e
  split at e
  · cases op with
    | none => cases e
    | some L =>
      have := (Prod.mk.inj (Option.some.inj e)).1
      omega
  · cases op with
    | some L => cases e
    | none =>
      simp only at e
      split at e
      · split at e
        · cases e
        · have := (Prod.mk.inj (Option.some.inj e)).1
          omega
      · split at e
        · split at e
          · cases e
          · have := (Prod.mk.inj (Option.some.inj e)).1
            omega
        · split at e
          · have := (Prod.mk.inj (Option.some.inj e)).1
            omega
          · cases e
theorem HX.keep {m m' : pj_M} {S : sy} {q : Nat} {x : hst} (h : HX m S q x) (e4 : m'.1 54 = m.1 54) (e5 : m'.1 55 = m.1 55) : HX m' S q x := by
  unfold HX
  rw [e4, e5]
  exact h
theorem hx_holds {q s r L : Nat} {S : sy} {g : Nat → Int32} (hw : wfS S) (hq : q < 2) (hr : r < 8) (hs : s < S.1) (hL : L ≤ 40) : ∀ k z (m : pj_M) (x : hst), k < z → k ≤ L → (∀ h f op, x = some (h, f, op) → h + k ≤ 30) → HX m S q x → GT m 21 (go S) → GT m 22 (cl S) → (∀ i, i < L → m.1 4 (40 * r + i) = g i) → ∃ m', H_X10_holds_118 z (nI s) (nI r) 20 (nI k - 1) m = some (hans S s (hrun S q g k x), pj_wr m' 0 13 0) ∧ fr [54, 55] m m' := by
  have w1 := hw.1
  have hp2 := p2_10 w1
  intro k
  induction k with
  | zero =>
    intro z m x hz hkL hh hX hg hc hit
    obtain ⟨z, rfl⟩ : ∃ z', z = z' + 1 := ⟨z - 1, by omega⟩
    refine ⟨m, ?_, fr.rf _ _⟩
    rw [H_X10_holds_118, if_pos (by decide)]
    unfold J_X10_holds_148 F_X3_isOne F_X3_answer
    simp only [hrun]
    obtain ⟨h1, h2, h3, hx⟩ := hX
    have hno : ∀ m : pj_M, F_X10_fine (-1000000) m = some (-1000000, pj_wr m 0 13 0) := fun m => rfl
    cases x with
    | none =>
      have h7 : m.1 54 7 = nI 1 := hx
      simp only [h7, ni10, if_false, Option.bind_some, if_true, hno]
      rfl
    | some y =>
      obtain ⟨h, f, op⟩ := y
      obtain ⟨h7, h4, hf, hop⟩ := hx
      have hh := hh h f op rfl
      simp only [h7, ni00, if_true]
      cases op with
      | some L =>
        have h6 : m.1 54 6 = nI 1 := hop.1
        simp only [h6, ni10, if_false, Option.bind_some, if_true, hno]
        match h with
        | 0 => rfl
        | 1 => rfl
        | h + 2 => rfl
      | none =>
        have h6 : m.1 54 6 = nI 0 := hop
        simp only [h6, ni00, if_true, h4]
        by_cases h1' : h = 1
        · subst h1'
          obtain ⟨a1, a2⟩ := hf 0 (by decide)
          rw [if_pos (show nI 1 = 1 from rfl)]
          simp only [Option.bind_some, ne10, if_false, c0, a1]
          rw [if_neg (show ¬ ((0 : Int32) < 0 ∨ 30 ≤ 0) by decide)]
          simp only [Option.bind_some]
          rw [hn_shr (by omega) (by omega), hn_and1]
          have e : hans S s (some (1, f, none)) = nI ((f 0 >>> s) % 2) := by
            show nI (bt (f 0) s) = _
            rw [← bt_n, Nat.and_one_is_mod]
          rw [e]
          rfl
        · rw [if_neg (show ¬ nI h = 1 from fun e => h1' (hn_inj (b := 1) (by omega) (by decide) e))]
          simp only [Option.bind_some, if_true, hno]
          match h, h1' with
          | 0, _ => rfl
          | 1, e => exact absurd rfl e
          | h + 2, _ => rfl
  | succ k ih =>
    intro z m x hz hkL hh hX hg hc hit
    obtain ⟨z, rfl⟩ : ∃ z', z = z' + 1 := ⟨z - 1, by omega⟩
    obtain ⟨m1, g1, g2, g3⟩ := px_take (m := m) (code := g k) hw hq hX (fun h f op e => by have := hh h f op e; omega) hg hc
    obtain ⟨m2, a1, a2⟩ := ih z m1 _ (by omega) (by omega) (fun h' f' op' e => by
      cases x with
      | none => cases e
      | some y =>
        obtain ⟨h, f, op⟩ := y
        have := hh h f op rfl
        have := hstp_h e
        omega) g2 (hg.keep (g3.at 21 rfl)) (hc.keep (g3.at 22 rfl)) (fun i hi => by rw [g3.at 4 rfl]; exact hit i hi)
    refine ⟨m2, ?_, g3.tr a2⟩
    have ei : F_X6_item (nI r) (nI k) m = some (g k, m) := by
      unfold F_X6_item
      have e := hit k (by omega)
      rw [Nat.mul_comm 40 r] at e
      simp (disch := omega) only [Option.bind_some, ofn, l0, l1, l2, l3, l4, l5, l6, l7, l8, l9, l10, l11, l12, l19, l20, l30, l31, l40, l72, l100, hn_mul, hn_add, hn_sub, hn_or, hn_and, sh_r, sh_l, bt_n, bt_0, bt_1, hn_cl, if_true, if_false, ↓reduceIte, hn_lt, hn_le, hn_eq, ne_1, ne_m, lt_t, lt_f, le_t, le_f, eq_t, eq_f, Nat.not_lt_zero, false_or, or_false, or_self, false_and, and_false, true_and, and_true, not_true, not_false_iff, e]
    rw [H_X10_holds_118, nI_pred, if_neg (nI_pos (by omega)), ei]
    simp only [Option.bind_some]
    rw [g1]
    exact a1
theorem hm_mk94 {m : pj_M} {S : sy} (hw : wfS S) (hl : LK m S) {x1 x2 x3 x4 x5 : Int32} : H_X11_holds_94 pj_z x1 x2 x3 x4 x5 0 0 m = J_X11_holds_131 x1 x2 x3 x4 x5 (nI (mks S)) m := by
  have w1 := hw.1
  have h83 := hl.1.1
  refine lp0 (P := fun z i => H_X11_holds_94 z x1 x2 x3 x4 x5 (nI (st (mkb S) i)) (nI i) m = J_X11_holds_131 x1 x2 x3 x4 x5 (nI (mks S)) m) S.1 (by omega) ?_ ?_
  · intro z
    rw [H_X11_holds_94, mx_states, h83]
    simp (disch := omega) only [Option.bind_some, ofn, l0, l1, l2, l3, l4, l5, l6, l7, l8, l9, l10, l11, l12, l19, l20, l30, l31, l40, l72, l100, hn_mul, hn_add, hn_sub, hn_or, hn_and, sh_r, sh_l, bt_n, bt_0, bt_1, hn_cl, if_true, if_false, ↓reduceIte, hn_lt, hn_le, hn_eq, ne_1, ne_m, lt_t, lt_f, le_t, le_f, eq_t, eq_f, Nat.not_lt_zero, false_or, or_false, or_self, false_and, and_false, true_and, and_true, not_true, not_false_iff]
    rfl
  · intro z i hi ih
    rw [H_X11_holds_94, mx_states, h83]
    have e1 := pm_marked hw hl hi
    cases hm : mkb S i with
    | true =>
      have e : st (mkb S) (i + 1) = st (mkb S) i ||| 2 ^ i := by simp [st, hm]
      rw [e] at ih
      rw [hm] at e1
      simp (disch := omega) only [Option.bind_some, ofn, l0, l1, l2, l3, l4, l5, l6, l7, l8, l9, l10, l11, l12, l19, l20, l30, l31, l40, l72, l100, hn_mul, hn_add, hn_sub, hn_or, hn_and, sh_r, sh_l, bt_n, bt_0, bt_1, hn_cl, if_true, if_false, ↓reduceIte, hn_lt, hn_le, hn_eq, ne_1, ne_m, lt_t, lt_f, le_t, le_f, eq_t, eq_f, Nat.not_lt_zero, false_or, or_false, or_self, false_and, and_false, true_and, and_true, not_true, not_false_iff, e1]
      exact ih
    | false =>
      have e : st (mkb S) (i + 1) = st (mkb S) i := by simp [st, hm]
      rw [e] at ih
      rw [hm] at e1
      simp only [Bool.false_eq_true, if_false] at e1
      simp (disch := omega) only [Option.bind_some, ofn, l0, l1, l2, l3, l4, l5, l6, l7, l8, l9, l10, l11, l12, l19, l20, l30, l31, l40, l72, l100, hn_mul, hn_add, hn_sub, hn_or, hn_and, sh_r, sh_l, bt_n, bt_0, bt_1, hn_cl, if_true, if_false, ↓reduceIte, hn_lt, hn_le, hn_eq, ne_1, ne_m, lt_t, lt_f, le_t, le_f, eq_t, eq_f, Nat.not_lt_zero, false_or, or_false, or_self, false_and, and_false, true_and, and_true, not_true, not_false_iff, e1, Nat.or_zero]
      exact ih
theorem xR.sta {c v : Nat} {m m' : pj_M} {σ : sg} {x' : Int32} (h : xR c m σ) (hf : fk (54 :: 55 :: cxs) [(0, 13)] m m') (hv : v ≤ 100 * c) (hk : XK m' v σ.2.2.2.2.1) (hx : m'.1 0 13 = x') : xR (c + 1) m' (σ.1, x', σ.2.2) := by
  obtain ⟨⟨h1, h2, h3, h4, h5, h6, h7, h8⟩, -, w, hw, hj⟩ := h
  have e : ∀ a ∈ [2, 3, 4, 5, 6, 7, 8, 9, 13, 17, 18, 37, 38, 39, 40, 41, 42, 43, 44, 45, 46, 47, 48, 49, 50, 51, 52, 56, 57, 58, 59, 60, 61, 62, 63], m'.1 a = m.1 a := hf.cells _ (by decide)
  refine ⟨⟨h1.keep (fun a ha => e a (by simp at ha ⊢; omega)), hx, ?_, ?_, h5.keep (e 7 (by decide)) (e 8 (by decide)) (e 9 (by decide)), h6.keep (fun a ha => e a (by simp at ha ⊢; omega)), h7.keep (fun a ha => e a (by simp at ha ⊢; omega)), ?_⟩, ⟨v, by omega, hk⟩, w, by omega, hj.keep (fun a ha => e a (by simp; omega))⟩
  · unfold XT
    rw [e 5 (by decide), e 6 (by decide)]
    exact h3
  · rw [hf.1 0 12 (by decide) (by decide)]
    exact h4
  · unfold Xtr
    rw [e 56 (by decide), e 57 (by decide)]
    exact h8
theorem i32_30 {x : Int32} (h3 : ¬ x < 1) (h4 : ¬ 30 < x) : ∃ n, 1 ≤ n ∧ n ≤ 30 ∧ x = nI n := by
  have e1 : (30 : Int32).toInt = 30 := rfl
  have e2 : (1 : Int32).toInt = 1 := rfl
  rw [Int32.lt_iff_toInt_lt] at h3 h4
  refine ⟨x.toInt.toNat, by omega, by omega, Int32.toInt_inj.mp ?_⟩
  rw [nI_toInt (by omega)]
  omega
theorem all_eq {n : Nat} (hn : n ≤ 10) : (1 : Int32) <<< (nI n &&& 31) - 1 = nI (2 ^ n - 1) := by
  rw [hn_shl1 n (by omega)]
  exact hn_sub (b := 1) (Nat.two_pow_pos n)
theorem rg0 {L n : Nat} (hn : n ≤ 30) : rg L 0 (nI n) ↔ n ≤ L := by
  unfold rg
  have e2 : (0 : Int32).toInt = 0 := rfl
  rw [nI_toInt (by omega), e2]
  omega
theorem ok_holds {σ : sg} (hσ : WF σ) (x1 x2 x3 x4 : Int32) : OK1 (F_X10_holds x1 x2 x3 x4) (F_X11_holds x1 x2 x3 x4) σ := by
  have hS : wfS σ.2.2.2.2.1 := hσ.2.2.1
  have w1 := hS.1
  by_cases h1 : inb x1 2
  · have X1 : ∀ m, F_X10_within x1 0 1 m = some (1, m) := fun m => px_within_y (n := 1) (by decide) h1
    have M1 : ∀ m, F_X11_in x1 0 1 m = some (1, m) := fun m => pm_in_y (n := 1) (by decide) h1
    by_cases h2 : inb x2 σ.2.2.2.2.1.1
    · by_cases h3 : inb x3 8
      · by_cases h4 : x4 < 1 ∨ 30 < x4
        · have X4 : ∀ m, F_X10_within x4 1 30 m = some (0, m) := fun m => by
            unfold F_X10_within
            by_cases h5 : x4 < 1
            · rw [if_pos h5]
            · rw [if_neg h5, if_pos (h4.resolve_left h5)]
          have M4 : ∀ m, F_X11_in x4 1 30 m = some (0, m) := X4
          refine ok_same hσ (r := -1000001) (fun m h => ?_) (fun m h => ?_)
          · have hn : XN m 7 σ.2.2.2.2.1 := h.2.2.2.2.1
            simp only [F_X10_holds, X1, nx_has_y (by omega) hn.1 h2, px_exists_y h3, X4, Option.bind_some, ne10, if_false, if_true]
          · have hm : MN m 78 0 σ.2.2.2.2.1 := h.2.2.2.2.1
            simp only [F_X11_holds, M1, mx_st_y (by omega) hm.1 h2, pm_isRow_y h3, M4, Option.bind_some, ne10, if_false, if_true]
        · have X4 : ∀ m, F_X10_within x4 1 30 m = some (1, m) := fun m => by
            unfold F_X10_within
            rw [if_neg (fun h => h4 (Or.inl h)), if_neg (fun h => h4 (Or.inr h))]
          have M4 : ∀ m, F_X11_in x4 1 30 m = some (1, m) := X4
          obtain ⟨n, hn1, hn30, rfl⟩ := i32_30 (fun h => h4 (Or.inl h)) (fun h => h4 (Or.inr h))
          obtain ⟨q, hq, rfl⟩ := id h1
          obtain ⟨s, hs, rfl⟩ := id h2
          obtain ⟨r, hr, rfl⟩ := id h3
          cases hρ : σ.1 r with
          | none =>
            refine ok_found (n := 1) hσ (fun m h => ?_) (fun m h => ?_)
            · have hn : XN m 7 σ.2.2.2.2.1 := h.2.2.2.2.1
              simp only [F_X10_holds, X1, nx_has_y (by omega) hn.1 h2, px_exists_y h3, X4, xmis_n hr (h.1.no hr hρ), Option.bind_some, ne10, if_false, bind_id]
            · have hm : MN m 78 0 σ.2.2.2.2.1 := h.2.2.2.2.1
              simp only [F_X11_holds, M1, mx_st_y (by omega) hm.1 h2, pm_isRow_y h3, M4, mmis_n hr (h.1.no hr hρ), Option.bind_some, ne10, if_false, bind_id]
          | some y =>
            obtain ⟨l, L, g⟩ := y
            obtain ⟨hl, hL⟩ := hσ.1 r l L g hρ
            by_cases hnL : n ≤ L
            · refine ⟨hans σ.2.2.2.2.1 s (hrun σ.2.2.2.2.1 q g n (some (0, fun _ => 0, none))), (σ.1, 0, σ.2.2), hσ, fun c m hc h => ?_, fun m h => ?_⟩
              · obtain ⟨h0, ⟨v, hv, hk⟩, hj⟩ := id h
                have hn : XN m 7 σ.2.2.2.2.1 := h0.2.2.2.2.1
                obtain ⟨a1, a2, a3, a4, a5⟩ := h0.1.so hr hρ
                obtain ⟨m1, g1, g2, g3, g4, g5, g6⟩ := kx_steps hS (by omega) hn hk
                have hn1 := hn.fr g2
                have eMk := px_marked hS hn1
                have eAll : F_X4_all 7 m1 = some (nI (2 ^ σ.2.2.2.2.1.1 - 1), m1) := by
                  unfold F_X4_all
                  rw [hn1.1, all_eq w1]
                have hB : HX (pj_wr (pj_wr (pj_wr (pj_wr (pj_wr (pj_wr m1 54 1 (nI q)) 54 2 (nI (2 ^ σ.2.2.2.2.1.1 - 1))) 54 3 (nI (mks σ.2.2.2.2.1))) 54 4 0) 54 6 0) 54 7 0) σ.2.2.2.2.1 q (some (0, fun _ => 0, none)) := by
                  refine ⟨?_, ?_, ?_, ?_, ?_, fun i hi => absurd hi (Nat.not_lt_zero _), ?_⟩ <;> simp [hr_wr] <;> rfl
                have fB : fr [54, 55] m1 (pj_wr (pj_wr (pj_wr (pj_wr (pj_wr (pj_wr m1 54 1 (nI q)) 54 2 (nI (2 ^ σ.2.2.2.2.1.1 - 1))) 54 3 (nI (mks σ.2.2.2.2.1))) 54 4 0) 54 6 0) 54 7 0) := (((((fr.wr _ _ (by decide) _ _).tr (fr.wr _ _ (by decide) _ _)).tr (fr.wr _ _ (by decide) _ _)).tr (fr.wr _ _ (by decide) _ _)).tr (fr.wr _ _ (by decide) _ _)).tr (fr.wr _ _ (by decide) _ _)
                obtain ⟨m2, b1, b2⟩ := hx_holds (q := q) (s := s) (r := r) (L := L) (g := g) hS hq hr hs hL n pj_z _ (some (0, fun _ => 0, none)) (by have := pj_z_ge; omega) hnL (fun h f op e => by have := (Prod.mk.inj (Option.some.inj e)).1; omega) hB (g5.keep (fB.at 21 rfl)) (g6.keep (fB.at 22 rfl)) (fun i hi => by rw [fB.at 4 rfl, g2.at 4 (by decide)]; exact a5 i hi)
                have f54 : fr [54, 55] m1 m2 := fB.tr b2
                have fA : fk (54 :: 55 :: cxs) [(0, 13)] m (pj_wr m2 0 13 0) := (((g2.mono (by decide)).tr (f54.mono (by decide))).fk _).tr (fk.wp _ (by decide) _)
                refine ⟨pj_wr m2 0 13 0, ?_, h.sta fA hv (g3.keep (fun a ha => ⟨?_, ?_⟩)) (hr_wrs _ _ _ _), fA.hi (by decide) (by decide)⟩
                · have eL : F_X6_length (nI r) m = some (nI L, m) := by
                    unfold F_X6_length
                    rw [if_neg (hn_in hr (by decide)), hn_cl (by omega), a4]
                  have elt : (nI L < nI n) = False := eq_false (nI_nlt hnL (by omega))
                  simp only [F_X10_holds, X1, nx_has_y (by omega) hn.1 h2, px_exists_y h3, X4, xmis_y hr hl a3, eL, elt, Option.bind_some, ne10, if_false, if_true, g1, eAll, eMk, F_X3_begin]
                  exact b1
                · rw [hr_wra (by omega)]
                  exact f54.at a (by
                    have : a ≠ 54 ∧ a ≠ 55 := by omega
                    simp [this.1, this.2])
                · rw [hr_wr2]
                  exact f54.at2 a (by
                    have : a ≠ 54 ∧ a ≠ 55 := by omega
                    simp [this.1, this.2])
              · have hm : MN m 78 0 σ.2.2.2.2.1 := h.2.2.2.2.1
                obtain ⟨a1, a2, a3, a4, a5⟩ := h.1.so hr hρ
                obtain ⟨m1, g1, g2, g3⟩ := km_looks hS hm
                have hR := hm_holds (q := q) (s := s) (r := r) (g := g) hS hq hr hs n pj_z m1 0 0 (fun _ => 0) none (by have := pj_z_ge; omega) (by omega) ⟨fun i hi => absurd hi (Nat.not_lt_zero _), rfl⟩ g3 (fun i hi => by rw [g2.cells [75] (by decide) 75 (by decide)]; exact a5 i (by omega))
                obtain ⟨m2, b1, b2⟩ := hR
                have fA : fk (73 :: 74 :: 75 :: cms) ((72, 4) :: pms) m (pj_wr m2 72 4 0) := ((g2.mono (by decide) (by decide)).tr (b2.mono (by decide) (by decide))).tr (fk.wp _ (by decide) _)
                have cR : ∀ a ∈ [73, 74, 75], m2.1 a = m.1 a := fun a ha => (b2.cells [73, 74, 75] (by decide) a ha).trans (g2.cells [73, 74, 75] (by decide) a ha)
                refine ⟨pj_wr m2 72 4 0, ?_, h.row fA (h.1.keep (fun a ha => by rw [hr_wra (by simp at ha; omega)]; exact cR a ha)) (hr_wrs _ _ _ _), lo_rw fA⟩
                simp only [F_X11_holds, M1, mx_st_y (by omega) hm.1 h2, pm_isRow_y h3, M4, mmis_y hr hl a3, (pm_range hr hL a4).1 ((rg0 hn30).mpr hnL), Option.bind_some, ne10, if_false, if_true, g1, mx_states, g3.1.1, all_eq w1, hm_mk94 hS g3]
                exact b1
            · refine ok_found (n := 2) hσ (fun m h => ?_) (fun m h => ?_)
              · have hn : XN m 7 σ.2.2.2.2.1 := h.2.2.2.2.1
                obtain ⟨a1, a2, a3, a4, a5⟩ := h.1.so hr hρ
                have eL : F_X6_length (nI r) m = some (nI L, m) := by
                  unfold F_X6_length
                  rw [if_neg (hn_in hr (by decide)), hn_cl (by omega), a4]
                have elt : (nI L < nI n) = True := eq_true (nI_lt (by omega) (by omega))
                simp only [F_X10_holds, X1, nx_has_y (by omega) hn.1 h2, px_exists_y h3, X4, xmis_y hr hl a3, eL, elt, Option.bind_some, ne10, if_false, if_true, bind_id]
              · have hm : MN m 78 0 σ.2.2.2.2.1 := h.2.2.2.2.1
                obtain ⟨a1, a2, a3, a4, a5⟩ := h.1.so hr hρ
                simp only [F_X11_holds, M1, mx_st_y (by omega) hm.1 h2, pm_isRow_y h3, M4, mmis_y hr hl a3, (pm_range hr hL a4).2 (fun h => hnL ((rg0 hn30).mp h)), Option.bind_some, ne10, if_false, if_true, bind_id]
      · refine ok_same hσ (r := -1000001) (fun m h => ?_) (fun m h => ?_)
        · have hn : XN m 7 σ.2.2.2.2.1 := h.2.2.2.2.1
          simp only [F_X10_holds, X1, nx_has_y (by omega) hn.1 h2, px_exists_n h3, Option.bind_some, ne10, if_false, if_true]
        · have hm : MN m 78 0 σ.2.2.2.2.1 := h.2.2.2.2.1
          simp only [F_X11_holds, M1, mx_st_y (by omega) hm.1 h2, pm_isRow_n h3, Option.bind_some, ne10, if_false, if_true]
    · refine ok_same hσ (r := -1000001) (fun m h => ?_) (fun m h => ?_)
      · have hn : XN m 7 σ.2.2.2.2.1 := h.2.2.2.2.1
        simp only [F_X10_holds, X1, nx_has_n (by omega) hn.1 h2, Option.bind_some, ne10, if_false, if_true]
      · have hm : MN m 78 0 σ.2.2.2.2.1 := h.2.2.2.2.1
        simp only [F_X11_holds, M1, mx_st_n (by omega) hm.1 h2, Option.bind_some, ne10, if_false, if_true]
  · have X1 : ∀ m, F_X10_within x1 0 1 m = some (0, m) := fun m => px_within_n (n := 1) (by decide) h1
    have M1 : ∀ m, F_X11_in x1 0 1 m = some (0, m) := fun m => pm_in_n (n := 1) (by decide) h1
    refine ok_same hσ (r := -1000001) (fun m h => ?_) (fun m h => ?_)
    · simp only [F_X10_holds, X1, Option.bind_some, if_true]
    · simp only [F_X11_holds, M1, Option.bind_some, if_true]
