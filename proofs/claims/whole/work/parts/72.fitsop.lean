/-! PART 72: fits as a call -/
theorem xR.fit {c v' : Nat} {m m' : pj_M} {σ : sg} {x' : Int32} (h : xR c m σ) (hf : fk cft [(0, 13)] m m') (hJ : XJ m' v') (hv : v' ≤ 100 * (c + 1)) (hx : m'.1 0 13 = x') : xR (c + 1) m' (σ.1, x', σ.2.2) := by
  obtain ⟨⟨h1, h2, h3, h4, h5, h6, h7, h8⟩, ⟨v, hvc, hk⟩, -⟩ := h
  have e : ∀ a ∈ [2, 3, 4, 5, 6, 7, 8, 9, 17, 18, 56, 57, 58, 59, 60, 61, 62, 63], m'.1 a = m.1 a := hf.cells _ (by decide)
  refine ⟨⟨h1.keep (fun a ha => e a (by simp at ha ⊢; omega)), hx, ?_, ?_, h5.keep (e 7 (by decide)) (e 8 (by decide)) (e 9 (by decide)), h6.keep (fun a ha => e a (by simp at ha ⊢; omega)), h7.keep (fun a ha => e a (by simp at ha ⊢; omega)), ?_⟩, ⟨v, by omega, hk.keep (fun a ha => hf.both a (by simp [cft]; omega) (by simp; omega))⟩, v', hv, hJ⟩
  · unfold XT
    rw [e 5 (by decide), e 6 (by decide)]
    exact h3
  · rw [hf.1 0 12 (by decide) (by decide)]
    exact h4
  · unfold Xtr
    rw [e 56 (by decide), e 57 (by decide)]
    exact h8
theorem opg_fits {σ : sg} (hσ : WF σ) {x1 x2 x3 x4 : Int32} (h1 : inb x1 3) (h2 : inb x2 σ.2.2.2.2.1.2.2.1) (h3 : inb x3 8) (h4 : inb x4 3) : OK1 (F_X10_fits x1 x2 x3 x4) (F_X11_fits x1 x2 x3 x4) σ := by
  have hS : wfS σ.2.2.2.2.1 := hσ.2.2.1
  have w1 := hS.1
  have w2 := hS.2.1
  have X1 : ∀ m, F_X10_within x1 0 2 m = some (1, m) := fun m => px_within_y (n := 2) (by decide) h1
  have M1 : ∀ m, F_X11_in x1 0 2 m = some (1, m) := fun m => pm_in_y (n := 2) (by decide) h1
  have X4 : ∀ m, F_X10_within x4 0 2 m = some (1, m) := fun m => px_within_y (n := 2) (by decide) h4
  have M4 : ∀ m, F_X11_in x4 0 2 m = some (1, m) := fun m => pm_in_y (n := 2) (by decide) h4
  obtain ⟨q, hq, rfl⟩ := id h1
  obtain ⟨j, hj, rfl⟩ := id h2
  obtain ⟨r, hr, rfl⟩ := id h3
  obtain ⟨w, hw3, rfl⟩ := id h4
  have g0 : ((0 : Int32) < 0 ∨ 72 ≤ 0) = False := eq_false (by decide)
  cases hρ : σ.1 r with
  | none =>
    refine ok_found (n := 1) hσ (fun m h => ?_) (fun m h => ?_)
    · have hn : XN m 7 σ.2.2.2.2.1 := h.2.2.2.2.1
      simp only [F_X10_fits, X1, nx_arc_y (by omega) hn.2.1 h2, px_exists_y h3, X4, xmis_n hr (h.1.no hr hρ), Option.bind_some, ne10, if_false, bind_id]
    · have hm : MN m 78 0 σ.2.2.2.2.1 := h.2.2.2.2.1
      simp only [F_X11_fits, M1, mx_ar_y (m := m) (x := nI j) (n := σ.2.2.2.2.1.2.2.1) (by omega) hm.2.1 h2, pm_isRow_y h3, M4, mmis_n hr (h.1.no hr hρ), Option.bind_some, ne10, if_false, bind_id]
  | some y =>
    obtain ⟨l, L, g⟩ := y
    obtain ⟨hl, hL⟩ := hσ.1 r l L g hρ
    have XL : ∀ m, xR0 m σ → F_X6_length (nI r) m = some (nI L, m) := fun m h => by
      unfold F_X6_length
      rw [if_neg (hn_in hr (by decide)), hn_cl (by omega), (h.1.so hr hρ).2.2.2.1]
    by_cases hLn : L < σ.2.2.2.2.1.1
    · refine ok_found (n := 2) hσ (fun m h => ?_) (fun m h => ?_)
      · have hn : XN m 7 σ.2.2.2.2.1 := h.2.2.2.2.1
        have elt : (nI L < nI σ.2.2.2.2.1.1) = True := eq_true (nI_lt hLn (by omega))
        simp only [F_X10_fits, X1, nx_arc_y (by omega) hn.2.1 h2, px_exists_y h3, X4, xmis_y hr hl (h.1.so hr hρ).2.2.1, XL m h, F_X4_states, hn.1, elt, Option.bind_some, ne10, if_false, if_true, bind_id]
      · have hm : MN m 78 0 σ.2.2.2.2.1 := h.2.2.2.2.1
        have eP : F_X11_isPart (nI r) 0 (nI σ.2.2.2.2.1.1) m = some (0, m) := (pm_range hr hL (h.1.so hr hρ).2.2.2.1).2 (fun e => by have := (rg0 (show σ.2.2.2.2.1.1 ≤ 30 by omega)).mp e; omega)
        simp only [F_X11_fits, M1, mx_ar_y (m := m) (x := nI j) (n := σ.2.2.2.2.1.2.2.1) (by omega) hm.2.1 h2, pm_isRow_y h3, M4, mmis_y hr hl (h.1.so hr hρ).2.2.1, c0, g0, hm.1, eP, Option.bind_some, ne10, if_false, if_true, bind_id]
    · have hch : ∃ ch, (w = 0 → ch = 4) ∧ (w ≠ 0 → ch = σ.2.2.2.2.1.1) := by
        by_cases hw0 : w = 0
        · exact ⟨4, fun _ => rfl, fun h => absurd hw0 h⟩
        · exact ⟨_, fun h => absurd h hw0, fun _ => rfl⟩
      obtain ⟨ch, hc0, hc1⟩ := hch
      refine ⟨nI (st (fun i => tbk (parS σ.2.2.2.2.1 j w i) q g) ch), (σ.1, 0, σ.2.2), hσ, fun c m hc h => ?_, fun m h => ?_⟩
      · obtain ⟨h0, hkk, v, hv, hJ⟩ := id h
        have hn : XN m 7 σ.2.2.2.2.1 := h0.2.2.2.2.1
        obtain ⟨a1, a2, a3, a4, a5⟩ := h0.1.so hr hρ
        obtain ⟨m1, v1, b1, b2, b3, b4⟩ := hx_fits (q := q) (j := j) (w := w) (r := r) (g := g) hS hq hj hw3 hc0 hc1 hr m hn (fun i hi => a5 i (by omega)) v hJ (by omega)
        have fA : fk cft [(0, 13)] m (pj_wr m1 0 13 0) := (b2.fk _).tr (fk.wp _ (by decide) _)
        refine ⟨_, ?_, h.fit fA (b3.keep (fun a ha => hr_wra (by omega))) (by omega) (hr_wrs _ _ _ _), fA.hi (by decide) (by decide)⟩
        have elt : (nI L < nI σ.2.2.2.2.1.1) = False := eq_false (nI_nlt (by omega) (by omega))
        simp only [F_X10_fits, X1, nx_arc_y (by omega) hn.2.1 h2, px_exists_y h3, X4, xmis_y hr hl a3, XL m h0, F_X4_states, hn.1, elt, Option.bind_some, ne10, if_false, if_true]
        by_cases hw0 : w = 0
        · rw [if_pos (by rw [hw0]; rfl)]
          rw [hc0 hw0] at b1 ⊢
          exact b1
        · rw [if_neg (nI_ne0 (by omega) (by omega))]
          rw [hc1 hw0] at b1 ⊢
          exact b1
      · have hm : MN m 78 0 σ.2.2.2.2.1 := h.2.2.2.2.1
        obtain ⟨a1, a2, a3, a4, a5⟩ := h.1.so hr hρ
        obtain ⟨m1, b1, b2⟩ := hm_fits (q := q) (j := j) (w := w) (r := r) (g := g) hS hq hj hw3 hc0 hc1 hr m hm (fun i hi => a5 i (by omega))
        have fA : fk (73 :: 74 :: 75 :: cms) ((72, 4) :: pms) m (pj_wr m1 72 4 0) := (b2.mono (by decide) (by decide)).tr (fk.wp _ (by decide) _)
        refine ⟨_, ?_, h.row fA (h.1.keep (fun a ha => by rw [hr_wra (by simp at ha; omega)]; exact b2.cells [73, 74, 75] (by decide) a ha)) (hr_wrs _ _ _ _), lo_rw fA⟩
        have eP : F_X11_isPart (nI r) 0 (nI σ.2.2.2.2.1.1) m = some (1, m) := (pm_range hr hL a4).1 ((rg0 (show σ.2.2.2.2.1.1 ≤ 30 by omega)).mpr (by omega))
        simp only [F_X11_fits, M1, mx_ar_y (m := m) (x := nI j) (n := σ.2.2.2.2.1.2.2.1) (by omega) hm.2.1 h2, pm_isRow_y h3, M4, mmis_y hr hl a3, c0, g0, hm.1, eP, Option.bind_some, ne10, if_false, if_true]
        exact b1
theorem op_fits {σ : sg} (hσ : WF σ) (x1 x2 x3 x4 : Int32) : OK1 (F_X10_fits x1 x2 x3 x4) (F_X11_fits x1 x2 x3 x4) σ := by
  have hS : wfS σ.2.2.2.2.1 := hσ.2.2.1
  have w1 := hS.1
  have w2 := hS.2.1
  by_cases h1 : inb x1 3
  · by_cases h2 : inb x2 σ.2.2.2.2.1.2.2.1
    · by_cases h3 : inb x3 8
      · by_cases h4 : inb x4 3
        · exact opg_fits hσ h1 h2 h3 h4
        · refine ok_same hσ (r := -1000001) (fun m h => ?_) (fun m h => ?_)
          · have hn : XN m 7 σ.2.2.2.2.1 := h.2.2.2.2.1
            have e1 : F_X10_within x1 0 2 m = some (1, m) := px_within_y (n := 2) (by decide) h1
            have e2 : F_X4_hasArc 7 x2 m = some (1, m) := nx_arc_y (by omega) hn.2.1 h2
            have e3 : F_X6_exists x3 m = some (1, m) := px_exists_y h3
            have e4 : F_X10_within x4 0 2 m = some (0, m) := px_within_n (n := 2) (by decide) h4
            simp only [F_X10_fits, e1, e2, e3, e4, Option.bind_some, ne10, if_false, if_true]
          · have hm : MN m 78 0 σ.2.2.2.2.1 := h.2.2.2.2.1
            have e1 : F_X11_in x1 0 2 m = some (1, m) := pm_in_y (n := 2) (by decide) h1
            have e2 : F_X11_isArc x2 m = some (1, m) := mx_ar_y (by omega) hm.2.1 h2
            have e3 : F_X11_isRow x3 m = some (1, m) := pm_isRow_y h3
            have e4 : F_X11_in x4 0 2 m = some (0, m) := pm_in_n (n := 2) (by decide) h4
            simp only [F_X11_fits, e1, e2, e3, e4, Option.bind_some, ne10, if_false, if_true]
      · refine ok_same hσ (r := -1000001) (fun m h => ?_) (fun m h => ?_)
        · have hn : XN m 7 σ.2.2.2.2.1 := h.2.2.2.2.1
          have e1 : F_X10_within x1 0 2 m = some (1, m) := px_within_y (n := 2) (by decide) h1
          have e2 : F_X4_hasArc 7 x2 m = some (1, m) := nx_arc_y (by omega) hn.2.1 h2
          have e3 : F_X6_exists x3 m = some (0, m) := px_exists_n h3
          simp only [F_X10_fits, e1, e2, e3, Option.bind_some, ne10, if_false, if_true]
        · have hm : MN m 78 0 σ.2.2.2.2.1 := h.2.2.2.2.1
          have e1 : F_X11_in x1 0 2 m = some (1, m) := pm_in_y (n := 2) (by decide) h1
          have e2 : F_X11_isArc x2 m = some (1, m) := mx_ar_y (by omega) hm.2.1 h2
          have e3 : F_X11_isRow x3 m = some (0, m) := pm_isRow_n h3
          simp only [F_X11_fits, e1, e2, e3, Option.bind_some, ne10, if_false, if_true]
    · refine ok_same hσ (r := -1000001) (fun m h => ?_) (fun m h => ?_)
      · have hn : XN m 7 σ.2.2.2.2.1 := h.2.2.2.2.1
        have e1 : F_X10_within x1 0 2 m = some (1, m) := px_within_y (n := 2) (by decide) h1
        have e2 : F_X4_hasArc 7 x2 m = some (0, m) := nx_arc_n (by omega) hn.2.1 h2
        simp only [F_X10_fits, e1, e2, Option.bind_some, ne10, if_false, if_true]
      · have hm : MN m 78 0 σ.2.2.2.2.1 := h.2.2.2.2.1
        have e1 : F_X11_in x1 0 2 m = some (1, m) := pm_in_y (n := 2) (by decide) h1
        have e2 : F_X11_isArc x2 m = some (0, m) := mx_ar_n (by omega) hm.2.1 h2
        simp only [F_X11_fits, e1, e2, Option.bind_some, ne10, if_false, if_true]
  · refine ok_same hσ (r := -1000001) (fun m h => ?_) (fun m h => ?_)
    · have hn : XN m 7 σ.2.2.2.2.1 := h.2.2.2.2.1
      have e1 : F_X10_within x1 0 2 m = some (0, m) := px_within_n (n := 2) (by decide) h1
      simp only [F_X10_fits, e1, Option.bind_some, ne10, if_false, if_true]
    · have hm : MN m 78 0 σ.2.2.2.2.1 := h.2.2.2.2.1
      have e1 : F_X11_in x1 0 2 m = some (0, m) := pm_in_n (n := 2) (by decide) h1
      simp only [F_X11_fits, e1, Option.bind_some, ne10, if_false, if_true]
