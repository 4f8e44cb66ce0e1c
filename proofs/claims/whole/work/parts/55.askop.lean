/-! PART 55: ask as a call -/
def cxa : List Nat := 56 :: 57 :: cxs
theorem xR.trc {c v : Nat} {m m' : pj_M} {σ : sg} {k' : Nat × (Nat → Int32)} (h : xR c m σ) (hf : fr cxa m m') (hv : v ≤ 100 * c) (hk : XK m' v σ.2.2.2.2.1) (ht : Xtr m' k') : xR (c + 1) m' (σ.1, σ.2.1, σ.2.2.1, σ.2.2.2.1, σ.2.2.2.2.1, σ.2.2.2.2.2.1, σ.2.2.2.2.2.2.1, k') := by
  obtain ⟨⟨h1, h2, h3, h4, h5, h6, h7, h8⟩, -, w, hw, hj⟩ := h
  have e : ∀ a, (cxa.contains a) = false → m'.1 a = m.1 a := fun a ha => hf.at a ha
  refine ⟨⟨h1.keep (fun a ha => e a ?_), ?_, ?_, ?_, h5.keep (e 7 (by decide)) (e 8 (by decide)) (e 9 (by decide)), h6.keep (fun a ha => e a ?_), h7.keep (fun a ha => e a ?_), ht⟩, ⟨v, by omega, hk⟩, w, by omega, hj.keep (fun a ha => e a ?_)⟩
  · simp only [List.mem_cons, List.not_mem_nil, or_false] at ha
    rcases ha with rfl | rfl | rfl <;> decide
  · rw [e 0 (by decide)]
    exact h2
  · unfold XT
    rw [e 5 (by decide), e 6 (by decide)]
    exact h3
  · rw [e 0 (by decide)]
    exact h4
  · simp only [List.mem_cons, List.not_mem_nil, or_false] at ha
    rcases ha with rfl | rfl <;> decide
  · simp only [List.mem_cons, List.not_mem_nil, or_false] at ha
    rcases ha with rfl | rfl | rfl | rfl | rfl | rfl <;> decide
  · have : a = 13 ∨ a = 37 ∨ a = 38 ∨ a = 39 ∨ a = 40 ∨ a = 41 ∨ a = 42 ∨ a = 43 ∨ a = 44 ∨ a = 45 ∨ a = 46 ∨ a = 47 ∨ a = 48 ∨ a = 49 ∨ a = 50 ∨ a = 51 ∨ a = 52 := by omega
    rcases this with rfl | rfl | rfl | rfl | rfl | rfl | rfl | rfl | rfl | rfl | rfl | rfl | rfl | rfl | rfl | rfl | rfl <;> decide
theorem mR.trc {m m' : pj_M} {σ : sg} {k' : Nat × (Nat → Int32)} (h : mR m σ) (hf : fk cma pma m m') (ht : Mtr m' k') : mR m' (σ.1, σ.2.1, σ.2.2.1, σ.2.2.2.1, σ.2.2.2.2.1, σ.2.2.2.2.2.1, σ.2.2.2.2.2.2.1, k') := by
  obtain ⟨h1, h2, h3, h4, h5, h6, h7, h8⟩ := h
  have c : ∀ a ∈ [73, 74, 75, 77, 78, 80, 81, 82], m'.1 a = m.1 a := hf.cells _ (by decide)
  have p : ∀ k, k ∈ [4, 6, 7, 16] → m'.1 72 k = m.1 72 k := fun k hk => hf.1 72 k (by decide) (by
    simp only [List.mem_cons, List.not_mem_nil, or_false] at hk
    rcases hk with rfl | rfl | rfl | rfl <;> decide)
  refine ⟨h1.keep (fun a ha => c a (by simp at ha ⊢; omega)), ?_, ?_, ?_, h5.keep (c 78 (by decide)), ?_, h7.keep (fun a ha => c a (by simp at ha ⊢; omega)), ht⟩
  · rw [p 4 (by decide)]
    exact h2
  · unfold MT
    rw [p 6 (by decide), c 77 (by decide)]
    exact h3
  · rw [p 7 (by decide)]
    exact h4
  · unfold MA MN
    rw [p 16 (by decide), c 80 (by decide)]
    exact h6
theorem aks_len (k : Nat) (s p b : Int32) (w : Nat) : (aks k s p b w).2.length ≤ 16 := by
  unfold aks
  split <;> simp
theorem opg_ask {σ : sg} (hσ : WF σ) {x1 x2 : Int32} (h1 : inb x1 σ.2.2.2.2.1.1) (h2 : inb x2 2) : OK1 (F_X10_ask x1 x2) (F_X11_ask x1 x2) σ := by
  have hS : wfS σ.2.2.2.2.1 := hσ.2.2.1
  have w1 := hS.1
  have X2 : ∀ m, F_X10_within x2 0 1 m = some (1, m) := fun m => px_within_y (n := 1) (by decide) h2
  have M2 : ∀ m, F_X11_in x2 0 1 m = some (1, m) := fun m => pm_in_y (n := 1) (by decide) h2
  obtain ⟨s, hs, rfl⟩ := id h1
  obtain ⟨w, hw2, rfl⟩ := id h2
  have hk := hS.2.2.1 s hs
  have hlen := aks_len (σ.2.2.2.2.1.2.1 s) (nI s) (nI (wy σ.2.2.2.2.1 s)) (nI (bl σ.2.2.2.2.1 0 (rd σ.2.2.2.2.1 0) s)) w
  refine ⟨(aks (σ.2.2.2.2.1.2.1 s) (nI s) (nI (wy σ.2.2.2.2.1 s)) (nI (bl σ.2.2.2.2.1 0 (rd σ.2.2.2.2.1 0) s)) w).1, (σ.1, σ.2.1, σ.2.2.1, σ.2.2.2.1, σ.2.2.2.2.1, σ.2.2.2.2.2.1, σ.2.2.2.2.2.2.1, tl (aks (σ.2.2.2.2.1.2.1 s) (nI s) (nI (wy σ.2.2.2.2.1 s)) (nI (bl σ.2.2.2.2.1 0 (rd σ.2.2.2.2.1 0) s)) w).2), hσ, fun c m hc h => ?_, fun m h => ?_⟩
  · obtain ⟨h0, ⟨v, hv, hkk⟩, hj⟩ := id h
    have hn : XN m 7 σ.2.2.2.2.1 := h0.2.2.2.2.1
    obtain ⟨m1, g1, g2, g3, g4, g5, g6⟩ := kx_steps hS (by omega) hn hkk
    obtain ⟨m2, a1, a2, a3, a4, a5, a6, a7, a8⟩ := kx_part (q := 0) hS (by omega) (by decide) (hn.fr g2) g3
    have a1 : F_X1_parting 19 7 0 m1 = some (24 + 3 * 0, m2) := a1
    have e3 := nx_kind (m := m) (b := 7) (s := s) (by omega)
    rw [hn.2.2.1 s hs] at e3
    have eW := px_ways (m := m1) (T := 20) hS hs g5
    have eL := px_last hS a7 hs
    have hB : AX (pj_wr (pj_wr (pj_wr (pj_wr (pj_wr m2 56 2 (nI s)) 56 3 (nI (σ.2.2.2.2.1.2.1 s))) 56 4 (nI (wy σ.2.2.2.2.1 s))) 56 5 (nI (bl σ.2.2.2.2.1 0 (rd σ.2.2.2.2.1 0) s))) 56 1 0) (nI s) (nI (wy σ.2.2.2.2.1 s)) (nI (bl σ.2.2.2.2.1 0 (rd σ.2.2.2.2.1 0) s)) (σ.2.2.2.2.1.2.1 s) [] := by
      refine ⟨?_, fun i hi => absurd hi (Nat.not_lt_zero _), ?_, ?_, ?_, ?_⟩ <;> simp [hr_wr] <;> rfl
    have fB : fr cxa m2 (pj_wr (pj_wr (pj_wr (pj_wr (pj_wr m2 56 2 (nI s)) 56 3 (nI (σ.2.2.2.2.1.2.1 s))) 56 4 (nI (wy σ.2.2.2.2.1 s))) 56 5 (nI (bl σ.2.2.2.2.1 0 (rd σ.2.2.2.2.1 0) s))) 56 1 0) := ((((fr.wr _ _ (by decide) _ _).tr (fr.wr _ _ (by decide) _ _)).tr (fr.wr _ _ (by decide) _ _)).tr (fr.wr _ _ (by decide) _ _)).tr (fr.wr _ _ (by decide) _ _)
    obtain ⟨m3, b1, b2, b3⟩ := px_answer (k := σ.2.2.2.2.1.2.1 s) (w := w) hk hw2 hB
    have f56 : fr [56, 57] m2 m3 := (((((fr.wr _ _ (by decide) _ _).tr (fr.wr _ _ (by decide) _ _)).tr (fr.wr _ _ (by decide) _ _)).tr (fr.wr _ _ (by decide) _ _)).tr (fr.wr _ _ (by decide) _ _)).tr b3
    have fA : fr cxa m m3 := ((g2.mono (by decide)).tr (a2.mono (by decide))).tr (fB.tr (b3.mono (by decide)))
    refine ⟨m3, ?_, h.trc fA hv (a3.keep (fun a ha => ⟨f56.at a (by
      have : a ≠ 56 ∧ a ≠ 57 := by omega
      simp [this.1, this.2]), f56.at2 a (by
      have : a ≠ 56 ∧ a ≠ 57 := by omega
      simp [this.1, this.2])⟩)) ⟨hlen, b2.1, b2.2.1⟩, fA.hi (by decide)⟩
    simp only [F_X10_ask, nx_has_y (by omega) hn.1 h1, X2, e3, Option.bind_some, ne10, if_false, g1, eW, a1, eL, F_X2_begin, b1]
  · have hm : MN m 78 0 σ.2.2.2.2.1 := h.2.2.2.2.1
    have hA : AM (pj_wr m 72 32 0) σ.2.2.2.2.1 [] := ⟨hr_wrs _ _ _ _, fun i hi => absurd hi (Nat.not_lt_zero _), hm.keep (hr_wra (by decide))⟩
    obtain ⟨m1, g1, g2, g3⟩ := mm_ask hS hs hw2 (pj_wr m 72 32 0) [] hA (by simpa using hlen)
    have fA : fk cma pma m m1 := (fk.wp _ (by decide) _).tr g3
    rw [List.nil_append] at g2
    refine ⟨m1, ?_, h.trc fA ⟨hlen, g2.1, g2.2.1⟩, fA.lo (by decide) (by decide)⟩
    simp only [F_X11_ask, mx_st_y (by omega) hm.1 h1, M2, Option.bind_some, ne10, if_false]
    exact g1
theorem op_ask {σ : sg} (hσ : WF σ) (x1 x2 : Int32) : OK1 (F_X10_ask x1 x2) (F_X11_ask x1 x2) σ := by
  have hS : wfS σ.2.2.2.2.1 := hσ.2.2.1
  have w1 := hS.1
  have w2 := hS.2.1
  by_cases h1 : inb x1 σ.2.2.2.2.1.1
  · by_cases h2 : inb x2 2
    · exact opg_ask hσ h1 h2
    · refine ok_same hσ (r := -1000001) (fun m h => ?_) (fun m h => ?_)
      · have hn : XN m 7 σ.2.2.2.2.1 := h.2.2.2.2.1
        have e1 : F_X4_hasState 7 x1 m = some (1, m) := nx_has_y (by omega) hn.1 h1
        have e2 : F_X10_within x2 0 1 m = some (0, m) := px_within_n (n := 1) (by decide) h2
        simp only [F_X10_ask, e1, e2, Option.bind_some, ne10, if_false, if_true]
      · have hm : MN m 78 0 σ.2.2.2.2.1 := h.2.2.2.2.1
        have e1 : F_X11_isState x1 m = some (1, m) := mx_st_y (by omega) hm.1 h1
        have e2 : F_X11_in x2 0 1 m = some (0, m) := pm_in_n (n := 1) (by decide) h2
        simp only [F_X11_ask, e1, e2, Option.bind_some, ne10, if_false, if_true]
  · refine ok_same hσ (r := -1000001) (fun m h => ?_) (fun m h => ?_)
    · have hn : XN m 7 σ.2.2.2.2.1 := h.2.2.2.2.1
      have e1 : F_X4_hasState 7 x1 m = some (0, m) := nx_has_n (by omega) hn.1 h1
      simp only [F_X10_ask, e1, Option.bind_some, ne10, if_false, if_true]
    · have hm : MN m 78 0 σ.2.2.2.2.1 := h.2.2.2.2.1
      have e1 : F_X11_isState x1 m = some (0, m) := mx_st_n (by omega) hm.1 h1
      simp only [F_X11_ask, e1, Option.bind_some, ne10, if_false, if_true]
