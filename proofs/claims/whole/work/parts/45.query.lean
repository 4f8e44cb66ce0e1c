/-! PART 45: queries: caches of X, frames; moves, block, parts, behind, signs, parted -/
def cxs : List Nat := [20, 21, 22, 23, 24, 25, 26, 27, 28, 29, 30, 31, 32, 33, 34, 35, 64, 65, 66, 67, 68, 69, 70, 71]
def cms : List Nat := [76, 79, 83, 84, 85, 86, 87, 88, 89, 90, 91, 92, 93]
def pms : List (Nat × Nat) := [(72, 8), (72, 9), (72, 10), (72, 11), (72, 12), (72, 23)]
theorem kx_follow {m : pj_M} {v : Nat} {S : sy} (hw : wfS S) (hv : v < 2 ^ 31) (hn : XN m 7 S) (hk : XK m v S) : ∃ m', F_X7_follow 20 7 m = some m' ∧ fr [20, 21, 22] m m' ∧ XK m' v S ∧ m'.1 20 2 = nI v ∧ GT m' 21 (go S) ∧ GT m' 22 (cl S) := by
  obtain ⟨k1, k2, k3, k4⟩ := id hk
  by_cases h : m.1 20 2 = m.1 7 4
  · obtain ⟨g1, g2⟩ := k2.hit hv (h.trans k1)
    refine ⟨m, ?_, fr.rf _ _, hk, h.trans k1, g1, g2⟩
    unfold F_X7_follow
    simp only [F_X4_version, Option.bind_some]
    rw [if_pos h]
  · obtain ⟨m', g1, g2, g3, g4, g5⟩ := px_follow (b := 20) (nb := 7) hw hn (by decide) h
    refine ⟨m', g1, g2, ⟨?_, ?_, fun q hq => ?_, fun q hq => ?_⟩, g3.trans k1, g4, g5⟩
    · rw [g2.at 7 rfl]
      exact k1
    · rw [g3, k1]
      exact sn.new ⟨g4, g5⟩
    · obtain ⟨a1, a2⟩ := k3 q hq
      have e0 := (g2 (24 + 3 * q) (by simp; omega)).1
      have e1 := (g2 (24 + 3 * q + 1) (by simp; omega)).1
      have e2 := (g2 (24 + 3 * q + 2) (by simp; omega)).2
      rw [e0]
      exact ⟨a1, a2.imp (fun h => h.keep e0 e1 e2)⟩
    · obtain ⟨a1, a2⟩ := k4 q hq
      have e0 := (g2 (64 + 4 * q) (by simp; omega)).1
      have e1 := (g2 (64 + 4 * q + 1) (by simp; omega)).1
      have e2 := (g2 (64 + 4 * q + 2) (by simp; omega)).1
      have e3 := (g2 (64 + 4 * q + 3) (by simp; omega)).2
      rw [e0]
      exact ⟨a1, a2.imp (fun h => h.keep e1 e2 e3)⟩
theorem kx_steps {m : pj_M} {v : Nat} {S : sy} (hw : wfS S) (hv : v < 2 ^ 31) (hn : XN m 7 S) (hk : XK m v S) : ∃ m', F_X1_steps 19 7 m = some (20, m') ∧ fr cxs m m' ∧ XK m' v S ∧ m'.1 20 2 = nI v ∧ GT m' 21 (go S) ∧ GT m' 22 (cl S) := by
  obtain ⟨m', g1, g2, g3⟩ := kx_follow hw hv hn hk
  refine ⟨m', ?_, g2.mono (by decide), g3⟩
  unfold F_X1_steps
  have e : F_X7_follow (19 + 1) 7 m = some m' := g1
  rw [e]
  rfl
theorem kx_pfollow {m : pj_M} {v q : Nat} {S : sy} (hw : wfS S) (hv : v < 2 ^ 31) (hq : q < 4) (hn : XN m 7 S) (hk : XK m v S) (hg : GT m 21 (go S)) (hc : GT m 22 (cl S)) : ∃ m', F_X5_follow (24 + 3 * q) 7 20 m = some m' ∧ fr [24 + 3 * q, 24 + 3 * q + 1, 24 + 3 * q + 2] m m' ∧ XK m' v S ∧ PT m' (24 + 3 * q) S q ∧ m'.1 (24 + 3 * q) 6 = nI v := by
  obtain ⟨k1, k2, k3, k4⟩ := id hk
  obtain ⟨b1, b2⟩ := k3 q hq
  by_cases h : m.1 (24 + 3 * q) 6 = m.1 7 4
  · refine ⟨m, ?_, fr.rf _ _, hk, b2.hit hv (h.trans k1), h.trans k1⟩
    unfold F_X5_follow
    simp only [F_X4_version, Option.bind_some]
    rw [if_pos h]
  · obtain ⟨m', g1, g2, g3, g4⟩ := px_pfollow (P := 24 + 3 * q) (nb := 7) (T := 20) hw (by omega) (by omega) hq hn b1 hg hc h
    refine ⟨m', g1, g2, ⟨?_, ?_, fun q' hq' => ?_, fun q' hq' => ?_⟩, g3, g4.trans k1⟩
    · rw [(g2 7 (by simp; omega)).1]
      exact k1
    · rw [(g2 20 (by simp; omega)).1]
      exact k2.imp (fun h => ⟨h.1.keep (g2 21 (by simp; omega)).1, h.2.keep (g2 22 (by simp; omega)).1⟩)
    · by_cases hqq : q' = q
      · rw [hqq]
        refine ⟨g3.1, ?_⟩
        rw [g4, k1]
        exact sn.new g3
      · obtain ⟨a1, a2⟩ := k3 q' hq'
        have e0 := (g2 (24 + 3 * q') (by simp; omega)).1
        have e1 := (g2 (24 + 3 * q' + 1) (by simp; omega)).1
        have e2 := (g2 (24 + 3 * q' + 2) (by simp; omega)).2
        rw [e0]
        exact ⟨a1, a2.imp (fun h => h.keep e0 e1 e2)⟩
    · obtain ⟨a1, a2⟩ := k4 q' hq'
      have e0 := (g2 (64 + 4 * q') (by simp; omega)).1
      have e1 := (g2 (64 + 4 * q' + 1) (by simp; omega)).1
      have e2 := (g2 (64 + 4 * q' + 2) (by simp; omega)).1
      have e3 := (g2 (64 + 4 * q' + 3) (by simp; omega)).2
      rw [e0]
      exact ⟨a1, a2.imp (fun h => h.keep e1 e2 e3)⟩
theorem fr_pt {m m' : pj_M} {q : Nat} (hq : q < 4) (h : fr [24 + 3 * q, 24 + 3 * q + 1, 24 + 3 * q + 2] m m') : fr cxs m m' := by
  refine h.mono (fun a ha => ?_)
  have : a = 24 + 3 * q ∨ a = 24 + 3 * q + 1 ∨ a = 24 + 3 * q + 2 := by simpa using ha
  have hq' : q = 0 ∨ q = 1 ∨ q = 2 ∨ q = 3 := by omega
  rcases hq' with rfl | rfl | rfl | rfl <;> rcases this with rfl | rfl | rfl <;> decide
theorem kx_part {m : pj_M} {v q : Nat} {S : sy} (hw : wfS S) (hv : v < 2 ^ 31) (hq : q < 4) (hn : XN m 7 S) (hk : XK m v S) : ∃ m', F_X1_parting 19 7 (nI q) m = some (24 + 3 * q, m') ∧ fr cxs m m' ∧ XK m' v S ∧ m'.1 20 2 = nI v ∧ GT m' 21 (go S) ∧ GT m' 22 (cl S) ∧ PT m' (24 + 3 * q) S q ∧ m'.1 (24 + 3 * q) 6 = nI v := by
  obtain ⟨m1, g1, g2, g3, g4, g5, g6⟩ := kx_follow hw hv hn hk
  have hn1 : XN m1 7 S := hn.keep (g2.at 7 rfl) (g2.at 8 rfl) (g2.at 9 rfl)
  obtain ⟨m2, a1, a2, a3, a4, a5⟩ := kx_pfollow hw hv hq hn1 g3 g5 g6
  refine ⟨m2, ?_, (g2.mono (by decide)).tr (fr_pt hq a2), a3, ?_, g5.keep (a2 21 (by simp; omega)).1, g6.keep (a2 22 (by simp; omega)).1, a4, a5⟩
  · unfold F_X1_parting
    have e : F_X7_follow (19 + 1) 7 m = some m1 := g1
    rw [e]
    simp only [Option.bind_some]
    rw [if_neg (hn_in hq (by decide)), hn_cl (by omega)]
    have e2 : F_X5_follow (19 + 4 + 1 + 3 * q) 7 (19 + 1) m1 = some m2 := a1
    rw [e2]
    simp only [Option.bind_some]
    rw [if_neg (hn_in' hq (by omega))]
  · rw [(a2 20 (by simp; omega)).1]
    exact g4
theorem xq {c v : Nat} {m m' : pj_M} {σ : sg} (h : xR c m σ) (hf : fr cxs m m') (hv : v ≤ 100 * c) (hk : XK m' v σ.2.2.2.2.1) : xR (c + 1) m' σ := by
  obtain ⟨h0, -, w, hw, j1, j2, j3⟩ := h
  refine ⟨h0.keep (fun a ha => hf.at a ?_), ⟨v, by omega, hk⟩, w, by omega, ?_, ?_, fun q hq => ?_⟩
  · simp only [List.mem_cons, List.not_mem_nil, or_false] at ha
    rcases ha with rfl | rfl | rfl | rfl | rfl | rfl | rfl | rfl | rfl | rfl | rfl | rfl | rfl | rfl | rfl | rfl | rfl | rfl | rfl <;> decide
  · rw [hf.at 13 (by decide)]
    exact j1
  · rw [hf.at 37 (by decide)]
    exact j2
  · have hq' : q = 0 ∨ q = 1 ∨ q = 2 ∨ q = 3 := by omega
    have e : m'.1 (41 + 3 * q) = m.1 (41 + 3 * q) := by
      rcases hq' with rfl | rfl | rfl | rfl
      · exact hf.at 41 (by decide)
      · exact hf.at 44 (by decide)
      · exact hf.at 47 (by decide)
      · exact hf.at 50 (by decide)
    rw [e]
    exact j3 q hq
theorem hi_cx {m m' : pj_M} (h : fr cxs m m') : hi m m' := h.hi (by decide)
theorem mR.keep {m m' : pj_M} {σ : sg} (h : mR m σ) (hf : fk cms pms m m') : mR m' σ := by
  obtain ⟨h1, h2, h3, h4, h5, h6, h7, h8⟩ := h
  have c : ∀ a ∈ [73, 74, 75, 77, 78, 80, 81, 82, 94], m'.1 a = m.1 a := hf.cells _ (by decide)
  have p : ∀ k, k ∈ [4, 6, 7, 16, 32] → m'.1 72 k = m.1 72 k := fun k hk => hf.1 72 k (by decide) (by
    simp only [List.mem_cons, List.not_mem_nil, or_false] at hk
    rcases hk with rfl | rfl | rfl | rfl | rfl <;> decide)
  refine ⟨h1.keep (fun a ha => c a (by simp at ha ⊢; omega)), ?_, ?_, ?_, h5.keep (c 78 (by decide)), ?_, h7.keep (fun a ha => c a (by simp at ha ⊢; omega)), ?_⟩
  · rw [p 4 (by decide)]
    exact h2
  · unfold MT
    rw [p 6 (by decide), c 77 (by decide)]
    exact h3
  · rw [p 7 (by decide)]
    exact h4
  · unfold MA MN
    rw [p 16 (by decide), c 80 (by decide)]
    exact h6
  · unfold Mtr
    rw [p 32 (by decide), c 94 (by decide)]
    exact h8
theorem lo_cm {m m' : pj_M} (h : fk cms pms m m') : lo m m' := h.lo (by decide) (by decide)
theorem km_looks {m : pj_M} {S : sy} (hw : wfS S) (hm : MN m 78 0 S) : ∃ m', F_X11_looks 72 78 0 m = some m' ∧ fk cms pms m m' ∧ LK m' S := by
  obtain ⟨m', g1, g2, g3⟩ := pm_looks (n1 := 72) (A := 78) (o := 0) hw (by decide) (by decide) (by decide) hm
  exact ⟨m', g1, (g2.mono (by decide)).fk _, g3⟩
theorem km_parts {m : pj_M} {S : sy} {q : Nat} (hw : wfS S) (hl : LK m S) (hq : q < 4) : ∃ m', F_X11_partsBy (nI q) m = some (nI (ct S q (rd S q)), m') ∧ fk cms pms m m' ∧ PB m' S q ∧ LK m' S := by
  obtain ⟨m', g1, g2, g3⟩ := pm_partsBy hw hl hq
  exact ⟨m', g1, g2.mono (by decide) (by decide), g3, hl.keep (g2.cells _ (by decide))⟩
theorem opg_moves {σ : sg} (hσ : WF σ) {x1 x2 x3 : Int32} (h1 : inb x1 3) (h2 : inb x2 σ.2.2.2.2.1.1) (h3 : inb x3 4) : OK1 (F_X10_moves x1 x2 x3) (F_X11_moves x1 x2 x3) σ := by
  have hS : wfS σ.2.2.2.2.1 := hσ.2.2.1
  have w1 := hS.1
  have X1 : ∀ m, F_X10_within x1 0 2 m = some (1, m) := fun m => px_within_y (by decide) h1
  have M1 : ∀ m, F_X11_in x1 0 2 m = some (1, m) := fun m => pm_in_y (by decide) h1
  have X3 : ∀ m, F_X10_within x3 0 3 m = some (1, m) := fun m => px_within_y (by decide) h3
  obtain ⟨q, hq, rfl⟩ := id h1
  obtain ⟨s, hs, rfl⟩ := id h2
  obtain ⟨a, ha, rfl⟩ := id h3
  refine ⟨nI (mv σ.2.2.2.2.1 q a s), _, hσ, fun c m hc h => ?_, fun m h => ?_⟩
  · obtain ⟨h0, ⟨v, hv, hk⟩, hj⟩ := id h
    have hn : XN m 7 σ.2.2.2.2.1 := h0.2.2.2.2.1
    obtain ⟨m', g1, g2, g3, g4, g5, g6⟩ := kx_steps hS (by omega) hn hk
    refine ⟨m', ?_, xq h g2 hv g3, hi_cx g2⟩
    simp only [F_X10_moves, X1, nx_has_y (by omega) hn.1 h2, X3, Option.bind_some, ne10, if_false, g1, px_moved (T := 20) (show q < 4 by omega) ha (show s < 10 by omega) g5 g6]
  · have hm : MN m 78 0 σ.2.2.2.2.1 := h.2.2.2.2.1
    obtain ⟨m', g1, g2, g3⟩ := km_looks hS hm
    refine ⟨m', ?_, h.keep g2, lo_cm g2⟩
    simp only [F_X11_moves, M1, mx_st_y (by omega) hm.1 h2, mx_let_y h3, Option.bind_some, ne10, if_false, g1, pm_moving hS g3 (show q < 4 by omega) ha hs]
theorem op_moves {σ : sg} (hσ : WF σ) (x1 x2 x3 : Int32) : OK1 (F_X10_moves x1 x2 x3) (F_X11_moves x1 x2 x3) σ := by
  have hS : wfS σ.2.2.2.2.1 := hσ.2.2.1
  have w1 := hS.1
  have w2 := hS.2.1
  by_cases h1 : inb x1 3
  · by_cases h2 : inb x2 σ.2.2.2.2.1.1
    · by_cases h3 : inb x3 4
      · exact opg_moves hσ h1 h2 h3
      · refine ok_same hσ (r := -1000001) (fun m h => ?_) (fun m h => ?_)
        · have hn : XN m 7 σ.2.2.2.2.1 := h.2.2.2.2.1
          have e1 : F_X10_within x1 0 2 m = some (1, m) := px_within_y (n := 2) (by decide) h1
          have e2 : F_X4_hasState 7 x2 m = some (1, m) := nx_has_y (by omega) hn.1 h2
          have e3 : F_X10_within x3 0 3 m = some (0, m) := px_within_n (n := 3) (by decide) h3
          simp only [F_X10_moves, e1, e2, e3, Option.bind_some, ne10, if_false, if_true]
        · have hm : MN m 78 0 σ.2.2.2.2.1 := h.2.2.2.2.1
          have e1 : F_X11_in x1 0 2 m = some (1, m) := pm_in_y (n := 2) (by decide) h1
          have e2 : F_X11_isState x2 m = some (1, m) := mx_st_y (by omega) hm.1 h2
          have e3 : F_X11_isLetter x3 m = some (0, m) := mx_let_n h3
          simp only [F_X11_moves, e1, e2, e3, Option.bind_some, ne10, if_false, if_true]
    · refine ok_same hσ (r := -1000001) (fun m h => ?_) (fun m h => ?_)
      · have hn : XN m 7 σ.2.2.2.2.1 := h.2.2.2.2.1
        have e1 : F_X10_within x1 0 2 m = some (1, m) := px_within_y (n := 2) (by decide) h1
        have e2 : F_X4_hasState 7 x2 m = some (0, m) := nx_has_n (by omega) hn.1 h2
        simp only [F_X10_moves, e1, e2, Option.bind_some, ne10, if_false, if_true]
      · have hm : MN m 78 0 σ.2.2.2.2.1 := h.2.2.2.2.1
        have e1 : F_X11_in x1 0 2 m = some (1, m) := pm_in_y (n := 2) (by decide) h1
        have e2 : F_X11_isState x2 m = some (0, m) := mx_st_n (by omega) hm.1 h2
        simp only [F_X11_moves, e1, e2, Option.bind_some, ne10, if_false, if_true]
  · refine ok_same hσ (r := -1000001) (fun m h => ?_) (fun m h => ?_)
    · have hn : XN m 7 σ.2.2.2.2.1 := h.2.2.2.2.1
      have e1 : F_X10_within x1 0 2 m = some (0, m) := px_within_n (n := 2) (by decide) h1
      simp only [F_X10_moves, e1, Option.bind_some, ne10, if_false, if_true]
    · have hm : MN m 78 0 σ.2.2.2.2.1 := h.2.2.2.2.1
      have e1 : F_X11_in x1 0 2 m = some (0, m) := pm_in_n (n := 2) (by decide) h1
      simp only [F_X11_moves, e1, Option.bind_some, ne10, if_false, if_true]
theorem px_last {m : pj_M} {P q s : Nat} {S : sy} (hw : wfS S) (hP : PT m P S q) (hs : s < S.1) : F_X5_lastBlock P (nI s) m = some (nI (bl S q (rd S q) s), m) := by
  have := rd_le9 hw q
  have := hw.1
  unfold F_X5_lastBlock
  rw [hP.2.2.1, px_bb (by omega) (by omega), hP.2.2.2.2.1 _ s (Nat.le_refl _) hs]
  rfl
theorem pm_last {m : pj_M} {q s : Nat} {S : sy} (hw : wfS S) (hP : PB m S q) (hs : s < S.1) : F_X11_blockIn (nI (rd S q)) (nI s) m = some (nI (bl S q (rd S q) s), m) := by
  have := rd_le9 hw q
  have := hw.1
  rw [pm_bi (by omega) (by omega), hP.2 _ s (Nat.le_refl _) hs]
theorem opg_block {σ : sg} (hσ : WF σ) {x1 x2 : Int32} (h1 : inb x1 4) (h2 : inb x2 σ.2.2.2.2.1.1) : OK1 (F_X10_block x1 x2) (F_X11_block x1 x2) σ := by
  have hS : wfS σ.2.2.2.2.1 := hσ.2.2.1
  have w1 := hS.1
  have X1 : ∀ m, F_X10_within x1 0 3 m = some (1, m) := fun m => px_within_y (by decide) h1
  have M1 : ∀ m, F_X11_in x1 0 3 m = some (1, m) := fun m => pm_in_y (by decide) h1
  obtain ⟨q, hq, rfl⟩ := id h1
  obtain ⟨s, hs, rfl⟩ := id h2
  refine ⟨nI (bl σ.2.2.2.2.1 q (rd σ.2.2.2.2.1 q) s), _, hσ, fun c m hc h => ?_, fun m h => ?_⟩
  · obtain ⟨h0, ⟨v, hv, hk⟩, hj⟩ := id h
    have hn : XN m 7 σ.2.2.2.2.1 := h0.2.2.2.2.1
    obtain ⟨m', g1, g2, g3, g4, g5, g6, g7, g8⟩ := kx_part hS (by omega) hq hn hk
    refine ⟨m', ?_, xq h g2 hv g3, hi_cx g2⟩
    simp only [F_X10_block, X1, nx_has_y (by omega) hn.1 h2, Option.bind_some, ne10, if_false, g1, px_last hS g7 hs]
  · have hm : MN m 78 0 σ.2.2.2.2.1 := h.2.2.2.2.1
    obtain ⟨m1, g1, g2, g3⟩ := km_looks hS hm
    obtain ⟨m2, a1, a2, a3, a4⟩ := km_parts hS g3 hq
    refine ⟨m2, ?_, h.keep (g2.tr a2), lo_cm (g2.tr a2)⟩
    simp only [F_X11_block, F_X11_blockOf, M1, mx_st_y (by omega) hm.1 h2, Option.bind_some, ne10, if_false, g1, a1, a3.1, pm_last hS a3 hs]
theorem op_block {σ : sg} (hσ : WF σ) (x1 x2 : Int32) : OK1 (F_X10_block x1 x2) (F_X11_block x1 x2) σ := by
  have hS : wfS σ.2.2.2.2.1 := hσ.2.2.1
  have w1 := hS.1
  have w2 := hS.2.1
  by_cases h1 : inb x1 4
  · by_cases h2 : inb x2 σ.2.2.2.2.1.1
    · exact opg_block hσ h1 h2
    · refine ok_same hσ (r := -1000001) (fun m h => ?_) (fun m h => ?_)
      · have hn : XN m 7 σ.2.2.2.2.1 := h.2.2.2.2.1
        have e1 : F_X10_within x1 0 3 m = some (1, m) := px_within_y (n := 3) (by decide) h1
        have e2 : F_X4_hasState 7 x2 m = some (0, m) := nx_has_n (by omega) hn.1 h2
        simp only [F_X10_block, e1, e2, Option.bind_some, ne10, if_false, if_true]
      · have hm : MN m 78 0 σ.2.2.2.2.1 := h.2.2.2.2.1
        have e1 : F_X11_in x1 0 3 m = some (1, m) := pm_in_y (n := 3) (by decide) h1
        have e2 : F_X11_isState x2 m = some (0, m) := mx_st_n (by omega) hm.1 h2
        simp only [F_X11_block, e1, e2, Option.bind_some, ne10, if_false, if_true]
  · refine ok_same hσ (r := -1000001) (fun m h => ?_) (fun m h => ?_)
    · have hn : XN m 7 σ.2.2.2.2.1 := h.2.2.2.2.1
      have e1 : F_X10_within x1 0 3 m = some (0, m) := px_within_n (n := 3) (by decide) h1
      simp only [F_X10_block, e1, Option.bind_some, ne10, if_false, if_true]
    · have hm : MN m 78 0 σ.2.2.2.2.1 := h.2.2.2.2.1
      have e1 : F_X11_in x1 0 3 m = some (0, m) := pm_in_n (n := 3) (by decide) h1
      simp only [F_X11_block, e1, Option.bind_some, ne10, if_false, if_true]
theorem mx_sys_y {m : pj_M} {n : Nat} (hn : n < 2 ^ 31) (h : m.1 78 0 = nI n) (h0 : 0 < n) : F_X11_isSystem m = some (1, m) := by
  unfold F_X11_isSystem
  rw [if_neg (by decide), c0, h, if_pos (show (0 : Int32) < nI n from nI_lt (a := 0) h0 hn)]
theorem mx_sys_n {m : pj_M} (h : m.1 78 0 = nI 0) : F_X11_isSystem m = some (0, m) := by
  unfold F_X11_isSystem
  rw [if_neg (by decide), c0, h, if_neg (by decide)]
theorem nx_ne0 {n : Nat} (hn : n < 2 ^ 31) (h0 : 0 < n) : (nI n = 0) = False := eq_false (nI_ne0 h0 hn)
theorem op_parts {σ : sg} (hσ : WF σ) (x1 x2 : Int32) : OK1 (F_X10_parts x1 x2) (F_X11_parts x1 x2) σ := by
  have hS : wfS σ.2.2.2.2.1 := hσ.2.2.1
  have w1 := hS.1
  rcases Nat.eq_zero_or_pos σ.2.2.2.2.1.1 with h0 | h0
  · refine ok_same hσ (r := -1000002) (fun m h => ?_) (fun m h => ?_)
    · have hn : XN m 7 σ.2.2.2.2.1 := h.2.2.2.2.1
      have e : m.1 7 2 = 0 := by rw [hn.1, h0]; rfl
      simp only [F_X10_parts, F_X4_states, e, Option.bind_some, if_true]
    · have hm : MN m 78 0 σ.2.2.2.2.1 := h.2.2.2.2.1
      have e : m.1 78 0 = nI 0 := by rw [hm.1, h0]
      simp only [F_X11_parts, mx_sys_n e, Option.bind_some, if_true]
  · by_cases h1 : inb x1 4
    · have X1 : ∀ m, F_X10_within x1 0 3 m = some (1, m) := fun m => px_within_y (by decide) h1
      have M1 : ∀ m, F_X11_in x1 0 3 m = some (1, m) := fun m => pm_in_y (by decide) h1
      by_cases h2 : inb x2 2
      · have X2 : ∀ m, F_X10_within x2 0 1 m = some (1, m) := fun m => px_within_y (n := 1) (by decide) h2
        have M2 : ∀ m, F_X11_in x2 0 1 m = some (1, m) := fun m => pm_in_y (n := 1) (by decide) h2
        obtain ⟨q, hq, rfl⟩ := id h1
        refine ⟨if x2 = 0 then nI (ct σ.2.2.2.2.1 q (rd σ.2.2.2.2.1 q)) else nI (rd σ.2.2.2.2.1 q), _, hσ, fun c m hc h => ?_, fun m h => ?_⟩
        · obtain ⟨h0', ⟨v, hv, hk⟩, hj⟩ := id h
          have hn : XN m 7 σ.2.2.2.2.1 := h0'.2.2.2.2.1
          obtain ⟨m', g1, g2, g3, g4, g5, g6, g7, g8⟩ := kx_part hS (by omega) hq hn hk
          refine ⟨m', ?_, xq h g2 hv g3, hi_cx g2⟩
          simp only [F_X10_parts, F_X4_states, hn.1, nx_ne0 (show σ.2.2.2.2.1.1 < 2 ^ 31 by omega) h0, X1, X2, Option.bind_some, ne10, if_false, g1, F_X5_size, F_X5_rounds, g7.2.2.1, g7.2.2.2.1]
          split <;> rfl
        · have hm : MN m 78 0 σ.2.2.2.2.1 := h.2.2.2.2.1
          obtain ⟨m1, g1, g2, g3⟩ := km_looks hS hm
          obtain ⟨m2, a1, a2, a3, a4⟩ := km_parts hS g3 hq
          refine ⟨m2, ?_, h.keep (g2.tr a2), lo_cm (g2.tr a2)⟩
          simp only [F_X11_parts, mx_sys_y (show σ.2.2.2.2.1.1 < 2 ^ 31 by omega) hm.1 h0, M1, M2, Option.bind_some, ne10, if_false, g1, a1, a3.1]
          split <;> rfl
      · refine ok_same hσ (r := -1000001) (fun m h => ?_) (fun m h => ?_)
        · have hn : XN m 7 σ.2.2.2.2.1 := h.2.2.2.2.1
          have X2 : F_X10_within x2 0 1 m = some (0, m) := px_within_n (n := 1) (by decide) h2
          simp only [F_X10_parts, F_X4_states, hn.1, nx_ne0 (show σ.2.2.2.2.1.1 < 2 ^ 31 by omega) h0, X1, X2, Option.bind_some, ne10, if_false, if_true]
        · have hm : MN m 78 0 σ.2.2.2.2.1 := h.2.2.2.2.1
          have M2 : F_X11_in x2 0 1 m = some (0, m) := pm_in_n (n := 1) (by decide) h2
          simp only [F_X11_parts, mx_sys_y (show σ.2.2.2.2.1.1 < 2 ^ 31 by omega) hm.1 h0, M1, M2, Option.bind_some, ne10, if_false, if_true]
    · refine ok_same hσ (r := -1000001) (fun m h => ?_) (fun m h => ?_)
      · have hn : XN m 7 σ.2.2.2.2.1 := h.2.2.2.2.1
        have X1 : F_X10_within x1 0 3 m = some (0, m) := px_within_n (by decide) h1
        simp only [F_X10_parts, F_X4_states, hn.1, nx_ne0 (show σ.2.2.2.2.1.1 < 2 ^ 31 by omega) h0, X1, Option.bind_some, if_false, if_true]
      · have hm : MN m 78 0 σ.2.2.2.2.1 := h.2.2.2.2.1
        have M1 : F_X11_in x1 0 3 m = some (0, m) := pm_in_n (by decide) h1
        simp only [F_X11_parts, mx_sys_y (show σ.2.2.2.2.1.1 < 2 ^ 31 by omega) hm.1 h0, M1, Option.bind_some, ne10, if_false, if_true]
theorem opg_behind {σ : sg} (hσ : WF σ) {x1 x2 x3 : Int32} (h1 : inb x1 4) (h2 : inb x2 21) (h3 : inb x3 σ.2.2.2.2.1.1) : OK1 (F_X10_behind x1 x2 x3) (F_X11_behind x1 x2 x3) σ := by
  have hS : wfS σ.2.2.2.2.1 := hσ.2.2.1
  have w1 := hS.1
  have X1 : ∀ m, F_X10_within x1 0 3 m = some (1, m) := fun m => px_within_y (by decide) h1
  have M1 : ∀ m, F_X11_in x1 0 3 m = some (1, m) := fun m => pm_in_y (by decide) h1
  have X2 : ∀ m, F_X10_within x2 0 20 m = some (1, m) := fun m => px_within_y (n := 20) (by decide) h2
  have M2 : ∀ m, F_X11_in x2 0 20 m = some (1, m) := fun m => pm_in_y (n := 20) (by decide) h2
  obtain ⟨q, hq, rfl⟩ := id h1
  obtain ⟨n, hn21, rfl⟩ := id h2
  obtain ⟨s, hs, rfl⟩ := id h3
  have hrd := rd_le9 hS q
  refine ⟨nI (bl σ.2.2.2.2.1 q (if rd σ.2.2.2.2.1 q < n then rd σ.2.2.2.2.1 q else n) s), _, hσ, fun c m hc h => ?_, fun m h => ?_⟩
  · obtain ⟨h0, ⟨v, hv, hk⟩, hj⟩ := id h
    have hn : XN m 7 σ.2.2.2.2.1 := h0.2.2.2.2.1
    obtain ⟨m', g1, g2, g3, g4, g5, g6, g7, g8⟩ := kx_part hS (by omega) hq hn hk
    refine ⟨m', ?_, xq h g2 hv g3, hi_cx g2⟩
    have eb : ∀ r, r ≤ rd σ.2.2.2.2.1 q → F_X5_blockBehind (24 + 3 * q) (nI r) (nI s) m' = some (nI (bl σ.2.2.2.2.1 q r s), m') := fun r hr => by
      rw [px_bb (by omega) (by omega), g7.2.2.2.2.1 r s hr hs]
    simp only [F_X10_behind, X1, X2, nx_has_y (by omega) hn.1 h3, Option.bind_some, ne10, if_false, g1, F_X5_rounds, g7.2.2.1]
    by_cases hlt : rd σ.2.2.2.2.1 q < n
    · rw [if_pos (nI_lt hlt (by omega)), if_pos hlt, eb _ (Nat.le_refl _)]
      rfl
    · rw [if_neg (nI_nlt (by omega) (by omega)), if_neg hlt, eb _ (by omega)]
      rfl
  · have hm : MN m 78 0 σ.2.2.2.2.1 := h.2.2.2.2.1
    obtain ⟨m1, g1, g2, g3⟩ := km_looks hS hm
    obtain ⟨m2, a1, a2, a3, a4⟩ := km_parts hS g3 hq
    refine ⟨m2, ?_, h.keep (g2.tr a2), lo_cm (g2.tr a2)⟩
    have eb : ∀ r, r ≤ rd σ.2.2.2.2.1 q → F_X11_blockIn (nI r) (nI s) m2 = some (nI (bl σ.2.2.2.2.1 q r s), m2) := fun r hr => by
      rw [pm_bi (by omega) (by omega), a3.2 r s hr hs]
    simp only [F_X11_behind, M1, M2, mx_st_y (by omega) hm.1 h3, Option.bind_some, ne10, if_false, g1, a1, a3.1]
    by_cases hlt : n < rd σ.2.2.2.2.1 q
    · rw [if_pos (nI_lt hlt (by omega)), if_neg (by omega), eb _ (by omega)]
      rfl
    · rw [if_neg (nI_nlt (by omega) (by omega)), eb _ (Nat.le_refl _)]
      by_cases he : rd σ.2.2.2.2.1 q < n
      · rw [if_pos he]
        rfl
      · rw [if_neg he, show n = rd σ.2.2.2.2.1 q by omega]
        rfl
theorem op_behind {σ : sg} (hσ : WF σ) (x1 x2 x3 : Int32) : OK1 (F_X10_behind x1 x2 x3) (F_X11_behind x1 x2 x3) σ := by
  have hS : wfS σ.2.2.2.2.1 := hσ.2.2.1
  have w1 := hS.1
  have w2 := hS.2.1
  by_cases h1 : inb x1 4
  · by_cases h2 : inb x2 21
    · by_cases h3 : inb x3 σ.2.2.2.2.1.1
      · exact opg_behind hσ h1 h2 h3
      · refine ok_same hσ (r := -1000001) (fun m h => ?_) (fun m h => ?_)
        · have hn : XN m 7 σ.2.2.2.2.1 := h.2.2.2.2.1
          have e1 : F_X10_within x1 0 3 m = some (1, m) := px_within_y (n := 3) (by decide) h1
          have e2 : F_X10_within x2 0 20 m = some (1, m) := px_within_y (n := 20) (by decide) h2
          have e3 : F_X4_hasState 7 x3 m = some (0, m) := nx_has_n (by omega) hn.1 h3
          simp only [F_X10_behind, e1, e2, e3, Option.bind_some, ne10, if_false, if_true]
        · have hm : MN m 78 0 σ.2.2.2.2.1 := h.2.2.2.2.1
          have e1 : F_X11_in x1 0 3 m = some (1, m) := pm_in_y (n := 3) (by decide) h1
          have e2 : F_X11_in x2 0 20 m = some (1, m) := pm_in_y (n := 20) (by decide) h2
          have e3 : F_X11_isState x3 m = some (0, m) := mx_st_n (by omega) hm.1 h3
          simp only [F_X11_behind, e1, e2, e3, Option.bind_some, ne10, if_false, if_true]
    · refine ok_same hσ (r := -1000001) (fun m h => ?_) (fun m h => ?_)
      · have hn : XN m 7 σ.2.2.2.2.1 := h.2.2.2.2.1
        have e1 : F_X10_within x1 0 3 m = some (1, m) := px_within_y (n := 3) (by decide) h1
        have e2 : F_X10_within x2 0 20 m = some (0, m) := px_within_n (n := 20) (by decide) h2
        simp only [F_X10_behind, e1, e2, Option.bind_some, ne10, if_false, if_true]
      · have hm : MN m 78 0 σ.2.2.2.2.1 := h.2.2.2.2.1
        have e1 : F_X11_in x1 0 3 m = some (1, m) := pm_in_y (n := 3) (by decide) h1
        have e2 : F_X11_in x2 0 20 m = some (0, m) := pm_in_n (n := 20) (by decide) h2
        simp only [F_X11_behind, e1, e2, Option.bind_some, ne10, if_false, if_true]
  · refine ok_same hσ (r := -1000001) (fun m h => ?_) (fun m h => ?_)
    · have hn : XN m 7 σ.2.2.2.2.1 := h.2.2.2.2.1
      have e1 : F_X10_within x1 0 3 m = some (0, m) := px_within_n (n := 3) (by decide) h1
      simp only [F_X10_behind, e1, Option.bind_some, ne10, if_false, if_true]
    · have hm : MN m 78 0 σ.2.2.2.2.1 := h.2.2.2.2.1
      have e1 : F_X11_in x1 0 3 m = some (0, m) := pm_in_n (n := 3) (by decide) h1
      simp only [F_X11_behind, e1, Option.bind_some, ne10, if_false, if_true]
theorem opg_signs {σ : sg} (hσ : WF σ) {x1 x2 : Int32} (h1 : inb x1 3) (h2 : inb x2 σ.2.2.2.2.1.1) : OK2 (F_X10_signs x1 x2) (F_X11_signs x1 x2) σ := by
  have hS : wfS σ.2.2.2.2.1 := hσ.2.2.1
  have w1 := hS.1
  have X1 : ∀ m, F_X10_within x1 0 2 m = some (1, m) := fun m => px_within_y (by decide) h1
  have M1 : ∀ m, F_X11_in x1 0 2 m = some (1, m) := fun m => pm_in_y (by decide) h1
  obtain ⟨q, hq, rfl⟩ := id h1
  obtain ⟨s, hs, rfl⟩ := id h2
  have hrd := rd_le9 hS q
  refine ⟨lN (sgn σ.2.2.2.2.1 q (bl σ.2.2.2.2.1 q (rd σ.2.2.2.2.1 q)) s), _, hσ, fun c m hc h => ?_, fun m h => ?_⟩
  · obtain ⟨h0, ⟨v, hv, hk⟩, hj⟩ := id h
    have hn : XN m 7 σ.2.2.2.2.1 := h0.2.2.2.2.1
    obtain ⟨m', g1, g2, g3, g4, g5, g6, g7, g8⟩ := kx_part hS (by omega) (show q < 4 by omega) hn hk
    refine ⟨m', ?_, xq h g2 hv g3, hi_cx g2⟩
    have es : F_X5_lastSigns (24 + 3 * q) (nI s) m' = some (lN (sgn σ.2.2.2.2.1 q (bl σ.2.2.2.2.1 q (rd σ.2.2.2.2.1 q)) s), m') := by
      unfold F_X5_lastSigns
      rw [if_neg (hn_in (by omega) (by decide)), hn_cl (by omega), g7.2.2.2.2.2 hq s hs]
    simp only [F_X10_signs, X1, nx_has_y (by omega) hn.1 h2, Option.bind_some, ne10, if_false, g1, es]
  · have hm : MN m 78 0 σ.2.2.2.2.1 := h.2.2.2.2.1
    obtain ⟨m1, g1, g2, g3⟩ := km_looks hS hm
    obtain ⟨m2, a1, a2, a3, a4⟩ := km_parts hS g3 (show q < 4 by omega)
    refine ⟨m2, ?_, h.keep (g2.tr a2), lo_cm (g2.tr a2)⟩
    simp only [F_X11_signs, M1, mx_st_y (by omega) hm.1 h2, Option.bind_some, ne10, if_false, g1, a1, a3.1, pm_signs hS a4 hq (show rd σ.2.2.2.2.1 q < 21 by omega) hs (bl_10 hS q _) (fun t ht => a3.2 _ t (Nat.le_refl _) ht)]
theorem op_signs {σ : sg} (hσ : WF σ) (x1 x2 : Int32) : OK2 (F_X10_signs x1 x2) (F_X11_signs x1 x2) σ := by
  have hS : wfS σ.2.2.2.2.1 := hσ.2.2.1
  have w1 := hS.1
  have w2 := hS.2.1
  by_cases h1 : inb x1 3
  · by_cases h2 : inb x2 σ.2.2.2.2.1.1
    · exact opg_signs hσ h1 h2
    · refine ok_same2 hσ (r := -1000001) (fun m h => ?_) (fun m h => ?_)
      · have hn : XN m 7 σ.2.2.2.2.1 := h.2.2.2.2.1
        have e1 : F_X10_within x1 0 2 m = some (1, m) := px_within_y (n := 2) (by decide) h1
        have e2 : F_X4_hasState 7 x2 m = some (0, m) := nx_has_n (by omega) hn.1 h2
        simp only [F_X10_signs, e1, e2, Option.bind_some, ne10, if_false, if_true]
      · have hm : MN m 78 0 σ.2.2.2.2.1 := h.2.2.2.2.1
        have e1 : F_X11_in x1 0 2 m = some (1, m) := pm_in_y (n := 2) (by decide) h1
        have e2 : F_X11_isState x2 m = some (0, m) := mx_st_n (by omega) hm.1 h2
        simp only [F_X11_signs, e1, e2, Option.bind_some, ne10, if_false, if_true]
  · refine ok_same2 hσ (r := -1000001) (fun m h => ?_) (fun m h => ?_)
    · have hn : XN m 7 σ.2.2.2.2.1 := h.2.2.2.2.1
      have e1 : F_X10_within x1 0 2 m = some (0, m) := px_within_n (n := 2) (by decide) h1
      simp only [F_X10_signs, e1, Option.bind_some, ne10, if_false, if_true]
    · have hm : MN m 78 0 σ.2.2.2.2.1 := h.2.2.2.2.1
      have e1 : F_X11_in x1 0 2 m = some (0, m) := pm_in_n (n := 2) (by decide) h1
      simp only [F_X11_signs, e1, Option.bind_some, ne10, if_false, if_true]
theorem opg_parted {σ : sg} (hσ : WF σ) {x1 x2 x3 : Int32} (h1 : inb x1 4) (h2 : inb x2 σ.2.2.2.2.1.1) (h3 : inb x3 σ.2.2.2.2.1.1) : OK1 (F_X10_parted x1 x2 x3) (F_X11_parted x1 x2 x3) σ := by
  have hS : wfS σ.2.2.2.2.1 := hσ.2.2.1
  have w1 := hS.1
  have X1 : ∀ m, F_X10_within x1 0 3 m = some (1, m) := fun m => px_within_y (by decide) h1
  have M1 : ∀ m, F_X11_in x1 0 3 m = some (1, m) := fun m => pm_in_y (by decide) h1
  obtain ⟨q, hq, rfl⟩ := id h1
  obtain ⟨s, hs, rfl⟩ := id h2
  obtain ⟨s2, hs2, rfl⟩ := id h3
  refine ⟨oI (pin σ.2.2.2.2.1 q s s2), _, hσ, fun c m hc h => ?_, fun m h => ?_⟩
  · obtain ⟨h0, ⟨v, hv, hk⟩, hj⟩ := id h
    have hn : XN m 7 σ.2.2.2.2.1 := h0.2.2.2.2.1
    obtain ⟨m', g1, g2, g3, g4, g5, g6, g7, g8⟩ := kx_part hS (by omega) hq hn hk
    refine ⟨m', ?_, xq h g2 hv g3, hi_cx g2⟩
    simp only [F_X10_parted, X1, nx_has_y (by omega) hn.1 h2, nx_has_y (by omega) hn.1 h3, Option.bind_some, ne10, if_false, g1, px_roundOf hS g7 hs hs2]
  · have hm : MN m 78 0 σ.2.2.2.2.1 := h.2.2.2.2.1
    obtain ⟨m1, g1, g2, g3⟩ := km_looks hS hm
    obtain ⟨m2, a1, a2, a3, a4⟩ := km_parts hS g3 hq
    refine ⟨m2, ?_, h.keep (g2.tr a2), lo_cm (g2.tr a2)⟩
    simp only [F_X11_parted, M1, mx_st_y (by omega) hm.1 h2, mx_st_y (by omega) hm.1 h3, Option.bind_some, ne10, if_false, g1, a1, pm_partedIn hS a3 hs hs2]
theorem op_parted {σ : sg} (hσ : WF σ) (x1 x2 x3 : Int32) : OK1 (F_X10_parted x1 x2 x3) (F_X11_parted x1 x2 x3) σ := by
  have hS : wfS σ.2.2.2.2.1 := hσ.2.2.1
  have w1 := hS.1
  have w2 := hS.2.1
  by_cases h1 : inb x1 4
  · by_cases h2 : inb x2 σ.2.2.2.2.1.1
    · by_cases h3 : inb x3 σ.2.2.2.2.1.1
      · exact opg_parted hσ h1 h2 h3
      · refine ok_same hσ (r := -1000001) (fun m h => ?_) (fun m h => ?_)
        · have hn : XN m 7 σ.2.2.2.2.1 := h.2.2.2.2.1
          have e1 : F_X10_within x1 0 3 m = some (1, m) := px_within_y (n := 3) (by decide) h1
          have e2 : F_X4_hasState 7 x2 m = some (1, m) := nx_has_y (by omega) hn.1 h2
          have e3 : F_X4_hasState 7 x3 m = some (0, m) := nx_has_n (by omega) hn.1 h3
          simp only [F_X10_parted, e1, e2, e3, Option.bind_some, ne10, if_false, if_true]
        · have hm : MN m 78 0 σ.2.2.2.2.1 := h.2.2.2.2.1
          have e1 : F_X11_in x1 0 3 m = some (1, m) := pm_in_y (n := 3) (by decide) h1
          have e2 : F_X11_isState x2 m = some (1, m) := mx_st_y (by omega) hm.1 h2
          have e3 : F_X11_isState x3 m = some (0, m) := mx_st_n (by omega) hm.1 h3
          simp only [F_X11_parted, e1, e2, e3, Option.bind_some, ne10, if_false, if_true]
    · refine ok_same hσ (r := -1000001) (fun m h => ?_) (fun m h => ?_)
      · have hn : XN m 7 σ.2.2.2.2.1 := h.2.2.2.2.1
        have e1 : F_X10_within x1 0 3 m = some (1, m) := px_within_y (n := 3) (by decide) h1
        have e2 : F_X4_hasState 7 x2 m = some (0, m) := nx_has_n (by omega) hn.1 h2
        simp only [F_X10_parted, e1, e2, Option.bind_some, ne10, if_false, if_true]
      · have hm : MN m 78 0 σ.2.2.2.2.1 := h.2.2.2.2.1
        have e1 : F_X11_in x1 0 3 m = some (1, m) := pm_in_y (n := 3) (by decide) h1
        have e2 : F_X11_isState x2 m = some (0, m) := mx_st_n (by omega) hm.1 h2
        simp only [F_X11_parted, e1, e2, Option.bind_some, ne10, if_false, if_true]
  · refine ok_same hσ (r := -1000001) (fun m h => ?_) (fun m h => ?_)
    · have hn : XN m 7 σ.2.2.2.2.1 := h.2.2.2.2.1
      have e1 : F_X10_within x1 0 3 m = some (0, m) := px_within_n (n := 3) (by decide) h1
      simp only [F_X10_parted, e1, Option.bind_some, ne10, if_false, if_true]
    · have hm : MN m 78 0 σ.2.2.2.2.1 := h.2.2.2.2.1
      have e1 : F_X11_in x1 0 3 m = some (0, m) := pm_in_n (n := 3) (by decide) h1
      simp only [F_X11_parted, e1, Option.bind_some, ne10, if_false, if_true]
