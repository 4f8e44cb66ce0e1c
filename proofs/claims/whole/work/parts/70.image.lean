/-! PART 70: image, restore -/
theorem xR.im {c : Nat} {m m' : pj_M} {σ : sg} {I' : Nat → Option sy} (h : xR c m σ) (hf : fr [58, 59, 60, 61, 62, 63] m m') (hI : Xim m' I') : xR (c + 1) m' (σ.1, σ.2.1, σ.2.2.1, σ.2.2.2.1, σ.2.2.2.2.1, σ.2.2.2.2.2.1, I', σ.2.2.2.2.2.2.2) := by
  obtain ⟨⟨h1, h2, h3, h4, h5, h6, h7, h8⟩, ⟨v, hv, hk⟩, w, hw, hj⟩ := h
  have e : ∀ a, a ∉ [58, 59, 60, 61, 62, 63] → m'.1 a = m.1 a := fun a ha => (hf a ha).1
  refine ⟨⟨h1.keep (fun a ha => e a (by simp at ha ⊢; omega)), ?_, ?_, ?_, h5.keep (e 7 (by decide)) (e 8 (by decide)) (e 9 (by decide)), h6.keep (fun a ha => e a (by simp at ha ⊢; omega)), hI, ?_⟩, ⟨v, by omega, hk.keep (fun a ha => hf a (by simp; omega))⟩, w, by omega, hj.keep (fun a ha => e a (by simp; omega))⟩
  · rw [e 0 (by decide)]
    exact h2
  · unfold XT
    rw [e 5 (by decide), e 6 (by decide)]
    exact h3
  · rw [e 0 (by decide)]
    exact h4
  · unfold Xtr
    rw [e 56 (by decide), e 57 (by decide)]
    exact h8
theorem mR.im {m m' : pj_M} {σ : sg} {I' : Nat → Option sy} (h : mR m σ) (hf : fk [81, 82] [] m m') (hI : Mim m' I') : mR m' (σ.1, σ.2.1, σ.2.2.1, σ.2.2.2.1, σ.2.2.2.2.1, σ.2.2.2.2.2.1, I', σ.2.2.2.2.2.2.2) := by
  obtain ⟨h1, h2, h3, h4, h5, h6, h7, h8⟩ := h
  have c : ∀ a ∈ [72, 73, 74, 75, 77, 78, 80, 94], m'.1 a = m.1 a := hf.cells _ (by decide)
  refine ⟨h1.keep (fun a ha => c a (by simp at ha ⊢; omega)), ?_, ?_, ?_, h5.keep (c 78 (by decide)), ?_, hI, ?_⟩
  · rw [c 72 (by decide)]
    exact h2
  · unfold MT
    rw [c 72 (by decide), c 77 (by decide)]
    exact h3
  · rw [c 72 (by decide)]
    exact h4
  · unfold MA MN
    rw [c 72 (by decide), c 80 (by decide)]
    exact h6
  · unfold Mtr
    rw [c 72 (by decide), c 94 (by decide)]
    exact h8
def iup (I : Nat → Option sy) (k : Nat) (S : sy) : Nat → Option sy := fun j => if j = k then some S else I j
theorem ok_image {σ : sg} (hσ : WF σ) (x1 : Int32) : OK1 (F_X10_image x1) (F_X11_image x1) σ := by
  have hS : wfS σ.2.2.2.2.1 := hσ.2.2.1
  have w1 := hS.1
  by_cases h1 : inb x1 2
  · have X1 : ∀ m, F_X10_within x1 0 1 m = some (1, m) := fun m => px_within_y (n := 1) (by decide) h1
    have M1 : ∀ m, F_X11_in x1 0 1 m = some (1, m) := fun m => pm_in_y (n := 1) (by decide) h1
    rcases Nat.eq_zero_or_pos σ.2.2.2.2.1.1 with h0 | h0
    · refine ok_same hσ (r := -1000002) (fun m h => ?_) (fun m h => ?_)
      · have hn : XN m 7 σ.2.2.2.2.1 := h.2.2.2.2.1
        have e : m.1 7 2 = 0 := by rw [hn.1, h0]; rfl
        simp only [F_X10_image, X1, F_X4_states, e, Option.bind_some, ne10, if_false, if_true]
      · have hm : MN m 78 0 σ.2.2.2.2.1 := h.2.2.2.2.1
        have e : m.1 78 0 = nI 0 := by rw [hm.1, h0]
        simp only [F_X11_image, M1, mx_sys_n e, Option.bind_some, ne10, if_false, if_true]
    · obtain ⟨k, hk, rfl⟩ := id h1
      refine ⟨1, (σ.1, σ.2.1, σ.2.2.1, σ.2.2.2.1, σ.2.2.2.2.1, σ.2.2.2.2.2.1, iup σ.2.2.2.2.2.2.1 k σ.2.2.2.2.1, σ.2.2.2.2.2.2.2), ⟨hσ.1, hσ.2.1, hσ.2.2.1, hσ.2.2.2.1, fun j S' e => ?_⟩, fun c m hc h => ?_, fun m h => ?_⟩
      · have e : (if j = k then some σ.2.2.2.2.1 else σ.2.2.2.2.2.2.1 j) = some S' := e
        split at e
        · rw [← Option.some.inj e]
          exact ⟨hS, h0⟩
        · exact hσ.2.2.2.2 j S' e
      · obtain ⟨h0', -, -⟩ := id h
        have hn : XN m 7 σ.2.2.2.2.1 := h0'.2.2.2.2.1
        obtain ⟨m1, g1, g2, g3, g4⟩ := px_takeOver (a := 58 + 3 * k) (b := 7) hS hn (by omega)
        have fA : fr [58, 59, 60, 61, 62, 63] m m1 := g2.mono (fun a ha => by simp at ha ⊢; omega)
        refine ⟨m1, ?_, h.im fA (fun j hj => ?_), fA.hi (by decide)⟩
        · simp only [F_X10_image, X1, F_X4_states, hn.1, nx_ne0 (show σ.2.2.2.2.1.1 < 2 ^ 31 by omega) h0, hn_cl (show k < 2 ^ 31 by omega), hn_in' hk (show k < 2 ^ 31 by omega), g1, Option.bind_some, ne10, if_false]
        · show match (if j = k then some σ.2.2.2.2.1 else σ.2.2.2.2.2.2.1 j) with
            | none => m1.1 (58 + 3 * j) 2 = 0
            | some S => 0 < S.1 ∧ wfS S ∧ XN m1 (58 + 3 * j) S
          by_cases hjk : j = k
          · rw [if_pos hjk, hjk]
            exact ⟨h0, hS, g3⟩
          · rw [if_neg hjk]
            have hh := h0'.2.2.2.2.2.2.1 j hj
            unfold XN at hh ⊢
            rw [(g2 (58 + 3 * j) (by simp; omega)).1, (g2 (58 + 3 * j + 1) (by simp; omega)).1, (g2 (58 + 3 * j + 2) (by simp; omega)).1]
            exact hh
      · have hm : MN m 78 0 σ.2.2.2.2.1 := h.2.2.2.2.1
        obtain ⟨m1, g1, g2, g3⟩ := pm_copies (n0 := 72) (A := 78) (o := 0) (n2 := 144) (B := 81) (p := 72 * k) m (by decide) (by decide) (by omega) (by decide) (by decide)
        have g1 : F_X11_copies 72 78 0 144 81 (nI (72 * k)) m = some m1 := g1
        have fA : fk [81, 82] [] m (pj_wr m1 82 k 1) := ((g2.mono (by simp)).fk _).tr (fk.wr _ (by decide) _ _)
        refine ⟨_, ?_, h.im fA (fun j hj => ?_), fA.lo (by decide) (by decide)⟩
        · have e : (72 : Int32) * nI k = nI (72 * k) := by rw [l72, hn_mul]
          simp only [F_X11_image, M1, mx_sys_y (show σ.2.2.2.2.1.1 < 2 ^ 31 by omega) hm.1 h0, e, g1, hn_cl (show k < 2 ^ 31 by omega), hn_in' hk (show k < 2 ^ 31 by omega), Option.bind_some, ne10, if_false]
        · show match (if j = k then some σ.2.2.2.2.1 else σ.2.2.2.2.2.2.1 j) with
            | none => (pj_wr m1 82 k 1).1 82 j = 0
            | some S => (pj_wr m1 82 k 1).1 82 j = 1 ∧ MN (pj_wr m1 82 k 1) 81 (72 * j) S
          by_cases hjk : j = k
          · rw [if_pos hjk, hjk]
            exact ⟨hr_wrs _ _ _ _, (hm.copy hS g3).keep (hr_wra (by decide))⟩
          · rw [if_neg hjk]
            have hh := h.2.2.2.2.2.2.1 j hj
            cases hI : σ.2.2.2.2.2.2.1 j with
            | none =>
              rw [hI] at hh
              show (pj_wr m1 82 k 1).1 82 j = 0
              rw [hr_wrk hjk, g2.at 82 rfl]
              exact hh
            | some S =>
              rw [hI] at hh
              obtain ⟨c1', c2'⟩ : m.1 82 j = 1 ∧ MN m 81 (72 * j) S := hh
              refine ⟨by rw [hr_wrk hjk, g2.at 82 rfl]; exact c1', ?_⟩
              have hwS := (hσ.2.2.2.2 j S hI).1
              exact (c2'.place (m' := m1) (o' := 72 * j) hwS (fun x hx => by rw [g3, if_neg (by omega)])).keep (hr_wra (by decide))
  · have X1 : ∀ m, F_X10_within x1 0 1 m = some (0, m) := fun m => px_within_n (n := 1) (by decide) h1
    have M1 : ∀ m, F_X11_in x1 0 1 m = some (0, m) := fun m => pm_in_n (n := 1) (by decide) h1
    refine ok_same hσ (r := -1000001) (fun m h => ?_) (fun m h => ?_)
    · simp only [F_X10_image, X1, Option.bind_some, if_true]
    · simp only [F_X11_image, M1, Option.bind_some, if_true]
theorem ok_restore {σ : sg} (hσ : WF σ) (x1 : Int32) : OK1 (F_X10_restore x1) (F_X11_restore x1) σ := by
  by_cases h1 : inb x1 2
  · have X1 : ∀ m, F_X10_within x1 0 1 m = some (1, m) := fun m => px_within_y (n := 1) (by decide) h1
    have M1 : ∀ m, F_X11_in x1 0 1 m = some (1, m) := fun m => pm_in_y (n := 1) (by decide) h1
    obtain ⟨k, hk, rfl⟩ := id h1
    cases hI : σ.2.2.2.2.2.2.1 k with
    | none =>
      refine ok_same hσ (r := -1000002) (fun m h => ?_) (fun m h => ?_)
      · have hh := h.2.2.2.2.2.2.1 k hk
        rw [hI] at hh
        have hh : m.1 (58 + 3 * k) 2 = 0 := hh
        simp only [F_X10_restore, X1, F_X4_states, hn_cl (show k < 2 ^ 31 by omega), hn_in' hk (show k < 2 ^ 31 by omega), hh, Option.bind_some, ne10, if_false, if_true]
      · have hh := h.2.2.2.2.2.2.1 k hk
        rw [hI] at hh
        have hh : m.1 82 k = 0 := hh
        simp only [F_X11_restore, M1, hn_cl (show k < 2 ^ 31 by omega), hn_in' hk (show k < 2 ^ 31 by omega), hh, Option.bind_some, ne10, if_false, if_true]
    | some S0 =>
      obtain ⟨hS0, hpos⟩ := hσ.2.2.2.2 k S0 hI
      have w0 := hS0.1
      refine ⟨1, _, hσ.net (A' := (0, fun _ => S0)) hS0 ⟨Nat.zero_le _, fun i hi => absurd hi (Nat.not_lt_zero _)⟩, fun c m hc h => ?_, fun m h => ?_⟩
      · obtain ⟨h0', ⟨v, hv, hkk⟩, hjj⟩ := id h
        have hh := h0'.2.2.2.2.2.2.1 k hk
        rw [hI] at hh
        obtain ⟨c1', c2', c3'⟩ : 0 < S0.1 ∧ wfS S0 ∧ XN m (58 + 3 * k) S0 := hh
        obtain ⟨m1, g1, g2, g3, g4⟩ := px_takeOver (a := 7) (b := 58 + 3 * k) hS0 c3' (by omega)
        have fA : fr [7, 8, 9, 17, 18] m (pj_wr m1 17 1 0) := (g2.mono (by simp)).tr (fr.wr _ _ (by simp) _ _)
        refine ⟨_, ?_, h.net (v' := 1) fA (g3.keep (hr_wra (by decide)) (hr_wra (by decide)) (hr_wra (by decide))) ⟨hr_wrs _ _ _ _, fun i hi => absurd hi (Nat.not_lt_zero _)⟩ (fun v1 hv1 hvc => ⟨?_, by decide, by decide⟩), fA.hi (by decide)⟩
        · simp only [F_X10_restore, X1, F_X4_states, hn_cl (show k < 2 ^ 31 by omega), hn_in' hk (show k < 2 ^ 31 by omega), c3'.1, nx_ne0 (show S0.1 < 2 ^ 31 by omega) hpos, g1, F_X0_forget, Option.bind_some, ne10, if_false]
        · rw [hr_wra (by decide), g4, hv1, nI_1, Nat.add_comm]
      · have hh := h.2.2.2.2.2.2.1 k hk
        rw [hI] at hh
        obtain ⟨c1', c2'⟩ : m.1 82 k = 1 ∧ MN m 81 (72 * k) S0 := hh
        obtain ⟨m1, g1, g2, g3⟩ := pm_copies (n0 := 144) (A := 81) (o := 72 * k) (n2 := 72) (B := 78) (p := 0) m (by decide) (by omega) (by decide) (by decide) (by decide)
        have g1 : F_X11_copies 144 81 (nI (72 * k)) 72 78 0 m = some m1 := g1
        have fA : fk (78 :: 80 :: cms) ((72, 16) :: pms) m (pj_wr m1 72 16 0) := ((g2.mono (by simp)).fk _).tr (fk.wp _ (by decide) _)
        refine ⟨_, ?_, h.net fA ((c2'.copy hS0 g3).keep (hr_wra (by decide))) ⟨hr_wrs _ _ _ _, fun i hi => absurd hi (Nat.not_lt_zero _)⟩, lo_net fA⟩
        have e : (72 : Int32) * nI k = nI (72 * k) := by rw [l72, hn_mul]
        have ez : (m.1 82 k = 0) = False := by rw [c1']; exact eq_false ne10
        simp only [F_X11_restore, M1, hn_cl (show k < 2 ^ 31 by omega), hn_in' hk (show k < 2 ^ 31 by omega), ez, e, g1, Option.bind_some, ne10, if_false]
  · have X1 : ∀ m, F_X10_within x1 0 1 m = some (0, m) := fun m => px_within_n (n := 1) (by decide) h1
    have M1 : ∀ m, F_X11_in x1 0 1 m = some (0, m) := fun m => pm_in_n (n := 1) (by decide) h1
    refine ok_same hσ (r := -1000001) (fun m h => ?_) (fun m h => ?_)
    · simp only [F_X10_restore, X1, Option.bind_some, if_true]
    · simp only [F_X11_restore, M1, Option.bind_some, if_true]
