/-! PART 78: the tape is read: M's loops; system -/
theorem m85_f {m : pj_M} {r p : Nat} (F : Flt m r p) {z : Nat} (hz : 0 < z) : ∃ s, H_X11_system_85 z m = J_X11_system_132 s m := by
  obtain ⟨z, rfl⟩ : ∃ z', z = z' + 1 := ⟨z - 1, by omega⟩
  rw [H_X11_system_85, m_flt F]
  simp only [Option.bind_some, if_true]
  unfold J_X11_system_119
  by_cases h : m.1 72 11 = 0
  · exact ⟨1, by rw [if_pos h]⟩
  · exact ⟨0, by rw [if_neg h]⟩
theorem m35_f {m : pj_M} {r p : Nat} (F : Flt m r p) {z : Nat} (hz : 0 < z) : H_X11_system_35 z m = J_X11_system_67 m := by
  obtain ⟨z, rfl⟩ : ∃ z', z = z' + 1 := ⟨z - 1, by omega⟩
  rw [H_X11_system_35, m_flt F]
  simp only [Option.bind_some, if_true]
theorem m_arcs {y : Int32} {b : Nat → Nat} {L n : Nat} {kd : Nat → Nat} (hB : BO b L) (hn : 0 < n) (hn2 : n ≤ 10) (f : Nat) : ∀ z k ar p m, f < z → k ≤ 20 → k + f = 21 → p ≤ L → MD m b L → Well y m → TK m b p → MN m 79 0 (n, kd, k, ar) → ∃ s m1 m', H_X11_system_85 z m = J_X11_system_132 s m1 ∧ F_X11_must s m1 = some m' ∧ fk [79] p6 m m' ∧ ((∃ r p', Flt m' r p' ∧ rdA b L n f k ar p = .inl (r, p')) ∨ (∃ k' ar', Well y m' ∧ MN m' 79 0 (n, kd, k', ar') ∧ rdA b L n f k ar p = .inr (k', ar'))) := by
  have hL := hB.1
  induction f with
  | zero =>
    intro z k ar p m _ hk hkf
    omega
  | succ f ih =>
    intro z k ar p m hz hk hkf hp hM hw ht hN
    obtain ⟨z, rfl⟩ : ∃ z', z = z' + 1 := ⟨z - 1, by omega⟩
    have e1 : (m.1 72 11 = 1) = (tkc b p = 1) := tke ht (c := 1) (by decide)
    have e0 : (m.1 72 11 = 0) = (tkc b p = 0) := tke ht (c := 0) (by decide)
    rw [H_X11_system_85, m_well hw]
    simp only [Option.bind_some, ne10, if_false, e1]
    -- a strange token: the end
    have strange : p < L → ltn (b p) = none → ∃ s m1 m', J_X11_system_119 m = J_X11_system_132 s m1 ∧ F_X11_must s m1 = some m' ∧ fk [79] p6 m m' ∧ ((∃ r p', Flt m' r p' ∧ rdA b L n (f + 1) k ar p = .inl (r, p')) ∨ (∃ k' ar', Well y m' ∧ MN m' 79 0 (n, kd, k', ar') ∧ rdA b L n (f + 1) k ar p = .inr (k', ar'))) := fun hl el => by
      refine ⟨0, m, _, ?_, m_must_n hw ht.1, f_flt m _ _, Or.inl ⟨1, p, Flt.mk m 1 (by omega), ?_⟩⟩
      · unfold J_X11_system_119
        simp only [e0]
        rw [if_neg (fun h => by have := (tk0 hB).mp h; omega)]
      · rw [rdA, if_neg (by omega), el]
    by_cases k1 : tkc b p = 1
    · have hl : p < L := by
        rcases Nat.lt_or_ge p L with h1 | h1
        · exact h1
        · have := (tk0 hB).mpr h1
          omega
      have hb := hB.2.1 p hl
      rw [if_pos k1, (ht.2.2.1 k1).1, m_letter (by omega)]
      simp only [Option.bind_some]
      cases el : ltn (b p) with
      | none =>
        simp only []
        rw [if_pos True.intro]
        exact strange hl el
      | some l =>
        have hl4 := ltn_lt el
        simp only []
        rw [if_neg (of_eq_false (ne_m (show l < 2 ^ 31 by omega)))]
        obtain ⟨m1, a1, a2, a3⟩ := m_arc hB hM hl hw ht el hn hn2 hk hN f
        rw [a1]
        simp only [Option.bind_some]
        rcases a3 with ⟨r, p', F, h3⟩ | ⟨p2, ar', b1, b2, b3, b4, b5, b6⟩
        · obtain ⟨s, hs⟩ := m85_f F (show 0 < z by omega)
          exact ⟨s, m1, m1, hs, m_must_f F s, a2, Or.inl ⟨r, p', F, h3⟩⟩
        · obtain ⟨s, m2, m', i1, i2, i3, i4⟩ := ih z (k + 1) ar' p2 m1 (by omega) (by omega) (by omega) b2 (hM.keep a2) b3 b4 b5
          rw [b6]
          exact ⟨s, m2, m', i1, i2, a2.tr i3, i4⟩
    · rw [if_neg k1]
      by_cases hl : p < L
      · exact strange hl (by
          cases el : ltn (b p) with
          | none => rfl
          | some l => exact (k1 (ltn_tk el)).elim)
      · refine ⟨1, m, m, ?_, m_must_y hw, fk.rf _ _ _, Or.inr ⟨k, ar, hw, hN, ?_⟩⟩
        · unfold J_X11_system_119
          simp only [e0]
          rw [if_pos ((tk0 hB).mpr (by omega))]
        · rw [rdA, if_pos (by omega)]
theorem m_states {y : Int32} {b : Nat → Nat} {L : Nat} (hB : BO b L) (f : Nat) : ∀ z n kd p m, f < z → n ≤ 10 → n + f = 11 → p ≤ L → MD m b L → Well y m → TK m b p → MN m 79 0 (n, kd, 0, fun _ _ => 0) → ∃ m1, H_X11_system_35 z m = J_X11_system_67 m1 ∧ fk [79] p6 m m1 ∧ ((∃ r p', Flt m1 r p' ∧ rdS b L f n kd p = .inl (r, p')) ∨ (∃ n' kd' p', n' ≤ 10 ∧ p' ≤ L ∧ Well y m1 ∧ TK m1 b p' ∧ MN m1 79 0 (n', kd', 0, fun _ _ => 0) ∧ rdS b L f n kd p = if n' = 0 then .inl (1, p') else rdE b L n' kd' p')) := by
  have hL := hB.1
  induction f with
  | zero =>
    intro z n kd p m _ hn hnf
    omega
  | succ f ih =>
    intro z n kd p m hz hn hnf hp hM hw ht hN
    obtain ⟨z, rfl⟩ : ∃ z', z = z' + 1 := ⟨z - 1, by omega⟩
    have e1 : (m.1 72 11 = 1) = (tkc b p = 1) := tke ht (c := 1) (by decide)
    rw [H_X11_system_35, m_well hw]
    simp only [Option.bind_some, ne10, if_false, e1]
    have done : kdn (b p) = 0 → ∃ m1, J_X11_system_67 m = J_X11_system_67 m1 ∧ fk [79] p6 m m1 ∧ ((∃ r p', Flt m1 r p' ∧ rdS b L (f + 1) n kd p = .inl (r, p')) ∨ (∃ n' kd' p', n' ≤ 10 ∧ p' ≤ L ∧ Well y m1 ∧ TK m1 b p' ∧ MN m1 79 0 (n', kd', 0, fun _ _ => 0) ∧ rdS b L (f + 1) n kd p = if n' = 0 then .inl (1, p') else rdE b L n' kd' p')) := fun h0 => by
      refine ⟨m, rfl, fk.rf _ _ _, Or.inr ⟨n, kd, p, hn, hp, hw, ht, hN, ?_⟩⟩
      simp only [rdS, h0, if_true]
    by_cases k1 : tkc b p = 1
    · have hl : p < L := by
        rcases Nat.lt_or_ge p L with h1 | h1
        · exact h1
        · have := (tk0 hB).mpr h1
          omega
      have hb := hB.2.1 p hl
      rw [if_pos k1, (ht.2.2.1 k1).1, m_kind (by omega)]
      simp only [Option.bind_some]
      have hk5 := kdn_le (b p)
      by_cases h0 : kdn (b p) = 0
      · rw [h0, if_neg (show ¬ (0 : Int32) < nI 0 by decide)]
        exact done h0
      · rw [if_pos (show (0 : Int32) < nI (kdn (b p)) from nI_lt (a := 0) (by omega) (by omega))]
        obtain ⟨m1, a1, a2, a3⟩ := m_state hB hM hl hw ht h0 hn hN f
        rw [a1]
        simp only [Option.bind_some]
        rcases a3 with ⟨r, p', F, h3⟩ | ⟨b1, b2, b3, b4, b5, b6⟩
        · exact ⟨m1, m35_f F (by omega), a2, Or.inl ⟨r, p', F, h3⟩⟩
        · obtain ⟨m', i1, i2, i3⟩ := ih z (n + 1) _ (p + 2) m1 (by omega) (by omega) (by omega) b2 (hM.keep a2) b3 b4 b5
          rw [b6]
          exact ⟨m', i1, a2.tr i2, i3⟩
    · rw [if_neg k1]
      exact done (by
        by_cases h0 : kdn (b p) = 0
        · exact h0
        · exact (k1 (kdn_tk h0)).elim)
theorem m_all {y : Int32} {b : Nat → Nat} {L : Nat} (hB : BO b L) {m : pj_M} (hM : MD m b L) (h9 : m.1 72 9 = nI 0) (hw : Well y m) (hN : MN m 79 0 (0, fun _ => 0, 0, fun _ _ => 0)) : ∃ s m1 m', ((F_X11_advances m).bind fun q1 => (H_X11_system_35 pj_z q1)) = J_X11_system_132 s m1 ∧ F_X11_must s m1 = some m' ∧ fk [79] p6 m m' ∧ ((∃ r p', Flt m' r p' ∧ rdS b L 11 0 (fun _ => 0) 0 = .inl (r, p')) ∨ (∃ S', Well y m' ∧ MN m' 79 0 S' ∧ rdS b L 11 0 (fun _ => 0) 0 = .inr S')) := by
  have hz := pj_z_ge
  have hL := hB.1
  obtain ⟨m0, a1, a2, a3⟩ := m_adv hB hM (Nat.zero_le L) h9
  rw [a1]
  simp only [Option.bind_some]
  obtain ⟨m1, b1, b2, b3⟩ := m_states hB 11 pj_z 0 (fun _ => 0) 0 m0 (by omega) (by decide) (by decide) (Nat.zero_le L) (hM.keep (f46 a2)) (hw.f4 a2) a3 (hN.f4 a2)
  rw [b1]
  unfold J_X11_system_67
  simp only [i0, j0, if_false, c0]
  have f1 := (f46 a2).tr b2
  rcases b3 with ⟨r, p', F, h3⟩ | ⟨n', kd', p', d1, d2, d3, d4, d5, d6⟩
  · obtain ⟨s, hs⟩ := m85_f F (show 0 < pj_z by omega)
    refine ⟨s, m1, m1, ?_, m_must_f F s, f1, Or.inl ⟨r, p', F, h3⟩⟩
    rw [m_must_f F, m_must_f F]
    simp only [Option.bind_some, hs, ite_self]
  · have e0 : m1.1 79 0 = nI n' := d5.1
    simp only [e0]
    by_cases hn0 : n' = 0
    · subst hn0
      rw [if_neg (show ¬ (0 : Int32) < nI 0 by decide), m_must_n d3 d4.1]
      simp only [Option.bind_some]
      have F := Flt.mk m1 (p := p') 1 (by omega)
      obtain ⟨s, hs⟩ := m85_f F (show 0 < pj_z by omega)
      refine ⟨s, _, _, hs, m_must_f F s, f1.tr (f_flt m1 _ _), Or.inl ⟨1, p', F, ?_⟩⟩
      rw [d6, if_pos rfl]
    · rw [if_pos (show (0 : Int32) < nI n' from nI_lt (a := 0) (by omega) (by omega)), m_must_y d3]
      simp only [Option.bind_some]
      obtain ⟨s, m2, m', i1, i2, i3, i4⟩ := m_arcs hB (show 0 < n' by omega) d1 21 pj_z 0 _ p' m1 (by omega) (by decide) (by decide) d2 ((hM.keep (f46 a2)).keep b2) d3 d4 d5
      refine ⟨s, m2, m', i1, i2, f1.tr i3, ?_⟩
      rw [d6, if_neg hn0]
      unfold rdE
      rcases i4 with ⟨r, p2, F, c3⟩ | ⟨k', ar', c1, c2, c3⟩
      · refine Or.inl ⟨r, p2, F, ?_⟩
        rw [c3]
      · refine Or.inr ⟨_, c1, c2, ?_⟩
        rw [c3]
theorem m_zero : ∀ m : pj_M, (∀ k, k < 0 → m.1 79 k = 0) → ∃ m1, H_X11_system_2 pj_z (nI 0) m = J_X11_system_21 m1 ∧ (∀ k, k < 72 → m1.1 79 k = 0) ∧ fk [79] [] m m1 := by
  refine lp0 (P := fun z i => ∀ m : pj_M, (∀ k, k < i → m.1 79 k = 0) → ∃ m1, H_X11_system_2 z (nI i) m = J_X11_system_21 m1 ∧ (∀ k, k < 72 → m1.1 79 k = 0) ∧ fk [79] [] m m1) 72 (by decide) (fun z m h => ?_) (fun z i hi ih m h => ?_)
  · rw [H_X11_system_2, if_neg (show ¬ nI 72 < 72 by decide)]
    exact ⟨m, rfl, h, fk.rf _ _ _⟩
  · rw [H_X11_system_2, if_pos (show nI i < 72 from nI_lt (b := 72) hi (by decide)), if_neg (hn_in hi (by decide)), hn_cl (by omega), nI_1]
    obtain ⟨m1, a1, a2, a3⟩ := ih (pj_wr m 79 i 0) (fun k hk => by
      by_cases e : k = i
      · subst e
        exact hr_wrs _ _ _ _
      · rw [hr_wrk e]
        exact h k (by omega))
    exact ⟨m1, a1, a2, (fk.wr _ (by decide) _ _).tr a3⟩
/-- X: the tape and the fault have changed -/
theorem xR.flt {c : Nat} {m m' : pj_M} {σ : sg} {t' : Nat × (Nat → Int32)} {x' : Int32} (h : xR c m σ) (hf : fk [10, 11, 12] [(5, 1), (5, 2), (0, 12)] m m') (ht : XT m' t') (hx : m'.1 0 12 = x') : xR c m' (σ.1, σ.2.1, t', x', σ.2.2.2.2) := by
  obtain ⟨⟨h1, h2, h3, h4, h5, h6, h7, h8⟩, ⟨v, hv, hk⟩, w, hw, hj⟩ := h
  have e : ∀ a, a ≠ 0 → a ≠ 5 → a ≠ 10 → a ≠ 11 → a ≠ 12 → m'.1 a = m.1 a ∧ m'.2 a = m.2 a := fun a a0 a1 a2 a3 a4 => hf.both a (by simp; omega) (by simp; omega)
  refine ⟨⟨h1.keep (fun a ha => (e a (by simp at ha; omega) (by simp at ha; omega) (by simp at ha; omega) (by simp at ha; omega) (by simp at ha; omega)).1), ?_, ht, hx, h5.keep (e 7 (by omega) (by omega) (by omega) (by omega) (by omega)).1 (e 8 (by omega) (by omega) (by omega) (by omega) (by omega)).1 (e 9 (by omega) (by omega) (by omega) (by omega) (by omega)).1, h6.keep (fun a ha => (e a (by simp at ha; omega) (by simp at ha; omega) (by simp at ha; omega) (by simp at ha; omega) (by simp at ha; omega)).1), h7.keep (fun a ha => (e a (by simp at ha; omega) (by simp at ha; omega) (by simp at ha; omega) (by simp at ha; omega) (by simp at ha; omega)).1), ?_⟩, ⟨v, by omega, hk.keep (fun a ha => e a (by omega) (by omega) (by omega) (by omega) (by omega))⟩, w, by omega, hj.keep (fun a ha => (e a (by omega) (by omega) (by omega) (by omega) (by omega)).1)⟩
  · rw [hf.1 0 13 (by decide) (by decide)]
    exact h2
  · unfold Xtr
    rw [(e 56 (by omega) (by omega) (by omega) (by omega) (by omega)).1, (e 57 (by omega) (by omega) (by omega) (by omega) (by omega)).1]
    exact h8
theorem mR.flt {m m' : pj_M} {σ : sg} {t' : Nat × (Nat → Int32)} {x' : Int32} (h : mR m σ) (hf : fk [79] ((72, 6) :: p6) m m') (ht : MT m' t') (hx : m'.1 72 7 = x') : mR m' (σ.1, σ.2.1, t', x', σ.2.2.2.2) := by
  obtain ⟨h1, h2, h3, h4, h5, h6, h7, h8⟩ := h
  have c : ∀ a ∈ [73, 74, 75, 78, 80, 81, 82, 94], m'.1 a = m.1 a := hf.cells _ (by decide)
  have p : ∀ k, k ∈ [4, 16, 32] → m'.1 72 k = m.1 72 k := fun k hk => hf.1 72 k (by decide) (by
    simp only [List.mem_cons, List.not_mem_nil, or_false] at hk
    rcases hk with rfl | rfl | rfl <;> decide)
  refine ⟨h1.keep (fun a ha => c a (by simp at ha ⊢; omega)), ?_, ht, hx, h5.keep (c 78 (by decide)), ?_, h7.keep (fun a ha => c a (by simp at ha ⊢; omega)), ?_⟩
  · rw [p 4 (by decide)]
    exact h2
  · unfold MA MN
    rw [p 16 (by decide), c 80 (by decide)]
    exact h6
  · unfold Mtr
    rw [p 32 (by decide), c 94 (by decide)]
    exact h8
theorem wfT_BO {t : Nat × (Nat → Int32)} (h : wfT t) : BO (byt t) t.1 ∧ ∀ i, i < t.1 → t.2 i = nI (byt t i) := by
  have e : ∀ i, i < t.1 → byt t i < 256 ∧ t.2 i = nI (byt t i) := fun i hi => by
    obtain ⟨b, hb, hb2⟩ := h.2 i hi
    unfold byt
    rw [if_pos hi, hb2, hn_cl (by omega)]
    exact ⟨hb, rfl⟩
  refine ⟨⟨h.1, fun i hi => (e i hi).1, fun i hi => ?_⟩, fun i hi => (e i hi).2⟩
  unfold byt
  rw [if_neg (by omega)]
theorem ok_system {σ : sg} (hσ : WF σ) : OK1 F_X10_system F_X11_system σ := by
  obtain ⟨hB, hbt⟩ := wfT_BO hσ.2.1
  have XX : ∀ m, xR0 m σ → ∃ r m', F_X8_read 10 m = some (nI r, m') ∧ fk [10, 11, 12] [(5, 2)] m m' ∧ r < 4 ∧ ((r ≠ 0 ∧ ∃ p', m'.1 5 2 = nI p' ∧ rdS (byt σ.2.2.1) σ.2.2.1.1 11 0 (fun _ => 0) 0 = .inl (r, p')) ∨ (r = 0 ∧ ∃ S', XN m' 10 S' ∧ rdS (byt σ.2.2.1) σ.2.2.1.1 11 0 (fun _ => 0) 0 = .inr S')) := fun m h =>
    x_read hB h.2.2.1.1 (fun i hi => (h.2.2.1.2 i hi).trans (hbt i hi))
  have MM : ∀ m, mR m σ → ∃ s m1 m', F_X11_system m = J_X11_system_132 s m1 ∧ F_X11_must s m1 = some m' ∧ fk [79] p6 m m' ∧ ((∃ r p', Flt m' r p' ∧ rdS (byt σ.2.2.1) σ.2.2.1.1 11 0 (fun _ => 0) 0 = .inl (r, p')) ∨ (∃ S', Well σ.2.2.2.1 m' ∧ MN m' 79 0 S' ∧ rdS (byt σ.2.2.1) σ.2.2.1.1 11 0 (fun _ => 0) 0 = .inr S')) := fun m h => by
    obtain ⟨m0, a1, a2, a3⟩ := m_zero m (fun k hk => absurd hk (Nat.not_lt_zero k))
    have f1 : fk [79] p6 m (pj_wr (pj_wr m0 72 9 0) 72 8 (-1)) := ((a3.mono (by decide) (by decide)).tr (fk.wp _ (by decide) _)).tr (fk.wp _ (by decide) _)
    have hM : MD m (byt σ.2.2.1) σ.2.2.1.1 := ⟨h.2.2.1.1, fun i hi => (h.2.2.1.2 i hi).trans (hbt i hi)⟩
    obtain ⟨s, m1, m', b1, b2, b3, b4⟩ := m_all (y := σ.2.2.2.1) hB (hM.keep f1) (by rw [hr_wrk (by decide), hr_wrs]; rfl) ⟨hr_wrs _ _ _ _, by rw [hr_wrk (by decide), hr_wrk (by decide), a3.1 72 7 (by decide) (by decide)]; exact h.2.2.2.1⟩ ⟨by rw [hr_wra (by decide), hr_wra (by decide)]; exact a2 0 (by decide), by rw [hr_wra (by decide), hr_wra (by decide)]; exact a2 1 (by decide), fun s hs => absurd hs (Nat.not_lt_zero s), fun a ha => absurd ha (Nat.not_lt_zero a)⟩
    refine ⟨s, m1, m', ?_, b2, f1.tr b3, b4⟩
    unfold F_X11_system
    show H_X11_system_2 pj_z (nI 0) m = _
    rw [a1]
    exact b1
  cases hR : rdS (byt σ.2.2.1) σ.2.2.1.1 11 0 (fun _ => 0) 0 with
  | inl x =>
    obtain ⟨r, p⟩ := x
    refine ⟨-1000100 - nI p, (σ.1, σ.2.1, (0, σ.2.2.1.2), nI r, σ.2.2.2.2), ⟨hσ.1, ⟨Nat.zero_le _, fun i hi => absurd hi (Nat.not_lt_zero i)⟩, hσ.2.2⟩, fun c m hc h => ?_, fun m h => ?_⟩
    · obtain ⟨r', m1, a1, a2, a3, a4⟩ := XX m h.1
      rcases a4 with ⟨b1, p', b2, b3⟩ | ⟨b1, S', b2, b3⟩
      · rw [hR] at b3
        obtain ⟨rfl, rfl⟩ := Prod.mk.inj (Sum.inl.inj b3)
        have fA : fk [10, 11, 12] [(5, 1), (5, 2), (0, 12)] m (pj_wr (pj_wr m1 5 1 0) 0 12 (nI r)) := ((a2.mono (by decide) (by decide)).tr (fk.wp _ (by decide) _)).tr (fk.wp _ (by decide) _)
        refine ⟨_, ?_, (h.flt fA ⟨?_, fun i hi => absurd hi (Nat.not_lt_zero i)⟩ (hr_wrs _ _ _ _)).up (Nat.le_succ c), fA.hi (by decide) (by decide)⟩
        · unfold F_X10_system F_X8_clear F_X8_place
          rw [a1]
          simp only [Option.bind_some]
          rw [if_neg (show ¬ nI r = 0 from fun e => b1 (hn_inj (b := 0) (by omega) (by decide) e)), hr_wra (by decide), hr_wrk (by decide), b2]
        · rw [hr_wra (by decide), hr_wrs]
          rfl
      · rw [hR] at b3
        cases b3
    · obtain ⟨s, m1, m', a1, a2, a3, a4⟩ := MM m h
      rcases a4 with ⟨r', p', F, b3⟩ | ⟨S', b1, b2, b3⟩
      · rw [hR] at b3
        obtain ⟨rfl, rfl⟩ := Prod.mk.inj (Sum.inl.inj b3)
        have fA : fk [79] ((72, 6) :: p6) m (pj_wr m' 72 6 0) := (a3.mono (by decide) (by decide)).tr (fk.wp _ (by decide) _)
        have F2 : Flt (pj_wr m' 72 6 0) r p := ⟨by rw [hr_wrk (by decide)]; exact F.1, by rw [hr_wrk (by decide)]; exact F.2.1, F.2.2⟩
        refine ⟨_, ?_, h.flt fA ⟨hr_wrs _ _ _ _, fun i hi => absurd hi (Nat.not_lt_zero i)⟩ F2.2.1, fA.lo (by decide) (by decide)⟩
        rw [a1]
        unfold J_X11_system_132
        rw [a2]
        simp only [Option.bind_some]
        rw [m_flt F2]
        simp only [Option.bind_some, if_true]
        rw [F2.1]
      · rw [hR] at b3
        cases b3
  | inr S =>
    obtain ⟨wS, w0⟩ := rdS_wf 11 0 _ 0 S (by decide) (fun s hs => absurd hs (Nat.not_lt_zero s)) hR
    refine ⟨nI S.1, (σ.1, σ.2.1, (0, σ.2.2.1.2), σ.2.2.2.1, S, (0, σ.2.2.2.2.2.1.2), σ.2.2.2.2.2.2), ⟨hσ.1, ⟨Nat.zero_le _, fun i hi => absurd hi (Nat.not_lt_zero i)⟩, wS, ⟨Nat.zero_le _, fun i hi => absurd hi (Nat.not_lt_zero i)⟩, hσ.2.2.2.2⟩, fun c m hc h => ?_, fun m h => ?_⟩
    · obtain ⟨r', m1, a1, a2, a3, a4⟩ := XX m h.1
      rcases a4 with ⟨b1, p', b2, b3⟩ | ⟨b1, S', b2, b3⟩
      · rw [hR] at b3
        cases b3
      · rw [hR] at b3
        obtain rfl := Sum.inr.inj b3
        subst b1
        have fA : fk [10, 11, 12] [(5, 1), (5, 2), (0, 12)] m (pj_wr m1 5 1 0) := (a2.mono (by decide) (by decide)).tr (fk.wp _ (by decide) _)
        have h1 := h.flt (t' := (0, σ.2.2.1.2)) (x' := σ.2.2.2.1) fA ⟨hr_wrs _ _ _ _, fun i hi => absurd hi (Nat.not_lt_zero i)⟩ (by
          rw [hr_wra (by decide), a2.1 0 12 (by decide) (by decide)]
          exact h.1.2.2.2.1)
        have hn1 : XN (pj_wr m1 5 1 0) 10 S := b2.keep (hr_wra (by decide)) (hr_wra (by decide)) (hr_wra (by decide))
        obtain ⟨m2, g1, g2, g3, g4⟩ := px_takeOver (a := 7) (b := 10) wS hn1 (by decide)
        have fB : fr [7, 8, 9, 17, 18] (pj_wr m1 5 1 0) (pj_wr m2 17 1 0) := (g2.mono (by simp)).tr (fr.wr _ _ (by decide) _ _)
        have hn2 : XN (pj_wr m2 17 1 0) 7 S := g3.keep (hr_wra (by decide)) (hr_wra (by decide)) (hr_wra (by decide))
        refine ⟨_, ?_, h1.net (v' := 1) (S' := S) (A' := (0, σ.2.2.2.2.2.1.2)) fB hn2 ⟨hr_wrs _ _ _ _, fun i hi => absurd hi (Nat.not_lt_zero i)⟩ (fun v hv hvc => ⟨?_, by decide, by decide⟩), ?_⟩
        · have e7 : (pj_wr m2 17 1 0).1 7 2 = nI S.1 := hn2.1
          unfold F_X10_system F_X8_clear F_X0_forget F_X4_states
          rw [a1]
          simp only [Option.bind_some]
          rw [if_pos (show nI 0 = 0 from rfl), g1]
          simp only [Option.bind_some]
          rw [e7]
        · rw [hr_wra (by decide), g4, hv, nI_1, Nat.add_comm]
        · intro a ha
          have e1 := fA.hi (by decide) (by decide) a ha
          have e2 := fB.hi (by decide) a ha
          exact ⟨e2.1.trans e1.1, e2.2.trans e1.2⟩
    · obtain ⟨s, m1, m', a1, a2, a3, a4⟩ := MM m h
      rcases a4 with ⟨r', p', F, b3⟩ | ⟨S', b1, b2, b3⟩
      · rw [hR] at b3
        cases b3
      · rw [hR] at b3
        obtain rfl := Sum.inr.inj b3
        have fA : fk [79] ((72, 6) :: p6) m (pj_wr m' 72 6 0) := (a3.mono (by decide) (by decide)).tr (fk.wp _ (by decide) _)
        have W2 : Well σ.2.2.2.1 (pj_wr m' 72 6 0) := ⟨by rw [hr_wrk (by decide)]; exact b1.1, by rw [hr_wrk (by decide)]; exact b1.2⟩
        have h1 := h.flt (t' := (0, σ.2.2.1.2)) fA ⟨hr_wrs _ _ _ _, fun i hi => absurd hi (Nat.not_lt_zero i)⟩ W2.2
        have hn1 : MN (pj_wr m' 72 6 0) 79 0 S := b2.keep (hr_wra (by decide))
        obtain ⟨m2, g1, g2, g3⟩ := pm_copies (n0 := 72) (A := 79) (o := 0) (n2 := 72) (B := 78) (p := 0) (pj_wr m' 72 6 0) (by decide) (by decide) (by decide) (by decide) (by decide)
        have hn2 : MN m2 78 0 S := MN.copy wS hn1 g3
        have hn3 : MN (pj_wr m2 72 16 0) 78 0 S := hn2.keep (hr_wra (by decide))
        have fB : fk (78 :: 80 :: cms) ((72, 16) :: pms) (pj_wr m' 72 6 0) (pj_wr m2 72 16 0) := ((g2.fk []).mono (by decide) (by decide)).tr (fk.wp _ (by decide) _)
        refine ⟨_, ?_, h1.net (S' := S) (A' := (0, σ.2.2.2.2.2.1.2)) fB hn3 ⟨hr_wrs _ _ _ _, fun i hi => absurd hi (Nat.not_lt_zero i)⟩, ?_⟩
        · rw [a1]
          unfold J_X11_system_132
          rw [a2]
          simp only [Option.bind_some]
          rw [m_well W2]
          simp only [Option.bind_some, ne10, if_false]
          have g1 : F_X11_copies 72 79 0 72 78 0 (pj_wr m' 72 6 0) = some m2 := g1
          rw [g1]
          simp only [Option.bind_some, i0, j0, if_false, c0]
          have e8 : (pj_wr m2 72 16 0).1 78 0 = nI S.1 := hn3.1
          rw [e8]
        · intro a ha
          have e1 := fA.lo (by decide) (by decide) a ha
          have e2 := fB.lo (by decide) (by decide) a ha
          exact ⟨e2.1.trans e1.1, e2.2.trans e1.2⟩
