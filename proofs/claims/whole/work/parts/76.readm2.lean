/-! PART 76: the tape is read: M's states and arcs -/
def Well (y : Int32) (m : pj_M) : Prop := m.1 72 8 = -1 ∧ m.1 72 7 = y
def Flt (m : pj_M) (r p : Nat) : Prop := m.1 72 8 = nI p ∧ m.1 72 7 = nI r ∧ p ≤ 140
theorem m_well {y : Int32} {m : pj_M} (h : Well y m) : F_X11_isWell m = some (1, m) := by
  unfold F_X11_isWell
  rw [h.1, if_pos (by decide)]
theorem m_flt {m : pj_M} {r p : Nat} (h : Flt m r p) : F_X11_isWell m = some (0, m) := by
  unfold F_X11_isWell
  rw [h.1, if_neg (nI_pos (by have := h.2.2; omega))]
theorem Well.f4 {y : Int32} {m m' : pj_M} (h : Well y m) (hf : fk [] p4 m m') : Well y m' := ⟨(hf.1 72 8 (by decide) (by decide)).trans h.1, (hf.1 72 7 (by decide) (by decide)).trans h.2⟩
theorem m_take_y {y : Int32} {b : Nat → Nat} {L p : Nat} {m : pj_M} (hB : BO b L) (hM : MD m b L) (hp : p ≤ L) (h9 : m.1 72 9 = nI p) (hw : Well y m) (x2 : Int32) : ∃ m', F_X11_takes 1 x2 m = some (m.1 72 12, m') ∧ fk [] p4 m m' ∧ TK m' b p := by
  obtain ⟨m', a1, a2, a3⟩ := m_adv hB hM hp h9
  refine ⟨m', ?_, a2, a3⟩
  unfold F_X11_takes
  rw [m_well hw]
  simp only [Option.bind_some]
  rw [if_neg ne10, if_neg ne10, a1]
  rfl
theorem m_take_n {y : Int32} {p : Nat} {m : pj_M} (h10 : m.1 72 10 = nI p) (hw : Well y m) (r : Nat) : F_X11_takes 0 (nI r) m = some (0, pj_wr (pj_wr m 72 8 (nI p)) 72 7 (nI r)) := by
  unfold F_X11_takes
  rw [m_well hw]
  simp only [Option.bind_some]
  rw [if_neg ne10, if_pos True.intro, h10]
theorem Flt.mk (m : pj_M) {p : Nat} (r : Nat) (hp : p ≤ 140) : Flt (pj_wr (pj_wr m 72 8 (nI p)) 72 7 (nI r)) r p := ⟨by rw [hr_wrk (by decide), hr_wrs], hr_wrs _ _ _ _, hp⟩
theorem f_flt (m : pj_M) (x y : Int32) : fk [79] p6 m (pj_wr (pj_wr m 72 8 x) 72 7 y) := (fk.wp _ (by decide) _).tr (fk.wp _ (by decide) _)
theorem m_take_f {m : pj_M} {r p : Nat} (h : Flt m r p) (x1 x2 : Int32) : F_X11_takes x1 x2 m = some (0, m) := by
  unfold F_X11_takes
  rw [m_flt h]
  simp only [Option.bind_some]
  rw [if_pos True.intro]
theorem m_fig_f {m : pj_M} {r p : Nat} (h : Flt m r p) (x1 x2 : Int32) : F_X11_figure x1 x2 m = some (0, m) := by
  have hi : ∃ v, F_X11_in (m.1 72 12) x1 x2 m = some (v, m) := by
    unfold F_X11_in
    split
    · exact ⟨_, rfl⟩
    · split
      · exact ⟨_, rfl⟩
      · exact ⟨_, rfl⟩
  obtain ⟨v, hv⟩ := hi
  unfold F_X11_figure
  rw [m_flt h]
  simp only [Option.bind_some]
  rw [if_pos True.intro, hv]
  simp only [Option.bind_some]
  rw [m_take_f h]
  rfl
theorem m_must_f {m : pj_M} {r p : Nat} (h : Flt m r p) (x1 : Int32) : F_X11_must x1 m = some m := by
  unfold F_X11_must
  rw [m_flt h]
  simp only [Option.bind_some]
  rw [if_pos True.intro]
theorem m_must_y {y : Int32} {m : pj_M} (h : Well y m) : F_X11_must 1 m = some m := by
  unfold F_X11_must
  rw [m_well h]
  simp only [Option.bind_some]
  rw [if_neg ne10, if_neg ne10]
theorem m_must_n {y : Int32} {m : pj_M} {p : Nat} (h : Well y m) (h10 : m.1 72 10 = nI p) : F_X11_must 0 m = some (pj_wr (pj_wr m 72 8 (nI p)) 72 7 (nI 1)) := by
  unfold F_X11_must
  rw [m_well h]
  simp only [Option.bind_some]
  rw [if_neg ne10, if_pos True.intro, l1, m_take_n h10 h 1]
  rfl
theorem nf_3 (b : Nat → Nat) (p : Nat) : nf b p ≤ 3 := by
  unfold nf
  split
  · split
    · split <;> decide
    · decide
  · decide
theorem tk2 {b : Nat → Nat} {p : Nat} : tkc b p = 2 ↔ nf b p = 1 ∨ nf b p = 2 := by
  have h3 := nf_3 b p
  have h0 : fig (b p) = false ↔ nf b p = 0 := by
    unfold nf
    cases fig (b p) with
    | false => simp
    | true =>
      simp only [if_true]
      refine ⟨fun h => (by cases h), fun h => ?_⟩
      split at h
      · split at h
        · omega
        · omega
      · omega
  unfold tkc
  by_cases hf : fig (b p) = true
  · rw [if_pos hf]
    have hne : nf b p ≠ 0 := fun e => by
      rw [h0.mpr e] at hf
      cases hf
    by_cases e : nf b p = 3
    · rw [if_pos e]
      omega
    · rw [if_neg e]
      omega
  · have hff : fig (b p) = false := by
      cases e : fig (b p) with
      | false => rfl
      | true => exact (hf e).elim
    rw [if_neg hf]
    have e := h0.mp hff
    refine ⟨fun h => ?_, fun h => by omega⟩
    split at h
    · omega
    · split at h
      · omega
      · split at h
        · omega
        · split at h
          · omega
          · omega
theorem m_fig {y : Int32} {b : Nat → Nat} {L p n : Nat} {m : pj_M} (hB : BO b L) (hM : MD m b L) (hp : p ≤ L) (hw : Well y m) (ht : TK m b p) (hn : 0 < n) (hn2 : n ≤ 10) : (nk b n p = 0 → ∃ m', F_X11_figure 0 (nI (n - 1)) m = some (nI (nv b p), m') ∧ fk [] p4 m m' ∧ TK m' b (p + nf b p)) ∧ (nk b n p ≠ 0 → F_X11_figure 0 (nI (n - 1)) m = some (0, pj_wr (pj_wr m 72 8 (nI p)) 72 7 (nI (nk b n p)))) := by
  have hL := hB.1
  obtain ⟨t1, t2, t3, t4, t5⟩ := ht
  have hfig : F_X11_figure 0 (nI (n - 1)) m = if tkc b p = 2 then ((F_X11_in (m.1 72 12) 0 (nI (n - 1)) m).bind fun q4 => ((F_X11_takes q4.1 2 q4.2).bind fun q5 => (some (q5.1, q5.2)))) else ((F_X11_takes 0 1 m).bind fun q6 => (some (q6.1, q6.2))) := by
    unfold F_X11_figure
    rw [m_well hw]
    simp only [Option.bind_some]
    rw [if_neg ne10, t2]
    have htk : tkc b p < 6 := by
      unfold tkc
      split
      · split <;> decide
      · split
        · decide
        · split
          · decide
          · split
            · decide
            · split <;> decide
    by_cases h2 : tkc b p = 2
    · rw [if_pos h2, if_pos (show nI (tkc b p) = 2 from by rw [h2]; rfl)]
    · rw [if_neg h2, if_neg (show ¬ nI (tkc b p) = 2 from fun e => h2 (hn_inj (b := 2) (by omega) (by decide) e))]
  rw [hfig]
  by_cases h2 : tkc b p = 2
  · have hnf := tk2.mp h2
    obtain ⟨s1, s2⟩ := t4 h2
    have hu := nf_le hB hp
    have hnv : nv b p < 2 ^ 31 := by
      have hlt : ∀ i, b i < 1000 := fun i => by
        rcases Nat.lt_or_ge i L with h1 | h1
        · have := hB.2.1 i h1
          omega
        · rw [hB.2.2 i h1]
          decide
      have h1 := hlt p
      have h2 := hlt (p + 1)
      unfold nv
      split <;> omega
    rw [if_pos h2, s1, l0, m_in (by decide) hnv (by omega)]
    simp only [Option.bind_some]
    have enk : nk b n p = if nv b p < n then 0 else 2 := by
      unfold nk
      rw [if_neg (by omega)]
    by_cases hlt : nv b p < n
    · rw [if_pos (show 0 ≤ nv b p ∧ nv b p ≤ n - 1 by omega)]
      rw [if_pos hlt] at enk
      refine ⟨fun _ => ?_, fun h => (h enk).elim⟩
      obtain ⟨m', a1, a2, a3⟩ := m_take_y hB hM hu s2 hw 2
      refine ⟨m', ?_, a2, a3⟩
      rw [a1, s1]
      rfl
    · rw [if_neg (show ¬ (0 ≤ nv b p ∧ nv b p ≤ n - 1) by omega)]
      rw [if_neg hlt] at enk
      refine ⟨fun h => by omega, fun _ => ?_⟩
      rw [l2, m_take_n t1 hw 2, enk]
      rfl
  · have enk : nk b n p = 1 := by
      unfold nk
      have h3 := nf_3 b p
      have : ¬ (nf b p = 1 ∨ nf b p = 2) := fun e => h2 (tk2.mpr e)
      rw [if_pos (by omega)]
    refine ⟨fun h => by omega, fun _ => ?_⟩
    rw [if_neg h2, l1, m_take_n t1 hw 1, enk]
    rfl
theorem tk3 {b : Nat → Nat} {p : Nat} : tkc b p = 3 ↔ b p = 44 := by
  unfold tkc
  by_cases hf : fig (b p) = true
  · have := (fig_iff _).mp hf
    rw [if_pos hf]
    refine ⟨fun h => ?_, fun h => by omega⟩
    split at h <;> omega
  · rw [if_neg hf]
    by_cases h1 : b p = 44
    · rw [if_neg (by omega), if_neg (by omega), if_pos h1]
      exact ⟨fun _ => h1, fun _ => rfl⟩
    · rw [if_neg h1]
      refine ⟨fun h => ?_, fun h => by omega⟩
      split at h
      · omega
      · split at h
        · omega
        · split at h <;> omega
theorem tk4 {b : Nat → Nat} {p : Nat} : tkc b p = 4 ↔ b p = 59 := by
  unfold tkc
  by_cases hf : fig (b p) = true
  · have := (fig_iff _).mp hf
    rw [if_pos hf]
    refine ⟨fun h => ?_, fun h => by omega⟩
    split at h <;> omega
  · rw [if_neg hf]
    by_cases h1 : b p = 59
    · rw [if_neg (by omega), if_neg (by omega), if_neg (by omega), if_pos h1]
      exact ⟨fun _ => h1, fun _ => rfl⟩
    · refine ⟨fun h => ?_, fun h => by omega⟩
      split at h
      · omega
      · split at h
        · omega
        · split at h
          · omega
          · omega
theorem tk1 {b : Nat → Nat} {p : Nat} : tkc b p = 1 ↔ 97 ≤ b p ∧ b p ≤ 122 := by
  unfold tkc
  by_cases hf : fig (b p) = true
  · have := (fig_iff _).mp hf
    rw [if_pos hf]
    refine ⟨fun h => ?_, fun h => by omega⟩
    split at h <;> omega
  · rw [if_neg hf]
    by_cases h1 : 97 ≤ b p ∧ b p ≤ 122
    · rw [if_neg (by omega), if_pos h1]
      exact ⟨fun _ => h1, fun _ => rfl⟩
    · rw [if_neg h1]
      refine ⟨fun h => ?_, fun h => by omega⟩
      split at h
      · omega
      · split at h
        · omega
        · split at h <;> omega
theorem tk0 {b : Nat → Nat} {L p : Nat} (hB : BO b L) : tkc b p = 0 ↔ L ≤ p := by
  unfold tkc
  by_cases hl : p < L
  · have hb := hB.2.1 p hl
    refine ⟨fun h => ?_, fun h => by omega⟩
    rw [if_neg (show ¬ b p = 999 by omega)] at h
    split at h
    · split at h <;> omega
    · split at h
      · omega
      · split at h
        · omega
        · split at h <;> omega
  · have e := hB.2.2 p (by omega)
    have hf : ¬ fig (b p) = true := fun h => hl (fig_lt hB h)
    rw [if_neg hf, if_pos e]
    exact ⟨fun _ => by omega, fun _ => rfl⟩
theorem tk_lt (b : Nat → Nat) (p : Nat) : tkc b p < 6 := by
  unfold tkc
  split
  · split <;> decide
  · split
    · decide
    · split
      · decide
      · split
        · decide
        · split <;> decide
theorem tke {m : pj_M} {b : Nat → Nat} {p : Nat} (h : TK m b p) {c : Nat} (hc : c < 2 ^ 31) : (m.1 72 11 = nI c) = (tkc b p = c) := by
  rw [h.2.1]
  exact nI_iff (by have := tk_lt b p; omega) hc
theorem kdn_tk {b : Nat → Nat} {p : Nat} (h : kdn (b p) ≠ 0) : tkc b p = 1 := by
  rw [tk1]
  unfold kdn at h
  split at h
  · omega
  · split at h
    · omega
    · split at h
      · omega
      · split at h
        · omega
        · split at h
          · omega
          · exact (h rfl).elim
theorem ltn_tk {b : Nat → Nat} {p l : Nat} (h : ltn (b p) = some l) : tkc b p = 1 := by
  rw [tk1]
  unfold ltn at h
  split at h
  · omega
  · split at h
    · omega
    · cases h
theorem m_kind {c : Nat} (hc : c < 2 ^ 31) (m : pj_M) : F_X11_kindOf (nI c) m = some (nI (kdn c), m) := by
  unfold F_X11_kindOf kdn
  simp only [show (100 : Int32) = nI 100 from rfl, show (103 : Int32) = nI 103 from rfl, show (112 : Int32) = nI 112 from rfl, show (119 : Int32) = nI 119 from rfl, show (120 : Int32) = nI 120 from rfl, nI_iff hc (show 100 < 2 ^ 31 by decide), nI_iff hc (show 103 < 2 ^ 31 by decide), nI_iff hc (show 112 < 2 ^ 31 by decide), nI_iff hc (show 119 < 2 ^ 31 by decide), nI_iff hc (show 120 < 2 ^ 31 by decide)]
  by_cases h1 : c = 112
  · subst h1
    rfl
  · by_cases h2 : c = 103
    · subst h2
      rfl
    · by_cases h3 : c = 120
      · subst h3
        rfl
      · by_cases h4 : c = 100
        · subst h4
          rfl
        · by_cases h5 : c = 119
          · subst h5
            rfl
          · simp only [h1, h2, h3, h4, h5, if_false]
            rfl
theorem m_letter {c : Nat} (hc : c < 2 ^ 31) (m : pj_M) : F_X11_letterOf (nI c) m = some (match ltn c with | none => -1000000 | some l => nI l, m) := by
  unfold F_X11_letterOf ltn
  simp only [show (116 : Int32) = nI 116 from rfl, nI_iff hc (show 116 < 2 ^ 31 by decide)]
  by_cases h1 : c = 116
  · subst h1
    rfl
  · rw [if_neg h1, if_neg h1, l97, show (99 : Int32) = nI 99 from rfl, m_in (by decide) hc (by decide)]
    simp only [Option.bind_some]
    by_cases h2 : 97 ≤ c ∧ c ≤ 99
    · rw [if_pos h2, if_pos h2, if_neg ne10, hn_sub (by omega), nI_1, show c - 97 + 1 = c - 96 by omega]
    · rw [if_neg h2, if_neg h2, if_pos rfl]
