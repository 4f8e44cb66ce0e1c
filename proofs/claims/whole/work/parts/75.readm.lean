/-! PART 75: the tape is read: M's tokens -/
def tkc (b : Nat → Nat) (p : Nat) : Nat := if fig (b p) then (if nf b p = 3 then 5 else 2) else if b p = 999 then 0 else if 97 ≤ b p ∧ b p ≤ 122 then 1 else if b p = 44 then 3 else if b p = 59 then 4 else 5
/-- the token at p -/
def TK (m : pj_M) (b : Nat → Nat) (p : Nat) : Prop := m.1 72 10 = nI p ∧ m.1 72 11 = nI (tkc b p) ∧ (tkc b p = 1 → m.1 72 12 = nI (b p) ∧ m.1 72 9 = nI (p + 1)) ∧ (tkc b p = 2 → m.1 72 12 = nI (nv b p) ∧ m.1 72 9 = nI (p + nf b p)) ∧ (tkc b p = 3 ∨ tkc b p = 4 → m.1 72 9 = nI (p + 1))
def MD (m : pj_M) (b : Nat → Nat) (L : Nat) : Prop := m.1 72 6 = nI L ∧ ∀ i, i < L → m.1 77 i = nI (b i)
def p4 : List (Nat × Nat) := [(72, 9), (72, 10), (72, 11), (72, 12)]
def p6 : List (Nat × Nat) := [(72, 7), (72, 8), (72, 9), (72, 10), (72, 11), (72, 12)]
theorem f46 {m m' : pj_M} (h : fk [] p4 m m') : fk [79] p6 m m' := h.mono (by decide) (by decide)
theorem MD.keep {m m' : pj_M} {b : Nat → Nat} {L : Nat} (h : MD m b L) (hf : fk [79] p6 m m') : MD m' b L := by
  have e : m'.1 77 = m.1 77 := hf.cell 77 (by decide) (by decide)
  refine ⟨by rw [hf.1 72 6 (by decide) (by decide)]; exact h.1, fun i hi => by rw [e]; exact h.2 i hi⟩
theorem m_in {a c d : Nat} (ha : a < 2 ^ 31) (hc : c < 2 ^ 31) (hd : d < 2 ^ 31) (m : pj_M) : F_X11_in (nI c) (nI a) (nI d) m = some (if a ≤ c ∧ c ≤ d then 1 else 0, m) := by
  unfold F_X11_in
  by_cases h1 : c < a
  · rw [if_pos (nI_lt h1 ha), if_neg (by omega)]
  · rw [if_neg (nI_nlt (by omega) hc)]
    by_cases h2 : d < c
    · rw [if_pos (nI_lt h2 hc), if_neg (by omega)]
    · rw [if_neg (nI_nlt (by omega) hd), if_pos (by omega)]
theorem m_in_e (m : pj_M) : F_X11_in (-1) (nI 48) (nI 57) m = some (0, m) := by
  unfold F_X11_in
  rw [if_pos (by decide)]
theorem l48 : (48 : Int32) = nI 48 := rfl
theorem l57 : (57 : Int32) = nI 57 := rfl
theorem l97 : (97 : Int32) = nI 97 := rfl
theorem l122 : (122 : Int32) = nI 122 := rfl
theorem l44 : (44 : Int32) = nI 44 := rfl
theorem l59 : (59 : Int32) = nI 59 := rfl
theorem m_byte {m : pj_M} {b : Nat → Nat} {L i : Nat} (hB : BO b L) (h : MD m b L) (hi : i ≤ L) : F_X11_byteAt (nI i) m = some (if i < L then nI (b i) else -1, m) := by
  have hL := hB.1
  unfold F_X11_byteAt
  rw [h.1]
  by_cases hl : i < L
  · rw [if_pos (nI_lt hl (by omega)), if_neg (hn_in (show i < 140 by omega) (by decide)), hn_cl (by omega), if_pos hl, h.2 i hl]
  · rw [if_neg (nI_nlt (by omega) (by omega)), if_neg hl]
theorem m_isfig {m : pj_M} {b : Nat → Nat} {L i : Nat} (hB : BO b L) (hi : i ≤ L) : F_X11_in (if i < L then nI (b i) else -1) 48 57 m = some (if fig (b i) then 1 else 0, m) := by
  by_cases hl : i < L
  · have hb := hB.2.1 i hl
    rw [if_pos hl, l48, l57, m_in (by decide) (by omega) (by decide)]
    by_cases hf : fig (b i) = true
    · rw [if_pos hf, if_pos ((fig_iff _).mp hf)]
    · rw [if_neg hf, if_neg (fun e => hf ((fig_iff _).mpr e))]
  · rw [if_neg hl, l48, l57, m_in_e, if_neg (fun e => hl (fig_lt hB e))]
def pv (b : Nat → Nat) (p c : Nat) : Nat := if c = 0 then 0 else if c = 1 then b p - 48 else 10 * (b p - 48) + (b (p + 1) - 48)
theorem m_num_end {b : Nat → Nat} {L p : Nat} (hB : BO b L) (hf0 : fig (b p) = true) (z j : Nat) (m : pj_M) (hpj : p ≤ j) (hj : j ≤ L) (hfs : ∀ i, p ≤ i → i < j → fig (b i) = true) (hM : MD m b L) (h9 : m.1 72 9 = nI j) (h10 : m.1 72 10 = nI p) (h12 : m.1 72 12 = nI (pv b p (j - p))) (hn : fig (b j) = false) : ∃ m', H_X11_advances_38 (z + 1) m = some m' ∧ fk [] p4 m m' ∧ TK m' b p := by
  have hL := hB.1
  rw [H_X11_advances_38, h9, m_byte hB hM hj]
  simp only [Option.bind_some]
  rw [m_isfig hB hj, hn]
  simp only [Option.bind_some, Bool.false_eq_true, if_false, if_true]
  unfold J_X11_advances_112
  rw [h9, h10, hn_sub hpj]
  have hpj2 : p < j := by
    rcases Nat.lt_or_ge p j with h1 | h1
    · exact h1
    · rw [show j = p by omega, hf0] at hn
      cases hn
  have F : ∀ v, fk [] p4 m (pj_wr m 72 11 v) := fun v => fk.wp _ (by decide) _
  by_cases h3 : j - p < 3
  · rw [if_pos (show nI (j - p) < 3 from nI_lt (b := 3) h3 (by decide))]
    have e : nf b p = j - p := by
      have hc : j = p + 1 ∨ j = p + 2 := by omega
      unfold nf
      rcases hc with rfl | rfl
      · rw [hf0, hn, show p + 1 - p = 1 by omega]
        rfl
      · rw [hf0, hfs (p + 1) (by omega) (by omega), hn, show p + 2 - p = 2 by omega]
        rfl
    have tk : tkc b p = 2 := by
      unfold tkc
      rw [if_pos hf0, if_neg (by omega)]
    refine ⟨_, rfl, F _, ?_⟩
    unfold TK
    rw [tk]
    refine ⟨by rw [hr_wrk (by decide)]; exact h10, hr_wrs _ _ _ _, fun h => by omega, fun _ => ⟨?_, ?_⟩, fun h => by omega⟩
    · rw [hr_wrk (by decide), h12]
      unfold pv nv
      rw [if_neg (by omega), e]
    · rw [hr_wrk (by decide), h9, e, show p + (j - p) = j by omega]
  · rw [if_neg (show ¬ nI (j - p) < 3 from nI_nlt (b := 3) (by omega) (by omega))]
    have e : nf b p = 3 := by
      unfold nf
      rw [hf0, hfs (p + 1) (by omega) (by omega), hfs (p + 2) (by omega) (by omega)]
      rfl
    have tk : tkc b p = 5 := by
      unfold tkc
      rw [if_pos hf0, if_pos e]
    refine ⟨_, rfl, F _, ?_⟩
    unfold TK
    rw [tk]
    refine ⟨by rw [hr_wrk (by decide)]; exact h10, hr_wrs _ _ _ _, fun h => by omega, fun h => by omega, fun h => by omega⟩
theorem m_num {b : Nat → Nat} {L p : Nat} (hB : BO b L) (hf0 : fig (b p) = true) (d : Nat) : ∀ z j m, L - j ≤ d → d < z → p ≤ j → j ≤ L → (∀ i, p ≤ i → i < j → fig (b i) = true) → MD m b L → m.1 72 9 = nI j → m.1 72 10 = nI p → m.1 72 12 = nI (pv b p (j - p)) → ∃ m', H_X11_advances_38 z m = some m' ∧ fk [] p4 m m' ∧ TK m' b p := by
  have hL := hB.1
  induction d with
  | zero =>
    intro z j m hd hz hpj hj hfs hM h9 h10 h12
    obtain ⟨z, rfl⟩ : ∃ z', z = z' + 1 := ⟨z - 1, by omega⟩
    exact m_num_end hB hf0 z j m hpj hj hfs hM h9 h10 h12 (by
      cases e : fig (b j) with
      | false => rfl
      | true =>
        have := fig_lt hB e
        omega)
  | succ d ih =>
    intro z j m hd hz hpj hj hfs hM h9 h10 h12
    obtain ⟨z, rfl⟩ : ∃ z', z = z' + 1 := ⟨z - 1, by omega⟩
    cases e : fig (b j) with
    | false => exact m_num_end hB hf0 z j m hpj hj hfs hM h9 h10 h12 e
    | true =>
      have hl := fig_lt hB e
      have hv := (fig_iff _).mp e
      have hb0 := (fig_iff _).mp hf0
      have hfs' : ∀ i, p ≤ i → i < j + 1 → fig (b i) = true := fun i h1 h2 => by
        rcases Nat.lt_or_ge i j with h3 | h3
        · exact hfs i h1 h3
        · rw [show i = j by omega]
          exact e
      rw [H_X11_advances_38, h9, m_byte hB hM hj]
      simp only [Option.bind_some]
      rw [m_isfig hB hj, e]
      simp only [Option.bind_some, if_true]
      rw [if_neg ne10, h9, h10, hn_sub hpj]
      have G : ∀ v, v = nI (pv b p (j + 1 - p)) → ∃ m', H_X11_advances_38 z (pj_wr (pj_wr m 72 12 v) 72 9 ((pj_wr m 72 12 v).1 72 9 + 1)) = some m' ∧ fk [] p4 m m' ∧ TK m' b p := fun v hv => by
        have f1 : fk [] p4 m (pj_wr (pj_wr m 72 12 v) 72 9 ((pj_wr m 72 12 v).1 72 9 + 1)) := (fk.wp _ (by decide) _).tr (fk.wp _ (by decide) _)
        obtain ⟨m', i1, i2, i3⟩ := ih z (j + 1) _ (by omega) (by omega) (by omega) (by omega) hfs' (hM.keep (f46 f1)) (by rw [hr_wrs, hr_wrk (by decide), h9, nI_1]) (by rw [hr_wrk (by decide), hr_wrk (by decide)]; exact h10) (by rw [hr_wrk (by decide), hr_wrs]; exact hv)
        exact ⟨m', i1, f1.tr i2, i3⟩
      by_cases h2 : j - p < 2
      · rw [if_pos (show nI (j - p) < 2 from nI_lt (b := 2) h2 (by decide)), m_byte hB hM hj, if_pos hl]
        simp only [Option.bind_some]
        refine G _ ?_
        rw [h12, l10, hn_mul, hn_add, l48, hn_sub (by omega)]
        have hc : j = p ∨ j = p + 1 := by omega
        rcases hc with rfl | rfl
        · rw [Nat.sub_self, show j + 1 - j = 1 by omega]
          show nI (10 * 0 + b j - 48) = nI (b j - 48)
          rw [Nat.mul_zero, Nat.zero_add]
        · rw [show p + 1 - p = 1 by omega, show p + 1 + 1 - p = 2 by omega]
          show nI (10 * (b p - 48) + b (p + 1) - 48) = nI (10 * (b p - 48) + (b (p + 1) - 48))
          rw [Nat.add_sub_assoc (by omega)]
      · rw [if_neg (show ¬ nI (j - p) < 2 from nI_nlt (b := 2) (by omega) (by omega))]
        refine G _ ?_
        rw [h12]
        unfold pv
        rw [if_neg (by omega), if_neg (by omega), if_neg (by omega), if_neg (by omega)]
theorem m_adv {b : Nat → Nat} {L p : Nat} {m : pj_M} (hB : BO b L) (hM : MD m b L) (hp : p ≤ L) (h9 : m.1 72 9 = nI p) : ∃ m', F_X11_advances m = some m' ∧ fk [] p4 m m' ∧ TK m' b p := by
  have hL := hB.1
  have f1 : fk [] p4 m (pj_wr m 72 10 (nI p)) := fk.wp _ (by decide) _
  have hM1 := hM.keep (f46 f1)
  have J : ∀ c v, c < 6 → (J_X11_advances_180 (nI c) (pj_wr (pj_wr m 72 10 (nI p)) 72 12 v)) = some (pj_wr (pj_wr (pj_wr (pj_wr m 72 10 (nI p)) 72 12 v) 72 11 (nI c)) 72 9 (nI (p + if c = 0 then 0 else 1))) := fun c v hc => by
    unfold J_X11_advances_180
    rw [hr_wrs, hr_wrk (by decide), hr_wrk (by decide), hr_wrk (by decide), h9]
    by_cases h0 : c = 0
    · subst h0
      rw [if_pos (show nI 0 = 0 from rfl), if_pos rfl, l0, hn_add]
    · rw [if_neg (show ¬ nI c = 0 from fun e => h0 (hn_inj (b := 0) (by omega) (by decide) e)), if_neg h0, nI_1]
  have fJ : ∀ c v w, fk [] p4 m (pj_wr (pj_wr (pj_wr (pj_wr m 72 10 (nI p)) 72 12 v) 72 11 c) 72 9 w) := fun c v w => ((f1.tr (fk.wp _ (by decide) _)).tr (fk.wp _ (by decide) _)).tr (fk.wp _ (by decide) _)
  have T : ∀ c v w, tkc b p = c → c ≠ 2 → (c = 1 → v = nI (b p)) → (c = 1 ∨ c = 3 ∨ c = 4 → w = nI (p + 1)) → TK (pj_wr (pj_wr (pj_wr (pj_wr m 72 10 (nI p)) 72 12 v) 72 11 (nI c)) 72 9 w) b p := fun c v w hc h2 h3 h4 => by
    unfold TK
    rw [hc]
    refine ⟨by rw [hr_wrk (by decide), hr_wrk (by decide), hr_wrk (by decide), hr_wrs], by rw [hr_wrk (by decide), hr_wrs], fun h => ⟨?_, ?_⟩, fun h => (h2 h).elim, fun h => ?_⟩
    · rw [hr_wrk (by decide), hr_wrk (by decide), hr_wrs]
      exact h3 h
    · rw [hr_wrs]
      exact h4 (Or.inl h)
    · rw [hr_wrs]
      exact h4 (Or.inr h)
  unfold F_X11_advances
  rw [h9, show (pj_wr m 72 10 (nI p)).1 72 9 = nI p by rw [hr_wrk (by decide)]; exact h9, m_byte hB hM1 hp]
  simp only [Option.bind_some]
  rw [m_isfig hB hp]
  cases e : fig (b p) with
  | true =>
    have hl := fig_lt hB e
    simp only [Option.bind_some, if_true]
    rw [if_neg ne10]
    have f2 : ∀ v, fk [] p4 m (pj_wr (pj_wr (pj_wr m 72 10 (nI p)) 72 12 v) 72 12 0) := fun v => (f1.tr (fk.wp _ (by decide) _)).tr (fk.wp _ (by decide) _)
    obtain ⟨m', i1, i2, i3⟩ := m_num hB e L pj_z p _ (by omega) (by have := pj_z_ge; omega) (Nat.le_refl _) hp (fun i h1 h2 => by omega) (hM.keep (f46 (f2 (if p < L then nI (b p) else -1)))) (by rw [hr_wrk (by decide), hr_wrk (by decide), hr_wrk (by decide)]; exact h9) (by rw [hr_wrk (by decide), hr_wrk (by decide), hr_wrs]) (by rw [hr_wrs, Nat.sub_self]; rfl)
    exact ⟨m', i1, (f2 _).tr i2, i3⟩
  | false =>
    simp only [Option.bind_some, Bool.false_eq_true, if_false, if_true]
    have tk : tkc b p = if b p = 999 then 0 else if 97 ≤ b p ∧ b p ≤ 122 then 1 else if b p = 44 then 3 else if b p = 59 then 4 else 5 := by
      unfold tkc
      rw [e]
      rfl
    by_cases hl : p < L
    · have hb := hB.2.1 p hl
      rw [if_neg (show ¬ b p = 999 by omega)] at tk
      rw [if_pos hl, if_neg (show ¬ nI (b p) < 0 from nI_pos (by omega)), l97, l122, m_in (by decide) (by omega) (by decide)]
      by_cases c1 : 97 ≤ b p ∧ b p ≤ 122
      · rw [if_pos c1] at tk ⊢
        simp only [Option.bind_some]
        rw [if_neg ne10, l1, J 1 _ (by decide)]
        exact ⟨_, rfl, fJ _ _ _, T 1 _ _ tk (by decide) (fun _ => rfl) (fun _ => rfl)⟩
      · rw [if_neg c1] at tk ⊢
        simp only [Option.bind_some]
        rw [if_pos True.intro]
        simp only [l44, l59, nI_iff (show b p < 2 ^ 31 by omega) (show 44 < 2 ^ 31 by decide), nI_iff (show b p < 2 ^ 31 by omega) (show 59 < 2 ^ 31 by decide)]
        by_cases c2 : b p = 44
        · rw [if_pos c2] at tk ⊢
          rw [l3, J 3 _ (by decide)]
          exact ⟨_, rfl, fJ _ _ _, T 3 _ _ tk (by decide) (fun h => by omega) (fun _ => rfl)⟩
        · rw [if_neg c2] at tk ⊢
          by_cases c3 : b p = 59
          · rw [if_pos c3] at tk ⊢
            rw [l4, J 4 _ (by decide)]
            exact ⟨_, rfl, fJ _ _ _, T 4 _ _ tk (by decide) (fun h => by omega) (fun _ => rfl)⟩
          · rw [if_neg c3] at tk ⊢
            rw [l5, J 5 _ (by decide)]
            exact ⟨_, rfl, fJ _ _ _, T 5 _ _ tk (by decide) (fun h => by omega) (fun h => by omega)⟩
    · rw [if_pos (hB.2.2 p (by omega))] at tk
      rw [if_neg hl, if_pos (by decide), l0, J 0 _ (by decide)]
      exact ⟨_, rfl, fJ _ _ _, T 0 _ _ tk (by decide) (fun h => by omega) (fun h => by omega)⟩
