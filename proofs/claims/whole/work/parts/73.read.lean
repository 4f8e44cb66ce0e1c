/-! PART 73: the tape is read: what both sides do; X's side -/
def byt (t : Nat × (Nat → Int32)) (i : Nat) : Nat := if i < t.1 then (t.2 i).toNatClampNeg else 999
def fig (b : Nat) : Bool := decide (48 ≤ b) && decide (b ≤ 57)
def nf (b : Nat → Nat) (p : Nat) : Nat := if fig (b p) then (if fig (b (p + 1)) then (if fig (b (p + 2)) then 3 else 2) else 1) else 0
def nv (b : Nat → Nat) (p : Nat) : Nat := if nf b p = 1 then b p - 48 else 10 * (b p - 48) + (b (p + 1) - 48)
def nk (b : Nat → Nat) (n p : Nat) : Nat := if nf b p = 0 ∨ nf b p = 3 then 1 else if nv b p < n then 0 else 2
def kdn (b : Nat) : Nat := if b = 112 then 1 else if b = 103 then 2 else if b = 120 then 3 else if b = 100 then 4 else if b = 119 then 5 else 0
def ltn (b : Nat) : Option Nat := if b = 116 then some 0 else if 97 ≤ b ∧ b ≤ 99 then some (b - 96) else none
def rdA (b : Nat → Nat) (L n : Nat) : Nat → Nat → (Nat → Nat → Nat) → Nat → (Nat × Nat) ⊕ (Nat × (Nat → Nat → Nat))
  | 0, k, ar, _ => .inr (k, ar)
  | f + 1, k, ar, p => if L ≤ p then .inr (k, ar) else match ltn (b p) with
    | none => .inl (1, p)
    | some l => if k = 20 then .inl (3, p) else if nk b n (p + 1) ≠ 0 then .inl (nk b n (p + 1), p + 1) else if b (p + 1 + nf b (p + 1)) ≠ 44 then .inl (1, p + 1 + nf b (p + 1)) else if nk b n (p + 1 + nf b (p + 1) + 1) ≠ 0 then .inl (nk b n (p + 1 + nf b (p + 1) + 1), p + 1 + nf b (p + 1) + 1) else if b (p + 1 + nf b (p + 1) + 1 + nf b (p + 1 + nf b (p + 1) + 1)) ≠ 59 then .inl (1, p + 1 + nf b (p + 1) + 1 + nf b (p + 1 + nf b (p + 1) + 1)) else rdA b L n f (k + 1) (fun a w => if a = k then arcx l (nv b (p + 1)) (nv b (p + 1 + nf b (p + 1) + 1)) w else ar a w) (p + 1 + nf b (p + 1) + 1 + nf b (p + 1 + nf b (p + 1) + 1) + 1)
def rdE (b : Nat → Nat) (L n : Nat) (kd : Nat → Nat) (p : Nat) : (Nat × Nat) ⊕ sy := match rdA b L n 21 0 (fun _ _ => 0) p with
  | .inl x => .inl x
  | .inr (k, ar) => .inr (n, kd, k, ar)
def rdS (b : Nat → Nat) (L : Nat) : Nat → Nat → (Nat → Nat) → Nat → (Nat × Nat) ⊕ sy
  | 0, _, _, _ => .inl (0, 0)
  | f + 1, n, kd, p => if kdn (b p) = 0 then (if n = 0 then .inl (1, p) else rdE b L n kd p) else if n = 10 then .inl (3, p) else if b (p + 1) ≠ 59 then .inl (1, p + 1) else rdS b L f (n + 1) (fup kd n (kdn (b p))) (p + 2)
/-- bytes: beyond the end 999 -/
def BO (b : Nat → Nat) (L : Nat) : Prop := L ≤ 140 ∧ (∀ i, i < L → b i < 256) ∧ ∀ i, L ≤ i → b i = 999
theorem fig_lt {b : Nat → Nat} {L i : Nat} (hB : BO b L) (h : fig (b i) = true) : i < L := by
  rcases Nat.lt_or_ge i L with h1 | h1
  · exact h1
  · rw [hB.2.2 i h1] at h
    cases h
theorem fig_iff (b : Nat) : fig b = true ↔ 48 ≤ b ∧ b ≤ 57 := by
  unfold fig
  simp
theorem nf_le {b : Nat → Nat} {L p : Nat} (hB : BO b L) (hp : p ≤ L) : p + nf b p ≤ L := by
  unfold nf
  by_cases h0 : fig (b p) = true
  · have := fig_lt hB h0
    rw [if_pos h0]
    by_cases h1 : fig (b (p + 1)) = true
    · have := fig_lt hB h1
      rw [if_pos h1]
      by_cases h2 : fig (b (p + 2)) = true
      · have := fig_lt hB h2
        rw [if_pos h2]
        omega
      · rw [if_neg h2]
        omega
    · rw [if_neg h1]
      omega
  · rw [if_neg h0]
    omega
theorem nk_le (b : Nat → Nat) (n p : Nat) : nk b n p ≤ 2 := by
  unfold nk
  split
  · decide
  · split <;> decide
theorem nk_0 {b : Nat → Nat} {n p : Nat} (h : nk b n p = 0) : (nf b p = 1 ∨ nf b p = 2) ∧ nv b p < n := by
  unfold nk at h
  have h3 : nf b p ≤ 3 := by
    unfold nf
    split
    · split
      · split <;> decide
      · decide
    · decide
  split at h
  · cases h
  · split at h
    · refine ⟨by omega, by assumption⟩
    · cases h
theorem ltn_lt {b l : Nat} (h : ltn b = some l) : l < 4 := by
  unfold ltn at h
  split at h
  · have := Option.some.inj h
    omega
  · split at h
    · have := Option.some.inj h
      omega
    · cases h
theorem rdA_wf {b : Nat → Nat} {L n : Nat} (f : Nat) : ∀ k ar p k' ar', k ≤ 20 → (∀ a, a < k → ar a 0 < 4 ∧ ar a 1 < n ∧ ar a 2 < n) → rdA b L n f k ar p = .inr (k', ar') → k' ≤ 20 ∧ ∀ a, a < k' → ar' a 0 < 4 ∧ ar' a 1 < n ∧ ar' a 2 < n := by
  induction f with
  | zero =>
    intro k ar p k' ar' hk har h
    simp only [rdA, Sum.inr.injEq, Prod.mk.injEq] at h
    obtain ⟨rfl, rfl⟩ := h
    exact ⟨hk, har⟩
  | succ f ih =>
    intro k ar p k' ar' hk har h
    simp only [rdA] at h
    split at h
    · simp only [Sum.inr.injEq, Prod.mk.injEq] at h
      obtain ⟨rfl, rfl⟩ := h
      exact ⟨hk, har⟩
    · split at h
      · cases h
      · rename_i l hl
        split at h
        · cases h
        · split at h
          · cases h
          · rename_i hk1
            split at h
            · cases h
            · split at h
              · cases h
              · rename_i hk2
                split at h
                · cases h
                · refine ih (k + 1) _ _ k' ar' (by omega) (fun a ha => ?_) h
                  by_cases hak : a = k
                  · have e1 := (nk_0 (b := b) (n := n) (p := p + 1) (by omega)).2
                    have e2 := (nk_0 (b := b) (n := n) (p := p + 1 + nf b (p + 1) + 1) (by omega)).2
                    simp only [hak, if_true]
                    exact ⟨ltn_lt hl, e1, e2⟩
                  · simp only [hak, if_false]
                    exact har a (by omega)
/-- X while it reads -/
def XP (m : pj_M) (b : Nat → Nat) (L p : Nat) (S : sy) : Prop := m.1 5 1 = nI L ∧ m.1 5 2 = nI p ∧ (∀ i, i < L → m.1 6 i = nI (b i)) ∧ XN m 10 S
theorem XP.go {m : pj_M} {b : Nat → Nat} {L p : Nat} {S : sy} (h : XP m b L p S) (p' : Nat) : XP (pj_wr m 5 2 (nI p')) b L p' S := by
  obtain ⟨h1, h2, h3, h4⟩ := h
  refine ⟨by rw [hr_wrk (by decide)]; exact h1, hr_wrs _ _ _ _, fun i hi => by rw [hr_wra (by decide)]; exact h3 i hi, h4.keep (hr_wra (by decide)) (hr_wra (by decide)) (hr_wra (by decide))⟩
theorem x_next {m : pj_M} {b : Nat → Nat} {L p : Nat} {S : sy} (hB : BO b L) (h : XP m b L p S) (hp : p ≤ L) : F_X8_next m = some (if p < L then nI (b p) else -1, m) := by
  obtain ⟨h1, h2, h3, h4⟩ := h
  have := hB.1
  unfold F_X8_next
  rw [h1, h2]
  by_cases hl : p < L
  · rw [if_pos (nI_lt hl (by omega)), if_neg (hn_in (show p < 140 by omega) (by decide)), hn_cl (by omega), h3 p hl, if_pos hl]
  · rw [if_neg (nI_nlt (by omega) (by omega)), if_neg hl]
theorem x_pass {m : pj_M} {b : Nat → Nat} {L p c : Nat} {S : sy} (hB : BO b L) (h : XP m b L p S) (hp : p ≤ L) (hc : c < 256) : F_X8_passes (nI c) m = if b p = c then some (1, pj_wr m 5 2 (nI (p + 1))) else some (0, m) := by
  unfold F_X8_passes
  rw [x_next hB h hp]
  simp only [Option.bind_some]
  by_cases hl : p < L
  · have hb := hB.2.1 p hl
    rw [if_pos hl]
    by_cases he : b p = c
    · rw [if_pos (by rw [he]), if_pos he, h.2.1, nI_1]
    · rw [if_neg (fun e => he (hn_inj (by omega) (by omega) e)), if_neg he]
  · rw [if_neg hl, if_neg (fun e => nn1 (by omega) e.symm), if_neg (by rw [hB.2.2 p (by omega)]; omega)]
theorem x_fig {m : pj_M} {b : Nat → Nat} {L p i : Nat} {S : sy} (hB : BO b L) (h : XP m b L p S) (hi : i < 2 ^ 20) : F_X8_isFigure (nI i) m = some (if fig (b i) then 1 else 0, m) := by
  obtain ⟨h1, h2, h3, h4⟩ := h
  have := hB.1
  unfold F_X8_isFigure
  rw [h1]
  by_cases hl : i < L
  · have hb := hB.2.1 i hl
    rw [if_pos (nI_lt hl (by omega)), if_neg (hn_in (show i < 140 by omega) (by decide)), hn_cl (by omega), if_neg (hn_in' (show i < 140 by omega) (by omega)), h3 i hl, show (48 : Int32) = nI 48 from rfl, show (57 : Int32) = nI 57 from rfl]
    by_cases c1 : b i < 48
    · rw [if_pos (nI_lt c1 (by decide)), if_neg (fun e => by have := (fig_iff _).mp e; omega)]
    · rw [if_neg (nI_nlt (by omega) (by omega))]
      by_cases c2 : 57 < b i
      · rw [if_pos (nI_lt c2 (by omega)), if_neg (fun e => by have := (fig_iff _).mp e; omega)]
      · rw [if_neg (nI_nlt (by omega) (by decide)), if_pos ((fig_iff _).mpr ⟨by omega, by omega⟩)]
  · rw [if_neg (nI_nlt (by omega) (by omega)), if_neg (fun e => hl (fig_lt hB e))]
theorem x_num {m : pj_M} {b : Nat → Nat} {L p : Nat} {S : sy} (hB : BO b L) (h : XP m b L p S) (hp : p ≤ L) (hn : S.1 ≤ 10) : F_X8_readNumber 10 m = if nk b S.1 p = 0 then some (nI (nv b p), pj_wr m 5 2 (nI (p + nf b p))) else some (-nI (nk b S.1 p), m) := by
  obtain ⟨h1, h2, h3, h4⟩ := id h
  have hL := hB.1
  have l48 : (48 : Int32) = nI 48 := rfl
  obtain ⟨z, hz⟩ : ∃ z, pj_z = z + 4 := ⟨pj_z - 4, by have := pj_z_ge; omega⟩
  have f0 := x_fig (i := p) hB h (by omega)
  have f1 := x_fig (i := p + 1) hB h (by omega)
  have f2 := x_fig (i := p + 2) hB h (by omega)
  have hst : ∀ v, v < 2 ^ 31 → F_X4_hasState 10 (nI v) m = some (if v < S.1 then 1 else 0, m) := fun v hv => by
    by_cases hlt : v < S.1
    · rw [if_pos hlt]
      exact nx_has_y (by omega) h4.1 ⟨v, hlt, rfl⟩
    · rw [if_neg hlt]
      exact nx_has_n (by omega) h4.1 (fun ⟨j, hj, e⟩ => hlt (by rw [hn_inj hv (by omega) e]; exact hj))
  -- the end, with k figures and a value
  have fin : ∀ k v, k ≤ 3 → v < 2 ^ 31 → J_X8_readNumber_48 10 (nI k) (nI v) m = if k = 0 ∨ k = 3 then some (-1, m) else if v < S.1 then some (nI v, pj_wr m 5 2 (nI (p + k))) else some (-2, m) := by
    intro k v hk hv
    unfold J_X8_readNumber_48
    have hk' : k = 0 ∨ k = 1 ∨ k = 2 ∨ k = 3 := by omega
    rcases hk' with rfl | rfl | rfl | rfl
    · rw [if_pos (show nI 0 = 0 from rfl), if_pos (Or.inl rfl)]
    · rw [if_neg (show ¬ nI 1 = 0 by decide), if_neg (show ¬ (2 : Int32) < nI 1 by decide), if_neg (show ¬ (1 = 0 ∨ 1 = 3) by omega), hst v hv]
      simp only [Option.bind_some]
      by_cases hlt : v < S.1
      · rw [if_pos hlt, if_neg ne10, if_pos hlt, h2, hn_add]
      · rw [if_neg hlt, if_pos rfl, if_neg hlt]
    · rw [if_neg (show ¬ nI 2 = 0 by decide), if_neg (show ¬ (2 : Int32) < nI 2 by decide), if_neg (show ¬ (2 = 0 ∨ 2 = 3) by omega), hst v hv]
      simp only [Option.bind_some]
      by_cases hlt : v < S.1
      · rw [if_pos hlt, if_neg ne10, if_pos hlt, h2, hn_add]
      · rw [if_neg hlt, if_pos rfl, if_neg hlt]
    · rw [if_neg (show ¬ nI 3 = 0 by decide), if_pos (show (2 : Int32) < nI 3 by decide), if_pos (Or.inr rfl)]
  have step : ∀ z k v, k < 3 → v < 1000 → fig (b (p + k)) = true → F_X8_isFigure (nI (p + k)) m = some (if fig (b (p + k)) then 1 else 0, m) → H_X8_readNumber_4 (z + 1) 10 (nI k) (nI v) m = H_X8_readNumber_4 z 10 (nI (k + 1)) (nI (v * 10 + b (p + k) - 48)) m := by
    intro z k v hk hv hf e
    have hlt := fig_lt hB hf
    have hfv := (fig_iff _).mp hf
    rw [H_X8_readNumber_4, if_pos (show nI k < 3 from nI_lt (b := 3) hk (by decide)), h2, hn_add, e, if_pos hf]
    simp only [Option.bind_some]
    rw [if_neg ne10, h2, hn_add, if_neg (hn_in (show p + k < 140 by omega) (by decide)), hn_cl (by omega), h3 _ hlt, nI_1, l10, hn_mul, hn_add, l48, hn_sub (by omega)]
  have stop : ∀ z k v, k < 3 → fig (b (p + k)) = false → F_X8_isFigure (nI (p + k)) m = some (if fig (b (p + k)) then 1 else 0, m) → H_X8_readNumber_4 (z + 1) 10 (nI k) (nI v) m = J_X8_readNumber_48 10 (nI k) (nI v) m := by
    intro z k v hk hf e
    rw [H_X8_readNumber_4, if_pos (show nI k < 3 from nI_lt (b := 3) hk (by decide)), h2, hn_add, e, hf]
    simp only [Option.bind_some, Bool.false_eq_true, if_false, if_true]
  unfold F_X8_readNumber
  rw [hz]
  show H_X8_readNumber_4 (z + 3 + 1) 10 (nI 0) (nI 0) m = _
  unfold nk
  cases c0 : fig (b p) with
  | false =>
    have e : nf b p = 0 := by unfold nf; rw [c0]; rfl
    rw [stop _ 0 0 (by decide) c0 f0, fin 0 0 (by decide) (by decide), e]
    rfl
  | true =>
    have v0 := (fig_iff _).mp c0
    rw [step _ 0 0 (by decide) (by decide) c0 f0]
    rw [show 0 * 10 + b (p + 0) - 48 = b p - 48 from by rw [Nat.add_zero, Nat.zero_mul, Nat.zero_add]]
    cases c1 : fig (b (p + 1)) with
    | false =>
      have e : nf b p = 1 := by unfold nf; rw [c0, c1]; rfl
      have ev : nv b p = b p - 48 := by unfold nv; rw [if_pos e]
      rw [stop _ 1 _ (by decide) c1 f1, fin 1 _ (by decide) (by omega), e, ev]
      rw [if_neg (show ¬ (1 = 0 ∨ 1 = 3) by omega), if_neg (show ¬ (1 = 0 ∨ 1 = 3) by omega)]
      by_cases hlt : b p - 48 < S.1
      · simp only [hlt, if_true]
      · simp only [hlt, if_false]
        rfl
    | true =>
      have v1 := (fig_iff _).mp c1
      rw [step _ 1 _ (by decide) (by omega) c1 f1]
      cases c2 : fig (b (p + 2)) with
      | false =>
        have e : nf b p = 2 := by unfold nf; rw [c0, c1, c2]; rfl
        have ev : nv b p = 10 * (b p - 48) + (b (p + 1) - 48) := by unfold nv; rw [e]; rfl
        rw [stop _ 2 _ (by decide) c2 f2, fin 2 _ (by decide) (by omega), e, ev]
        rw [if_neg (show ¬ (2 = 0 ∨ 2 = 3) by omega), if_neg (show ¬ (2 = 0 ∨ 2 = 3) by omega), show (b p - 48) * 10 + b (p + 1) - 48 = 10 * (b p - 48) + (b (p + 1) - 48) by omega]
        by_cases hlt : 10 * (b p - 48) + (b (p + 1) - 48) < S.1
        · simp only [hlt, if_true]
        · simp only [hlt, if_false]
          rfl
      | true =>
        have v2 := (fig_iff _).mp c2
        have e : nf b p = 3 := by unfold nf; rw [c0, c1, c2]; rfl
        rw [step _ 2 _ (by decide) (by omega) c2 f2, H_X8_readNumber_4, if_neg (show ¬ nI (2 + 1) < 3 by decide), fin 3 _ (by decide) (by omega), e]
        rfl
