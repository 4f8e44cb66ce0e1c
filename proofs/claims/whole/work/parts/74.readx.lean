/-! PART 74: the tape is read: X's side, to the end -/
theorem ex_nI (x : Int32) : ∃ v, x = nI v := ⟨x.toBitVec.toNat, hn_ext (by
  show x.toBitVec = BitVec.ofNat 32 x.toBitVec.toNat
  exact BitVec.eq_of_toNat_eq (by rw [BitVec.toNat_ofNat]; exact (Nat.mod_eq_of_lt x.toBitVec.isLt).symm))⟩
theorem nI_iff {a b : Nat} (ha : a < 2 ^ 31) (hb : b < 2 ^ 31) : (nI a = nI b) = (a = b) := propext ⟨hn_inj ha hb, fun e => by rw [e]⟩
theorem x_kind {c : Nat} (hc : c < 2 ^ 31) (m : pj_M) : F_X8_kindOfSort (nI c) m = some (nI (kdn c), m) := by
  unfold F_X8_kindOfSort kdn
  simp only [show (100 : Int32) = nI 100 from rfl, show (103 : Int32) = nI 103 from rfl, show (112 : Int32) = nI 112 from rfl, show (119 : Int32) = nI 119 from rfl, show (120 : Int32) = nI 120 from rfl, nI_iff hc (show 100 < 2 ^ 31 by decide), nI_iff hc (show 103 < 2 ^ 31 by decide), nI_iff hc (show 112 < 2 ^ 31 by decide), nI_iff hc (show 119 < 2 ^ 31 by decide), nI_iff hc (show 120 < 2 ^ 31 by decide)]
  by_cases h1 : c = 100
  · subst h1
    rfl
  · by_cases h2 : c = 103
    · subst h2
      rfl
    · by_cases h3 : c = 112
      · subst h3
        rfl
      · by_cases h4 : c = 119
        · subst h4
          rfl
        · by_cases h5 : c = 120
          · subst h5
            rfl
          · simp only [h1, h2, h3, h4, h5, if_false]
            rfl
theorem x_kind_e (m : pj_M) : F_X8_kindOfSort (-1) m = some (0, m) := by
  unfold F_X8_kindOfSort
  rw [if_neg (by decide), if_neg (by decide), if_neg (by decide), if_neg (by decide), if_neg (by decide)]
theorem x_letter {c : Nat} (hc : c < 2 ^ 31) (m : pj_M) : F_X8_letterOf (nI c) m = some (match ltn c with | none => -1 | some l => nI l, m) := by
  unfold F_X8_letterOf
  simp only [show (97 : Int32) = nI 97 from rfl, show (98 : Int32) = nI 98 from rfl, show (99 : Int32) = nI 99 from rfl, show (116 : Int32) = nI 116 from rfl, nI_iff hc (show 97 < 2 ^ 31 by decide), nI_iff hc (show 98 < 2 ^ 31 by decide), nI_iff hc (show 99 < 2 ^ 31 by decide), nI_iff hc (show 116 < 2 ^ 31 by decide)]
  by_cases h1 : c = 97
  · subst h1
    rfl
  · by_cases h2 : c = 98
    · subst h2
      rfl
    · by_cases h3 : c = 99
      · subst h3
        rfl
      · by_cases h4 : c = 116
        · subst h4
          rfl
        · have e : ltn c = none := by
            unfold ltn
            rw [if_neg h4, if_neg (by omega)]
          simp only [h1, h2, h3, h4, if_false, e]
theorem kdn_lt {b : Nat → Nat} {L p : Nat} (hB : BO b L) (h : kdn (b p) ≠ 0) : p < L := by
  rcases Nat.lt_or_ge p L with h1 | h1
  · exact h1
  · rw [hB.2.2 p h1] at h
    exact (h rfl).elim
theorem kdn_le (c : Nat) : kdn c ≤ 5 := by
  unfold kdn
  split
  · decide
  · split
    · decide
    · split
      · decide
      · split
        · decide
        · split <;> decide
theorem x_addState {m : pj_M} {n k : Nat} {kd : Nat → Nat} {ar : Nat → Nat → Nat} (hn : n < 10) (h : XN m 10 (n, kd, 0, ar)) : ∃ m', F_X4_addState 10 (nI k) m = some m' ∧ fr [10, 11] m m' ∧ XN m' 10 (n + 1, fup kd n k, 0, ar) := by
  obtain ⟨h1, h2, h3, h4⟩ := h
  have h1 : m.1 10 2 = nI n := h1
  unfold F_X4_addState
  rw [h1, if_pos (show nI n < 10 from nI_lt (b := 10) hn (by decide)), if_neg (hn_in hn (by decide)), hn_cl (by omega)]
  refine ⟨_, rfl, ((fr.wr _ _ (by decide) _ _).tr (fr.wr _ _ (by decide) _ _)).tr (fr.wr _ _ (by decide) _ _), ?_, ?_, fun s hs => ?_, fun a ha => absurd ha (Nat.not_lt_zero a)⟩
  · rw [hr_wrk (by decide), hr_wrs, hr_wra (by decide), h1, nI_1]
  · rw [hr_wrk (by decide), hr_wrk (by decide), hr_wra (by decide)]
    exact h2
  · have hs : s < n + 1 := hs
    rw [hr_wra (by decide), hr_wra (by decide)]
    show (pj_wr m 11 n (nI k)).1 11 s = nI (if s = n then k else kd s)
    by_cases e : s = n
    · subst e
      rw [hr_wrs, if_pos rfl]
    · rw [hr_wrk e, if_neg e]
      exact h3 s (by show s < n; omega)
theorem XP.of {m m' : pj_M} {b : Nat → Nat} {L p : Nat} {S S' : sy} (h : XP m b L p S) (hf : fr [10, 11, 12] m m') (hn : XN m' 10 S') : XP m' b L p S' := by
  obtain ⟨h1, h2, h3, h4⟩ := h
  refine ⟨by rw [hf.at 5 rfl]; exact h1, by rw [hf.at 5 rfl]; exact h2, fun i hi => by rw [hf.at 6 rfl]; exact h3 i hi, hn⟩
theorem fk_go (m : pj_M) (v : Int32) : fk [10, 11, 12] [(5, 2)] m (pj_wr m 5 2 v) := fk.wp m (by decide) v
theorem x_states {b : Nat → Nat} {L : Nat} (hB : BO b L) (f : Nat) : ∀ z n kd p m, f ≤ z → n ≤ 10 → n + f = 11 → p ≤ L → XP m b L p (n, kd, 0, fun _ _ => 0) → ∃ r m', H_X8_readStates_2 z 10 (nI n) m = some (nI r, m') ∧ fk [10, 11, 12] [(5, 2)] m m' ∧ r < 4 ∧ ((r ≠ 0 ∧ ∃ p', m'.1 5 2 = nI p' ∧ rdS b L f n kd p = .inl (r, p')) ∨ (r = 0 ∧ ∃ n' kd' p', n' ≤ 10 ∧ p' ≤ L ∧ XP m' b L p' (n', kd', 0, fun _ _ => 0) ∧ rdS b L f n kd p = rdE b L n' kd' p')) := by
  have hL := hB.1
  induction f with
  | zero =>
    intro z n kd p m _ hn hnf
    omega
  | succ f ih =>
    intro z n kd p m hz hn hnf hp h
    obtain ⟨z, rfl⟩ : ∃ z', z = z' + 1 := ⟨z - 1, by omega⟩
    have hk : F_X8_kindOfSort (if p < L then nI (b p) else -1) m = some (nI (kdn (b p)), m) := by
      by_cases hl : p < L
      · rw [if_pos hl]
        exact x_kind (by have := hB.2.1 p hl; omega) m
      · rw [if_neg hl, hB.2.2 p (by omega)]
        exact x_kind_e m
    rw [H_X8_readStates_2, if_neg (show ¬ (10 : Int32) < nI n from nI_nlt (a := 10) (by omega) (by decide)), x_next hB h hp]
    simp only [Option.bind_some]
    rw [hk]
    simp only [Option.bind_some]
    by_cases h0 : kdn (b p) = 0
    · rw [h0, if_pos (show nI 0 = 0 from rfl)]
      unfold J_X8_readStates_20
      by_cases hn0 : n = 0
      · subst hn0
        rw [if_pos (show nI 0 = 0 from rfl)]
        refine ⟨1, m, rfl, fk.rf _ _ _, by decide, Or.inl ⟨by decide, p, h.2.1, ?_⟩⟩
        simp only [rdS, h0, if_true]
      · rw [if_neg (show ¬ nI n = 0 from fun e => hn0 (hn_inj (b := 0) (by omega) (by decide) e))]
        refine ⟨0, m, rfl, fk.rf _ _ _, by decide, Or.inr ⟨rfl, n, kd, p, hn, hp, h, ?_⟩⟩
        simp only [rdS, h0, hn0, if_true, if_false]
    · have hl := kdn_lt hB h0
      have hk5 := kdn_le (b p)
      rw [if_neg (show ¬ nI (kdn (b p)) = 0 from fun e => h0 (hn_inj (b := 0) (by omega) (by decide) e))]
      by_cases hn0 : n = 10
      · subst hn0
        rw [if_pos (show nI 10 = 10 from rfl)]
        refine ⟨3, m, rfl, fk.rf _ _ _, by decide, Or.inl ⟨by decide, p, h.2.1, ?_⟩⟩
        simp only [rdS, h0, if_true, if_false]
      · rw [if_neg (show ¬ nI n = 10 from fun e => hn0 (hn_inj (b := 10) (by omega) (by decide) e)), h.2.1, nI_1]
        have g1 := h.go (p + 1)
        rw [show (59 : Int32) = nI 59 from rfl, x_pass hB g1 (by omega) (by decide)]
        by_cases h59 : b (p + 1) = 59
        · rw [if_pos h59]
          simp only [Option.bind_some]
          rw [if_neg ne10]
          have g2 := g1.go (p + 1 + 1)
          obtain ⟨m3, a1, a2, a3⟩ := x_addState (k := kdn (b p)) (by omega) g2.2.2.2
          rw [a1]
          simp only [Option.bind_some]
          rw [nI_1]
          have hl2 : p + 1 < L := by
            rcases Nat.lt_or_ge (p + 1) L with h1 | h1
            · exact h1
            · rw [hB.2.2 _ h1] at h59
              omega
          obtain ⟨r, m', i1, i2, i3, i4⟩ := ih z (n + 1) (fup kd n (kdn (b p))) (p + 2) m3 (by omega) (by omega) (by omega) (by omega) (g2.of (a2.mono (by simp)) a3)
          refine ⟨r, m', i1, (((fk_go _ _).tr (fk_go _ _)).tr ((a2.fk []).mono (by decide) (by decide))).tr i2, i3, ?_⟩
          have e : rdS b L (f + 1) n kd p = rdS b L f (n + 1) (fup kd n (kdn (b p))) (p + 2) := by
            simp only [rdS, h0, hn0, h59, if_false, ne_eq, not_true]
          rw [e]
          exact i4
        · rw [if_neg h59]
          simp only [Option.bind_some]
          rw [if_pos True.intro]
          refine ⟨1, _, rfl, fk_go _ _, by decide, Or.inl ⟨by decide, p + 1, hr_wrs _ _ _ _, ?_⟩⟩
          simp only [rdS, h0, hn0, h59, if_false, ne_eq, not_false_iff, if_true]
theorem x_addArc {m : pj_M} {n k l f t : Nat} {kd : Nat → Nat} {ar : Nat → Nat → Nat} (hk : k < 20) (h : XN m 10 (n, kd, k, ar)) : ∃ m', F_X4_addArc 10 (nI l) (nI f) (nI t) m = some m' ∧ fr [10, 12] m m' ∧ XN m' 10 (n, kd, k + 1, fun a w => if a = k then arcx l f t w else ar a w) := by
  obtain ⟨v, hv⟩ := ex_nI (m.1 10 4)
  obtain ⟨m', g1, g2, g3, g4⟩ := px_insert (b := 10) (j := k) (x := arcx l f t) h hv hk (Nat.le_refl _)
  have e3 : m.1 10 3 = nI k := h.2.1
  refine ⟨m', ?_, g2, g3.eqv rfl rfl (fun s hs => rfl) (fun a ha w hw => ?_)⟩
  · unfold F_X4_addArc
    rw [e3]
    have g1 : F_X4_insertArc 10 (nI k) (nI l) (nI f) (nI t) m = some m' := g1
    rw [g1]
    rfl
  · have ha : a < k + 1 := ha
    show (if a < k then ar a w else if a = k then arcx l f t w else ar (a - 1) w) = if a = k then arcx l f t w else ar a w
    by_cases e : a = k
    · rw [if_neg (by omega), if_pos e, if_pos e]
    · rw [if_pos (by omega), if_neg e]
theorem ng {v : Nat} (h : v = 1 ∨ v = 2) : -nI v < 0 ∧ - -nI v = nI v := by
  rcases h with rfl | rfl <;> decide
theorem x_ends {b : Nat → Nat} {L : Nat} (hB : BO b L) {m : pj_M} {q n k l : Nat} {kd : Nat → Nat} {ar : Nat → Nat → Nat} (f : Nat) (hq : q < L) (hl : ltn (b q) = some l) (hk : k < 20) (hn : n ≤ 10) (h : XP m b L (q + 1) (n, kd, k, ar)) : ∃ r m', F_X8_readEnds 10 (nI l) m = some (nI r, m') ∧ fk [10, 11, 12] [(5, 2)] m m' ∧ r < 4 ∧ ((r ≠ 0 ∧ ∃ p', m'.1 5 2 = nI p' ∧ rdA b L n (f + 1) k ar q = .inl (r, p')) ∨ (r = 0 ∧ ∃ p2 ar', rdA b L n (f + 1) k ar q = rdA b L n f (k + 1) ar' p2 ∧ XP m' b L p2 (n, kd, k + 1, ar') ∧ p2 ≤ L)) := by
  have hL := hB.1
  have key : rdA b L n (f + 1) k ar q = if nk b n (q + 1) ≠ 0 then .inl (nk b n (q + 1), q + 1) else if b (q + 1 + nf b (q + 1)) ≠ 44 then .inl (1, q + 1 + nf b (q + 1)) else if nk b n (q + 1 + nf b (q + 1) + 1) ≠ 0 then .inl (nk b n (q + 1 + nf b (q + 1) + 1), q + 1 + nf b (q + 1) + 1) else if b (q + 1 + nf b (q + 1) + 1 + nf b (q + 1 + nf b (q + 1) + 1)) ≠ 59 then .inl (1, q + 1 + nf b (q + 1) + 1 + nf b (q + 1 + nf b (q + 1) + 1)) else rdA b L n f (k + 1) (fun a w => if a = k then arcx l (nv b (q + 1)) (nv b (q + 1 + nf b (q + 1) + 1)) w else ar a w) (q + 1 + nf b (q + 1) + 1 + nf b (q + 1 + nf b (q + 1) + 1) + 1) := by
    rw [rdA, if_neg (by omega), hl]
    simp only []
    rw [if_neg (by omega)]
  have lt9 : ∀ i c, b i = c → c < 256 → i < L := fun i c e hc => by
    rcases Nat.lt_or_ge i L with h1 | h1
    · exact h1
    · rw [hB.2.2 _ h1] at e
      omega
  have nk3 : ∀ p, nk b n p ≠ 0 → nk b n p = 1 ∨ nk b n p = 2 := fun p hp => by have := nk_le b n p; omega
  rw [key]
  unfold F_X8_readEnds
  have E1 := x_num hB h (by omega) hn
  dsimp only at E1
  rw [E1]
  have u1 := nf_le hB (show q + 1 ≤ L by omega)
  by_cases c1 : nk b n (q + 1) = 0
  · rw [if_pos c1]
    have v1 := (nk_0 c1).2
    simp only [Option.bind_some]
    rw [if_neg (show ¬ nI (nv b (q + 1)) < 0 from nI_pos (by omega))]
    have g1 := h.go (q + 1 + nf b (q + 1))
    rw [show (44 : Int32) = nI 44 from rfl, x_pass hB g1 u1 (by decide)]
    by_cases c2 : b (q + 1 + nf b (q + 1)) = 44
    · rw [if_pos c2]
      have l2 := lt9 _ _ c2 (by decide)
      simp only [Option.bind_some]
      rw [if_neg ne10]
      have g2 := g1.go (q + 1 + nf b (q + 1) + 1)
      have E2 := x_num hB g2 (by omega) hn
      dsimp only at E2
      rw [E2]
      have u2 := nf_le hB (show q + 1 + nf b (q + 1) + 1 ≤ L by omega)
      by_cases c3 : nk b n (q + 1 + nf b (q + 1) + 1) = 0
      · rw [if_pos c3]
        have v2 := (nk_0 c3).2
        simp only [Option.bind_some]
        rw [if_neg (show ¬ nI (nv b (q + 1 + nf b (q + 1) + 1)) < 0 from nI_pos (by omega))]
        have g3 := g2.go (q + 1 + nf b (q + 1) + 1 + nf b (q + 1 + nf b (q + 1) + 1))
        rw [show (59 : Int32) = nI 59 from rfl, x_pass hB g3 u2 (by decide)]
        by_cases c4 : b (q + 1 + nf b (q + 1) + 1 + nf b (q + 1 + nf b (q + 1) + 1)) = 59
        · rw [if_pos c4]
          have l4 := lt9 _ _ c4 (by decide)
          simp only [Option.bind_some]
          rw [if_neg ne10]
          have g4 := g3.go (q + 1 + nf b (q + 1) + 1 + nf b (q + 1 + nf b (q + 1) + 1) + 1)
          obtain ⟨m', a1, a2, a3⟩ := x_addArc (l := l) (f := nv b (q + 1)) (t := nv b (q + 1 + nf b (q + 1) + 1)) hk g4.2.2.2
          rw [a1]
          refine ⟨0, m', rfl, ((((fk_go _ _).tr (fk_go _ _)).tr (fk_go _ _)).tr (fk_go _ _)).tr ((a2.fk []).mono (by decide) (by decide)), by decide, Or.inr ⟨rfl, _, _, ?_, g4.of (a2.mono (by simp)) a3, by omega⟩⟩
          simp only [c1, c2, c3, c4, ne_eq, not_true, if_false]
        · rw [if_neg c4]
          simp only [Option.bind_some]
          rw [if_pos True.intro]
          refine ⟨1, _, rfl, (((fk_go _ _).tr (fk_go _ _)).tr (fk_go _ _)), by decide, Or.inl ⟨by decide, _, g3.2.1, ?_⟩⟩
          simp only [c1, c2, c3, c4, ne_eq, not_true, not_false_iff, if_false, if_true]
      · rw [if_neg c3]
        simp only [Option.bind_some]
        obtain ⟨n1, n2⟩ := ng (nk3 _ c3)
        rw [if_pos n1, n2]
        refine ⟨_, _, rfl, ((fk_go _ _).tr (fk_go _ _)), by have := nk_le b n (q + 1 + nf b (q + 1) + 1); omega, Or.inl ⟨c3, _, g2.2.1, ?_⟩⟩
        simp only [c1, c2, c3, ne_eq, not_true, not_false_iff, if_false, if_true]
    · rw [if_neg c2]
      simp only [Option.bind_some]
      rw [if_pos True.intro]
      refine ⟨1, _, rfl, fk_go _ _, by decide, Or.inl ⟨by decide, _, g1.2.1, ?_⟩⟩
      simp only [c1, c2, ne_eq, not_true, not_false_iff, if_false, if_true]
  · rw [if_neg c1]
    simp only [Option.bind_some]
    obtain ⟨n1, n2⟩ := ng (nk3 _ c1)
    rw [if_pos n1, n2]
    refine ⟨_, _, rfl, fk.rf _ _ _, by have := nk_le b n (q + 1); omega, Or.inl ⟨c1, _, h.2.1, ?_⟩⟩
    simp only [c1, ne_eq, not_false_iff, if_true]
theorem x_arcs {b : Nat → Nat} {L n : Nat} {kd : Nat → Nat} (hB : BO b L) (hn : n ≤ 10) (f : Nat) : ∀ z k ar p m, f ≤ z → k ≤ 20 → k + f = 21 → p ≤ L → XP m b L p (n, kd, k, ar) → ∃ r m', H_X8_readArcs_2 z 10 (nI k) m = some (nI r, m') ∧ fk [10, 11, 12] [(5, 2)] m m' ∧ r < 4 ∧ ((r ≠ 0 ∧ ∃ p', m'.1 5 2 = nI p' ∧ rdA b L n f k ar p = .inl (r, p')) ∨ (r = 0 ∧ ∃ k' ar', XN m' 10 (n, kd, k', ar') ∧ rdA b L n f k ar p = .inr (k', ar'))) := by
  have hL := hB.1
  induction f with
  | zero =>
    intro z k ar p m _ hk hkf
    omega
  | succ f ih =>
    intro z k ar p m hz hk hkf hp h
    obtain ⟨z, rfl⟩ : ∃ z', z = z' + 1 := ⟨z - 1, by omega⟩
    rw [H_X8_readArcs_2, if_neg (show ¬ (20 : Int32) < nI k from nI_nlt (a := 20) (by omega) (by decide)), h.1, h.2.1]
    by_cases hl : p < L
    · have hb := hB.2.1 p hl
      rw [if_pos (nI_lt hl (by omega)), x_next hB h hp, if_pos hl]
      simp only [Option.bind_some]
      rw [x_letter (by omega)]
      simp only [Option.bind_some]
      cases el : ltn (b p) with
      | none =>
        simp only []
        rw [if_pos (by decide)]
        refine ⟨1, m, rfl, fk.rf _ _ _, by decide, Or.inl ⟨by decide, p, h.2.1, ?_⟩⟩
        rw [rdA, if_neg (by omega), el]
      | some l =>
        simp only []
        have hl4 := ltn_lt el
        rw [if_neg (show ¬ nI l < 0 from nI_pos (by omega))]
        by_cases hk0 : k = 20
        · subst hk0
          rw [if_pos (show nI 20 = 20 from rfl)]
          refine ⟨3, m, rfl, fk.rf _ _ _, by decide, Or.inl ⟨by decide, p, h.2.1, ?_⟩⟩
          rw [rdA, if_neg (by omega), el]
          simp only [if_true]
        · rw [if_neg (show ¬ nI k = 20 from fun e => hk0 (hn_inj (b := 20) (by omega) (by decide) e)), h.2.1, nI_1]
          obtain ⟨r, m1, a1, a2, a3, a4⟩ := x_ends hB f hl el (by omega) hn (h.go (p + 1))
          rw [a1]
          simp only [Option.bind_some]
          rcases a4 with ⟨b1, p', b2, b3⟩ | ⟨b1, p2, ar', b2, b3, b4⟩
          · rw [if_neg (show ¬ nI r = 0 from fun e => b1 (hn_inj (b := 0) (by omega) (by decide) e))]
            exact ⟨r, m1, rfl, (fk_go _ _).tr a2, a3, Or.inl ⟨b1, p', b2, b3⟩⟩
          · subst b1
            rw [if_pos (show nI 0 = 0 from rfl), nI_1]
            obtain ⟨r, m', i1, i2, i3, i4⟩ := ih z (k + 1) ar' p2 m1 (by omega) (by omega) (by omega) b4 b3
            rw [b2]
            exact ⟨r, m', i1, ((fk_go _ _).tr a2).tr i2, i3, i4⟩
    · rw [if_neg (nI_nlt (by omega) (by omega))]
      refine ⟨0, m, rfl, fk.rf _ _ _, by decide, Or.inr ⟨rfl, k, ar, h.2.2.2, ?_⟩⟩
      rw [rdA, if_pos (by omega)]
theorem x_read {b : Nat → Nat} {L : Nat} (hB : BO b L) {m : pj_M} (h1 : m.1 5 1 = nI L) (h2 : ∀ i, i < L → m.1 6 i = nI (b i)) : ∃ r m', F_X8_read 10 m = some (nI r, m') ∧ fk [10, 11, 12] [(5, 2)] m m' ∧ r < 4 ∧ ((r ≠ 0 ∧ ∃ p', m'.1 5 2 = nI p' ∧ rdS b L 11 0 (fun _ => 0) 0 = .inl (r, p')) ∨ (r = 0 ∧ ∃ S', XN m' 10 S' ∧ rdS b L 11 0 (fun _ => 0) 0 = .inr S')) := by
  unfold F_X8_read F_X4_clear F_X8_readStates F_X8_readArcs
  simp only [Option.bind_some]
  have hx : ∀ v, XP (pj_wr (pj_wr (pj_wr (pj_wr m 5 2 0) 10 2 0) 10 3 0) 10 4 v) b L 0 (0, fun _ => 0, 0, fun _ _ => 0) := fun v => by
    refine ⟨?_, ?_, fun i hi => ?_, ?_, ?_, fun s hs => absurd hs (Nat.not_lt_zero s), fun a ha => absurd ha (Nat.not_lt_zero a)⟩
    · rw [hr_wra (by decide), hr_wra (by decide), hr_wra (by decide), hr_wrk (by decide)]
      exact h1
    · rw [hr_wra (by decide), hr_wra (by decide), hr_wra (by decide), hr_wrs]
      rfl
    · rw [hr_wra (by decide), hr_wra (by decide), hr_wra (by decide), hr_wra (by decide)]
      exact h2 i hi
    · rw [hr_wrk (by decide), hr_wrk (by decide), hr_wrs]
      rfl
    · rw [hr_wrk (by decide), hr_wrs]
      rfl
  have f0 : ∀ v, fk [10, 11, 12] [(5, 2)] m (pj_wr (pj_wr (pj_wr (pj_wr m 5 2 0) 10 2 0) 10 3 0) 10 4 v) := fun v => (((fk_go _ _).tr (fk.wr _ (by decide) _ _)).tr (fk.wr _ (by decide) _ _)).tr (fk.wr _ (by decide) _ _)
  obtain ⟨r, m1, a1, a2, a3, a4⟩ := x_states hB 11 pj_z 0 (fun _ => 0) 0 _ (by have := pj_z_ge; omega) (by decide) (by decide) (Nat.zero_le _) (hx _)
  have a1 := a1
  rw [show nI 0 = 0 from rfl] at a1
  rw [a1]
  simp only [Option.bind_some]
  rcases a4 with ⟨b1, p', b2, b3⟩ | ⟨b1, n', kd', p', b2, b3, b4, b5⟩
  · rw [if_neg (show ¬ nI r = 0 from fun e => b1 (hn_inj (b := 0) (by omega) (by decide) e))]
    exact ⟨r, m1, rfl, (f0 _).tr a2, a3, Or.inl ⟨b1, p', b2, b3⟩⟩
  · subst b1
    rw [if_pos (show nI 0 = 0 from rfl)]
    obtain ⟨r, m', i1, i2, i3, i4⟩ := x_arcs hB b2 21 pj_z 0 _ p' m1 (by have := pj_z_ge; omega) (by decide) (by decide) b3 b4
    rw [show nI 0 = 0 from rfl] at i1
    rw [i1]
    refine ⟨r, m', rfl, ((f0 _).tr a2).tr i2, i3, ?_⟩
    rw [b5]
    unfold rdE
    rcases i4 with ⟨c1, p2, c2, c3⟩ | ⟨c1, k', ar', c2, c3⟩
    · refine Or.inl ⟨c1, p2, c2, ?_⟩
      rw [c3]
    · refine Or.inr ⟨c1, _, c2, ?_⟩
      rw [c3]
theorem rdS_wf {b : Nat → Nat} {L : Nat} (f : Nat) : ∀ n kd p S, n ≤ 10 → (∀ s, s < n → 1 ≤ kd s ∧ kd s ≤ 5) → rdS b L f n kd p = .inr S → wfS S ∧ 0 < S.1 := by
  induction f with
  | zero =>
    intro n kd p S _ _ h
    simp only [rdS] at h
    cases h
  | succ f ih =>
    intro n kd p S hn hk h
    simp only [rdS] at h
    split at h
    · split at h
      · cases h
      · rename_i hn0
        unfold rdE at h
        split at h
        · cases h
        · rename_i k ar e
          have w := rdA_wf 21 0 _ p k ar (by decide) (fun a ha => absurd ha (Nat.not_lt_zero a)) e
          have e := Sum.inr.inj h
          subst e
          exact ⟨⟨hn, w.1, hk, w.2⟩, by show 0 < n; omega⟩
    · rename_i hk0
      split at h
      · cases h
      · rename_i hn0
        split at h
        · cases h
        · refine ih (n + 1) _ _ S (by omega) (fun s hs => ?_) h
          have := kdn_le (b p)
          show 1 ≤ (if s = n then kdn (b p) else kd s) ∧ (if s = n then kdn (b p) else kd s) ≤ 5
          by_cases e : s = n
          · rw [if_pos e]
            omega
          · rw [if_neg e]
            exact hk s (by omega)
