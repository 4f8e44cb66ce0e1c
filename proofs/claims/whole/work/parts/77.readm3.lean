/-! PART 77: the tape is read: M's states and arcs, the loops -/
theorem i0 : ((0 : Int32) < 0 ∨ 72 ≤ (0 : Int32).toNatClampNeg) = False := eq_false (by decide)
theorem i1 : ((1 : Int32) < 0 ∨ 72 ≤ (1 : Int32).toNatClampNeg) = False := eq_false (by decide)
theorem j0 : ((0 : Int32) < 0 ∨ 72 ≤ 0) = False := eq_false (by decide)
theorem j1 : ((1 : Int32) < 0 ∨ 72 ≤ 1) = False := eq_false (by decide)
theorem tc1 : (1 : Int32).toNatClampNeg = 1 := rfl
theorem Well.f6 {y : Int32} {m : pj_M} {k : Nat} {x : Int32} (h : Well y m) : Well y (pj_wr m 79 k x) := by
  unfold Well
  rw [hr_wra (by decide)]
  exact h
theorem TK.k79 {m : pj_M} {b : Nat → Nat} {p k : Nat} {x : Int32} (h : TK m b p) : TK (pj_wr m 79 k x) b p := by
  unfold TK
  rw [hr_wra (by decide)]
  exact h
theorem MN.f4 {m m' : pj_M} {S : sy} (h : MN m 79 0 S) (hf : fk [] p4 m m') : MN m' 79 0 S := h.keep (hf.cell 79 (by decide) (by decide))
theorem m_state {y : Int32} {b : Nat → Nat} {L p n : Nat} {kd : Nat → Nat} {m : pj_M} (hB : BO b L) (hM : MD m b L) (hp : p < L) (hw : Well y m) (ht : TK m b p) (hk : kdn (b p) ≠ 0) (hn : n ≤ 10) (hN : MN m 79 0 (n, kd, 0, fun _ _ => 0)) (f : Nat) : ∃ m', F_X11_readsState m = some m' ∧ fk [79] p6 m m' ∧ ((∃ r p', Flt m' r p' ∧ rdS b L (f + 1) n kd p = .inl (r, p')) ∨ (n < 10 ∧ p + 2 ≤ L ∧ Well y m' ∧ TK m' b (p + 2) ∧ MN m' 79 0 (n + 1, fup kd n (kdn (b p)), 0, fun _ _ => 0) ∧ rdS b L (f + 1) n kd p = rdS b L f (n + 1) (fup kd n (kdn (b p))) (p + 2))) := by
  have hL := hB.1
  have hb := hB.2.1 p hp
  have k1 := kdn_tk hk
  obtain ⟨t1, t2, t3, t4, t5⟩ := id ht
  obtain ⟨s1, s2⟩ := t3 k1
  have n0 : m.1 79 0 = nI n := hN.1
  unfold F_X11_readsState
  rw [s1, m_kind (by omega)]
  simp only [Option.bind_some, i0, j0, if_false, c0]
  rw [n0]
  by_cases hn0 : n = 10
  · subst hn0
    rw [if_neg (show ¬ nI 10 < 10 by decide)]
    unfold J_X11_readsState_25
    rw [l3, m_take_n t1 hw 3]
    simp only [Option.bind_some]
    have F := Flt.mk m (p := p) 3 (by omega)
    refine ⟨_, ?_, f_flt m (nI p) (nI 3), Or.inl ⟨3, p, F, ?_⟩⟩
    · unfold J_X11_readsState_44
      simp only [m_take_f F, m_flt F, Option.bind_some, if_true, ite_self]
    · simp only [rdS, hk, if_false, if_true]
  · rw [if_pos (show nI n < 10 from nI_lt (b := 10) (by omega) (by decide))]
    unfold J_X11_readsState_25
    obtain ⟨m1, a1, a2, a3⟩ := m_take_y hB hM (show p + 1 ≤ L by omega) s2 hw 3
    rw [a1]
    simp only [Option.bind_some]
    rw [l4]
    simp only [tke a3 (show 4 < 2 ^ 31 by decide), tk4]
    have hM1 := hM.keep (f46 a2)
    have hw1 := hw.f4 a2
    by_cases h59 : b (p + 1) = 59
    · rw [if_pos h59]
      have hl2 : p + 1 < L := by
        rcases Nat.lt_or_ge (p + 1) L with h1 | h1
        · exact h1
        · rw [hB.2.2 _ h1] at h59
          omega
      unfold J_X11_readsState_44
      obtain ⟨m2, b1, b2, b3⟩ := m_take_y hB hM1 (show p + 1 + 1 ≤ L by omega) (a3.2.2.2.2 (Or.inr (tk4.mpr h59))) hw1 1
      have hw2 := hw1.f4 b2
      have hN2 := (hN.f4 a2).f4 b2
      have e0 : m2.1 79 0 = nI n := hN2.1
      have e1 : m2.1 79 1 = nI 0 := hN2.2.1
      rw [b1]
      simp only [Option.bind_some]
      rw [m_well hw2]
      simp only [Option.bind_some, i0, j0, if_false, c0, ne10]
      rw [e0, l2, hn_add, if_neg (hn_in (show 2 + n < 72 by omega) (by decide)), hn_cl (by omega), hr_wrk (by omega), e0, nI_1]
      refine ⟨_, rfl, ((f46 a2).tr (f46 b2)).tr ((fk.wr _ (by decide) _ _).tr (fk.wr _ (by decide) _ _)), Or.inr ⟨by omega, by omega, hw2.f6.f6, b3.k79.k79, ⟨hr_wrs _ _ _ _, ?_, fun s hs => ?_, fun a ha => absurd ha (Nat.not_lt_zero a)⟩, ?_⟩⟩
      · rw [hr_wrk (by decide), hr_wrk (by omega)]
        exact e1
      · have hs : s < n + 1 := hs
        rw [hr_wrk (by omega)]
        show (pj_wr m2 79 (2 + n) (nI (kdn (b p)))).1 79 (0 + 2 + s) = nI (if s = n then kdn (b p) else kd s)
        by_cases e : s = n
        · subst e
          rw [show 0 + 2 + s = 2 + s by omega, hr_wrs, if_pos rfl]
        · rw [hr_wrk (by omega), if_neg e]
          exact hN2.2.2.1 s (by show s < n; omega)
      · simp only [rdS, hk, hn0, h59, if_false, ne_eq, not_true]
    · rw [if_neg h59]
      unfold J_X11_readsState_44
      rw [l1, m_take_n a3.1 hw1 1]
      have F := Flt.mk m1 (p := p + 1) 1 (by omega)
      refine ⟨_, ?_, (f46 a2).tr (f_flt m1 (nI (p + 1)) (nI 1)), Or.inl ⟨1, p + 1, F, ?_⟩⟩
      · simp only [m_flt F, Option.bind_some, if_true]
      · simp only [rdS, hk, hn0, h59, if_false, ne_eq, not_false_iff, if_true]
theorem m91_f {m : pj_M} {r p : Nat} (F : Flt m r p) (x1 x2 x3 s : Int32) : J_X11_readsArc_91 x1 x2 x3 s m = some m := by
  unfold J_X11_readsArc_91
  rw [m_take_f F]
  simp only [Option.bind_some]
  rw [m_flt F]
  simp only [Option.bind_some, if_true]
theorem m58_f {m : pj_M} {r p : Nat} (F : Flt m r p) (x1 x2 s : Int32) : J_X11_readsArc_58 x1 x2 s m = some m := by
  unfold J_X11_readsArc_58
  rw [m_take_f F]
  simp only [Option.bind_some, i0, j0, if_false]
  rw [m_fig_f F]
  simp only [Option.bind_some, m91_f F, ite_self]
theorem m_arc {y : Int32} {b : Nat → Nat} {L q n k l : Nat} {kd : Nat → Nat} {ar : Nat → Nat → Nat} {m : pj_M} (hB : BO b L) (hM : MD m b L) (hq : q < L) (hw : Well y m) (ht : TK m b q) (hl : ltn (b q) = some l) (hn : 0 < n) (hn2 : n ≤ 10) (hk : k ≤ 20) (hN : MN m 79 0 (n, kd, k, ar)) (f : Nat) : ∃ m', F_X11_readsArc m = some m' ∧ fk [79] p6 m m' ∧ ((∃ r p', Flt m' r p' ∧ rdA b L n (f + 1) k ar q = .inl (r, p')) ∨ (∃ p2 ar', k < 20 ∧ p2 ≤ L ∧ Well y m' ∧ TK m' b p2 ∧ MN m' 79 0 (n, kd, k + 1, ar') ∧ rdA b L n (f + 1) k ar q = rdA b L n f (k + 1) ar' p2)) := by
  have hL := hB.1
  have hb := hB.2.1 q hq
  have k1 := ltn_tk hl
  have hl4 := ltn_lt hl
  obtain ⟨t1, t2, t3, t4, t5⟩ := id ht
  obtain ⟨s1, s2⟩ := t3 k1
  have n0 : m.1 79 0 = nI n := hN.1
  have n1 : m.1 79 1 = nI k := hN.2.1
  have pr : nI n - 1 = nI (n - 1) := by rw [l1, hn_sub (by omega)]
  have lt9 : ∀ i c, b i = c → c < 256 → i < L := fun i c e hc => by
    rcases Nat.lt_or_ge i L with h1 | h1
    · exact h1
    · rw [hB.2.2 _ h1] at e
      omega
  unfold F_X11_readsArc
  rw [s1, m_letter (by omega), hl]
  simp only [Option.bind_some, i1, j1, if_false, c1]
  rw [n1]
  by_cases hk0 : k = 20
  · subst hk0
    rw [if_neg (show ¬ nI 20 < 20 by decide)]
    unfold J_X11_readsArc_25
    rw [l3, m_take_n t1 hw 3]
    have F := Flt.mk m (p := q) 3 (by omega)
    refine ⟨_, ?_, f_flt m (nI q) (nI 3), Or.inl ⟨3, q, F, ?_⟩⟩
    · simp only [Option.bind_some, i0, j0, if_false, m_fig_f F, m58_f F, ite_self]
    · rw [rdA, if_neg (by omega), hl]
      simp only [if_true]
  · have key : rdA b L n (f + 1) k ar q = if nk b n (q + 1) ≠ 0 then .inl (nk b n (q + 1), q + 1) else if b (q + 1 + nf b (q + 1)) ≠ 44 then .inl (1, q + 1 + nf b (q + 1)) else if nk b n (q + 1 + nf b (q + 1) + 1) ≠ 0 then .inl (nk b n (q + 1 + nf b (q + 1) + 1), q + 1 + nf b (q + 1) + 1) else if b (q + 1 + nf b (q + 1) + 1 + nf b (q + 1 + nf b (q + 1) + 1)) ≠ 59 then .inl (1, q + 1 + nf b (q + 1) + 1 + nf b (q + 1 + nf b (q + 1) + 1)) else rdA b L n f (k + 1) (fun a w => if a = k then arcx l (nv b (q + 1)) (nv b (q + 1 + nf b (q + 1) + 1)) w else ar a w) (q + 1 + nf b (q + 1) + 1 + nf b (q + 1 + nf b (q + 1) + 1) + 1) := by
      rw [rdA, if_neg (by omega), hl]
      simp only []
      rw [if_neg hk0]
    rw [key, if_pos (show nI k < 20 from nI_lt (b := 20) (by omega) (by decide))]
    unfold J_X11_readsArc_25
    obtain ⟨m1, a1, a2, a3⟩ := m_take_y hB hM (show q + 1 ≤ L by omega) s2 hw 3
    have hM1 := hM.keep (f46 a2)
    have hw1 := hw.f4 a2
    have hN1 := hN.f4 a2
    have e1 : m1.1 79 0 = nI n := hN1.1
    rw [a1]
    simp only [Option.bind_some, i0, j0, if_false, c0]
    rw [e1, pr]
    obtain ⟨g1, g2⟩ := m_fig hB hM1 (show q + 1 ≤ L by omega) hw1 a3 hn hn2
    by_cases c1 : nk b n (q + 1) = 0
    · obtain ⟨m2, b1, b2, b3⟩ := g1 c1
      have u1 := nf_le hB (show q + 1 ≤ L by omega)
      have hM2 := hM1.keep (f46 b2)
      have hw2 := hw1.f4 b2
      have hN2 := hN1.f4 b2
      rw [b1]
      simp only [Option.bind_some]
      rw [l3]
      simp only [tke b3 (show 3 < 2 ^ 31 by decide), tk3]
      by_cases c2 : b (q + 1 + nf b (q + 1)) = 44
      · rw [if_pos c2]
        have l2 := lt9 _ _ c2 (by decide)
        unfold J_X11_readsArc_58
        obtain ⟨m3, d1, d2, d3⟩ := m_take_y hB hM2 (show q + 1 + nf b (q + 1) + 1 ≤ L by omega) (b3.2.2.2.2 (Or.inl (tk3.mpr c2))) hw2 1
        have hM3 := hM2.keep (f46 d2)
        have hw3 := hw2.f4 d2
        have hN3 := hN2.f4 d2
        have e3 : m3.1 79 0 = nI n := hN3.1
        rw [d1]
        simp only [Option.bind_some, i0, j0, if_false, c0]
        rw [e3, pr]
        obtain ⟨g3, g4⟩ := m_fig hB hM3 (show q + 1 + nf b (q + 1) + 1 ≤ L by omega) hw3 d3 hn hn2
        by_cases c3 : nk b n (q + 1 + nf b (q + 1) + 1) = 0
        · obtain ⟨m4, h1, h2, h3⟩ := g3 c3
          have u2 := nf_le hB (show q + 1 + nf b (q + 1) + 1 ≤ L by omega)
          have hM4 := hM3.keep (f46 h2)
          have hw4 := hw3.f4 h2
          have hN4 := hN3.f4 h2
          rw [h1]
          simp only [Option.bind_some]
          rw [l4]
          simp only [tke h3 (show 4 < 2 ^ 31 by decide), tk4]
          by_cases c4 : b (q + 1 + nf b (q + 1) + 1 + nf b (q + 1 + nf b (q + 1) + 1)) = 59
          · rw [if_pos c4]
            have l4 := lt9 _ _ c4 (by decide)
            unfold J_X11_readsArc_91
            obtain ⟨m5, o1, o2, o3⟩ := m_take_y hB hM4 (show q + 1 + nf b (q + 1) + 1 + nf b (q + 1 + nf b (q + 1) + 1) + 1 ≤ L by omega) (h3.2.2.2.2 (Or.inr (tk4.mpr c4))) hw4 1
            have hw5 := hw4.f4 o2
            have hN5 := hN4.f4 o2
            have e5 : m5.1 79 1 = nI k := hN5.2.1
            have e50 : m5.1 79 0 = nI n := hN5.1
            rw [o1]
            simp only [Option.bind_some]
            rw [m_well hw5]
            simp only [Option.bind_some, i1, j1, if_false, ne10, tc1]
            rw [e5, l12, l3, hn_mul, hn_add, nI_1, show nI (12 + 3 * k) + 2 = nI (12 + 3 * k + 2) from hn_add _ 2, if_neg (hn_in (show 12 + 3 * k < 72 by omega) (by decide)), if_neg (hn_in (show 12 + 3 * k + 1 < 72 by omega) (by decide)), if_neg (hn_in (show 12 + 3 * k + 2 < 72 by omega) (by decide)), hn_cl (by omega), hn_cl (by omega), hn_cl (by omega), hr_wrk (by omega), hr_wrk (by omega), hr_wrk (by omega), e5, nI_1]
            refine ⟨_, rfl, ((((((f46 a2).tr (f46 b2)).tr (f46 d2)).tr (f46 h2)).tr (f46 o2)).tr ((fk.wr _ (by decide) _ _).tr (fk.wr _ (by decide) _ _))).tr ((fk.wr _ (by decide) _ _).tr (fk.wr _ (by decide) _ _)), Or.inr ⟨_, (fun a w => if a = k then arcx l (nv b (q + 1)) (nv b (q + 1 + nf b (q + 1) + 1)) w else ar a w), by omega, (show q + 1 + nf b (q + 1) + 1 + nf b (q + 1 + nf b (q + 1) + 1) + 1 ≤ L by omega), hw5.f6.f6.f6.f6, o3.k79.k79.k79.k79, ⟨?_, hr_wrs _ _ _ _, fun s hs => ?_, fun a ha w hw' => ?_⟩, ?_⟩⟩
            · rw [hr_wrk (by decide), hr_wrk (by omega), hr_wrk (by omega), hr_wrk (by omega)]
              exact e50
            · have hs : s < n := hs
              rw [hr_wrk (by omega), hr_wrk (by omega), hr_wrk (by omega), hr_wrk (by omega)]
              exact hN5.2.2.1 s hs
            · have ha : a < k + 1 := ha
              show _ = nI (if a = k then arcx l (nv b (q + 1)) (nv b (q + 1 + nf b (q + 1) + 1)) w else ar a w)
              rw [hr_wrk (by omega), hr_wr, hr_wr, hr_wr]
              by_cases hak : a = k
              · subst hak
                rw [if_pos (show a = a from rfl)]
                have hw3' : w = 0 ∨ w = 1 ∨ w = 2 := by omega
                rcases hw3' with rfl | rfl | rfl
                · rw [if_neg (by omega), if_neg (by omega), if_pos ⟨rfl, by omega⟩]
                  rfl
                · rw [if_neg (by omega), if_pos ⟨rfl, by omega⟩]
                  rfl
                · rw [if_pos ⟨rfl, by omega⟩]
                  rfl
              · rw [if_neg (by omega), if_neg (by omega), if_neg (by omega), if_neg hak]
                exact hN5.2.2.2 a (by show a < k; omega) w hw'
            · simp only [c1, c2, c3, c4, ne_eq, not_true, if_false]
          · rw [if_neg c4]
            unfold J_X11_readsArc_91
            rw [l1, m_take_n h3.1 hw4 1]
            have F := Flt.mk m4 (p := q + 1 + nf b (q + 1) + 1 + nf b (q + 1 + nf b (q + 1) + 1)) 1 (by omega)
            refine ⟨_, ?_, (((((f46 a2).tr (f46 b2)).tr (f46 d2)).tr (f46 h2)).tr (f_flt m4 _ (nI 1))), Or.inl ⟨1, _, F, ?_⟩⟩
            · simp only [m_flt F, Option.bind_some, if_true]
            · simp only [c1, c2, c3, c4, ne_eq, not_true, not_false_iff, if_false, if_true]
        · rw [g4 c3]
          have F := Flt.mk m3 (p := q + 1 + nf b (q + 1) + 1) (nk b n (q + 1 + nf b (q + 1) + 1)) (by omega)
          refine ⟨_, ?_, ((((f46 a2).tr (f46 b2)).tr (f46 d2)).tr (f_flt m3 _ _)), Or.inl ⟨_, _, F, ?_⟩⟩
          · simp only [Option.bind_some, m91_f F, ite_self]
          · simp only [c1, c2, c3, ne_eq, not_true, not_false_iff, if_false, if_true]
      · rw [if_neg c2]
        unfold J_X11_readsArc_58
        rw [l1, m_take_n b3.1 hw2 1]
        have F := Flt.mk m2 (p := q + 1 + nf b (q + 1)) 1 (by omega)
        refine ⟨_, ?_, (((f46 a2).tr (f46 b2)).tr (f_flt m2 _ (nI 1))), Or.inl ⟨1, _, F, ?_⟩⟩
        · simp only [Option.bind_some, i0, j0, if_false, m_fig_f F, m91_f F, ite_self]
        · simp only [c1, c2, ne_eq, not_true, not_false_iff, if_false, if_true]
    · rw [g2 c1]
      have F := Flt.mk m1 (p := q + 1) (nk b n (q + 1)) (by omega)
      refine ⟨_, ?_, ((f46 a2).tr (f_flt m1 _ _)), Or.inl ⟨_, _, F, ?_⟩⟩
      · simp only [Option.bind_some, m58_f F, ite_self]
      · simp only [c1, ne_eq, not_false_iff, if_true]
