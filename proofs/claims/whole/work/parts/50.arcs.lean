/-! PART 50: small, arcs, as calls -/
theorem XN.fr {m m' : pj_M} {S : sy} (h : XN m 7 S) (hf : fr cxs m m') : XN m' 7 S := h.keep (hf.at 7 (by decide)) (hf.at 8 (by decide)) (hf.at 9 (by decide))
theorem hit_steps {m : pj_M} {v : Nat} (h : m.1 20 2 = nI v) (h7 : m.1 7 4 = nI v) : F_X1_steps 19 7 m = some (20, m) := by
  unfold F_X1_steps F_X7_follow
  simp only [F_X4_version, Option.bind_some]
  rw [if_pos (show m.1 (19 + 1) 2 = m.1 7 4 from h.trans h7.symm)]
  rfl
theorem hit_part {m : pj_M} {v q : Nat} (hq : q < 4) (h : m.1 20 2 = nI v) (h7 : m.1 7 4 = nI v) (hp : m.1 (24 + 3 * q) 6 = nI v) : F_X1_parting 19 7 (nI q) m = some (24 + 3 * q, m) := by
  unfold F_X1_parting F_X7_follow F_X5_follow
  simp only [F_X4_version, Option.bind_some]
  rw [if_pos (show m.1 (19 + 1) 2 = m.1 7 4 from h.trans h7.symm)]
  simp only [Option.bind_some]
  rw [if_neg (hn_in hq (by decide)), hn_cl (by omega)]
  rw [if_pos (show m.1 (19 + 4 + 1 + 3 * q) 6 = m.1 7 4 from hp.trans h7.symm)]
  simp only [Option.bind_some]
  rw [if_neg (hn_in' hq (by omega))]
theorem ok_small {σ : sg} (hσ : WF σ) (x1 x2 x3 : Int32) : OK1 (F_X10_small x1 x2 x3) (F_X11_small x1 x2 x3) σ := by
  have hS : wfS σ.2.2.2.2.1 := hσ.2.2.1
  have w1 := hS.1
  by_cases h1 : inb x1 3
  · have X1 : ∀ m, F_X10_within x1 0 2 m = some (1, m) := fun m => px_within_y (by decide) h1
    have M1 : ∀ m, F_X11_in x1 0 2 m = some (1, m) := fun m => pm_in_y (by decide) h1
    by_cases h3 : inb x3 4
    · have X3 : ∀ m, F_X10_within x3 0 3 m = some (1, m) := fun m => px_within_y (by decide) h3
      rcases Nat.eq_zero_or_pos σ.2.2.2.2.1.1 with h0 | h0
      · refine ok_same hσ (r := -1000001) (fun m h => ?_) (fun m h => ?_)
        · have hn : XN m 7 σ.2.2.2.2.1 := h.2.2.2.2.1
          have e : m.1 7 2 = 0 := by rw [hn.1, h0]; rfl
          simp only [F_X10_small, X1, F_X4_states, e, Option.bind_some, ne10, if_false, if_true]
        · have hm : MN m 78 0 σ.2.2.2.2.1 := h.2.2.2.2.1
          have e : m.1 78 0 = nI 0 := by rw [hm.1, h0]
          simp only [F_X11_small, M1, mx_let_y h3, mx_sys_n e, Option.bind_some, ne10, if_false, if_true]
      · obtain ⟨q, hq, rfl⟩ := id h1
        obtain ⟨a, ha, rfl⟩ := id h3
        have hct := ct_le σ.2.2.2.2.1 q (rd σ.2.2.2.2.1 q)
        by_cases h2 : inb x2 (ct σ.2.2.2.2.1 q (rd σ.2.2.2.2.1 q))
        · obtain ⟨b, hb, rfl⟩ := id h2
          refine ⟨nI (sm σ.2.2.2.2.1 q b a), _, hσ, fun c m hc h => ?_, fun m h => ?_⟩
          · obtain ⟨h0', ⟨v, hv, hk⟩, hj⟩ := id h
            have hn : XN m 7 σ.2.2.2.2.1 := h0'.2.2.2.2.1
            obtain ⟨m1, g1, g2, g3, g4, g5, g6, g7, g8⟩ := kx_part hS (by omega) (show q < 4 by omega) hn hk
            refine ⟨m1, ?_, xq h g2 hv g3, hi_cx g2⟩
            simp only [F_X10_small, X1, X3, F_X4_states, hn.1, nx_ne0 (show σ.2.2.2.2.1.1 < 2 ^ 31 by omega) h0, Option.bind_some, ne10, if_false, g1, F_X5_size, g7.2.2.2.1, (px_in1 (show ct σ.2.2.2.2.1 q (rd σ.2.2.2.2.1 q) < 2 ^ 31 by omega)).1 h2, hit_part (show q < 4 by omega) g4 g3.1 g8, hit_steps g4 g3.1, px_smallOf (T := 20) hS g7 g5 (show b < 10 by omega) ha hq]
          · have hm : MN m 78 0 σ.2.2.2.2.1 := h.2.2.2.2.1
            obtain ⟨m1, g1, g2, g3⟩ := km_looks hS hm
            obtain ⟨m2, a1, a2, a3, a4⟩ := km_parts hS g3 (show q < 4 by omega)
            refine ⟨m2, ?_, h.keep (g2.tr a2), lo_cm (g2.tr a2)⟩
            simp only [F_X11_small, M1, mx_let_y h3, mx_sys_y (show σ.2.2.2.2.1.1 < 2 ^ 31 by omega) hm.1 h0, Option.bind_some, ne10, if_false, g1, a1, (pm_in1 (show ct σ.2.2.2.2.1 q (rd σ.2.2.2.2.1 q) < 2 ^ 31 by omega)).1 h2, pm_smallOf hS a4 a3 (show b < 10 by omega) ha hq]
        · refine ⟨-1000001, _, hσ, fun c m hc h => ?_, fun m h => ?_⟩
          · obtain ⟨h0', ⟨v, hv, hk⟩, hj⟩ := id h
            have hn : XN m 7 σ.2.2.2.2.1 := h0'.2.2.2.2.1
            obtain ⟨m1, g1, g2, g3, g4, g5, g6, g7, g8⟩ := kx_part hS (by omega) (show q < 4 by omega) hn hk
            refine ⟨m1, ?_, xq h g2 hv g3, hi_cx g2⟩
            simp only [F_X10_small, X1, X3, F_X4_states, hn.1, nx_ne0 (show σ.2.2.2.2.1.1 < 2 ^ 31 by omega) h0, Option.bind_some, ne10, if_false, g1, F_X5_size, g7.2.2.2.1, (px_in1 (show ct σ.2.2.2.2.1 q (rd σ.2.2.2.2.1 q) < 2 ^ 31 by omega)).2 h2, if_true]
          · have hm : MN m 78 0 σ.2.2.2.2.1 := h.2.2.2.2.1
            obtain ⟨m1, g1, g2, g3⟩ := km_looks hS hm
            obtain ⟨m2, a1, a2, a3, a4⟩ := km_parts hS g3 (show q < 4 by omega)
            refine ⟨m2, ?_, h.keep (g2.tr a2), lo_cm (g2.tr a2)⟩
            simp only [F_X11_small, M1, mx_let_y h3, mx_sys_y (show σ.2.2.2.2.1.1 < 2 ^ 31 by omega) hm.1 h0, Option.bind_some, ne10, if_false, g1, a1, (pm_in1 (show ct σ.2.2.2.2.1 q (rd σ.2.2.2.2.1 q) < 2 ^ 31 by omega)).2 h2, if_true]
    · have X3 : ∀ m, F_X10_within x3 0 3 m = some (0, m) := fun m => px_within_n (by decide) h3
      refine ok_same hσ (r := -1000001) (fun m h => ?_) (fun m h => ?_)
      · simp only [F_X10_small, X1, F_X4_states, X3, Option.bind_some, ne10, if_false, if_true, ite_self]
      · simp only [F_X11_small, M1, mx_let_n h3, Option.bind_some, ne10, if_false, if_true]
  · have X1 : ∀ m, F_X10_within x1 0 2 m = some (0, m) := fun m => px_within_n (by decide) h1
    have M1 : ∀ m, F_X11_in x1 0 2 m = some (0, m) := fun m => pm_in_n (by decide) h1
    refine ok_same hσ (r := -1000001) (fun m h => ?_) (fun m h => ?_)
    · simp only [F_X10_small, X1, Option.bind_some, if_true]
    · simp only [F_X11_small, M1, Option.bind_some, if_true]
/-- sums of small's arcs -/
def sma (S : sy) (q b : Nat) : Nat → Nat
  | 0 => 0
  | a + 1 => sma S q b a + cnt (sm S q b a) 10
def smb (S : sy) (q : Nat) : Nat → Nat
  | 0 => 0
  | b + 1 => smb S q b + sma S q b 4
theorem px_arcs {m : pj_M} {P T q : Nat} {S : sy} (hw : wfS S) (hP : PT m P S q) (hg : GT m (T + 1) (go S)) (hq : q < 3) : F_X5_smallArcs P T m = some (nI (smb S q (ct S q (rd S q))), m) := by
  have w1 := hw.1
  have hct := ct_le S q (rd S q)
  have p5 := hP.2.2.2.1
  have inner : ∀ (k : Nat → Nat → Int32 → Int32 → pj_M → Option (Int32 × pj_M)) (b A : Nat), b < 10 → H_X5_smallArcs_15 k pj_z P T (nI A) (nI b) 0 m = k P T (nI (A + sma S q b 4)) (nI (b + 1)) m := by
    intro k b A hb
    refine lp0 (P := fun z a => H_X5_smallArcs_15 k z P T (nI (A + sma S q b a)) (nI b) (nI a) m = k P T (nI (A + sma S q b 4)) (nI (b + 1)) m) 4 (by decide) ?_ ?_
    · intro z
      rw [H_X5_smallArcs_15]
      simp (disch := omega) only [Option.bind_some, ofn, l0, l1, l2, l3, l4, l5, l6, l7, l8, l9, l10, l11, l12, l19, l20, l30, l31, l40, l72, l100, hn_mul, hn_add, hn_sub, hn_or, hn_and, sh_r, sh_l, bt_n, bt_0, bt_1, hn_cl, if_true, if_false, ↓reduceIte, hn_lt, hn_le, hn_eq, ne_1, ne_m, lt_t, lt_f, le_t, le_f, eq_t, eq_f, Nat.not_lt_zero, false_or, or_false, or_self, false_and, and_false, true_and, and_true, not_true, not_false_iff]
    · intro z a ha ih
      rw [H_X5_smallArcs_15]
      have e1 := px_smallOf (T := T) hw hP hg hb ha hq
      have e2 := px_bc (m := m) (sm_lt hw q b a)
      rw [show sma S q b (a + 1) = sma S q b a + cnt (sm S q b a) 10 from rfl, ← Nat.add_assoc] at ih
      simp (disch := omega) only [Option.bind_some, ofn, l0, l1, l2, l3, l4, l5, l6, l7, l8, l9, l10, l11, l12, l19, l20, l30, l31, l40, l72, l100, hn_mul, hn_add, hn_sub, hn_or, hn_and, sh_r, sh_l, bt_n, bt_0, bt_1, hn_cl, if_true, if_false, ↓reduceIte, hn_lt, hn_le, hn_eq, ne_1, ne_m, lt_t, lt_f, le_t, le_f, eq_t, eq_f, Nat.not_lt_zero, false_or, or_false, or_self, false_and, and_false, true_and, and_true, not_true, not_false_iff, e1, e2]
      exact ih
  refine lp0 (P := fun z b => H_X5_smallArcs_4 z P T (nI (smb S q b)) (nI b) m = some (nI (smb S q (ct S q (rd S q))), m)) (ct S q (rd S q)) (by omega) ?_ ?_
  · intro z
    rw [H_X5_smallArcs_4, p5]
    simp (disch := omega) only [Option.bind_some, ofn, l0, l1, l2, l3, l4, l5, l6, l7, l8, l9, l10, l11, l12, l19, l20, l30, l31, l40, l72, l100, hn_mul, hn_add, hn_sub, hn_or, hn_and, sh_r, sh_l, bt_n, bt_0, bt_1, hn_cl, if_true, if_false, ↓reduceIte, hn_lt, hn_le, hn_eq, ne_1, ne_m, lt_t, lt_f, le_t, le_f, eq_t, eq_f, Nat.not_lt_zero, false_or, or_false, or_self, false_and, and_false, true_and, and_true, not_true, not_false_iff]
  · intro z b hb ih
    rw [H_X5_smallArcs_4, p5, if_pos (nI_lt hb (by omega)), inner _ b _ (by omega)]
    exact ih
theorem pm_arcs {m : pj_M} {q : Nat} {S : sy} (hw : wfS S) (hl : LK m S) (hP : PB m S q) (hq : q < 3) : H_X11_arcs_42 pj_z (nI q) (nI (ct S q (rd S q))) 0 0 m = some (nI (smb S q (ct S q (rd S q))), m) := by
  have w1 := hw.1
  have hct := ct_le S q (rd S q)
  have inner : ∀ (k : Int32 → Int32 → Int32 → Int32 → pj_M → Option (Int32 × pj_M)) (b A N : Nat), b < 10 → H_X11_arcs_51 k pj_z (nI q) (nI N) (nI A) (nI b) 0 m = k (nI q) (nI N) (nI (A + sma S q b 4)) (nI (b + 1)) m := by
    intro k b A N hb
    refine lp0 (P := fun z a => H_X11_arcs_51 k z (nI q) (nI N) (nI (A + sma S q b a)) (nI b) (nI a) m = k (nI q) (nI N) (nI (A + sma S q b 4)) (nI (b + 1)) m) 4 (by decide) ?_ ?_
    · intro z
      rw [H_X11_arcs_51]
      simp (disch := omega) only [Option.bind_some, ofn, l0, l1, l2, l3, l4, l5, l6, l7, l8, l9, l10, l11, l12, l19, l20, l30, l31, l40, l72, l100, hn_mul, hn_add, hn_sub, hn_or, hn_and, sh_r, sh_l, bt_n, bt_0, bt_1, hn_cl, if_true, if_false, ↓reduceIte, hn_lt, hn_le, hn_eq, ne_1, ne_m, lt_t, lt_f, le_t, le_f, eq_t, eq_f, Nat.not_lt_zero, false_or, or_false, or_self, false_and, and_false, true_and, and_true, not_true, not_false_iff]
    · intro z a ha ih
      rw [H_X11_arcs_51]
      have e1 := pm_smallOf hw hl hP hb ha hq
      have e2 := pm_size (m := m) (sm_lt hw q b a)
      rw [show sma S q b (a + 1) = sma S q b a + cnt (sm S q b a) 10 from rfl, ← Nat.add_assoc] at ih
      simp (disch := omega) only [Option.bind_some, ofn, l0, l1, l2, l3, l4, l5, l6, l7, l8, l9, l10, l11, l12, l19, l20, l30, l31, l40, l72, l100, hn_mul, hn_add, hn_sub, hn_or, hn_and, sh_r, sh_l, bt_n, bt_0, bt_1, hn_cl, if_true, if_false, ↓reduceIte, hn_lt, hn_le, hn_eq, ne_1, ne_m, lt_t, lt_f, le_t, le_f, eq_t, eq_f, Nat.not_lt_zero, false_or, or_false, or_self, false_and, and_false, true_and, and_true, not_true, not_false_iff, e1, e2]
      exact ih
  refine lp0 (P := fun z b => H_X11_arcs_42 z (nI q) (nI (ct S q (rd S q))) (nI (smb S q b)) (nI b) m = some (nI (smb S q (ct S q (rd S q))), m)) (ct S q (rd S q)) (by omega) ?_ ?_
  · intro z
    rw [H_X11_arcs_42]
    simp (disch := omega) only [Option.bind_some, ofn, l0, l1, l2, l3, l4, l5, l6, l7, l8, l9, l10, l11, l12, l19, l20, l30, l31, l40, l72, l100, hn_mul, hn_add, hn_sub, hn_or, hn_and, sh_r, sh_l, bt_n, bt_0, bt_1, hn_cl, if_true, if_false, ↓reduceIte, hn_lt, hn_le, hn_eq, ne_1, ne_m, lt_t, lt_f, le_t, le_f, eq_t, eq_f, Nat.not_lt_zero, false_or, or_false, or_self, false_and, and_false, true_and, and_true, not_true, not_false_iff]
  · intro z b hb ih
    rw [H_X11_arcs_42, if_pos (nI_lt hb (by omega)), inner _ b _ _ (by omega)]
    exact ih
theorem ok_arcs {σ : sg} (hσ : WF σ) (x1 : Int32) : OK1 (F_X10_arcs x1) (F_X11_arcs x1) σ := by
  have hS : wfS σ.2.2.2.2.1 := hσ.2.2.1
  have w1 := hS.1
  rcases Nat.eq_zero_or_pos σ.2.2.2.2.1.1 with h0 | h0
  · refine ok_same hσ (r := -1000002) (fun m h => ?_) (fun m h => ?_)
    · have hn : XN m 7 σ.2.2.2.2.1 := h.2.2.2.2.1
      have e : m.1 7 2 = 0 := by rw [hn.1, h0]; rfl
      simp only [F_X10_arcs, F_X4_states, e, Option.bind_some, if_true]
    · have hm : MN m 78 0 σ.2.2.2.2.1 := h.2.2.2.2.1
      have e : m.1 78 0 = nI 0 := by rw [hm.1, h0]
      simp only [F_X11_arcs, mx_sys_n e, Option.bind_some, if_true]
  · by_cases h1 : inb x1 3
    · have X1 : ∀ m, F_X10_within x1 0 2 m = some (1, m) := fun m => px_within_y (by decide) h1
      have M1 : ∀ m, F_X11_in x1 0 2 m = some (1, m) := fun m => pm_in_y (by decide) h1
      obtain ⟨q, hq, rfl⟩ := id h1
      refine ⟨nI (smb σ.2.2.2.2.1 q (ct σ.2.2.2.2.1 q (rd σ.2.2.2.2.1 q))), _, hσ, fun c m hc h => ?_, fun m h => ?_⟩
      · obtain ⟨h0', ⟨v, hv, hk⟩, hj⟩ := id h
        have hn : XN m 7 σ.2.2.2.2.1 := h0'.2.2.2.2.1
        obtain ⟨m1, g1, g2, g3, g4, g5, g6, g7, g8⟩ := kx_part hS (by omega) (show q < 4 by omega) hn hk
        refine ⟨m1, ?_, xq h g2 hv g3, hi_cx g2⟩
        simp only [F_X10_arcs, X1, F_X4_states, hn.1, nx_ne0 (show σ.2.2.2.2.1.1 < 2 ^ 31 by omega) h0, Option.bind_some, ne10, if_false, g1, hit_steps g4 g3.1, px_arcs (T := 20) hS g7 g5 hq]
      · have hm : MN m 78 0 σ.2.2.2.2.1 := h.2.2.2.2.1
        obtain ⟨m1, g1, g2, g3⟩ := km_looks hS hm
        obtain ⟨m2, a1, a2, a3, a4⟩ := km_parts hS g3 (show q < 4 by omega)
        refine ⟨m2, ?_, h.keep (g2.tr a2), lo_cm (g2.tr a2)⟩
        simp only [F_X11_arcs, M1, mx_sys_y (show σ.2.2.2.2.1.1 < 2 ^ 31 by omega) hm.1 h0, Option.bind_some, ne10, if_false, g1, a1]
        exact pm_arcs hS a4 a3 hq
    · refine ok_same hσ (r := -1000001) (fun m h => ?_) (fun m h => ?_)
      · have hn : XN m 7 σ.2.2.2.2.1 := h.2.2.2.2.1
        have X1 : F_X10_within x1 0 2 m = some (0, m) := px_within_n (by decide) h1
        simp only [F_X10_arcs, F_X4_states, hn.1, nx_ne0 (show σ.2.2.2.2.1.1 < 2 ^ 31 by omega) h0, X1, Option.bind_some, if_false, if_true]
      · have hm : MN m 78 0 σ.2.2.2.2.1 := h.2.2.2.2.1
        have M1 : F_X11_in x1 0 2 m = some (0, m) := pm_in_n (by decide) h1
        simp only [F_X11_arcs, mx_sys_y (show σ.2.2.2.2.1.1 < 2 ^ 31 by omega) hm.1 h0, M1, Option.bind_some, ne10, if_false, if_true]
