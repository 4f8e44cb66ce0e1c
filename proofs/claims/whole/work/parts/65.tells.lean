/-! PART 65: tells, depth as calls -/
theorem fr_q {m m' : pj_M} {q : Nat} (hq : q < 2) (h : fr [64 + 4 * q, 64 + 4 * q + 1, 64 + 4 * q + 2, 64 + 4 * q + 3] m m') : fr cxs m m' := by
  refine h.mono (fun a ha => ?_)
  have : a = 64 + 4 * q ∨ a = 64 + 4 * q + 1 ∨ a = 64 + 4 * q + 2 ∨ a = 64 + 4 * q + 3 := by simpa using ha
  have hq' : q = 0 ∨ q = 1 := by omega
  rcases hq' with rfl | rfl <;> rcases this with rfl | rfl | rfl | rfl <;> decide
theorem kx_tell {m : pj_M} {v q : Nat} {S : sy} (hw : wfS S) (hv : v < 2 ^ 31) (hq : q < 2) (hn : XN m 7 S) (hk : XK m v S) (hg : GT m 21 (go S)) (hc : GT m 22 (cl S)) (hP : PT m (24 + 3 * q) S q) : ∃ m', F_X9_follow (64 + 4 * q) 7 20 (24 + 3 * q) m = some m' ∧ fr [64 + 4 * q, 64 + 4 * q + 1, 64 + 4 * q + 2, 64 + 4 * q + 3] m m' ∧ XK m' v S ∧ TT m' (64 + 4 * q) S q ∧ m'.1 (64 + 4 * q) 0 = nI q := by
  obtain ⟨k1, k2, k3, k4⟩ := id hk
  obtain ⟨b1, b2⟩ := k4 q hq
  by_cases h : m.1 (64 + 4 * q) 4 = m.1 7 4
  · refine ⟨m, ?_, fr.rf _ _, hk, b2.hit hv (h.trans k1), b1⟩
    unfold F_X9_follow
    simp only [F_X4_version, Option.bind_some]
    rw [if_pos h]
  · obtain ⟨m', g1, g2, g3, g4, g5⟩ := px_tfollow (Q := 64 + 4 * q) (P := 24 + 3 * q) hw hq (by omega) (by omega) m hn hP b1 hg hc h
    refine ⟨m', g1, g2, ⟨?_, ?_, fun q' hq' => ?_, fun q' hq' => ?_⟩, g3, g5⟩
    · rw [(g2 7 (by simp; omega)).1]
      exact k1
    · rw [(g2 20 (by simp; omega)).1]
      exact k2.imp (fun h => ⟨h.1.keep (g2 21 (by simp; omega)).1, h.2.keep (g2 22 (by simp; omega)).1⟩)
    · obtain ⟨a1, a2⟩ := k3 q' hq'
      have e0 := (g2 (24 + 3 * q') (by simp; omega)).1
      have e1 := (g2 (24 + 3 * q' + 1) (by simp; omega)).1
      have e2 := (g2 (24 + 3 * q' + 2) (by simp; omega)).2
      rw [e0]
      exact ⟨a1, a2.imp (fun h => h.keep e0 e1 e2)⟩
    · by_cases hqq : q' = q
      · rw [hqq]
        refine ⟨g5, ?_⟩
        rw [g4, k1]
        exact sn.new g3
      · obtain ⟨a1, a2⟩ := k4 q' hq'
        have e0 := (g2 (64 + 4 * q') (by simp; omega)).1
        have e1 := (g2 (64 + 4 * q' + 1) (by simp; omega)).1
        have e2 := (g2 (64 + 4 * q' + 2) (by simp; omega)).1
        have e3 := (g2 (64 + 4 * q' + 3) (by simp; omega)).2
        rw [e0]
        exact ⟨a1, a2.imp (fun h => h.keep e1 e2 e3)⟩
theorem i32_9998 {x : Int32} (h3 : ¬ x < -1) (h4 : ¬ 9998 < x) : x = -1 ∨ ∃ n, n ≤ 9998 ∧ x = nI n := by
  have e1 : (9998 : Int32).toInt = 9998 := rfl
  have e2 : (-1 : Int32).toInt = -1 := rfl
  rw [Int32.lt_iff_toInt_lt] at h3 h4
  by_cases h : x.toInt = -1
  · exact Or.inl (Int32.toInt_inj.mp (by rw [h, e2]))
  · refine Or.inr ⟨x.toInt.toNat, by omega, Int32.toInt_inj.mp ?_⟩
    rw [nI_toInt (by omega)]
    omega
theorem nst_le {S : sy} (hw : wfS S) {q p t r : Nat} (h : pin S q p t = some r) : nst S q p t r ≤ 20 := by
  have h9 := rd_le9 hw q
  have := (pin_some h).1
  unfold nst
  split <;> omega
theorem FT_k {m m' : pj_M} (h : FT m m') : fk cms pms m m' := fk.mono h (by decide) (by decide)
theorem ok_tells {σ : sg} (hσ : WF σ) (x1 x2 x3 x4 : Int32) : OK1 (F_X10_tells x1 x2 x3 x4) (F_X11_tells x1 x2 x3 x4) σ := by
  have hS : wfS σ.2.2.2.2.1 := hσ.2.2.1
  have w1 := hS.1
  by_cases h1 : inb x1 2
  · have X1 : ∀ m, F_X10_within x1 0 1 m = some (1, m) := fun m => px_within_y (n := 1) (by decide) h1
    have M1 : ∀ m, F_X11_in x1 0 1 m = some (1, m) := fun m => pm_in_y (n := 1) (by decide) h1
    by_cases h2 : inb x2 σ.2.2.2.2.1.1
    · by_cases h3 : inb x3 σ.2.2.2.2.1.1
      · by_cases h4 : x4 < -1 ∨ 9998 < x4
        · have X4 : ∀ m, F_X10_within x4 (-1) 9998 m = some (0, m) := fun m => by
            unfold F_X10_within
            by_cases h5 : x4 < -1
            · rw [if_pos h5]
            · rw [if_neg h5, if_pos (h4.resolve_left h5)]
          have M4 : ∀ m, F_X11_in x4 (-1) 9998 m = some (0, m) := X4
          refine ok_same hσ (r := -1000001) (fun m h => ?_) (fun m h => ?_)
          · have hn : XN m 7 σ.2.2.2.2.1 := h.2.2.2.2.1
            simp only [F_X10_tells, X1, nx_has_y (by omega) hn.1 h2, nx_has_y (by omega) hn.1 h3, X4, Option.bind_some, ne10, if_false, if_true]
          · have hm : MN m 78 0 σ.2.2.2.2.1 := h.2.2.2.2.1
            simp only [F_X11_tells, F_X11_isAsked, M1, mx_st_y (by omega) hm.1 h2, mx_st_y (by omega) hm.1 h3, M4, Option.bind_some, ne10, if_false, if_true]
        · have X4 : ∀ m, F_X10_within x4 (-1) 9998 m = some (1, m) := fun m => by
            unfold F_X10_within
            rw [if_neg (fun h => h4 (Or.inl h)), if_neg (fun h => h4 (Or.inr h))]
          have M4 : ∀ m, F_X11_in x4 (-1) 9998 m = some (1, m) := X4
          obtain ⟨q, hq, rfl⟩ := id h1
          obtain ⟨p, hp, rfl⟩ := id h2
          obtain ⟨t, ht, rfl⟩ := id h3
          cases hpin : pin σ.2.2.2.2.1 q p t with
          | none =>
            refine ⟨-1000000, _, hσ, fun c m hc h => ?_, fun m h => ?_⟩
            · obtain ⟨h0, ⟨v, hv, hk⟩, hj⟩ := id h
              have hn : XN m 7 σ.2.2.2.2.1 := h0.2.2.2.2.1
              obtain ⟨m1, g1, g2, g3, g4, g5, g6, g7, g8⟩ := kx_part hS (by omega) (show q < 4 by omega) hn hk
              have eR := px_roundOf hS g7 hp ht
              rw [hpin] at eR
              have eR : F_X5_roundOf (24 + 3 * q) (nI p) (nI t) m1 = some (-1000000, m1) := eR
              refine ⟨m1, ?_, xq h g2 hv g3, hi_cx g2⟩
              simp only [F_X10_tells, X1, nx_has_y (by omega) hn.1 h2, nx_has_y (by omega) hn.1 h3, X4, Option.bind_some, ne10, if_false, g1, eR, if_true]
            · have hm : MN m 78 0 σ.2.2.2.2.1 := h.2.2.2.2.1
              obtain ⟨m1, g1, g2, g3⟩ := km_looks hS hm
              obtain ⟨m2, a1, a2, a3, a4⟩ := km_parts hS g3 (show q < 4 by omega)
              have eR := pm_partedIn hS a3 hp ht
              rw [hpin] at eR
              have eR : F_X11_partedIn (nI p) (nI t) m2 = some (-1000000, m2) := eR
              refine ⟨m2, ?_, h.keep (g2.tr a2), lo_cm (g2.tr a2)⟩
              simp only [F_X11_tells, F_X11_isAsked, M1, mx_st_y (by omega) hm.1 h2, mx_st_y (by omega) hm.1 h3, M4, Option.bind_some, ne10, if_false, g1, a1, eR, if_true]
          | some r =>
            have hrd := (pin_some hpin).1
            have h9 := rd_le9 hS q
            obtain ⟨hF1, hF2⟩ := FZ_lt hS hq hp ht hpin
            have enR : (nI r = -1000000) = False := ne_m (by omega)
            -- X up to the size
            have Xs : ∀ c m, c < 600 → xR c m σ → ∃ m2, fr cxs m m2 ∧ xR (c + 1) m2 σ ∧ F_X10_tells (nI q) (nI p) (nI t) x4 m = (if x4 < 0 then some ((if 9999 < lN (FZ σ.2.2.2.2.1 q p t) then 9999 else lN (FZ σ.2.2.2.2.1 q p t)).toInt32, m2) else if lg_cmp x4.toInt64 (lN (FZ σ.2.2.2.2.1 q p t)) < 0 then F_X9_codeAt (64 + 4 * q) 20 (nI p) (nI t) x4 m2 else some (-1000000, m2)) ∧ m2.1 (64 + 4 * q) 0 = nI q ∧ GT m2 21 (go σ.2.2.2.2.1) ∧ GT m2 22 (cl σ.2.2.2.2.1) ∧ TT m2 (64 + 4 * q) σ.2.2.2.2.1 q := by
              intro c m hc h
              obtain ⟨h0, ⟨v, hv, hk⟩, hj⟩ := id h
              have hn : XN m 7 σ.2.2.2.2.1 := h0.2.2.2.2.1
              obtain ⟨m1, g1, g2, g3, g4, g5, g6, g7, g8⟩ := kx_part hS (by omega) (show q < 4 by omega) hn hk
              have eR := px_roundOf hS g7 hp ht
              rw [hpin] at eR
              have eR : F_X5_roundOf (24 + 3 * q) (nI p) (nI t) m1 = some (nI r, m1) := eR
              obtain ⟨m2, a1, a2, a3, a4, a5⟩ := kx_tell hS (by omega) hq (hn.fr g2) g3 g5 g6 g7
              have fA : fr cxs m m2 := g2.tr (fr_q hq a2)
              have s20 : m2.1 20 2 = nI v := by rw [(a2 20 (by simp; omega)).1]; exact g4
              have eSz : F_X9_sizeOf (64 + 4 * q) (nI p) (nI t) m2 = some (lN (FZ σ.2.2.2.2.1 q p t), m2) := by
                unfold F_X9_sizeOf
                rw [l10, hn_mul, hn_add, Nat.mul_comm p 10, if_neg (hn_in (by omega) (by decide)), hn_cl (by omega), (a4 p t hp ht).2.2 r hpin]
              refine ⟨m2, fA, xq h fA hv a3, ?_, a5, g5.keep (a2 21 (by simp; omega)).1, g6.keep (a2 22 (by simp; omega)).1, a4⟩
              simp only [F_X10_tells, X1, nx_has_y (by omega) hn.1 h2, nx_has_y (by omega) hn.1 h3, X4, Option.bind_some, ne10, if_false, g1, eR, enR, hn_cl (show q < 2 ^ 31 by omega), hn_in' (show q < 2 by omega) (show q < 2 ^ 31 by omega), hit_steps g4 g3.1, hit_part (show q < 4 by omega) g4 g3.1 g8, a1, eSz, hit_steps s20 a3.1, bind_id]
            -- the reference up to the size
            have Ms : ∀ m, mR m σ → ∃ m3, fk cms pms m m3 ∧ F_X11_tells (nI q) (nI p) (nI t) x4 m = (if x4 = (-1) then (if (9999 : Int32) < nI (min (FZ σ.2.2.2.2.1 q p t) 10000) then (some (9999, m3)) else (some (nI (min (FZ σ.2.2.2.2.1 q p t) 10000), m3))) else (if x4 < nI (min (FZ σ.2.2.2.2.1 q p t) 10000) then F_X11_codeAt (nI q) (nI p) (nI t) x4 m3 else (some ((-1000000), m3)))) ∧ LK m3 σ.2.2.2.2.1 ∧ PB m3 σ.2.2.2.2.1 q ∧ MTT m3 σ.2.2.2.2.1 q := by
              intro m h
              have hm : MN m 78 0 σ.2.2.2.2.1 := h.2.2.2.2.1
              obtain ⟨m1, g1, g2, g3⟩ := km_looks hS hm
              obtain ⟨m2, a1, a2, a3, a4⟩ := km_parts hS g3 (show q < 4 by omega)
              have eR := pm_partedIn hS a3 hp ht
              rw [hpin] at eR
              have eR : F_X11_partedIn (nI p) (nI t) m2 = some (nI r, m2) := eR
              obtain ⟨m3, b1, b2, b3⟩ := pm_tellsAll hS hq m2 ⟨a4, a3⟩
              have hTB := TB.keep (m := m2) (m' := m3) (S := σ.2.2.2.2.1) (q := q) ⟨a4, a3⟩ b2
              refine ⟨m3, (g2.tr a2).tr (FT_k b2), ?_, hTB.1, hTB.2, b3⟩
              have e88 := (b3 p t r hp ht hpin).1.1
              have eI : (10 : Int32) * nI p + nI t = nI (10 * p + t) := by rw [l10, hn_mul, hn_add]
              simp only [F_X11_tells, F_X11_isAsked, M1, mx_st_y (by omega) hm.1 h2, mx_st_y (by omega) hm.1 h3, M4, Option.bind_some, ne10, if_false, g1, a1, eR, enR, b1, eI, hn_cl (show 10 * p + t < 2 ^ 31 by omega), hn_in' (show 10 * p + t < 100 by omega) (show 10 * p + t < 2 ^ 31 by omega), e88, bind_id]
            have l9 : (9999 : Int32) = nI 9999 := rfl
            rcases i32_9998 (fun h => h4 (Or.inl h)) (fun h => h4 (Or.inr h)) with hx | ⟨j, hj, hx⟩
            · refine ⟨nI (min (FZ σ.2.2.2.2.1 q p t) 9999), _, hσ, fun c m hc h => ?_, fun m h => ?_⟩
              · obtain ⟨m2, fA, hR, e, -⟩ := Xs c m hc h
                refine ⟨m2, ?_, hR, hi_cx fA⟩
                rw [e, hx, if_pos (by decide)]
                have el : (9999 < lN (FZ σ.2.2.2.2.1 q p t)) ↔ 9999 < FZ σ.2.2.2.2.1 q p t := pk_lLT (a := 9999) (by decide) (by omega)
                by_cases hb : 9999 < FZ σ.2.2.2.2.1 q p t
                · rw [if_pos (el.mpr hb), show min (FZ σ.2.2.2.2.1 q p t) 9999 = 9999 by omega]
                  rfl
                · rw [if_neg (fun h => hb (el.mp h)), show min (FZ σ.2.2.2.2.1 q p t) 9999 = FZ σ.2.2.2.2.1 q p t by omega, lN_i]
              · obtain ⟨m3, fA, e, -⟩ := Ms m h
                refine ⟨m3, ?_, h.keep fA, lo_cm fA⟩
                rw [e, hx, if_pos rfl, l9]
                by_cases hb : 9999 < FZ σ.2.2.2.2.1 q p t
                · rw [if_pos (nI_lt (by omega) (by omega)), show min (FZ σ.2.2.2.2.1 q p t) 9999 = 9999 by omega]
                · rw [if_neg (nI_nlt (by omega) (by omega)), show min (FZ σ.2.2.2.2.1 q p t) 9999 = min (FZ σ.2.2.2.2.1 q p t) 10000 by omega]
            · have hx0 : ¬ x4 < 0 := by
                rw [hx]
                exact nI_pos (by omega)
              have hx1 : ¬ x4 = -1 := by
                rw [hx]
                exact nn1 (by omega)
              have exl : x4.toInt64 = lN j := by
                rw [hx]
                exact nI_l (by omega)
              by_cases hjF : j < FZ σ.2.2.2.2.1 q p t
              · refine ⟨cdt σ.2.2.2.2.1 q 20 p t j, _, hσ, fun c m hc h => ?_, fun m h => ?_⟩
                · obtain ⟨m2, fA, hR, e, c1, c2, c3, c4⟩ := Xs c m hc h
                  refine ⟨m2, ?_, hR, hi_cx fA⟩
                  rw [e, if_neg hx0, if_pos (by rw [exl]; exact (lg_cmp_lt _ _).mpr ((pk_lLT (by omega) (by omega)).mpr hjF))]
                  unfold F_X9_codeAt
                  rw [exl]
                  exact px_code hS hq c1 c2 c3 c4 20 pj_z p t j r 0 (by have := pj_z_ge; omega) (by omega) hp ht hpin (nst_le hS hpin) hjF
                · obtain ⟨m3, fA, e, c1, c2, c3⟩ := Ms m h
                  refine ⟨m3, ?_, h.keep fA, lo_cm fA⟩
                  rw [e, if_neg hx1, if_pos (by rw [hx]; exact nI_lt (by omega) (by omega)), hx]
                  exact pm_code hS hq c1 c2 c3 20 pj_z p t j r (by have := pj_z_ge; omega) hp ht hpin (nst_le hS hpin) hjF hj
              · refine ⟨-1000000, _, hσ, fun c m hc h => ?_, fun m h => ?_⟩
                · obtain ⟨m2, fA, hR, e, c1, c2, c3, c4⟩ := Xs c m hc h
                  refine ⟨m2, ?_, hR, hi_cx fA⟩
                  rw [e, if_neg hx0, if_neg (fun h => hjF (by rw [exl] at h; exact (pk_lLT (by omega) (by omega)).mp ((lg_cmp_lt _ _).mp h)))]
                · obtain ⟨m3, fA, e, c1, c2, c3⟩ := Ms m h
                  refine ⟨m3, ?_, h.keep fA, lo_cm fA⟩
                  rw [e, if_neg hx1, if_neg (by rw [hx]; exact nI_nlt (by omega) (by omega))]
      · refine ok_same hσ (r := -1000001) (fun m h => ?_) (fun m h => ?_)
        · have hn : XN m 7 σ.2.2.2.2.1 := h.2.2.2.2.1
          simp only [F_X10_tells, X1, nx_has_y (by omega) hn.1 h2, nx_has_n (by omega) hn.1 h3, Option.bind_some, ne10, if_false, if_true]
        · have hm : MN m 78 0 σ.2.2.2.2.1 := h.2.2.2.2.1
          simp only [F_X11_tells, F_X11_isAsked, M1, mx_st_y (by omega) hm.1 h2, mx_st_n (by omega) hm.1 h3, Option.bind_some, ne10, if_false, if_true]
    · refine ok_same hσ (r := -1000001) (fun m h => ?_) (fun m h => ?_)
      · have hn : XN m 7 σ.2.2.2.2.1 := h.2.2.2.2.1
        simp only [F_X10_tells, X1, nx_has_n (by omega) hn.1 h2, Option.bind_some, ne10, if_false, if_true]
      · have hm : MN m 78 0 σ.2.2.2.2.1 := h.2.2.2.2.1
        simp only [F_X11_tells, F_X11_isAsked, M1, mx_st_n (by omega) hm.1 h2, Option.bind_some, ne10, if_false, if_true]
  · have X1 : ∀ m, F_X10_within x1 0 1 m = some (0, m) := fun m => px_within_n (n := 1) (by decide) h1
    have M1 : ∀ m, F_X11_in x1 0 1 m = some (0, m) := fun m => pm_in_n (n := 1) (by decide) h1
    refine ok_same hσ (r := -1000001) (fun m h => ?_) (fun m h => ?_)
    · simp only [F_X10_tells, X1, Option.bind_some, if_true]
    · simp only [F_X11_tells, F_X11_isAsked, M1, Option.bind_some, if_true]
theorem ok_depth {σ : sg} (hσ : WF σ) (x1 x2 x3 : Int32) : OK1 (F_X10_depth x1 x2 x3) (F_X11_depth x1 x2 x3) σ := by
  have hS : wfS σ.2.2.2.2.1 := hσ.2.2.1
  have w1 := hS.1
  by_cases h1 : inb x1 2
  · have X1 : ∀ m, F_X10_within x1 0 1 m = some (1, m) := fun m => px_within_y (n := 1) (by decide) h1
    have M1 : ∀ m, F_X11_in x1 0 1 m = some (1, m) := fun m => pm_in_y (n := 1) (by decide) h1
    by_cases h2 : inb x2 σ.2.2.2.2.1.1
    · by_cases h3 : inb x3 σ.2.2.2.2.1.1
      · obtain ⟨q, hq, rfl⟩ := id h1
        obtain ⟨p, hp, rfl⟩ := id h2
        obtain ⟨t, ht, rfl⟩ := id h3
        refine ⟨oI (pin σ.2.2.2.2.1 q p t), _, hσ, fun c m hc h => ?_, fun m h => ?_⟩
        · obtain ⟨h0, ⟨v, hv, hk⟩, hj⟩ := id h
          have hn : XN m 7 σ.2.2.2.2.1 := h0.2.2.2.2.1
          obtain ⟨m1, g1, g2, g3, g4, g5, g6, g7, g8⟩ := kx_part hS (by omega) (show q < 4 by omega) hn hk
          refine ⟨m1, ?_, xq h g2 hv g3, hi_cx g2⟩
          simp only [F_X10_depth, X1, nx_has_y (by omega) hn.1 h2, nx_has_y (by omega) hn.1 h3, Option.bind_some, ne10, if_false, g1, px_roundOf hS g7 hp ht]
        · have hm : MN m 78 0 σ.2.2.2.2.1 := h.2.2.2.2.1
          obtain ⟨m1, g1, g2, g3⟩ := km_looks hS hm
          obtain ⟨m2, a1, a2, a3, a4⟩ := km_parts hS g3 (show q < 4 by omega)
          have eR := pm_partedIn hS a3 hp ht
          cases hpin : pin σ.2.2.2.2.1 q p t with
          | none =>
            rw [hpin] at eR
            have eR : F_X11_partedIn (nI p) (nI t) m2 = some (-1000000, m2) := eR
            refine ⟨m2, ?_, h.keep (g2.tr a2), lo_cm (g2.tr a2)⟩
            simp only [F_X11_depth, F_X11_isAsked, M1, mx_st_y (by omega) hm.1 h2, mx_st_y (by omega) hm.1 h3, Option.bind_some, ne10, if_false, g1, a1, eR, if_true]
            rfl
          | some r =>
            have hrd := (pin_some hpin).1
            have h9 := rd_le9 hS q
            rw [hpin] at eR
            have eR : F_X11_partedIn (nI p) (nI t) m2 = some (nI r, m2) := eR
            have enR : (nI r = -1000000) = False := ne_m (by omega)
            obtain ⟨m3, b1, b2, b3⟩ := pm_tellsAll hS hq m2 ⟨a4, a3⟩
            have fA := (g2.tr a2).tr (FT_k b2)
            refine ⟨m3, ?_, h.keep fA, lo_cm fA⟩
            have e89 := (b3 p t r hp ht hpin).1.2
            have eI : (10 : Int32) * nI p + nI t = nI (10 * p + t) := by rw [l10, hn_mul, hn_add]
            simp only [F_X11_depth, F_X11_isAsked, M1, mx_st_y (by omega) hm.1 h2, mx_st_y (by omega) hm.1 h3, Option.bind_some, ne10, if_false, g1, a1, eR, enR, b1, eI, hn_cl (show 10 * p + t < 2 ^ 31 by omega), hn_in' (show 10 * p + t < 100 by omega) (show 10 * p + t < 2 ^ 31 by omega), e89]
            rfl
      · refine ok_same hσ (r := -1000001) (fun m h => ?_) (fun m h => ?_)
        · have hn : XN m 7 σ.2.2.2.2.1 := h.2.2.2.2.1
          simp only [F_X10_depth, X1, nx_has_y (by omega) hn.1 h2, nx_has_n (by omega) hn.1 h3, Option.bind_some, ne10, if_false, if_true]
        · have hm : MN m 78 0 σ.2.2.2.2.1 := h.2.2.2.2.1
          simp only [F_X11_depth, F_X11_isAsked, M1, mx_st_y (by omega) hm.1 h2, mx_st_n (by omega) hm.1 h3, Option.bind_some, ne10, if_false, if_true]
    · refine ok_same hσ (r := -1000001) (fun m h => ?_) (fun m h => ?_)
      · have hn : XN m 7 σ.2.2.2.2.1 := h.2.2.2.2.1
        simp only [F_X10_depth, X1, nx_has_n (by omega) hn.1 h2, Option.bind_some, ne10, if_false, if_true]
      · have hm : MN m 78 0 σ.2.2.2.2.1 := h.2.2.2.2.1
        simp only [F_X11_depth, F_X11_isAsked, M1, mx_st_n (by omega) hm.1 h2, Option.bind_some, ne10, if_false, if_true]
  · have X1 : ∀ m, F_X10_within x1 0 1 m = some (0, m) := fun m => px_within_n (n := 1) (by decide) h1
    have M1 : ∀ m, F_X11_in x1 0 1 m = some (0, m) := fun m => pm_in_n (n := 1) (by decide) h1
    refine ok_same hσ (r := -1000001) (fun m h => ?_) (fun m h => ?_)
    · simp only [F_X10_depth, X1, Option.bind_some, if_true]
    · simp only [F_X11_depth, F_X11_isAsked, M1, Option.bind_some, if_true]
