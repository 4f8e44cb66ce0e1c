/-! PART 90: the law's loop answers 1 -/
theorem mR.hi {m m' : pj_M} {σ : sg} (h : mR m σ) (hf : hi m m') : mR m' σ := by
  obtain ⟨h1, h2, h3, h4, h5, h6, h7, h8⟩ := h
  have c : ∀ a, 72 ≤ a → m'.1 a = m.1 a := fun a ha => (hf a ha).1
  refine ⟨h1.keep (fun a ha => c a (by simp at ha; omega)), ?_, ?_, ?_, h5.keep (c 78 (by decide)), ?_, h7.keep (fun a ha => c a (by simp at ha; omega)), ?_⟩
  · rw [c 72 (by decide)]
    exact h2
  · unfold MT
    rw [c 72 (by decide), c 77 (by decide)]
    exact h3
  · rw [c 72 (by decide)]
    exact h4
  · unfold MA MN
    rw [c 72 (by decide), c 80 (by decide)]
    exact h6
  · unfold Mtr
    rw [c 72 (by decide), c 94 (by decide)]
    exact h8
theorem xR.lo {c : Nat} {m m' : pj_M} {σ : sg} (h : xR c m σ) (hf : lo m m') : xR c m' σ := by
  obtain ⟨⟨h1, h2, h3, h4, h5, h6, h7, h8⟩, ⟨v, hv, hk⟩, w, hw, hj⟩ := h
  have e : ∀ a, a < 72 → m'.1 a = m.1 a ∧ m'.2 a = m.2 a := hf
  refine ⟨⟨h1.keep (fun a ha => (e a (by simp at ha; omega)).1), ?_, ?_, ?_, h5.keep (e 7 (by omega)).1 (e 8 (by omega)).1 (e 9 (by omega)).1, h6.keep (fun a ha => (e a (by simp at ha; omega)).1), h7.keep (fun a ha => (e a (by simp at ha; omega)).1), ?_⟩, ⟨v, hv, hk.keep (fun a ha => e a (by omega))⟩, w, hw, hj.keep (fun a ha => (e a (by omega)).1)⟩
  · rw [(e 0 (by omega)).1]
    exact h2
  · unfold XT
    rw [(e 5 (by omega)).1, (e 6 (by omega)).1]
    exact h3
  · rw [(e 0 (by omega)).1]
    exact h4
  · unfold Xtr
    rw [(e 56 (by omega)).1, (e 57 (by omega)).1]
    exact h8
def KO (c : Nat) (K : pj_M → Option (Int32 × pj_M)) : Prop := ∀ m σ, WF σ → xR c m σ → mR m σ → ∃ m', K m = some (1, m')
theorem law1 {fX fM : pj_M → Option (Int32 × pj_M)} {σ : sg} {c : Nat} {m : pj_M} (K : pj_M → Option (Int32 × pj_M)) (hK : KO (c + 1) K) (hc : c < 600) (hx : xR c m σ) (hm : mR m σ) (ok : OK1 fX fM σ) : ∃ m', ((fX m).bind fun q1 => ((fM q1.2).bind fun q2 => (if q1.1 = q2.1 then K q2.2 else some (0, q2.2)))) = some (1, m') := by
  obtain ⟨r, σ', w, x, y⟩ := ok
  obtain ⟨m1, a1, a2, a3⟩ := x c m hc hx
  obtain ⟨m2, b1, b2, b3⟩ := y m1 (hm.hi a3)
  obtain ⟨m', k⟩ := hK m2 σ' w (a2.lo b3) b2
  refine ⟨m', ?_⟩
  rw [a1]
  simp only [Option.bind_some]
  rw [b1]
  simp only [Option.bind_some, if_true]
  exact k
theorem law2 {fX fM : pj_M → Option (Int64 × pj_M)} {σ : sg} {c : Nat} {m : pj_M} (K : pj_M → Option (Int32 × pj_M)) (hK : KO (c + 1) K) (hc : c < 600) (hx : xR c m σ) (hm : mR m σ) (ok : OK2 fX fM σ) : ∃ m', ((fX m).bind fun q1 => ((fM q1.2).bind fun q2 => (if (lg_cmp q1.1 q2.1) = 0 then K q2.2 else some (0, q2.2)))) = some (1, m') := by
  obtain ⟨r, σ', w, x, y⟩ := ok
  obtain ⟨m1, a1, a2, a3⟩ := x c m hc hx
  obtain ⟨m2, b1, b2, b3⟩ := y m1 (hm.hi a3)
  obtain ⟨m', k⟩ := hK m2 σ' w (a2.lo b3) b2
  refine ⟨m', ?_⟩
  rw [a1]
  simp only [Option.bind_some]
  rw [b1]
  simp only [Option.bind_some]
  rw [if_pos ((lg_cmp_eq r r).mpr rfl)]
  exact k
theorem ite_ex {c : Prop} [Decidable c] {a b : Option (Int32 × pj_M)} (ha : ∃ m', a = some (1, m')) (hb : ∃ m', b = some (1, m')) : ∃ m', (if c then a else b) = some (1, m') := by
  by_cases h : c
  · rw [if_pos h]
    exact ha
  · rw [if_neg h]
    exact hb
theorem law_step {L : Nat} {xs : Nat → Int32} {z i : Nat} {m : pj_M} {σ : sg} (hL : L ≤ 3072) (hi : 6 * i + 6 ≤ L) (hσ : WF σ) (hx : xR i m σ) (hm : mR m σ) (hK : KO (i + 1) (H_L_law_18 L xs z (nI (6 * (i + 1))))) : ∃ m', H_L_law_18 L xs (z + 1) (nI (6 * i)) m = some (1, m') := by
  have hc : i < 600 := by omega
  have hK : KO (i + 1) (H_L_law_18 L xs z (nI (6 * i) + 6)) := by
    rw [l6, hn_add]
    exact hK
  have k0 : (nI (6 * i) < 0 ∨ L ≤ (nI (6 * i)).toNatClampNeg) = False := eq_false (hn_in (by omega) (by omega))
  have k1 : (nI (6 * i) + 1 < 0 ∨ L ≤ (nI (6 * i) + 1).toNatClampNeg) = False := by
    rw [l1, hn_add]
    exact eq_false (hn_in (by omega) (by omega))
  have k2 : (nI (6 * i) + 2 < 0 ∨ L ≤ (nI (6 * i) + 2).toNatClampNeg) = False := by
    rw [l2, hn_add]
    exact eq_false (hn_in (by omega) (by omega))
  have k3 : (nI (6 * i) + 3 < 0 ∨ L ≤ (nI (6 * i) + 3).toNatClampNeg) = False := by
    rw [l3, hn_add]
    exact eq_false (hn_in (by omega) (by omega))
  have k4 : (nI (6 * i) + 4 < 0 ∨ L ≤ (nI (6 * i) + 4).toNatClampNeg) = False := by
    rw [l4, hn_add]
    exact eq_false (hn_in (by omega) (by omega))
  have k5 : (nI (6 * i) + 5 < 0 ∨ L ≤ (nI (6 * i) + 5).toNatClampNeg) = False := by
    rw [l5, hn_add]
    exact eq_false (hn_in (by omega) (by omega))
  rw [H_L_law_18, if_neg (show ¬ (Int32.ofNat L - 6) < nI (6 * i) by rw [ofn, l6, hn_sub (by omega)]; exact nI_nlt (by omega) (by omega))]
  simp only [k0, k1, k2, k3, k4, k5, if_false]
  refine ite_ex (law1 _ hK hc hx hm (ok_row hσ _ _ _)) ?_
  refine ite_ex (law1 _ hK hc hx hm (ok_set hσ _ _ _)) ?_
  refine ite_ex (law1 _ hK hc hx hm (ok_copy hσ _ _ _ _ _)) ?_
  refine ite_ex (law1 _ hK hc hx hm (ok_drop hσ _)) ?_
  refine ite_ex (law1 _ hK hc hx hm (ok_feed hσ _)) ?_
  refine ite_ex (law1 _ hK hc hx hm (ok_system hσ)) ?_
  refine ite_ex (law1 _ hK hc hx hm (ok_fault hσ)) ?_
  refine ite_ex (law1 _ hK hc hx hm (op_lay hσ _ _ _)) ?_
  refine ite_ex (law1 _ hK hc hx hm (op_cut hσ _)) ?_
  refine ite_ex (law1 _ hK hc hx hm (op_turn hσ _)) ?_
  refine ite_ex (law1 _ hK hc hx hm (ok_become hσ _ _)) ?_
  refine ite_ex (law1 _ hK hc hx hm (ok_undo hσ)) ?_
  refine ite_ex (law1 _ hK hc hx hm (op_arc hσ _ _)) ?_
  refine ite_ex (law1 _ hK hc hx hm (op_moves hσ _ _ _)) ?_
  refine ite_ex (law1 _ hK hc hx hm (op_block hσ _ _)) ?_
  refine ite_ex (law1 _ hK hc hx hm (op_parts hσ _ _)) ?_
  refine ite_ex (law1 _ hK hc hx hm (op_behind hσ _ _ _)) ?_
  refine ite_ex (law2 _ hK hc hx hm (op_signs hσ _ _)) ?_
  refine ite_ex (law1 _ hK hc hx hm (op_parted hσ _ _ _)) ?_
  refine ite_ex (law1 _ hK hc hx hm (ok_tells hσ _ _ _ _)) ?_
  refine ite_ex (law1 _ hK hc hx hm (ok_depth hσ _ _ _)) ?_
  refine ite_ex (law1 _ hK hc hx hm (ok_holds hσ _ _ _ _)) ?_
  refine ite_ex (law1 _ hK hc hx hm (ok_small hσ _ _ _)) ?_
  refine ite_ex (law1 _ hK hc hx hm (ok_arcs hσ _)) ?_
  refine ite_ex (law1 _ hK hc hx hm (op_words hσ _ _)) ?_
  refine ite_ex (law1 _ hK hc hx hm (ok_walk hσ _ _ _)) ?_
  refine ite_ex (law1 _ hK hc hx hm (op_fits hσ _ _ _ _)) ?_
  refine ite_ex (law1 _ hK hc hx hm (ok_image hσ _)) ?_
  refine ite_ex (law1 _ hK hc hx hm (ok_restore hσ _)) ?_
  refine ite_ex (law1 _ hK hc hx hm (op_kind hσ _)) ?_
  refine ite_ex (law1 _ hK hc hx hm (op_as hσ _ _)) ?_
  refine ite_ex (law1 _ hK hc hx hm (op_ask hσ _ _)) ?_
  refine ite_ex (law1 _ hK hc hx hm (ok_trace hσ _)) ?_
  refine ite_ex (law1 _ hK hc hx hm (ok_count hσ _)) ?_
  refine ite_ex (law1 _ hK hc hx hm (ok_status hσ)) ?_
  exact hK m σ hσ (hx.up (Nat.le_succ i)) hm
theorem law_all {L : Nat} {xs : Nat → Int32} (hL : L ≤ 3072) (d : Nat) : ∀ z i m σ, d < z → i + d = 513 → 6 * i ≤ L → WF σ → xR i m σ → mR m σ → ∃ m', H_L_law_18 L xs z (nI (6 * i)) m = some (1, m') := by
  induction d with
  | zero =>
    intro z i m σ _ hid hiL
    omega
  | succ d ih =>
    intro z i m σ hz hid hiL hσ hx hm
    obtain ⟨z, rfl⟩ : ∃ z', z = z' + 1 := ⟨z - 1, by omega⟩
    by_cases hc : 6 * i + 6 ≤ L
    · exact law_step hL hc hσ hx hm (fun m σ w x y => ih z (i + 1) m σ (by omega) (by omega) (by omega) w x y)
    · refine ⟨m, ?_⟩
      rw [H_L_law_18, if_pos]
      by_cases h6 : 6 ≤ L
      · rw [ofn, l6, hn_sub h6]
        exact nI_lt (by omega) (by omega)
      · obtain rfl : i = 0 := by omega
        have hl : L = 0 ∨ L = 1 ∨ L = 2 ∨ L = 3 ∨ L = 4 ∨ L = 5 := by omega
        rcases hl with rfl | rfl | rfl | rfl | rfl | rfl <;> decide
def σ0 : sg := (fun _ => none, 0, (0, fun _ => 0), 0, (0, fun _ => 0, 0, fun _ _ => 0), (0, fun _ => (0, fun _ => 0, 0, fun _ _ => 0)), fun _ => none, (0, fun _ => 0))
theorem nl {p : Nat → Prop} : ∀ i, i < 0 → p i := fun i h => absurd h (Nat.not_lt_zero i)
theorem σ0_wf : WF σ0 := ⟨fun r l L f h => (by cases h), ⟨Nat.zero_le _, nl⟩, ⟨Nat.zero_le _, Nat.zero_le _, nl, nl⟩, ⟨Nat.zero_le _, nl⟩, fun j S h => (by cases h)⟩
theorem q4 {p : Nat → Prop} (h0 : p 0) (h1 : p 1) (h2 : p 2) (h3 : p 3) : ∀ q, q < 4 → p q := fun q hq => by
  have h : q = 0 ∨ q = 1 ∨ q = 2 ∨ q = 3 := by omega
  rcases h with rfl | rfl | rfl | rfl
  · exact h0
  · exact h1
  · exact h2
  · exact h3
theorem q2 {p : Nat → Prop} (h0 : p 0) (h1 : p 1) : ∀ q, q < 2 → p q := fun q hq => by
  have h : q = 0 ∨ q = 1 := by omega
  rcases h with rfl | rfl
  · exact h0
  · exact h1
theorem σ0_x : xR 0 m_init σ0 := by
  refine ⟨⟨fun r hr => rfl, rfl, ⟨rfl, nl⟩, rfl, ⟨rfl, rfl, nl, nl⟩, ⟨rfl, nl⟩, ?_, ⟨Nat.zero_le _, rfl, nl⟩⟩, ⟨0, Nat.zero_le _, rfl, Or.inl rfl, ?_, ?_⟩, 0, Nat.zero_le _, rfl, Or.inl rfl, ?_⟩
  · exact q2 rfl rfl
  · exact q4 ⟨rfl, Or.inl rfl⟩ ⟨rfl, Or.inl rfl⟩ ⟨rfl, Or.inl rfl⟩ ⟨rfl, Or.inl rfl⟩
  · exact q2 ⟨rfl, Or.inl rfl⟩ ⟨rfl, Or.inl rfl⟩
  · exact q4 ⟨rfl, Or.inl rfl⟩ ⟨rfl, Or.inl rfl⟩ ⟨rfl, Or.inl rfl⟩ ⟨rfl, Or.inl rfl⟩
theorem σ0_m : mR m_init σ0 := by
  refine ⟨fun r hr => rfl, rfl, ⟨rfl, nl⟩, rfl, ⟨rfl, rfl, nl, nl⟩, ⟨rfl, nl⟩, ?_, ⟨Nat.zero_le _, rfl, nl⟩⟩
  exact q2 rfl rfl
theorem law_ok : ∀ (L : Nat) (xs : Nat → Int32), L ≤ 3072 → ∃ m', H_L_law_18 L xs pj_z 0 m_init = some (1, m') := fun L xs hL =>
  law_all hL 513 pj_z 0 m_init σ0 (by have := pj_z_ge; omega) rfl (Nat.zero_le _) σ0_wf σ0_x σ0_m
