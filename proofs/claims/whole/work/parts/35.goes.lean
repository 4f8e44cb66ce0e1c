/-! PART 35: where one goes: both sides' tables -/
/-- a bit is put into one place of a table -/
def gput (g : Nat → Nat → Nat) (a s t : Nat) : Nat → Nat → Nat := fun a' s' => if a' = a ∧ s' = s then g a s ||| 2 ^ t else g a' s'
/-- an arc is put into a table -/
def garc (S : sy) (j : Nat) (g : Nat → Nat → Nat) : Nat → Nat → Nat :=
  let a := S.2.2.2 j 0
  let f := S.2.2.2 j 1
  let t := S.2.2.2 j 2
  let g1 := if S.2.1 f = 3 then g else gput g a f t
  if S.2.1 f < 4 then g1 else if S.2.1 t = 3 then g1 else gput g1 a t f
def goN (S : sy) : Nat → Nat → Nat → Nat
  | 0 => fun _ _ => 0
  | j + 1 => garc S j (goN S j)
def go (S : sy) : Nat → Nat → Nat := goN S S.2.2.1
/-- cell A holds a table of 4 times 10 -/
def GT (m : pj_M) (A : Nat) (g : Nat → Nat → Nat) : Prop := ∀ a s, a < 4 → s < 10 → m.1 A (10 * a + s) = nI (g a s)
theorem GT.put {m : pj_M} {A a s t : Nat} {g : Nat → Nat → Nat} (h : GT m A g) (ha : a < 4) (hs : s < 10) : GT (pj_wr m A (10 * a + s) (nI (g a s ||| 2 ^ t))) A (gput g a s t) := by
  intro a' s' ha' hs'
  rw [hr_wr]
  simp only [gput]
  by_cases h1 : a' = a ∧ s' = s
  · obtain ⟨rfl, rfl⟩ := h1
    simp
  · rw [if_neg (by omega), if_neg h1]
    exact h a' s' ha' hs'
theorem px_isA4 {k : Nat} {m : pj_M} (hk : 1 ≤ k ∧ k ≤ 5) : F_X10_isA (nI k) 4 m = some (nI (if k < 4 then 0 else 1), m) := by
  have : k = 1 ∨ k = 2 ∨ k = 3 ∨ k = 4 ∨ k = 5 := by omega
  rcases this with rfl | rfl | rfl | rfl | rfl <;> rfl
theorem hx_j52 {b nb a f t : Nat} {S : sy} {g : Nat → Nat → Nat} {m : pj_M} (hw : wfS S) (hn : XN m nb S) (ha : a < 4) (hf : f < S.1) (ht : t < S.1) (hne : nb + 1 ≠ b + 1) (h : GT m (b + 1) g) :
    ∃ m', J_X7_openArc_52 b nb (nI (10 * a)) (nI f) (nI t) m = some m' ∧ fr [b + 1] m m' ∧ GT m' (b + 1) (if S.2.1 f < 4 then g else if S.2.1 t = 3 then g else gput g a t f) := by
  obtain ⟨w1, w2, w3, w4⟩ := hw
  obtain ⟨n1, n2, n3, n4⟩ := hn
  unfold J_X7_openArc_52
  rw [nx_kind (by omega), n3 f hf]
  simp only [Option.bind_some]
  rw [px_isA4 (w3 f hf)]
  simp only [Option.bind_some]
  by_cases h4 : S.2.1 f < 4
  · rw [if_pos h4, if_pos (show nI 0 = 0 from rfl), if_pos h4]
    exact ⟨m, rfl, fr.rf _ _, h⟩
  · rw [if_neg h4, if_neg (show ¬ nI 1 = 0 by decide), if_neg h4, nx_kind (by omega), n3 t ht]
    simp only [Option.bind_some]
    by_cases h3 : S.2.1 t = 3
    · rw [h3, if_pos (show nI 3 = 3 from rfl), if_pos rfl]
      exact ⟨m, rfl, fr.rf _ _, h⟩
    · have hk := w3 t ht
      rw [if_neg (show ¬ nI (S.2.1 t) = 3 from fun e => h3 (hn_inj (by omega) (by decide) e)), if_neg h3, hn_add, if_neg (hn_in (by omega) (by decide)), if_neg (hn_in (by omega) (by decide)), hn_cl (by omega), h a t ha (by omega), hn_shl1 f (by omega), hn_or]
      exact ⟨_, rfl, fr.wr _ _ (by simp) _ _, h.put ha (by omega)⟩
theorem XN.keep {m m' : pj_M} {b : Nat} {S : sy} (h : XN m b S) (e0 : m'.1 b = m.1 b) (e1 : m'.1 (b + 1) = m.1 (b + 1)) (e2 : m'.1 (b + 2) = m.1 (b + 2)) : XN m' b S := by
  unfold XN
  rw [e0, e1, e2]
  exact h
theorem hx_open {b nb j : Nat} {S : sy} {g : Nat → Nat → Nat} {m : pj_M} (hw : wfS S) (hn : XN m nb S) (hj : j < S.2.2.1) (hne : nb ≠ b + 1 ∧ nb + 1 ≠ b + 1 ∧ nb + 2 ≠ b + 1) (h : GT m (b + 1) g) :
    ∃ m', F_X7_openArc b nb (nI j) m = some m' ∧ fr [b + 1] m m' ∧ GT m' (b + 1) (garc S j g) := by
  obtain ⟨w1, w2, w3, w4⟩ := id hw
  obtain ⟨n1, n2, n3, n4⟩ := id hn
  obtain ⟨v0, v1, v2⟩ := w4 j hj
  have hk := w3 _ v1
  unfold F_X7_openArc
  have p0 : F_X4_arcPart nb (nI j) 0 m = some (nI (S.2.2.2 j 0), m) := (nx_part (w := 0) (by omega) (by decide)).trans (by rw [n4 j hj 0 (by decide)])
  have p1 : F_X4_arcPart nb (nI j) 1 m = some (nI (S.2.2.2 j 1), m) := (nx_part (w := 1) (by omega) (by decide)).trans (by rw [n4 j hj 1 (by decide)])
  have p2 : F_X4_arcPart nb (nI j) 2 m = some (nI (S.2.2.2 j 2), m) := (nx_part (w := 2) (by omega) (by decide)).trans (by rw [n4 j hj 2 (by decide)])
  rw [p0]
  simp only [Option.bind_some]
  rw [p1]
  simp only [Option.bind_some]
  rw [p2]
  simp only [Option.bind_some]
  rw [nx_kind (by omega), n3 _ v1]
  simp only [Option.bind_some]
  rw [show (10 : Int32) = nI 10 from rfl, hn_mul, Nat.mul_comm _ 10]
  by_cases h3 : S.2.1 (S.2.2.2 j 1) = 3
  · obtain ⟨m', g1, g2, g3⟩ := hx_j52 (b := b) hw hn v0 v1 v2 hne.2.1 h
    refine ⟨m', ?_, g2, ?_⟩
    · rw [h3, if_pos (show nI 3 = 3 from rfl)]
      exact g1
    · simp only [garc, h3, if_true]
      rw [h3] at g3
      exact g3
  · have hG := h.put (t := S.2.2.2 j 2) v0 (show S.2.2.2 j 1 < 10 by omega)
    have hn' : XN (pj_wr m (b + 1) (10 * S.2.2.2 j 0 + S.2.2.2 j 1) (nI (g (S.2.2.2 j 0) (S.2.2.2 j 1) ||| 2 ^ S.2.2.2 j 2))) nb S := hn.keep (hr_wra hne.1) (hr_wra hne.2.1) (hr_wra hne.2.2)
    obtain ⟨m', g1, g2, g3⟩ := hx_j52 (b := b) hw hn' v0 v1 v2 hne.2.1 hG
    refine ⟨m', ?_, (fr.wr _ _ (by simp) _ _).tr g2, ?_⟩
    · rw [if_neg (show ¬ nI (S.2.1 (S.2.2.2 j 1)) = 3 from fun e => h3 (hn_inj (by omega) (by decide) e)), hn_add, if_neg (hn_in (by omega) (by decide)), if_neg (hn_in (by omega) (by decide)), hn_cl (by omega), h _ _ v0 (by omega), hn_shl1 _ (by omega), hn_or]
      exact g1
    · simp only [garc, h3, if_false]
      exact g3
theorem am_1023 (q : Nat) (h : q < 2 ^ 10) : nI q &&& 1023 = nI (q &&& 1023) := hn_and q 1023
theorem and_1023 {q : Nat} (h : q < 2 ^ 10) : q &&& 1023 = q := by
  rw [show (1023 : Nat) = 2 ^ 10 - 1 from rfl, Nat.and_two_pow_sub_one_eq_mod, Nat.mod_eq_of_lt h]
theorem am_neg (q : Nat) (h : q < 2 ^ 10) : nI q &&& (-1) = nI (q &&& 1023) := by
  rw [show (-1 : Int32) = nI (2 ^ 32 - 1) from rfl, hn_and, and_1023 h, Nat.and_two_pow_sub_one_eq_mod, Nat.mod_eq_of_lt (Nat.lt_trans h (by decide))]
/-- silent steps closed; moves of rule 1 -/
def cl0 (S : sy) (s : Nat) : Nat := itp (go S 0) 1023 (2 ^ s) 10
def cl (S : sy) (a s : Nat) : Nat := if a = 0 then cl0 S s else un (cl0 S) (un (go S a) (cl0 S s) 10) 10
theorem garc_lt {S : sy} {j n : Nat} {g : Nat → Nat → Nat} (h1 : S.2.2.2 j 1 < n) (h2 : S.2.2.2 j 2 < n) (h : ∀ a s, g a s < 2 ^ n) (a s : Nat) : garc S j g a s < 2 ^ n := by
  have hp : ∀ (g : Nat → Nat → Nat) (a0 s0 t0 : Nat), t0 < n → (∀ a s, g a s < 2 ^ n) → ∀ a s, gput g a0 s0 t0 a s < 2 ^ n := by
    intro g a0 s0 t0 ht hg a s
    simp only [gput]
    split
    · exact Nat.or_lt_two_pow (hg _ _) (Nat.pow_lt_pow_right (by decide) ht)
    · exact hg _ _
  simp only [garc]
  split <;> split <;> (try split) <;> first | exact h _ _ | exact hp _ _ _ _ h2 h _ _ | exact hp _ _ _ _ h1 h _ _ | exact hp _ _ _ _ h1 (hp _ _ _ _ h2 h) _ _
theorem goN_lt {S : sy} (hw : wfS S) (j : Nat) (hj : j ≤ S.2.2.1) (a s : Nat) : goN S j a s < 2 ^ S.1 := by
  induction j generalizing a s with
  | zero => exact Nat.two_pow_pos _
  | succ j ih =>
    have := hw.2.2.2 j (by omega)
    exact garc_lt this.2.1 this.2.2 (fun a s => ih (by omega) a s) a s
theorem go_lt {S : sy} (hw : wfS S) (a s : Nat) : go S a s < 2 ^ S.1 := goN_lt hw _ (Nat.le_refl _) a s
theorem go_lt10 {S : sy} (hw : wfS S) (a s : Nat) : go S a s < 2 ^ 10 := Nat.lt_of_lt_of_le (go_lt hw a s) (Nat.pow_le_pow_right (by decide) hw.1)
