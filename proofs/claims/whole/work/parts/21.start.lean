/-! PART 21: the two constructors run; the first memory; the law from its entry, over its loop. Written by wip/whole/gen/genstart.py -/
def hs_a : List pc_E := [.inl (10, [.inr none, .inr none, .inr none, .inr none, .inr none, .inr none, .inr none, .inr none, .inr none, .inr none, .inr none, .inr none, .inl 0, .inl 0])]
def hs_m : pc_E := .inl (11, [.inr none, .inr none, .inr none, .inr none, .inl 0, .inr none, .inl 0, .inl 0, .inl 0, .inl 0, .inl 0, .inl 0, .inl 0, .inr none, .inr none, .inr none, .inl 0, .inr none, .inr none, .inr none, .inr none, .inr none, .inr none, .inl 0, .inr none, .inr none, .inr none, .inr none, .inr none, .inr none, .inr none, .inr none, .inl 0])
/-- the first memory -/
def m_init : pj_M := (fun a k => match a, k with
  | 2, _ => (-1)
  | 20, 2 => (-1)
  | 24, 6 => (-1)
  | 27, 0 => 1
  | 27, 6 => (-1)
  | 30, 0 => 2
  | 30, 6 => (-1)
  | 33, 0 => 3
  | 33, 6 => (-1)
  | 37, 2 => (-1)
  | 41, 6 => (-1)
  | 44, 0 => 1
  | 44, 6 => (-1)
  | 47, 0 => 2
  | 47, 6 => (-1)
  | 50, 0 => 3
  | 50, 6 => (-1)
  | 64, 4 => (-1)
  | 68, 0 => 1
  | 68, 4 => (-1)
  | 73, _ => (-1000000)
  | _, _ => 0, fun _ _ => 0)
def st_ck (mi : pj_M) (a : Nat) (e : pc_E) (q : Nat × Nat) : Bool := match e with
  | .inl (ci, fs) => Nat.beq q.1 0 && (Nat.beq ci q.2 && (Nat.beq fs.length (pj_ct q.2).length && (List.range fs.length).all (fun k => match fs[k]?, (pj_ct q.2)[k]? with
    | some (.inl v), some none => decide (v = mi.1 a k)
    | some (.inr (some t)), some (some (_, _, d)) => Nat.beq t (a + d)
    | _, _ => false)))
  | .inr (k, n, f, g) => (Nat.beq k q.1 && (Nat.beq n q.2 && ((Nat.beq k 1 || Nat.beq k 3) && (List.range n).all (fun i => decide (f i = mi.1 a i))))) || ((Nat.beq k q.1 && (Nat.beq n q.2 && Nat.beq k 2)) || (Nat.beq q.1 4 && (Nat.beq k (10 + q.2) && (Nat.beq n (pj_rlen q.2) && (List.range n).all (fun i => decide (g i = some (a + pj_roff q.2 + pj_rstr q.2 * i)))))))
def st_fin (h1 : List pc_E) (c1 s1 : Nat) (h2 : List pc_E) (c2 s2 : Nat) : Bool := Nat.beq h1.length 72 && (Nat.beq h2.length 95 && (Nat.ble (0 + 1 + c1 + 1 + c2) 600000 && (Nat.ble (0 + 14 + s1 + 33 + s2) 7302250 && (List.range 95).all (fun a => match h2[a]?, pj_lay[a]? with
  | some e, some q => st_ck m_init a e q
  | _, _ => false))))
def st_all : Bool := match ctor_X10_init [.inr (some 0)] hs_a with
  | none => false
  | some (h1, c1, s1) => pc_nh h1 (fun h1 => match ctor_X11_init [.inr (some 72)] (h1 ++ [hs_m]) with
    | none => false
    | some (h2, c2, s2) => pc_nh h2 (fun h2 => st_fin h1 c1 s1 h2 c2 s2))
set_option maxRecDepth 100000 in
theorem st_all_ok : st_all = true := by decide +kernel
theorem st_ex : ∃ (h1 : List pc_E) (c1 s1 : Nat) (h2 : List pc_E) (c2 s2 : Nat), ctor_X10_init [.inr (some 0)] hs_a = some (h1, c1, s1) ∧ ctor_X11_init [.inr (some 72)] (h1 ++ [hs_m]) = some (h2, c2, s2) ∧ h1.length = 72 ∧ h2.length = 95 ∧ 0 + 1 + c1 + 1 + c2 ≤ 600000 ∧ 0 + 14 + s1 + 33 + s2 ≤ 7302250 ∧ ∀ a, a < 95 → ∃ e q, h2[a]? = some e ∧ pj_lay[a]? = some q ∧ st_ck m_init a e q = true := by
  have h := st_all_ok
  unfold st_all at h
  split at h
  · cases h
  · rename_i h1 c1 s1 e1
    rw [pc_nh_eq] at h
    split at h
    · cases h
    · rename_i h2 c2 s2 e2
      rw [pc_nh_eq] at h
      simp only [st_fin, Bool.and_eq_true, Nat.beq_eq, Nat.ble_eq] at h
      obtain ⟨g1, g2, g3, g4, g5⟩ := h
      refine ⟨h1, c1, s1, h2, c2, s2, e1, e2, g1, g2, g3, g4, fun a ha => ?_⟩
      have h5 := List.all_eq_true.mp g5 a (List.mem_range.mpr ha)
      cases hea : h2[a]? with
      | none => rw [hea] at h5; cases h5
      | some e =>
        cases hqa : pj_lay[a]? with
        | none => rw [hea, hqa] at h5; cases h5
        | some q =>
          rw [hea, hqa] at h5
          exact ⟨e, q, rfl, rfl, h5⟩
theorem pc_te_ref {G : pj_E} {ad : Nat → Nat} {x n : Nat} {f : Nat → Int32} {g : Nat → Option Nat} : pc_te G ad (.inr (10 + x, n, f, g)) = .inl (G.2.2.1.2.2.2 x, (n, .inr (.inr (.inr (.inr (fun i => (g i).map ad)))))) := by
  unfold pc_te
  split
  · rename_i h; cases h
  · rename_i h; simp only [Sum.inr.injEq, Prod.mk.injEq] at h; omega
  · rename_i h; simp only [Sum.inr.injEq, Prod.mk.injEq] at h; omega
  · rename_i h; simp only [Sum.inr.injEq, Prod.mk.injEq] at h; omega
  · rename_i h
    simp only [Sum.inr.injEq, Prod.mk.injEq] at h
    obtain ⟨rfl, rfl, rfl, rfl⟩ := h
    rw [Nat.add_sub_cancel_left]
theorem st_okf {n ci : Nat} {fs : List pc_V} (h : fs.all (fun v => match v with
    | .inr (some _) => false
    | _ => true) = true) : pc_oke n (.inl (ci, fs)) := by
  intro v hv
  have h1 := List.all_eq_true.mp h v hv
  rcases v with x | _ | k
  · trivial
  · trivial
  · cases h1
theorem st_arrV {cA : ClassId} {n : Nat} {f f' : Nat → Value} (h : ∀ i, i < n → f i = f' i) : arrV cA n f = arrV cA n f' := by
  simp only [arrV]
  congr 1
  congr 1
  funext j
  exact h j.val j.isLt
theorem st_world {G : pj_E} {ad : Nat → Nat} {H : Heap} {h2 : List pc_E} {mi : pj_M} (hm2 : mi.2 = fun _ _ => 0) (hck : ∀ a, a < 95 → ∃ e q, h2[a]? = some e ∧ pj_lay[a]? = some q ∧ st_ck mi a e q = true) (hP : va_P G.1 vwCl (pc_ws G ad h2) H) : va_P G.1 vwCl (pj_ws (G.1, ad, G.2.2) mi) H := by
  intro a q hq
  obtain ⟨⟨t, x⟩, h1, rfl⟩ := pj_ws_of hq
  have hlt := pj_lay_lt h1
  obtain ⟨e, q, hea, hqa, hc⟩ := hck a hlt
  rw [h1] at hqa
  cases hqa
  have hat := hP a _ (pc_ws_at hea)
  show va_at G.1 vwCl (ad a, pj_ent (G.1, ad, G.2.2) mi a (t, x)) H
  have hat : va_at G.1 vwCl (ad a, pc_te G ad e) H := hat
  rcases e with ⟨ci, fs⟩ | ⟨k, n, f, g⟩
  · simp only [st_ck, Bool.and_eq_true, Nat.beq_eq] at hc
    obtain ⟨rfl, rfl, hl, hall⟩ := hc
    have e0 : (pj_ct ci).mapIdx (fun k f => pj_fv (G.1, ad, G.2.2) mi a k f) = fs.map (pc_tv ad) := by
      apply List.ext_getElem?
      intro k
      rw [List.getElem?_mapIdx, List.getElem?_map]
      rcases Nat.lt_or_ge k fs.length with hk | hk
      · have h2 := List.all_eq_true.mp hall k (List.mem_range.mpr hk)
        have hfk : fs[k]? = some fs[k] := List.getElem?_eq_getElem hk
        have hk2 : k < (pj_ct ci).length := by omega
        have hck2 : (pj_ct ci)[k]? = some (pj_ct ci)[k] := List.getElem?_eq_getElem hk2
        rw [hfk, hck2] at h2 ⊢
        generalize fs[k] = v at h2 ⊢
        generalize (pj_ct ci)[k] = u at h2 ⊢
        rcases v with y | _ | y
        · rcases u with _ | ⟨u1, u2, u3⟩
          · have h3 := of_decide_eq_true h2
            simp only [Option.map_some, pj_fv, pc_tv]
            rw [h3]
          · cases h2
        · cases h2
        · rcases u with _ | ⟨u1, u2, u3⟩
          · cases h2
          · have h3 := Nat.eq_of_beq_eq_true h2
            subst h3
            rfl
      · rw [List.getElem?_eq_none hk, List.getElem?_eq_none (by omega)]
        rfl
    have e1 : pj_ent (G.1, ad, G.2.2) mi a (0, ci) = pc_te G ad (.inl (ci, fs)) := congrArg (fun z => (Sum.inr (ci, z) : va_E)) e0
    rw [e1]
    exact hat
  · simp only [st_ck, Bool.or_eq_true, Bool.and_eq_true, Nat.beq_eq] at hc
    rcases hc with ⟨rfl, rfl, h3, hall⟩ | ⟨rfl, rfl, rfl⟩ | ⟨rfl, rfl, rfl, hall⟩
    · have hff : ∀ i, i < n → f i = mi.1 a i := fun i hi => of_decide_eq_true (List.all_eq_true.mp hall i (List.mem_range.mpr hi))
      rcases h3 with rfl | rfl
      · have hat : H[ad a]? = some (vp_cell G.2.2.1.1 (n, .inl f)) := hat
        show H[ad a]? = some (vp_cell G.2.2.1.1 (n, .inl (mi.1 a)))
        rw [hat, vp_cell_i, vp_cell_i, st_arrV (fun i hi => by rw [hff i hi])]
      · have hat : H[ad a]? = some (vp_cell G.2.2.1.2.2.1 (n, .inl f)) := hat
        show H[ad a]? = some (vp_cell G.2.2.1.2.2.1 (n, .inl (mi.1 a)))
        rw [hat, vp_cell_i, vp_cell_i, st_arrV (fun i hi => by rw [hff i hi])]
    · have e2 : pj_ent (G.1, ad, G.2.2) mi a (2, n) = pc_te G ad (.inr (2, n, f, g)) := by
        simp only [pj_ent, pc_te, hm2]
      rw [e2]
      exact hat
    · rw [pc_te_ref] at hat
      have hat : H[ad a]? = some (vp_cell (G.2.2.1.2.2.2 x) (pj_rlen x, .inr (.inr (.inr (.inr (fun i => (g i).map ad)))))) := hat
      show H[ad a]? = some (vp_cell (G.2.2.1.2.2.2 x) (pj_rlen x, .inr (.inr (.inr (.inr (fun i => some (ad (a + pj_roff x + pj_rstr x * i))))))))
      rw [hat, vp_cell_q, vp_cell_q, st_arrV (f' := fun j => va_rf (some (ad (a + pj_roff x + pj_rstr x * j)))) (fun i hi => by rw [of_decide_eq_true (List.all_eq_true.mp hall i (List.mem_range.mpr hi))]; rfl)]

theorem st_cls {s : State} {args : Array Value} (hts : ∀ w ∈ pj_tb, w.before args s = true) : ∀ k : Nat, ∃ (cC : ClassId) (iS : Nat → Nat), ∀ q : vw_C, vwCl[k]? = some q → u_Kn s q.1 q.2.1 q.2.2 cC iS := by
  intro k
  match k with
  | 0 =>
    obtain ⟨cC, iS, h⟩ := u_known (C := RX0) (T := TX0) (N := 2) (n := 2) hts wiX0 (hts (.instantiable RX0 2) cw_161)
    exact ⟨cC, iS, fun q hq => by cases hq; exact h⟩
  | 1 =>
    obtain ⟨cC, iS, h⟩ := u_known (C := RX1) (T := TX1) (N := 2) (n := 2) hts wiX1 (hts (.instantiable RX1 2) cw_174)
    exact ⟨cC, iS, fun q hq => by cases hq; exact h⟩
  | 2 =>
    obtain ⟨cC, iS, h⟩ := u_known (C := RX2) (T := TX2) (N := 6) (n := 6) hts wiX2 (hts (.instantiable RX2 6) cw_266)
    exact ⟨cC, iS, fun q hq => by cases hq; exact h⟩
  | 3 =>
    obtain ⟨cC, iS, h⟩ := u_known (C := RX3) (T := TX3) (N := 8) (n := 8) hts wiX3 (hts (.instantiable RX3 8) cw_235)
    exact ⟨cC, iS, fun q hq => by cases hq; exact h⟩
  | 4 =>
    obtain ⟨cC, iS, h⟩ := u_known (C := RX4) (T := TX4) (N := 5) (n := 5) hts wiX4 (hts (.instantiable RX4 5) cw_138)
    exact ⟨cC, iS, fun q hq => by cases hq; exact h⟩
  | 5 =>
    obtain ⟨cC, iS, h⟩ := u_known (C := RX5) (T := TX5) (N := 7) (n := 7) hts wiX5 (hts (.instantiable RX5 7) cw_197)
    exact ⟨cC, iS, fun q hq => by cases hq; exact h⟩
  | 6 =>
    obtain ⟨cC, iS, h⟩ := u_known (C := RX6) (T := TX6) (N := 3) (n := 3) hts wiX6 (hts (.instantiable RX6 3) cw_105)
    exact ⟨cC, iS, fun q hq => by cases hq; exact h⟩
  | 7 =>
    obtain ⟨cC, iS, h⟩ := u_known (C := RX7) (T := TX7) (N := 3) (n := 3) hts wiX7 (hts (.instantiable RX7 3) cw_180)
    exact ⟨cC, iS, fun q hq => by cases hq; exact h⟩
  | 8 =>
    obtain ⟨cC, iS, h⟩ := u_known (C := RX8) (T := TX8) (N := 3) (n := 3) hts wiX8 (hts (.instantiable RX8 3) cw_122)
    exact ⟨cC, iS, fun q hq => by cases hq; exact h⟩
  | 9 =>
    obtain ⟨cC, iS, h⟩ := u_known (C := RX9) (T := TX9) (N := 5) (n := 5) hts wiX9 (hts (.instantiable RX9 5) cw_290)
    exact ⟨cC, iS, fun q hq => by cases hq; exact h⟩
  | 10 =>
    obtain ⟨cC, iS, h⟩ := u_known (C := RX10) (T := TX10) (N := 14) (n := 14) hts wiX10 (hts (.instantiable RX10 14) cw_97)
    exact ⟨cC, iS, fun q hq => by cases hq; exact h⟩
  | 11 =>
    obtain ⟨cC, iS, h⟩ := u_known (C := RX11) (T := TX11) (N := 33) (n := 33) hts wiX11 (hts (.instantiable RX11 33) cw_1012)
    exact ⟨cC, iS, fun q hq => by cases hq; exact h⟩
  | k + 12 => exact ⟨0, fun _ => 0, fun q hq => by simp [vwCl] at hq⟩
theorem st_arr {s : State} {args : Array Value} {ty : FieldType} (h : (Cond.arrayClass ty).before args s = true) : ∃ cA : ClassId, ArrOfT s cA ty ∧ s.vm.findClass ("[" ++ ty.toString) = some cA := by
  obtain ⟨cA, kA, comp, f1, f2, f3⟩ := Cond.arrayClass_spec h
  exact ⟨cA, fun n z => ⟨fun k h => (by cases h), kA, f2, comp, f3⟩, f1⟩
theorem st_ref {s : State} {args : Array Value} {n : String} (h : (Cond.arrayOver (.object n)).before args s = true) : ∃ cA : ClassId, ArrOfT s cA (.object n) ∧ va_RA s cA (.object n) := by
  obtain ⟨comp, cA, kA, f1, _, f2, f3, f4⟩ := Cond.arrayOver_spec h
  exact ⟨cA, fun n z => ⟨fun k h => (by cases h), kA, f2, comp, f3⟩, kA, comp, f2, f3, f1, f4⟩
set_option maxRecDepth 5000 in
theorem st_w1 : Cond.arrayOver (.object "AlikeSteps$Net") ∈ lw_tbl := List.mem_append_right _ (List.mem_append_left _ (List.mem_of_getElem? (i := 79) (by rfl)))
set_option maxRecDepth 5000 in
theorem st_w2 : Cond.arrayOver (.object "AlikeSteps$Parting") ∈ lw_tbl := List.mem_append_right _ (List.mem_append_left _ (List.mem_of_getElem? (i := 116) (by rfl)))
set_option maxRecDepth 5000 in
theorem st_w3 : Cond.arrayOver (.object "AlikeSteps$Teller") ∈ lw_tbl := List.mem_append_right _ (List.mem_append_left _ (List.mem_of_getElem? (i := 153) (by rfl)))
set_option maxRecDepth 5000 in
theorem st_w4 : pj_nw ∈ lw_tbl := List.mem_append_right _ (List.mem_append_right _ (List.mem_append_right _ (List.mem_append_left _ (List.mem_of_getElem? (i := 89) (by rfl)))))
/-- the world at the law's entry: classes, array classes -/
theorem st_G {s : State} {args : Array Value} {b L : Nat} {xs : Nat → Int32} (hts0 : ∀ w ∈ lw_tbl, w.before args s = true) : ∃ G : pj_E, G.2.2.2 = (b, L, xs) ∧ va_K G.1 vwCl (pj_tys G) s := by
  have hts : ∀ w ∈ pj_tb, w.before args s = true := fun w hw => hts0 w (List.mem_filter.mp hw).1
  have hc := st_cls hts
  obtain ⟨cI, i1, i2⟩ := st_arr (hts _ cwa_3.1)
  obtain ⟨cL, j1, j2⟩ := st_arr (hts _ cwa_3.2.1)
  obtain ⟨cB, k1, k2⟩ := st_arr (hts _ cwa_3.2.2)
  obtain ⟨c4, a1, a2⟩ := st_ref (hts0 _ st_w1)
  obtain ⟨c5, b1, b2⟩ := st_ref (hts0 _ st_w2)
  obtain ⟨c9, d1, d2⟩ := st_ref (hts0 _ st_w3)
  refine ⟨((fun k => (hc k).choose, fun k => (hc k).choose_spec.choose), fun _ => 0, (cI, cL, cB, fun k => if k = 4 then c4 else if k = 5 then c5 else c9), (b, L, xs)), rfl, fun k q hq => (hc k).choose_spec.choose_spec q hq, fun k q hq => ?_⟩
  match k, hq with
  | 0, hq => cases hq; exact ⟨i1, i2⟩
  | 1, hq => cases hq; exact ⟨j1, j2⟩
  | 2, hq => cases hq; exact ⟨k1, k2⟩
  | 3, hq => cases hq; exact ⟨a1, a2⟩
  | 4, hq => cases hq; exact ⟨b1, b2⟩
  | 5, hq => cases hq; exact ⟨d1, d2⟩
  | k + 6, hq => simp [pj_tys] at hq
set_option maxHeartbeats 4000000 in
set_option maxRecDepth 100000 in
theorem whole_start_open (hlaw : ∀ (L : Nat) (xs : Nat → Int32), L ≤ 3072 → ∃ m', H_L_law_18 L xs pj_z 0 m_init = some (1, m')) {p : Program} {e : Env} {s : State} {m : MethodId} {below : List Frame} {meth : Method} {c : Code} (l : Launch) {b L : Nat} {xs : Nat → Int32} (hL : L ≤ 3072) (hx : p.tables.exec = Jvm.exec) (hb : c.code = code) (hr : meth.sig.returnType = ret) (hml : c.maxLocals = 4) (hown : s.vm.findClass RL = some m.cls) (hts0 : ∀ w ∈ lw_tbl, w.before #[Value.ref b] s = true) (hX : va_X b L xs s s.heap) (hbl : b < s.heap.size) (Q : State → Prop)
    (hret : ∀ (pc : Nat) (H : Heap) (ls : Array Slot), decode code pc = .ok (.ireturn, 1) → W p l e room_1 s m #[Value.ref b] below meth c H [] 600000 7302250 Q (F0 m pc ls [.int 1])) : W p l e room_1 s m #[Value.ref b] below meth c s.heap [] 0 0 Q (entryFrame m ([Value.ref b] : List Value).toArray 4) := by
  have hts : ∀ w ∈ pj_tb, w.before #[Value.ref b] s = true := fun w hw => hts0 w (List.mem_filter.mp hw).1
  obtain ⟨G, hG, hK⟩ := st_G (b := b) (L := L) (xs := xs) hts0
  have hX : va_X G.2.2.2.1 G.2.2.2.2.1 G.2.2.2.2.2 s s.heap := by rw [hG]; exact hX
  have hgb : G.2.2.2.1 = b := by rw [hG]
  have hbl0 : G.2.2.2.1 < s.heap.size := by rw [hgb]; exact hbl
  have hA : ∀ q : Nat, s.heap.size ≤ q → (fun q : Nat => s.heap.size ≤ q) q := fun _ h => h
  have hbA : ¬ (fun q : Nat => s.heap.size ≤ q) G.2.2.2.1 := Nat.not_le.mpr hbl0
  have hao : va_AO "AlikeSteps$Net" s ∧ va_AO "AlikeSteps$Parting" s ∧ va_AO "AlikeSteps$Teller" s := ⟨va_AO.of (hts0 _ st_w1), va_AO.of (hts0 _ st_w2), va_AO.of (hts0 _ st_w3)⟩
  obtain ⟨k1, k2, k3, r1, r2, r3, ev_1, ev_2, ev_1l, ev_2l, n1, n2, hckk⟩ := st_ex
  have hP0 : va_P G.1 vwCl [] s.heap := fun k q h => by simp at h
  have hD0 : va_D (fun q : Nat => s.heap.size ≤ q) [] := ⟨fun i j p q h => by simp at h, fun k q h => by simp at h⟩
  have hl := lv_entry ([.ref b]) (n := 4) (Nat.le_of_ble_eq_true rfl)
  rw [lg_entry_eq]
  generalize (lg_sl ([.ref b]) ++ List.replicate (4 - (lg_sl ([.ref b])).length) Slot.unset).toArray = ls at hl ⊢
  have hl : lv_has ls 4 [(0, .ref b)] := hl
  refine va_new (ci := 10) (fs := ([.inr none, .inr none, .inr none, .inr none, .inr none, .inr none, .inr none, .inr none, .inr none, .inr none, .inr none, .inr none, .inl 0, .inl 0] : List pc_V).map (pc_tv id)) hx hb hts wiX10 tyX10 tyX10_ok hown (hts _ cw_96) (hts _ cw_97) (hts _ cw_81) hK hP0 hD0 va_S.rf hA vcX10 (by decide +kernel) (Nat.le_of_ble_eq_true rfl) (Nat.le_of_ble_eq_true rfl) (show decode code 0 = .ok (.new 7, 3) by decide +kernel) (fun q0 H hP hD hS => ?_)
  have hH0 : pc_Hp G (fun q : Nat => s.heap.size ≤ q) (fun _ => q0) hs_a s H [] := ⟨fun e he => by rw [hs_a, List.mem_singleton] at he; subst he; exact st_okf rfl, hP, hD, hS⟩
  refine lv_dup hx hb (show decode code 3 = .ok (.dup, 1) by decide +kernel) rfl ?_
  refine pc_callI (rk := 17) (as := []) (a := 0) (ad := fun _ => q0) (rest := [.ref q0]) hx hb hml hown hts hK hao (Nat.le_of_ble_eq_true rfl) (Nat.le_of_ble_eq_true rfl) hA hX hbl0 hbA (show decode code 4 = .ok (.invokespecial 9, 3) by decide +kernel) cti_X10_init mi_X10_init cw_98 (by decide) ev_1 (fun v hv => by rw [List.mem_singleton] at hv; subst hv; show 0 < 1; decide) hH0 rfl hl.1 (Nat.le_of_ble_eq_true rfl) (by show 0 + 1 + k2 ≤ 600000; omega) (by show 0 + 14 + k3 ≤ 7302250; omega) (fun ad1 H1 locs1 g1 g3 hH1 => ?_)
  have hq0 : q0 = ad1 0 := (g1 0 (by decide)).symm
  subst hq0
  refine lv_astore_n (lv' := [(1, .ref (ad1 0)), (0, .ref b)]) hx hb (show decode code 7 = .ok (.astore_n 1, 1) by decide +kernel) rfl hl (by decide) rfl (fun ls hl => ?_)
  refine va_new (ci := 11) (fs := ([.inr none, .inr none, .inr none, .inr none, .inl 0, .inr none, .inl 0, .inl 0, .inl 0, .inl 0, .inl 0, .inl 0, .inl 0, .inr none, .inr none, .inr none, .inl 0, .inr none, .inr none, .inr none, .inr none, .inr none, .inr none, .inl 0, .inr none, .inr none, .inr none, .inr none, .inr none, .inr none, .inr none, .inr none, .inl 0] : List pc_V).map (pc_tv id)) hx hb hts wiX11 tyX11 tyX11_ok hown (hts _ cw_1011) (hts _ cw_1012) (hts _ cw_92) hK hH1.2.1 hH1.2.2.1 hH1.2.2.2 hA vcX11 (by decide +kernel) (by show 0 + 1 + k2 + 1 ≤ 600000; omega) (by show 0 + 14 + k3 + 33 ≤ 7302250; omega) (show decode code 8 = .ok (.new 10, 3) by decide +kernel) (fun q1 H2 hP hD hS => ?_)
  obtain ⟨ad2, h1, h2, hH2⟩ := pc_grow hH1 (e := hs_m) (st_okf rfl) (fun _ => rfl) hP hD hS
  have hq1 : ad2 72 = q1 := by rw [← ev_1l]; exact h2
  subst hq1
  refine lv_dup hx hb (show decode code 11 = .ok (.dup, 1) by decide +kernel) rfl ?_
  refine pc_callI (rk := 17) (as := []) (a := 72) (ad := ad2) (rest := [.ref (ad2 72)]) hx hb hml hown hts hK hao (Nat.le_of_ble_eq_true rfl) (Nat.le_of_ble_eq_true rfl) hA hX hbl0 hbA (show decode code 12 = .ok (.invokespecial 12, 3) by decide +kernel) cti_X11_init mi_X11_init cw_1013 (by decide) ev_2 (fun v hv => by rw [List.mem_singleton] at hv; subst hv; show 72 < (k1 ++ [hs_m]).length; rw [List.length_append, ev_1l]; decide) hH2 rfl hl.1 (Nat.le_of_ble_eq_true rfl) (by show 0 + 1 + k2 + 1 + r2 ≤ 600000; omega) (by show 0 + 14 + k3 + 33 + r3 ≤ 7302250; omega) (fun ad3 H3 locs3 g1' g3' hH3 => ?_)
  have hlen : (k1 ++ [hs_m]).length = 73 := by show (k1 ++ [hs_m]).length = 73; rw [List.length_append, ev_1l]; rfl
  have e72 : ad2 72 = ad3 72 := (g1' 72 (by show 72 < (k1 ++ [hs_m]).length; rw [hlen]; decide)).symm
  have e0 : ad1 0 = ad3 0 := by rw [g1' 0 (by show 0 < (k1 ++ [hs_m]).length; rw [hlen]; decide), h1 0 (by rw [ev_1l]; decide)]
  rw [e0] at hl
  rw [e72]
  refine lv_astore_n (lv' := [(2, .ref (ad3 72)), (1, .ref (ad3 0)), (0, .ref b)]) hx hb (show decode code 15 = .ok (.astore_n 2, 1) by decide +kernel) rfl hl (by decide) rfl (fun ls hl => ?_)
  refine lv_iconst (v := 0) hx hb (show decode code 16 = .ok (.iconst 0, 1) by decide +kernel) (by decide) ?_
  refine lv_istore_n (lv' := [(3, .int 0), (2, .ref (ad3 72)), (1, .ref (ad3 0)), (0, .ref b)]) hx hb (show decode code 17 = .ok (.istore_n 3, 1) by decide +kernel) rfl hl (by decide) rfl (fun ls hl => ?_)
  obtain ⟨m', hm'⟩ := hlaw L xs hL
  have hC : pj_C ((G.1, ad3, G.2.2), (fun q : Nat => s.heap.size ≤ q), (c_L_law, RL, 4, (some .boolean), 17), (p, l, e, room_1), (s, m, #[Value.ref b], below, meth, c), (0 + 1 + k2 + 1 + r2, 0 + 14 + k3 + 33 + r3, Q)) :=
    ⟨hx, hb, hml, hown, hts, hK, va_Nw.of rfl (hts0 _ st_w4), Nat.le_of_ble_eq_true rfl, Nat.le_of_ble_eq_true rfl, n1, n2, hX, hbl0, hbA⟩
  refine sg_L_law_18 (nS := L) (xS := xs) hC (by show G.2.2.2.2.1 = L; rw [hG]) (by show G.2.2.2.2.2 = xs; rw [hG]) pj_z [some (.inr (.inr (5, 0, 0))), some (.inr (.inr (0, 10, 0))), some (.inr (.inr (0, 11, 72))), some (.inl 0)] [] m_init (1, m') hm' ?_ ls H3 locs3 ?_ ⟨st_world rfl hckk hH3.2.1, ?_, hH3.2.2.2⟩
  · intro pc ls H locs hrd hov hH
    refine va_forget (fun q hq => hH.2.2.2.2 q hq) ?_
    exact W.widen n1 n2 (hret pc H ls hrd.1)
  · refine ⟨hl.1, hl.2.1, rfl, fun i v hv => ?_, fun v hv => by cases hv⟩
    match i, hv with
    | 0, hv => cases hv; exact ⟨by show ls[0]? = some (Slot.val (.ref G.2.2.2.1)); rw [hgb]; exact lv_at hl 3 rfl, Or.inl rfl⟩
    | 1, hv => cases hv; exact ⟨lv_at hl 2 rfl, Or.inr (by decide +kernel)⟩
    | 2, hv => cases hv; exact ⟨lv_at hl 1 rfl, Or.inr (by decide +kernel)⟩
    | 3, hv => cases hv; exact ⟨lv_at hl 0 rfl, trivial⟩
    | k + 4, hv => simp at hv
  · have hD3 := hH3.2.2.1
    refine ⟨fun i j p q hp hq hpq => ?_, fun k q hk => ?_⟩
    · obtain ⟨t1, h1, rfl⟩ := pj_ws_of hp
      obtain ⟨t2, h2, rfl⟩ := pj_ws_of hq
      exact hD3.1 i j _ _ (pc_ws_at (List.getElem?_eq_getElem (by rw [ev_2l]; exact pj_lay_lt h1))) (pc_ws_at (List.getElem?_eq_getElem (by rw [ev_2l]; exact pj_lay_lt h2))) hpq
    · obtain ⟨t1, h1, rfl⟩ := pj_ws_of hk
      have hkl : k < r1.length := by rw [ev_2l]; exact pj_lay_lt h1
      exact hD3.2 k (ad3 k, pc_te G ad3 r1[k]) (pc_ws_at (List.getElem?_eq_getElem hkl))
