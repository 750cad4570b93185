/-! ===== B: what a program's command does ===== -/
def sl (V : zM) (v : Int) : Int := fi (V 3) v (V 0 3).toNat 0
theorem sl_spec {V : zM} {v : Int} (t0 : 0 ≤ V 0 3) : sl V v = -1 ∨ (0 ≤ sl V v ∧ sl V v < V 0 3) := by
  have h := fi_spec (w := V 3) (v := v) (V 0 3).toNat 0 (Int.le_refl _)
  unfold sl
  rcases h with h | h
  · exact Or.inr ⟨h.1, by omega⟩
  · exact Or.inl h.1
theorem h6slot {N : Int} {m V : zM} {v : Int} (w : WF N V) (e : HEq6 (hv m 1) V) : qH_slotOf m 1 v = some (sl V v) := by
  have t0 := w.t0
  have t6 := w.t6
  have e3 : m 1 3 = V 0 3 := e.1.2.1
  rw [slotOf_eq (by omega) (by omega), e3]
  exact congrArg some (fi_congr _ _ fun j h0 h1 => e.tok (k := 3) (by decide) ⟨h0, by omega⟩)
theorem h6slotIn {N : Int} {m V : zM} {f : Int} (w : WF N V) (e : HEq6 (hv m 1) V) : qH_slotIn m 1 f = some (fi (V 9) f (V 0 3).toNat 0) := by
  have t0 := w.t0
  have t6 := w.t6
  have e3 : m 1 3 = V 0 3 := e.1.2.1
  rw [slotIn_eq (by omega) (by omega), e3]
  exact congrArg some (fi_congr _ _ fun j h0 h1 => e.tok (k := 9) (by decide) ⟨h0, by omega⟩)
theorem slM {N : Int} {m V : zM} {v : Int} (w : WF N V) (r : RowIs (m 143) V) : qM_place m v = some (sl V v) := place_eq r w.t0 w.t6
/-- what each command asks for -/
def A0 (V : zM) (a b : Int) : Prop := ((0 ≤ a ∧ a ≤ 5) ∧ 1 ≤ b ∧ b ≤ 99) ∧ V 0 0 < 6
def A1 (V : zM) (a b c d : Int) : Prop := ((1 ≤ a ∧ a ≤ 50) ∧ (0 ≤ b ∧ b ≤ 5) ∧ (1 ≤ c ∧ c ≤ 40) ∧ 0 ≤ d ∧ d ≤ 99) ∧ V 0 3 < 6
def A2 (V : zM) (a b : Int) : Prop := sl V a ≠ -1 ∧ inF V b ∧ V 9 (sl V a) = -1 ∧ fi (V 9) b (V 0 3).toNat 0 = -1 ∧ ¬ V 7 (sl V a) < V 2 b
def A3 (V : zM) (a : Int) : Prop := sl V a ≠ -1 ∧ V 9 (sl V a) ≠ -1
def A4 (V : zM) (a b : Int) : Prop := inF V a ∧ 1 ≤ b ∧ b ≤ 99
def A5 (V : zM) (a b : Int) : Prop := sl V a ≠ -1 ∧ 1 ≤ b ∧ b ≤ 99
def A7 (a : Int) : Prop := 1 ≤ a ∧ a ≤ 24
def CFr (m m' : zM) : Prop := ∀ q : Nat, (q < 1 ∨ 11 ≤ q) → (q < 113 ∨ 136 ≤ q) → m' q = m q
def MFr (m m' : zM) : Prop := ∀ q : Nat, q ≠ 143 → q ≠ 148 → q ≠ 149 → m' q = m q
theorem r0C {N : Int} {m V : zM} {a b : Int} (e : HEq6 (hv m 1) V) : ∃ r, qH_refusalOfFlat m 1 a b = some r ∧ (0 ≤ r ∧ r < 6) ∧ (r = 0 ↔ A0 V a b) := by
  have e0 : m 1 0 = V 0 0 := e.1.1
  rw [refFlat_eq, e0]
  refine ⟨_, rfl, ?_⟩
  unfold A0
  by_cases h1 : (0 ≤ a ∧ a ≤ 5) ∧ 1 ≤ b ∧ b ≤ 99
  · rw [if_pos h1]
    by_cases h2 : V 0 0 < 6
    · rw [if_pos h2]; exact ⟨by omega, fun _ => ⟨h1, h2⟩, fun _ => rfl⟩
    · rw [if_neg h2]; exact ⟨by omega, fun z => absurd z (by decide), fun z => absurd z.2 h2⟩
  · rw [if_neg h1]; exact ⟨by omega, fun z => absurd z (by decide), fun z => absurd z.1 h1⟩
theorem r0M {N : Int} {m V : zM} {a b : Int} (w : WF N V) (r : RowIs (m 143) V) : ∃ x, qM_notFlat m a b = some x ∧ (x = 0 ↔ A0 V a b) := by
  have n6 := w.n6
  rw [notFlat_eq, r.n]
  refine ⟨_, rfl, ?_⟩
  unfold A0
  by_cases h1 : (0 ≤ a ∧ a ≤ 5) ∧ 1 ≤ b ∧ b ≤ 99
  · rw [if_pos h1]
    by_cases h2 : V 0 0 = 6
    · rw [if_pos h2]; exact ⟨fun z => absurd z (by decide), fun z => by omega⟩
    · rw [if_neg h2]; exact ⟨fun _ => ⟨h1, by omega⟩, fun _ => rfl⟩
  · rw [if_neg h1]; exact ⟨fun z => absurd z (by decide), fun z => absurd z.1 h1⟩
theorem p0C {N : Int} {m V : zM} {a b : Int} (w : WF N V) (e : HEq6 (hv m 1) V) (h : A0 V a b) : ∃ x m', qH_buildFlat m 1 a b = some (x, m') ∧ HEq6 (hv m' 1) (vAddFlat V a b) ∧ CFr m m' := by
  have e0 : m 1 0 = V 0 0 := e.1.1
  have n0 := w.n0
  rw [build_eq (by omega) (by have := h.2; omega), e0]
  refine ⟨_, _, rfl, ?_, fun q q1 _ => funext fun j => by rw [st_k (by omega), st_k (by omega), st_k (by omega)]⟩
  rw [hv_st0, hv_st, hv_st]
  exact e.upd.upd.upd
theorem p0M {N : Int} {m V : zM} {a b : Int} (w : WF N V) (r : RowIs (m 143) V) (h : A0 V a b) : ∃ x m', qM_addsFlat m a b = some (x, m') ∧ RowIs (m' 143) (vAddFlat V a b) ∧ MFr m m' := by
  have n0 := w.n0
  have rn := r.n
  have h2 := h.2
  rw [addsFlat_eq (by omega) (by omega), rn]
  refine ⟨_, _, rfl, addFlat_row r n0 ?_ ?_ st_at h.2 (fun i i0 i1 i2 => ?_), fun q q1 _ _ => funext fun j => by rw [st_k q1, st_k q1, st_k q1]⟩
  · rw [st_i (by omega), st_i (by omega), st_at]
  · rw [st_i (by omega), st_at]
  · rw [st_i i2, st_i i1, st_i i0]
theorem r1C {N : Int} {m V : zM} {a b c d : Int} (e : HEq6 (hv m 1) V) : ∃ r, qH_refusalOfTenant m 1 a b c d = some r ∧ (0 ≤ r ∧ r < 6) ∧ (r = 0 ↔ A1 V a b c d) := by
  have e3 : m 1 3 = V 0 3 := e.1.2.1
  rw [refTenant_eq, e3]
  refine ⟨_, rfl, ?_⟩
  unfold A1
  by_cases h1 : (1 ≤ a ∧ a ≤ 50) ∧ (0 ≤ b ∧ b ≤ 5) ∧ (1 ≤ c ∧ c ≤ 40) ∧ 0 ≤ d ∧ d ≤ 99
  · rw [if_pos h1]
    by_cases h2 : V 0 3 < 6
    · rw [if_pos h2]; exact ⟨by omega, fun _ => ⟨h1, h2⟩, fun _ => rfl⟩
    · rw [if_neg h2]; exact ⟨by omega, fun z => absurd z (by decide), fun z => absurd z.2 h2⟩
  · rw [if_neg h1]; exact ⟨by omega, fun z => absurd z (by decide), fun z => absurd z.1 h1⟩
theorem r1M {N : Int} {m V : zM} {a b c d : Int} (w : WF N V) (r : RowIs (m 143) V) : ∃ x, qM_notTenant m a b c d = some x ∧ (x = 0 ↔ A1 V a b c d) := by
  have t6 := w.t6
  rw [notTenant_eq, r.t]
  refine ⟨_, rfl, ?_⟩
  unfold A1
  by_cases h1 : (1 ≤ a ∧ a ≤ 50) ∧ (0 ≤ b ∧ b ≤ 5) ∧ (1 ≤ c ∧ c ≤ 40) ∧ 0 ≤ d ∧ d ≤ 99
  · rw [if_pos h1]
    by_cases h2 : V 0 3 = 6
    · rw [if_pos h2]; exact ⟨fun z => absurd z (by decide), fun z => by omega⟩
    · rw [if_neg h2]; exact ⟨fun _ => ⟨h1, by omega⟩, fun _ => rfl⟩
  · rw [if_neg h1]; exact ⟨fun z => absurd z (by decide), fun z => absurd z.1 h1⟩
theorem p1C {N : Int} {m V : zM} {a b c d : Int} (hN : N ≤ 1000000000) (w : WF N V) (e : HEq6 (hv m 1) V) (h : A1 V a b c d) : ∃ x m', qH_welcome m 1 a b c d = some (x, m') ∧ HEq6 (hv m' 1) (vAddTenant V a b c d) ∧ CFr m m' := by
  have e3 : m 1 3 = V 0 3 := e.1.2.1
  have e4 : m 1 4 = V 0 4 := e.1.2.2.1
  have e15 : m 1 15 = V 0 15 := e.1.2.2.2.2.2.2.1
  have t0 := w.t0
  have nx := w.nx
  have rc := w.rc
  have h2 := h.2
  rw [welcome_eq (by omega) (by omega) (by omega) (by omega) h.1.2.2.2, e3, e4, e15]
  refine ⟨_, _, rfl, ?_, fun q q1 _ => funext fun j => by simp (disch := omega) only [st_k]⟩
  simp only [hv_st, hv_st0]
  exact HEq6.upd (HEq6.upd (HEq6.upd (HEq6.upd (HEq6.upd (HEq6.upd (HEq6.upd (HEq6.upd (HEq6.upd (HEq6.upd e)))))))))
theorem p1M {N : Int} {m V : zM} {a b c d : Int} (hN : N ≤ 1000000000) (w : WF N V) (r : RowIs (m 143) V) (h : A1 V a b c d) : ∃ x m', qM_addsTenant m a b c d = some (x, m') ∧ RowIs (m' 143) (vAddTenant V a b c d) ∧ MFr m m' := by
  have t0 := w.t0
  have nx := w.nx
  have rc := w.rc
  have h2 := h.2
  have rt := r.t
  have rx := r.nx
  have rr := r.rc
  obtain ⟨m6, p1, p2, p3, p4, p5, s0, s1, s2, s3, s4, s5, s6, po⟩ := addsTenant_eq (μ := m) (a := a) (b := b) (c := c) (d := d) (by omega) (by omega) (by omega) (by omega) h.1.2.2.2
  rw [rt] at p3 s0 s1 s2 s3 s4 s5 s6 po
  rw [rx] at p4 s0
  rw [rr] at p5
  exact ⟨_, m6, p1, addTenant_row r t0 h2 w.n0 w.n6 p3 p4 p5 s0 s1 s2 s3 s4 s5 s6 po, fun q q1 _ _ => p2 q q1⟩
theorem r2C {N : Int} {m V : zM} {a b : Int} (w : WF N V) (e : HEq6 (hv m 1) V) : ∃ r, qH_refusalOfMovingIn m 1 a b = some r ∧ (0 ≤ r ∧ r < 6) ∧ (r = 0 ↔ A2 V a b) := by
  have e0 : m 1 0 = V 0 0 := e.1.1
  have n6 := w.n6
  have t6 := w.t6
  have hs := sl_spec (V := V) (v := a) w.t0
  unfold qH_refusalOfMovingIn A2
  rw [h6slot w e, sBind, h6slotIn w e]
  generalize sl V a = s at hs
  by_cases h1 : s = -1
  · rw [if_pos h1]; exact ⟨1, rfl, by omega, fun z => absurd z (by decide), fun z => absurd h1 z.1⟩
  have hs2 := hs.resolve_left h1
  have cs : 0 ≤ s ∧ s < 6 := by omega
  rw [if_neg h1, hasFlat_eq, sBind, e0]
  by_cases h2 : 0 ≤ b ∧ b < V 0 0
  case neg =>
    rw [if_neg h2, if_pos rfl]; exact ⟨2, rfl, by omega, fun z => absurd z (by decide), fun z => absurd z.2.1 h2⟩
  have cb : 0 ≤ b ∧ b < 6 := by omega
  have e9 : m (1 + 9) s = V 9 s := e.tok (k := 9) (by decide) cs
  have e7 : m (1 + 7) s = V 7 s := e.tok (k := 7) (by decide) cs
  have e2 : m (1 + 2) b = V 2 b := e.tok (k := 2) (by decide) cb
  rw [if_pos h2, if_neg (show ¬ (1 : Int) = 0 by decide), if_pos cs, e9]
  by_cases h3 : V 9 s = -1
  case neg =>
    rw [if_neg h3]; exact ⟨_, rfl, by decide, fun z => absurd z (by decide), fun z => absurd z.2.2.1 h3⟩
  rw [if_pos h3, sBind]
  by_cases h4 : fi (V 9) b (V 0 3).toNat 0 = -1
  case neg =>
    rw [if_neg h4]; exact ⟨_, rfl, by decide, fun z => absurd z (by decide), fun z => absurd z.2.2.2.1 h4⟩
  rw [if_pos h4, canAfford_eq cs cb, sBind, e7, e2]
  by_cases h5 : V 7 s < V 2 b
  · rw [if_pos h5, if_pos rfl]; exact ⟨_, rfl, by decide, fun z => absurd z (by decide), fun z => absurd h5 z.2.2.2.2⟩
  · rw [if_neg h5, if_neg (show ¬ (1 : Int) = 0 by decide)]
    exact ⟨_, rfl, by decide, fun _ => ⟨h1, h2, h3, h4, h5⟩, fun _ => rfl⟩
theorem r2M {N : Int} {m V : zM} {a b : Int} (w : WF N V) (r : RowIs (m 143) V) : ∃ x, qM_notIn m a b = some x ∧ (x = 0 ↔ A2 V a b) := by
  have n0 := w.n0
  have n6 := w.n6
  have t0 := w.t0
  have t6 := w.t6
  have rn := r.n
  have hs := sl_spec (V := V) (v := a) w.t0
  unfold qM_notIn A2
  rw [slM w r, sBind]
  generalize sl V a = s at hs
  by_cases h1 : s = -1
  · rw [if_pos (by omega)]; exact ⟨1, rfl, fun z => absurd z (by decide), fun z => absurd h1 z.1⟩
  have hs2 := hs.resolve_left h1
  have cs : 0 ≤ s ∧ s < 6 := by omega
  rw [if_neg (by omega), isFlat_eq (by omega), sBind, rn]
  by_cases h2 : 0 ≤ b ∧ b < V 0 0
  case neg =>
    rw [if_neg h2, if_pos rfl]; exact ⟨2, rfl, fun z => absurd z (by decide), fun z => absurd z.2.1 h2⟩
  have r6 := (r.tn s hs2.1 hs2.2).2.2.2.2.2.2
  have hb := (w.tn s hs2.1 hs2.2).2.2.2.2.2.1
  rw [if_pos h2, if_neg (show ¬ (1 : Int) = 0 by decide), of_eq cs (by decide), sBind, show 20 + 7 * s + 6 = 26 + 7 * s by omega, r6]
  by_cases h3 : V 9 s = -1
  case neg =>
    rw [if_pos (by omega)]; exact ⟨_, rfl, fun z => absurd z (by decide), fun z => absurd z.2.2.1 h3⟩
  have hos := fi_spec (w := V 9) (v := b) (V 0 3).toNat 0 (Int.le_refl _)
  rw [if_neg (by omega), occupant_eq r t0 t6 (by omega), sBind]
  by_cases h4 : fi (V 9) b (V 0 3).toNat 0 = -1
  case neg =>
    rw [if_neg (by omega)]; exact ⟨_, rfl, fun z => absurd z (by decide), fun z => absurd z.2.2.2.1 h4⟩
  rw [if_pos (by omega), affords_eq r hs2 t6 h2 n6, sBind]
  by_cases h5 : V 7 s < V 2 b
  · rw [if_pos h5, if_pos rfl]; exact ⟨_, rfl, fun z => absurd z (by decide), fun z => absurd h5 z.2.2.2.2⟩
  · rw [if_neg h5, if_neg (show ¬ (1 : Int) = 0 by decide)]
    exact ⟨_, rfl, fun _ => ⟨h1, h2, h3, h4, h5⟩, fun _ => rfl⟩
theorem w2 {N : Int} {V : zM} {a b : Int} (w : WF N V) (h : A2 V a b) : WF N (st V 9 (sl V a) b) :=
  home_wf w ⟨by have := h.2.1.1; omega, h.2.1.2⟩ (fun j h0 h1 _ hj => absurd hj ((fi_no (Or.inr trivial) (V 0 3).toNat).mp h.2.2.2.1 j h0 (by omega)))
theorem p2C {N : Int} {m V : zM} {a b : Int} (w : WF N V) (e : HEq6 (hv m 1) V) (h : A2 V a b) : ∃ x m', (Option.bind (qH_slotOf m 1 a) fun a3 => qH_lodge m 1 a3 b) = some (x, m') ∧ HEq6 (hv m' 1) (st V 9 (sl V a) b) ∧ CFr m m' := by
  have t6 := w.t6
  have e0 : m 1 0 = V 0 0 := e.1.1
  have e3 : m 1 3 = V 0 3 := e.1.2.1
  have hs := (sl_spec (V := V) (v := a) w.t0).resolve_left h.1
  have h6 : HEq6 (hv (st m (1 + 9) (sl V a) b) 1) (st V 9 (sl V a) b) := by rw [hv_st]; exact e.upd
  have q1 : (st m (1 + 9) (sl V a) b) 1 = m 1 := funext fun j => st_k (by decide)
  unfold qH_lodge
  rw [h6slot w e, sBind, if_pos (show 0 ≤ sl V a ∧ sl V a < 6 by omega), sBind, burdenFor_eq (h6.wf (w2 w h)) (by rw [q1, e3]; exact hs) (by rw [q1, e0]; exact h.2.1), sBind]
  exact ⟨_, _, rfl, h6, fun q q1 _ => funext fun j => st_k (by omega)⟩
theorem p2M {N : Int} {m V : zM} {a b : Int} (w : WF N V) (r : RowIs (m 143) V) (h : A2 V a b) : ∃ x m', qM_movesIn m a b = some (x, m') ∧ RowIs (m' 143) (st V 9 (sl V a) b) ∧ MFr m m' := by
  have n6 := w.n6
  have t6 := w.t6
  have hs := (sl_spec (V := V) (v := a) w.t0).resolve_left h.1
  have hb0 := h.2.1.1
  have hb1 := h.2.1.2
  have r8 : RowIs ((st m 143 (26 + 7 * sl V a) (b + 1)) 143) (st V 9 (sl V a) b) := home_row r n6 hs.1 st_at (fun i hi => st_i hi)
  have hsl : sl (st V 9 (sl V a) b) a = sl V a := by
    unfold sl
    rw [st_k (show (0 : Nat) ≠ 9 by decide)]
    exact fi_congr _ _ fun j _ _ => st_k (by decide)
  unfold qM_movesIn
  rw [slM w r, sBind, wr_n (x := b + 1) (by omega) (by omega), puts_eq (by omega) (by decide), sBind, show 20 + 7 * sl V a + 6 = 26 + 7 * sl V a by omega, slM (w2 w h) r8, hsl, sBind, burdenOf_eq (w2 w h) r8 hs h.2.1, sBind]
  exact ⟨_, _, rfl, r8, fun q q1 _ _ => funext fun j => st_k q1⟩
theorem r3C {N : Int} {m V : zM} {a : Int} (w : WF N V) (e : HEq6 (hv m 1) V) : ∃ r, qH_refusalOfMovingOut m 1 a = some r ∧ (0 ≤ r ∧ r < 6) ∧ (r = 0 ↔ A3 V a) := by
  have t6 := w.t6
  have hs := sl_spec (V := V) (v := a) w.t0
  unfold qH_refusalOfMovingOut A3
  rw [h6slot w e, sBind]
  generalize sl V a = s at hs
  by_cases h1 : s = -1
  · rw [if_pos h1]; exact ⟨1, rfl, by omega, fun z => absurd z (by decide), fun z => absurd h1 z.1⟩
  have cs : 0 ≤ s ∧ s < 6 := by omega
  have e9 : m (1 + 9) s = V 9 s := e.tok (k := 9) (by decide) cs
  rw [if_neg h1, if_pos cs, e9]
  by_cases h3 : V 9 s = -1
  · rw [if_pos h3]; exact ⟨_, rfl, by decide, fun z => absurd z (by decide), fun z => absurd h3 z.2⟩
  · rw [if_neg h3]; exact ⟨_, rfl, by decide, fun _ => ⟨h1, h3⟩, fun _ => rfl⟩
theorem r3M {N : Int} {m V : zM} {a : Int} (w : WF N V) (r : RowIs (m 143) V) : ∃ x, qM_notOut m a = some x ∧ (x = 0 ↔ A3 V a) := by
  rw [notOut_eq w r]
  refine ⟨_, rfl, ?_⟩
  show (if sl V a = -1 then (1 : Int) else if V 9 (sl V a) = -1 then 2 else 0) = 0 ↔ A3 V a
  unfold A3
  by_cases h1 : sl V a = -1
  · rw [if_pos h1]; exact ⟨fun z => absurd z (by decide), fun z => absurd h1 z.1⟩
  · rw [if_neg h1]
    by_cases h3 : V 9 (sl V a) = -1
    · rw [if_pos h3]; exact ⟨fun z => absurd z (by decide), fun z => absurd h3 z.2⟩
    · rw [if_neg h3]; exact ⟨fun _ => ⟨h1, h3⟩, fun _ => rfl⟩
theorem p3C {N : Int} {m V : zM} {a : Int} (w : WF N V) (e : HEq6 (hv m 1) V) (h : A3 V a) : ∃ x m', (Option.bind (qH_slotOf m 1 a) fun a3 => qH_leaveHome m 1 a3) = some (x, m') ∧ HEq6 (hv m' 1) (vLeave V (sl V a)).1 ∧ CFr m m' := by
  have e3 : m 1 3 = V 0 3 := e.1.2.1
  have hs := (sl_spec (V := V) (v := a) w.t0).resolve_left h.1
  have l := h6leave e (x := sl V a) (e.wf w) (by rw [e.1.2.1]; exact hs)
  obtain ⟨m', p1, p2, p3⟩ := leaveHome_eq (μ := m) (h := 1) (x := sl V a) (e.wf w) (by rw [e3]; exact hs)
  rw [h6slot w e, sBind, p1]
  exact ⟨_, m', rfl, by rw [p2]; exact l.2, fun q q1 _ => p3 q (by omega) (by omega)⟩
theorem p3M {N : Int} {m V : zM} {a : Int} (w : WF N V) (r : RowIs (m 143) V) (h : A3 V a) : ∃ x m', (Option.bind (qM_place m a) fun a6 => bnd2 (qM_leaves m a6) fun a7 m7 => some (a7, m7)) = some (x, m') ∧ RowIs (m' 143) (vLeave V (sl V a)).1 ∧ MFr m m' := by
  have hs := (sl_spec (V := V) (v := a) w.t0).resolve_left h.1
  obtain ⟨m', p1, p2, p3⟩ := leaves_eq (m := m) (x := sl V a) w r hs
  rw [slM w r, sBind, p1, sBnd2]
  exact ⟨_, m', rfl, p2, fun q q1 _ _ => p3 q q1⟩
theorem r4C {N : Int} {m V : zM} {a b : Int} (e : HEq6 (hv m 1) V) : ∃ r, qH_refusalOfRent m 1 a b = some r ∧ (0 ≤ r ∧ r < 6) ∧ (r = 0 ↔ A4 V a b) := by
  have e0 : m 1 0 = V 0 0 := e.1.1
  unfold qH_refusalOfRent A4
  rw [hasFlat_eq, sBind, e0]
  by_cases h2 : 0 ≤ a ∧ a < V 0 0
  case neg =>
    rw [if_neg h2, if_pos rfl]; exact ⟨_, rfl, by decide, fun z => absurd z (by decide), fun z => absurd z.1 h2⟩
  rw [if_pos h2, if_neg (show ¬ (1 : Int) = 0 by decide), within_eq, sBind]
  by_cases h3 : 1 ≤ b ∧ b ≤ 99
  · rw [if_pos h3, if_neg (show ¬ (1 : Int) = 0 by decide)]; exact ⟨_, rfl, by decide, fun _ => ⟨h2, h3⟩, fun _ => rfl⟩
  · rw [if_neg h3, if_pos rfl]; exact ⟨_, rfl, by decide, fun z => absurd z (by decide), fun z => absurd z.2 h3⟩
theorem r4M {N : Int} {m V : zM} {a b : Int} (w : WF N V) (r : RowIs (m 143) V) : ∃ x, qM_notRent m a b = some x ∧ (x = 0 ↔ A4 V a b) := by
  have n0 := w.n0
  have n6 := w.n6
  have rn := r.n
  unfold qM_notRent A4
  rw [isFlat_eq (by omega), sBind, rn]
  by_cases h2 : 0 ≤ a ∧ a < V 0 0
  case neg =>
    rw [if_neg h2, if_pos rfl]; exact ⟨_, rfl, fun z => absurd z (by decide), fun z => absurd z.1 h2⟩
  rw [if_pos h2, if_neg (show ¬ (1 : Int) = 0 by decide), between_eq, sBind]
  by_cases h3 : 1 ≤ b ∧ b ≤ 99
  · rw [if_pos h3, if_neg (show ¬ (1 : Int) = 0 by decide)]; exact ⟨_, rfl, fun _ => ⟨h2, h3⟩, fun _ => rfl⟩
  · rw [if_neg h3, if_pos rfl]; exact ⟨_, rfl, fun z => absurd z (by decide), fun z => absurd z.2 h3⟩
theorem p4C {N : Int} {m V : zM} {a b : Int} (w : WF N V) (e : HEq6 (hv m 1) V) (h : A4 V a b) : ∃ x m', qH_changeRent m 1 a b = some (x, m') ∧ HEq6 (hv m' 1) (st V 2 a b) ∧ CFr m m' := by
  have n6 := w.n6
  have ha0 := h.1.1
  have ha1 := h.1.2
  unfold qH_changeRent
  rw [if_pos (by omega), if_pos (by omega), sBind]
  refine ⟨_, _, rfl, ?_, fun q q1 _ => funext fun j => st_k (by omega)⟩
  rw [hv_st]
  exact e.upd
theorem p4M {N : Int} {m V : zM} {a b : Int} (w : WF N V) (r : RowIs (m 143) V) (h : A4 V a b) : ∃ x m', qM_setsRent m a b = some (x, m') ∧ RowIs (m' 143) (st V 2 a b) ∧ MFr m m' := by
  have n6 := w.n6
  have ha0 := h.1.1
  have ha1 := h.1.2
  unfold qM_setsRent
  rw [flat_eq (by omega) (by decide), sBind, wr_n (x := 2 * a) (by omega) (by omega), wr_n (x := 8 + 2 * a) (by omega) (by omega), wr_n (x := 8 + 2 * a + 1) (by omega) (by omega), if_pos (by omega), sBind]
  exact ⟨_, _, rfl, setRent_row r n6 (by omega) (by rw [show 9 + 2 * a = 8 + 2 * a + 1 by omega, st_at]) (fun i hi => st_i (by omega)), fun q q1 _ _ => funext fun j => st_k q1⟩
theorem r5C {N : Int} {m V : zM} {a b : Int} (w : WF N V) (e : HEq6 (hv m 1) V) : ∃ r, qH_refusalOfGift m 1 a b = some r ∧ (0 ≤ r ∧ r < 6) ∧ (r = 0 ↔ A5 V a b) := by
  unfold qH_refusalOfGift A5
  rw [h6slot w e, sBind]
  by_cases h1 : sl V a = -1
  · rw [if_pos h1]; exact ⟨_, rfl, by decide, fun z => absurd z (by decide), fun z => absurd h1 z.1⟩
  rw [if_neg h1, within_eq, sBind]
  by_cases h3 : 1 ≤ b ∧ b ≤ 99
  · rw [if_pos h3, if_neg (show ¬ (1 : Int) = 0 by decide)]; exact ⟨_, rfl, by decide, fun _ => ⟨h1, h3⟩, fun _ => rfl⟩
  · rw [if_neg h3, if_pos rfl]; exact ⟨_, rfl, by decide, fun z => absurd z (by decide), fun z => absurd z.2 h3⟩
theorem r5M {N : Int} {m V : zM} {a b : Int} (w : WF N V) (r : RowIs (m 143) V) : ∃ x, qM_notGive m a b = some x ∧ (x = 0 ↔ A5 V a b) := by
  have hs := sl_spec (V := V) (v := a) w.t0
  unfold qM_notGive A5
  rw [slM w r, sBind]
  by_cases h1 : sl V a = -1
  · rw [if_pos (by omega)]; exact ⟨_, rfl, fun z => absurd z (by decide), fun z => absurd h1 z.1⟩
  rw [if_neg (by omega), between_eq, sBind]
  by_cases h3 : 1 ≤ b ∧ b ≤ 99
  · rw [if_pos h3, if_neg (show ¬ (1 : Int) = 0 by decide)]; exact ⟨_, rfl, fun _ => ⟨h1, h3⟩, fun _ => rfl⟩
  · rw [if_neg h3, if_pos rfl]; exact ⟨_, rfl, fun z => absurd z (by decide), fun z => absurd z.2 h3⟩
theorem p5C {N : Int} {m V : zM} {a b : Int} (hN : N ≤ 1000000000) (w : WF N V) (e : HEq6 (hv m 1) V) (h : A5 V a b) : ∃ x m', (Option.bind (qH_slotOf m 1 a) fun a8 => qH_receive m 1 a8 b) = some (x, m') ∧ HEq6 (hv m' 1) (vGive V (sl V a) b) ∧ CFr m m' := by
  have t6 := w.t6
  have hs := (sl_spec (V := V) (v := a) w.t0).resolve_left h.1
  have cs : 0 ≤ sl V a ∧ sl V a < 6 := by omega
  have e7 : m (1 + 7) (sl V a) = V 7 (sl V a) := e.tok (k := 7) (by decide) cs
  have e15 : m 1 15 = V 0 15 := e.1.2.2.2.2.2.2.1
  have pu := (w.tn _ hs.1 hs.2).2.2.2.1
  have rc := w.rc
  have hb := h.2
  rw [h6slot w e, sBind, receive_eq cs (by rw [e7]; unfold y_in; omega) (by rw [e15]; unfold y_inL; omega), e7, e15]
  refine ⟨_, _, rfl, ?_, fun q q1 _ => funext fun j => by rw [st_k (by omega), st_k (by omega)]⟩
  rw [hv_st0, hv_st]
  exact e.upd.upd
theorem p5M {N : Int} {m V : zM} {a b : Int} (hN : N ≤ 1000000000) (w : WF N V) (r : RowIs (m 143) V) (h : A5 V a b) : ∃ x m', qM_gives m a b = some (x, m') ∧ RowIs (m' 143) (vGive V (sl V a) b) ∧ MFr m m' := by
  have t6 := w.t6
  have hs := (sl_spec (V := V) (v := a) w.t0).resolve_left h.1
  have cs : 0 ≤ sl V a ∧ sl V a < 6 := by omega
  have pu := (w.tn _ hs.1 hs.2).2.2.2.1
  have rp := (r.tn _ hs.1 hs.2).2.2.2.2.1
  have rr := r.rc
  have rc := w.rc
  have hb := h.2
  unfold qM_gives
  rw [slM w r, sBind, of_eq cs (by decide), sBind, show 20 + 7 * sl V a + 4 = 24 + 7 * sl V a by omega, rp, wr_n (x := V 7 (sl V a) + b) (by omega) (by omega), puts_eq cs (by decide), sBind, show 20 + 7 * sl V a + 4 = 24 + 7 * sl V a by omega, st_i (show (7 : Int) ≠ 24 + 7 * sl V a by omega), rr, wr_n (x := V 0 15 + b) (by omega) (by omega), sBind, of_eq cs (by decide), sBind]
  exact ⟨_, _, rfl, give_row r w.n6 hs.1 (by omega) st_at (by rw [st_i (by omega), st_at]) (fun i i7 i1 => by rw [st_i i7, st_i i1]), fun q q1 _ _ => funext fun j => by rw [st_k q1, st_k q1]⟩
theorem r7C {m : zM} {a : Int} : ∃ r, qH_refusalOfMonths m 1 a = some r ∧ (0 ≤ r ∧ r < 6) ∧ (r = 0 ↔ A7 a) := by
  unfold qH_refusalOfMonths A7
  rw [within_eq, sBind]
  by_cases h3 : 1 ≤ a ∧ a ≤ 24
  · rw [if_pos h3, if_neg (show ¬ (1 : Int) = 0 by decide)]; exact ⟨_, rfl, by decide, fun _ => h3, fun _ => rfl⟩
  · rw [if_neg h3, if_pos rfl]; exact ⟨_, rfl, by decide, fun z => absurd z (by decide), fun z => absurd z h3⟩
theorem r7M {m : zM} {a : Int} : ∃ x, qM_notPass m a = some x ∧ (x = 0 ↔ A7 a) := by
  unfold qM_notPass A7
  rw [between_eq, sBind]
  by_cases h3 : 1 ≤ a ∧ a ≤ 24
  · rw [if_pos h3, if_neg (show ¬ (1 : Int) = 0 by decide)]; exact ⟨_, rfl, fun _ => h3, fun _ => rfl⟩
  · rw [if_neg h3, if_pos rfl]; exact ⟨_, rfl, fun z => absurd z (by decide), fun z => absurd z h3⟩
/-- the command k with the numbers a, b, c, d is allowed in V and leads to V' -/
def Next (V : zM) (k a b c d : Int) (V' : zM) : Prop :=
  (k = 0 ∧ A0 V a b ∧ V' = vAddFlat V a b) ∨ (k = 1 ∧ A1 V a b c d ∧ V' = vAddTenant V a b c d) ∨ (k = 2 ∧ A2 V a b ∧ V' = st V 9 (sl V a) b) ∨ (k = 3 ∧ A3 V a ∧ V' = (vLeave V (sl V a)).1) ∨
  (k = 4 ∧ A4 V a b ∧ V' = st V 2 a b) ∨ (k = 5 ∧ A5 V a b ∧ V' = vGive V (sl V a) b) ∨ (k = 6 ∧ ∃ p, Stb V p ∧ V' = lb V p (V 0 3)) ∨ (k = 7 ∧ A7 a ∧ V' = (vMonths a.toNat V 0).1)
theorem next_wf {N : Int} {V V' : zM} {k a b c d : Int} (w : WF N V) (h : Next V k a b c d V') : WF (N + 20000) V' := by
  rcases h with ⟨-, h, rfl⟩ | ⟨-, h, rfl⟩ | ⟨-, h, rfl⟩ | ⟨-, h, rfl⟩ | ⟨-, h, rfl⟩ | ⟨-, h, rfl⟩ | ⟨-, p, h, rfl⟩ | ⟨-, h, rfl⟩
  · exact (addFlat_wf w h.2 h.1.1 h.1.2).mono (by omega)
  · exact (addTenant_wf w h.2 h.1.1 h.1.2.1 h.1.2.2.1 h.1.2.2.2).mono (by omega)
  · exact (w2 w h).mono (by omega)
  · exact (leave_wf w ((sl_spec w.t0).resolve_left h.1)).mono (by omega)
  · exact (setRent_wf w h.2).mono (by omega)
  · exact (give_wf w ((sl_spec w.t0).resolve_left h.1) h.2).mono (by omega)
  · exact (lb_wf w h.1).mono (by omega)
  · have h24 := h.2
    exact (months_wf a.toNat w).mono (by omega)
