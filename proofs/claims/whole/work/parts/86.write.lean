/-! ===== B: writeFloor, writePlan, charAt, type ===== -/
def wflat (V : zM) (f : Int) : List Int := [32] ++ nl f ++ [61] ++ nl (V 2 f) ++ (if fi (V 9) f (V 0 3).toNat 0 = -1 then [] else [58] ++ nl (V 3 (fi (V 9) f (V 0 3).toNat 0)))
def wfs (V : zM) (g : Int) : Nat → Int → List Int
  | 0, _ => []
  | k+1, i => (if V 1 i = g then wflat V i else []) ++ wfs V g k (i + 1)
theorem fi_in {V : zM} {f : Int} (t0 : 0 ≤ V 0 3) (h : fi (V 9) f (V 0 3).toNat 0 ≠ -1) : 0 ≤ fi (V 9) f (V 0 3).toNat 0 ∧ fi (V 9) f (V 0 3).toNat 0 < V 0 3 := by
  rcases fi_spec (w := V 9) (v := f) (V 0 3).toNat 0 (Int.le_refl _) with z | z
  · omega
  · exact absurd z.1 h
theorem id_max {N : Int} {V : zM} {t : Int} (hN : N ≤ 1000000000) (w : WF N V) (ht : 0 ≤ t ∧ t < V 0 3) : 0 ≤ V 3 t ∧ V 3 t < pw 10 (9 + 1) ∧ V 3 t ≤ 1000000000 := by
  have h := w.id t ht.1 ht.2
  have nx := w.nx
  have hp : pw 10 (9 + 1) = 10000000000 := by decide
  omega
theorem wflat_len {N : Int} {V : zM} {f : Int} (hN : N ≤ 1000000000) (w : WF N V) (hf : inF V f) : (wflat V f).length ≤ 16 ∧ chr (wflat V f) := by
  have n6 := w.n6
  have h1 := nl_len (v := f) (d := 0) (by have := hf.2; show f < 10; omega)
  have h2 := nl_len (v := V 2 f) (d := 1) (by have := (w.fl f hf.1 hf.2).2; show V 2 f < 100; omega)
  unfold wflat
  by_cases h9 : fi (V 9) f (V 0 3).toNat 0 = -1
  · rw [if_pos h9]
    refine ⟨?_, chr_app (chr_app (chr_app (chr_app (chr_one (by decide)) nl_chr) (chr_one (by decide))) nl_chr) (fun c hc => absurd hc List.not_mem_nil)⟩
    simp only [List.length_append, List.length_cons, List.length_nil]
    omega
  · have hi := id_max hN w (fi_in w.t0 h9)
    have h3 := nl_len hi.2.1
    rw [if_neg h9]
    refine ⟨?_, chr_app (chr_app (chr_app (chr_app (chr_one (by decide)) nl_chr) (chr_one (by decide))) nl_chr) (chr_app (chr_one (by decide)) nl_chr)⟩
    simp only [List.length_append, List.length_cons, List.length_nil]
    omega
theorem wfs_len {N : Int} {V : zM} {g : Int} (hN : N ≤ 1000000000) (w : WF N V) : ∀ (k : Nat) (i : Int), i + k = V 0 0 → 0 ≤ i → (wfs V g k i).length ≤ 16 * k ∧ chr (wfs V g k i)
  | 0, _, _, _ => ⟨Nat.le_refl _, fun c hc => absurd hc List.not_mem_nil⟩
  | k+1, i, h1, h0 => by
    have ih := wfs_len (g := g) hN w k (i + 1) (by omega) (by omega)
    have hl := wflat_len hN w (f := i) ⟨h0, by omega⟩
    unfold wfs
    rw [List.length_append]
    by_cases hg : V 1 i = g
    · rw [if_pos hg]; exact ⟨by omega, chr_app hl.2 ih.2⟩
    · rw [if_neg hg]
      refine ⟨?_, chr_app (fun c hc => absurd hc List.not_mem_nil) ih.2⟩
      show 0 + _ ≤ _
      omega
theorem App.heq {μ m V : zM} {ws : List Int} (h : App 140 1 141 μ m ws) (e : HEq6 (hv μ 1) V) : HEq6 (hv m 1) V := HEq6.trans (HEq6.of_same fun q q1 q2 => h.2.2.2.1 q (by omega) (by omega)) e
theorem appendFlat_eq {N : Int} {V μ : zM} {f : Int} (hN : N ≤ 1000000000) (w : WF N V) (e : HEq6 (hv μ 1) V) (hf : inF V f) (hL : 0 ≤ μ 140 1 ∧ μ 140 1 ≤ 104) : ∃ m, qT_appendFlat μ f = some m ∧ App 140 1 141 μ m (wflat V f) := by
  have n6 := w.n6
  have t0 := w.t0
  have t6 := w.t6
  have hf0 := hf.1
  have hf1 := hf.2
  have hfl := w.fl f hf0 hf1
  have cf : 0 ≤ f ∧ f < 6 := by omega
  unfold qT_appendFlat wflat
  rw [appendX_eq (c := 32) ⟨hL.1, by omega⟩ (by decide), sBind]
  have a1 := app_one (a := 140) (b := 141) (la := 1) (μ := μ) (c := 32) (by decide)
  generalize st (st μ 141 (μ 140 1) 32) 140 1 (μ 140 1 + 1) = m1 at a1
  have l1 : m1 140 1 = μ 140 1 + 1 := a1.1
  obtain ⟨m2, p2, a2⟩ := appendNumber_eq (μ := m1) (t := 140) (v := f) (d := 0) hf0 (show f < 10 by omega) (by decide) (by omega) (by omega) (by omega)
  have n2 := nl_len (v := f) (d := 0) (show f < 10 by omega)
  have l2 := a2.1
  rw [p2, sBind, appendX_eq (c := 61) ⟨by omega, by omega⟩ (by decide), sBind]
  have a3 := app_one (a := 140) (b := 141) (la := 1) (μ := m2) (c := 61) (by decide)
  generalize st (st m2 141 (m2 140 1) 61) 140 1 (m2 140 1 + 1) = m3 at a3
  have l3 : m3 140 1 = m2 140 1 + 1 := a3.1
  have e3 := a3.heq (a2.heq (a1.heq e))
  have r3 : m3 3 f = V 2 f := e3.tok (k := 2) (by decide) cf
  obtain ⟨m4, p4, a4⟩ := appendNumber_eq (μ := m3) (t := 140) (v := V 2 f) (d := 1) (by omega) (show V 2 f < 100 by omega) (by decide) (by omega) (by omega) (by omega)
  have n4 := nl_len (v := V 2 f) (d := 1) (show V 2 f < 100 by omega)
  have l4 := a4.1
  have e4 := a4.heq e3
  have t4 : m4 1 3 = V 0 3 := e4.1.2.1
  have hsl : qH_slotIn m4 1 f = some (fi (V 9) f (V 0 3).toNat 0) := by
    rw [slotIn_eq (by rw [t4]; exact t0) (by rw [t4]; exact t6), t4]
    exact congrArg some (fi_congr _ _ fun j h0 h1 => e4.tok (k := 9) (by decide) ⟨h0, by omega⟩)
  rw [if_pos cf, r3, p4, sBind, hsl, sBind]
  have a14 := app_trans (app_trans (app_trans a1 a2) a3) a4
  by_cases h9 : fi (V 9) f (V 0 3).toNat 0 = -1
  · rw [if_pos h9, if_pos h9]
    exact ⟨m4, rfl, app_trans a14 app_nil⟩
  · have hfi := fi_in t0 h9
    have hid := id_max hN w hfi
    rw [if_neg h9, if_neg h9, appendX_eq (c := 58) ⟨by omega, by omega⟩ (by decide), sBind]
    have a5 := app_one (a := 140) (b := 141) (la := 1) (μ := m4) (c := 58) (by decide)
    generalize st (st m4 141 (m4 140 1) 58) 140 1 (m4 140 1 + 1) = m5 at a5
    have l5 : m5 140 1 = m4 140 1 + 1 := a5.1
    have r5 : m5 4 (fi (V 9) f (V 0 3).toNat 0) = V 3 (fi (V 9) f (V 0 3).toNat 0) := (a5.heq e4).tok (k := 3) (by decide) (by omega)
    obtain ⟨m6, p6, a6⟩ := appendNumber_eq (μ := m5) (t := 140) (v := V 3 (fi (V 9) f (V 0 3).toNat 0)) (d := 9) hid.1 hid.2.1 (by decide) hid.2.2 (by omega) (by omega)
    rw [if_pos (by omega), r5, p6, sBind]
    exact ⟨m6, rfl, app_trans a14 (app_trans a5 a6)⟩
theorem floorC_l {N : Int} {V : zM} {g : Int} (hN : N ≤ 1000000000) (w : WF N V) : ∀ (k n : Nat) (μ : zM) (i : Int), i + k = V 0 0 → 0 ≤ i → k < n → HEq6 (hv μ 1) V → 0 ≤ μ 140 1 → μ 140 1 + 16 * k ≤ 120 → ∃ m, qT_writeFloor_l45 g n μ i = some m ∧ App 140 1 141 μ m (wfs V g k i) := by
  have n6 := w.n6
  intro k
  induction k with
  | zero =>
    intro n μ i h1 h0 hn e hL0 hL
    obtain ⟨n, rfl⟩ : ∃ n', n = n' + 1 := ⟨n - 1, by omega⟩
    have e0 : μ 1 0 = V 0 0 := e.1.1
    unfold qT_writeFloor_l45
    rw [if_neg (by omega)]
    exact ⟨μ, rfl, app_nil⟩
  | succ k ih =>
    intro n μ i h1 h0 hn e hL0 hL
    obtain ⟨n, rfl⟩ : ∃ n', n = n' + 1 := ⟨n - 1, by omega⟩
    have e0 : μ 1 0 = V 0 0 := e.1.1
    have e1 : μ 2 i = V 1 i := e.tok (k := 1) (by decide) ⟨h0, by omega⟩
    unfold qT_writeFloor_l45 wfs
    rw [if_pos (by omega), if_pos (by omega), e1, wr_n (by omega) (by omega)]
    by_cases hg : V 1 i = g
    · obtain ⟨m1, p1, a1⟩ := appendFlat_eq hN w e (f := i) ⟨h0, by omega⟩ ⟨hL0, by omega⟩
      have hl := (wflat_len hN w (f := i) ⟨h0, by omega⟩).1
      have l1 := a1.1
      rw [if_pos hg, if_pos hg, p1, sBind]
      obtain ⟨m, u1, u2⟩ := ih n m1 (i + 1) (by omega) (by omega) (by omega) (a1.heq e) (by omega) (by omega)
      exact ⟨m, u1, app_trans a1 u2⟩
    · rw [if_neg hg, if_neg hg]
      exact ih n μ (i + 1) (by omega) (by omega) (by omega) e hL0 (by omega)
theorem AppM.row {μ m V : zM} {ws : List Int} (h : App 142 15 153 μ m ws) (r : RowIs (μ 143) V) : RowIs (m 143) V := by rw [h.2.2.2.1 143 (by decide) (by decide)]; exact r
theorem floorM_l {N : Int} {V : zM} {g : Int} (hN : N ≤ 1000000000) (w : WF N V) : ∀ (k n : Nat) (μ : zM) (i : Int), i + k = V 0 0 → 0 ≤ i → k < n → RowIs (μ 143) V → 0 ≤ μ 142 15 → μ 142 15 + 16 * k ≤ 120 → ∃ m, qM_writeFloor_l52 g n μ i = some m ∧ App 142 15 153 μ m (wfs V g k i) := by
  have n6 := w.n6
  have t0 := w.t0
  have t6 := w.t6
  intro k
  induction k with
  | zero =>
    intro n μ i h1 h0 hn r hL0 hL
    obtain ⟨n, rfl⟩ : ∃ n', n = n' + 1 := ⟨n - 1, by omega⟩
    have rn := r.n
    unfold qM_writeFloor_l52
    rw [if_neg (by omega)]
    exact ⟨μ, rfl, app_nil⟩
  | succ k ih =>
    intro n μ i h1 h0 hn r hL0 hL
    obtain ⟨n, rfl⟩ : ∃ n', n = n' + 1 := ⟨n - 1, by omega⟩
    have rn := r.n
    have hfl := w.fl i h0 (by omega)
    unfold qM_writeFloor_l52 wfs
    rw [if_pos (by omega), flat_eq (by omega) (by decide), sBind, Int.add_zero, (r.fl i h0 (by omega)).1, wr_n (x := i + 1) (by omega) (by omega)]
    by_cases hg : V 1 i = g
    case neg =>
      rw [if_neg hg, if_neg hg]
      exact ih n μ (i + 1) (by omega) (by omega) (by omega) r hL0 (by omega)
    rw [if_pos hg, if_pos hg, writes_eq (c := 32) ⟨hL0, by omega⟩ (by decide), sBind]
    have a1 := app_one (a := 142) (b := 153) (la := 15) (μ := μ) (c := 32) (by decide)
    generalize st (st μ 153 (μ 142 15) 32) 142 15 (μ 142 15 + 1) = m1 at a1
    have l1 : m1 142 15 = μ 142 15 + 1 := a1.1
    obtain ⟨m2, p2, a2⟩ := writesNumber_eq (μ := m1) (v := i) (d := 0) h0 (show i < 10 by omega) (by decide) (by omega) (by omega) (by omega)
    have n2 := nl_len (v := i) (d := 0) (show i < 10 by omega)
    have l2 := a2.1
    rw [p2, sBind, writes_eq (c := 61) ⟨by omega, by omega⟩ (by decide), sBind]
    have a3 := app_one (a := 142) (b := 153) (la := 15) (μ := m2) (c := 61) (by decide)
    generalize st (st m2 153 (m2 142 15) 61) 142 15 (m2 142 15 + 1) = m3 at a3
    have l3 : m3 142 15 = m2 142 15 + 1 := a3.1
    have r3 : RowIs (m3 143) V := AppM.row a3 (AppM.row a2 (AppM.row a1 r))
    obtain ⟨m4, p4, a4⟩ := writesNumber_eq (μ := m3) (v := V 2 i) (d := 1) (by omega) (show V 2 i < 100 by omega) (by decide) (by omega) (by omega) (by omega)
    have n4 := nl_len (v := V 2 i) (d := 1) (show V 2 i < 100 by omega)
    have l4 := a4.1
    have r4 : RowIs (m4 143) V := AppM.row a4 r3
    rw [flat_eq (by omega) (by decide), sBind, show 8 + 2 * i + 1 = 9 + 2 * i by omega, (r3.fl i h0 (by omega)).2, p4, sBind, occupant_eq r4 t0 t6 (by omega), sBind]
    have a14 := app_trans (app_trans (app_trans a1 a2) a3) a4
    have wl9 := (wflat_len hN w (f := i) ⟨h0, by omega⟩).1
    unfold wflat at wl9 ⊢
    by_cases h9 : fi (V 9) i (V 0 3).toNat 0 = -1
    · rw [if_pos h9] at wl9
      have a15 := app_trans a14 (app_nil (a := 142) (b := 153) (la := 15) (μ := m4))
      have l15 := a15.1
      rw [if_pos (by omega), if_pos h9]
      obtain ⟨m, u1, u2⟩ := ih n m4 (i + 1) (by omega) (by omega) (by omega) r4 (by omega) (by omega)
      exact ⟨m, u1, app_trans a15 u2⟩
    · rw [if_neg h9] at wl9
      have hfi := fi_in t0 h9
      have hid := id_max hN w hfi
      rw [if_neg (by omega), if_neg h9, writes_eq (c := 58) ⟨by omega, by omega⟩ (by decide), sBind]
      have a5 := app_one (a := 142) (b := 153) (la := 15) (μ := m4) (c := 58) (by decide)
      generalize st (st m4 153 (m4 142 15) 58) 142 15 (m4 142 15 + 1) = m5 at a5
      have l5 : m5 142 15 = m4 142 15 + 1 := a5.1
      have r5 : RowIs (m5 143) V := AppM.row a5 r4
      obtain ⟨m6, p6, a6⟩ := writesNumber_eq (μ := m5) (v := V 3 (fi (V 9) i (V 0 3).toNat 0)) (d := 9) hid.1 hid.2.1 (by decide) hid.2.2 (by omega) (by omega)
      rw [occupant_eq r5 t0 t6 (by omega), sBind, of_eq (by omega) (by decide), sBind, Int.add_zero, (r5.tn _ hfi.1 hfi.2).1, p6, sBind]
      have a16 := app_trans a14 (app_trans a5 a6)
      have l16 := a16.1
      obtain ⟨m, u1, u2⟩ := ih n m6 (i + 1) (by omega) (by omega) (by omega) (AppM.row a6 r5) (by omega) (by omega)
      exact ⟨m, u1, app_trans a16 u2⟩
theorem writeFloor_ok {N : Int} (hN : N ≤ 1000000000) {g : Int} : OpOk N N (fun μ => qL_writeFloor μ g) (fun μ => qM_writeFloor μ g) := by
  intro μ hI
  have hB := hI.1
  have w := hB.1
  have n0 : 0 ≤ μ 1 0 := w.n0
  have n6 : μ 1 0 ≤ 6 := w.n6
  show ∃ a9 m1 x m2, qL_writeFloor μ g = some (a9, m1) ∧ qM_writeFloor m1 g = some (x, m2) ∧ m2 142 0 = a9 ∧ (a9 = 0 → m2 156 0 = x) ∧ Inv N m2
  unfold qL_writeFloor qT_writeFloor qT_requireFloor
  rw [within_eq, sBind]
  by_cases hg : 0 ≤ g ∧ g ≤ 5
  case neg =>
    rw [if_neg hg, if_pos rfl, sTcr, sBndTr, if_pos rfl]
    refine ⟨1, μ, 0, st (st μ 142 0 0) 142 0 1, rfl, ?_, st_at, fun h => absurd h (by decide), thrown_inv (thrown_inv hI (Int.le_refl N)) (Int.le_refl N)⟩
    unfold qM_writeFloor
    rw [sBind, between_eq, sBind, if_neg hg, if_pos rfl, fails_eq, sBnd2]
  have e0 : HEq6 (hv μ 1) (hv μ 1) := HEq6.of_same fun _ _ _ => rfl
  have hcr := cr_in (f := g) w
  -- the class
  unfold qX_clear
  rw [if_pos hg, if_neg (show ¬ (1 : Int) = 0 by decide), sTcl, sBind, sBind]
  generalize hm2 : st μ 140 1 0 = m2
  have f2 : ∀ q : Nat, q ≠ 140 → m2 q = μ q := fun q hq => by rw [← hm2]; exact funext fun j => st_k hq
  have l2 : m2 140 1 = 0 := by rw [← hm2, st_at]
  have e2 : HEq6 (hv m2 1) (hv μ 1) := HEq6.of_same fun q q1 q2 => f2 q (by omega)
  obtain ⟨m3, p3, a3⟩ := appendNumber_eq (μ := m2) (t := 140) (v := g) (d := 0) hg.1 (show g < 10 by omega) (by decide) (by omega) (by omega) (by omega)
  have n3 := nl_len (v := g) (d := 0) (show g < 10 by omega)
  have l3 := a3.1
  rw [p3, sBind, appendX_eq (c := 126) ⟨by omega, by omega⟩ (by decide), sBind]
  have a4 := app_one (a := 140) (b := 141) (la := 1) (μ := m3) (c := 126) (by decide)
  generalize st (st m3 141 (m3 140 1) 126) 140 1 (m3 140 1 + 1) = m4 at a4
  have l4 : m4 140 1 = m3 140 1 + 1 := a4.1
  have e4 := a4.heq (a3.heq e2)
  rw [creakOn_eq (e4.wf w), sBind, h6cr e4 (e4.wf w)]
  obtain ⟨m6, p6, a6⟩ := appendNumber_eq (μ := m4) (t := 140) (v := cr (hv μ 1) g) (d := 2) hcr.1 (show cr (hv μ 1) g < 1000 by omega) (by decide) (by omega) (by omega) (by omega)
  have n6' := nl_len (v := cr (hv μ 1) g) (d := 2) (show cr (hv μ 1) g < 1000 by omega)
  have l6 := a6.1
  have wl9 := wfs_len (g := g) hN w (μ 1 0).toNat 0 (show (0 : Int) + ((μ 1 0).toNat : Nat) = μ 1 0 by omega) (by omega)
  obtain ⟨m8, p8, a8⟩ := floorC_l (g := g) hN w (μ 1 0).toNat 200 m6 0 (show (0 : Int) + ((μ 1 0).toNat : Nat) = μ 1 0 by omega) (by omega) (by omega) (a6.heq e4) (by omega) (by omega)
  rw [p6, sBind, p8, sBind, sBndTl]
  have aC := app_trans (app_trans (app_trans a3 a4) a6) a8
  generalize hws : nl g ++ [126] ++ nl (cr (hv μ 1) g) ++ wfs (hv μ 1) g (μ 1 0).toNat 0 = ws at aC
  have wsl : ws.length ≤ 120 := by
    rw [← hws]
    simp only [List.length_append, List.length_cons, List.length_nil]
    omega
  have wsc : chr ws := by
    rw [← hws]
    exact chr_app (chr_app (chr_app nl_chr (chr_one (by decide))) nl_chr) wl9.2
  have lC : m8 140 1 = ws.length := by rw [aC.1, l2, Int.zero_add]
  -- the model
  generalize hmA : st (st m8 156 0 (m8 140 1)) 142 0 0 = mA
  have fA : ∀ q : Nat, q ≠ 142 → q ≠ 156 → mA q = m8 q := fun q h1 h2 => by rw [← hmA]; exact funext fun j => by rw [st_k h1, st_k h2]
  have f8 : ∀ q : Nat, q ≠ 140 → q ≠ 141 → m8 q = μ q := fun q h1 h2 => by rw [aC.2.2.2.1 q h1 h2, f2 q h1]
  have a142 : ∀ j, j ≠ 0 → mA 142 j = μ 142 j := fun j hj => by rw [← hmA, st_i hj, st_k (by decide), f8 142 (by decide) (by decide)]
  have rA : RowIs (mA 143) (hv μ 1) := by rw [fA 143 (by decide) (by decide), f8 143 (by decide) (by decide)]; exact hB.2
  generalize hmB : st (crM (hv μ 1) mA (μ 1 3).toNat) 142 15 0 = mB
  have fB : ∀ q : Nat, q ≠ 142 → q ≠ 150 → mB q = mA q := fun q h1 h2 => by rw [← hmB, ← crM_k (V := hv μ 1) (μ := mA) (i := (μ 1 3).toNat) h2]; exact funext fun j => st_k h1
  have b142 : ∀ j, j ≠ 15 → mB 142 j = mA 142 j := fun j hj => by rw [← hmB, st_i hj, crM_k (by decide)]
  have b15 : mB 142 15 = 0 := by rw [← hmB, st_at]
  have b150 : mB 150 g = cr (hv μ 1) g := by rw [← hmB, st_k (by decide), crM_at (by omega)]; rfl
  have rB : RowIs (mB 143) (hv μ 1) := by rw [fB 143 (by decide) (by decide)]; exact rA
  obtain ⟨m5, q5, c5⟩ := writesNumber_eq (μ := mB) (v := g) (d := 0) hg.1 (show g < 10 by omega) (by decide) (by omega) (by omega) (by omega)
  have k5 := c5.1
  have c6 := app_one (a := 142) (b := 153) (la := 15) (μ := m5) (c := 126) (by decide)
  have q6 : qM_writes m5 126 = some (st (st m5 153 (m5 142 15) 126) 142 15 (m5 142 15 + 1)) := writes_eq ⟨by omega, by omega⟩ (by decide)
  generalize st (st m5 153 (m5 142 15) 126) 142 15 (m5 142 15 + 1) = m7 at c6 q6
  have k7 : m7 142 15 = m5 142 15 + 1 := c6.1
  have b150' : m7 150 g = cr (hv μ 1) g := by rw [c6.2.2.2.1 150 (by decide) (by decide), c5.2.2.2.1 150 (by decide) (by decide), b150]
  obtain ⟨m9, q9, c9⟩ := writesNumber_eq (μ := m7) (v := cr (hv μ 1) g) (d := 2) hcr.1 (show cr (hv μ 1) g < 1000 by omega) (by decide) (by omega) (by omega) (by omega)
  have k9 := c9.1
  obtain ⟨mZ, qZ, cZ⟩ := floorM_l (g := g) hN w (μ 1 0).toNat 200 m9 0 (show (0 : Int) + ((μ 1 0).toNat : Nat) = μ 1 0 by omega) (by omega) (by omega) (AppM.row c9 (AppM.row c6 (AppM.row c5 rB))) (by omega) (by omega)
  have aM := app_trans (app_trans (app_trans c5 c6) c9) cZ
  rw [hws] at aM
  have lM : mZ 142 15 = ws.length := by rw [aM.1, b15, Int.zero_add]
  have fZ : ∀ q : Nat, q ≠ 142 → q ≠ 153 → q ≠ 150 → q ≠ 156 → mZ q = m8 q := fun q h1 h2 h3 h4 => by rw [aM.2.2.2.1 q h1 h2, fB q h1 h3, fA q h1 h4]
  refine ⟨0, st m8 156 0 (m8 140 1), m8 140 1, mZ, rfl, ?_, ?_, fun _ => ?_, hI.line (ws := ws) (fun q hq => by rw [fZ q (by omega) (by omega) (by omega) (by omega), f8 q (by omega) (by omega)]) (fun j h0 h15 => by rw [aM.2.2.2.2 j h15, b142 j h15, a142 j h0]) (by rw [fZ 140 (by decide) (by decide) (by decide) (by decide)]; exact lC) lM (fun i hi => ?_) (fun i hi => ?_) wsc wsl⟩
  · unfold qM_writeFloor
    rw [sBind, hmA, between_eq, sBind, if_pos hg, if_neg (show ¬ (1 : Int) = 0 by decide), findsCreaks_eq (V := hv μ 1) w rA, sBind, sBind]
    show (Option.bind (qM_writesNumber (st (crM (hv μ 1) mA (μ 1 3).toNat) 142 15 0) g) _) = _
    rw [hmB, q5, sBind, q6, sBind, if_pos (by omega), b150', q9, sBind, qZ, sBind, lM, lC]
  · rw [aM.2.2.2.2 0 (by decide), b142 0 (by decide), ← hmA, st_at]
  · rw [aM.2.2.2.1 156 (by decide) (by decide), fB 156 (by decide) (by decide), ← hmA, st_k (by decide), st_at]
  · have := aC.2.2.1 i hi
    rw [l2, Int.zero_add] at this
    rw [fZ 141 (by decide) (by decide) (by decide) (by decide)]
    exact this
  · have := aM.2.2.1 i hi
    rw [b15, Int.zero_add] at this
    exact this
