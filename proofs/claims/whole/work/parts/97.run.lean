/-! ===== B: run ===== -/
theorem run_ok {N : Int} (hN : N ≤ 998000000) : OpOk N (N + 1300000) qL_run qM_run := by
  intro μ hI
  obtain ⟨hB, hR, hS, hT⟩ := hI
  have w := hB.1
  obtain ⟨t1, t2, t3, tL, tLM, tch, t4, t5, t6, t7, t8, t9⟩ := hT
  generalize hL9 : μ 138 1 = L at tL tLM tch
  have tc : TxC (μ 139) L μ := ⟨hL9, fun _ _ _ => rfl, tL, fun j j0 j1 => (tch j j0 j1).2⟩
  have tm : ∀ m : zM, m 142 17 = L → m 154 = μ 154 → TxM (μ 139) L m := fun m h1 h2 => ⟨h1, fun j j0 j1 => by rw [h2]; exact (tch j j0 j1).1, tL, fun j j0 j1 => (tch j j0 j1).2⟩
  generalize htx : μ 139 = tx at tc tm tch
  have hw := walk_in (tx := tx) (L := L) 100 0 (Int.le_refl _) tL.1 (by omega)
  have hge := walk_ge (tx := tx) (L := L) 100 0 (Int.le_refl _) tL.1
  obtain ⟨c, m1, u1, u2, u3, u4, u5⟩ := countCommands_eq tc ⟨t8, t9⟩
  generalize hwk : walk (nc tx L) L 100 0 = wk at hw hge u3 u5
  show ∃ a9 m1 x m2, qL_run μ = some (a9, m1) ∧ qM_run m1 = some (x, m2) ∧ m2 142 0 = a9 ∧ (a9 = 0 → m2 156 0 = x) ∧ Inv (N + 1300000) m2
  unfold qL_run qT_run
  rw [u1, sBnd2]
  have hBN : Both (N + 1300000) μ 1 (μ 143) := hB.mono (by omega)
  -- the model's reading, from a memory that has the model's text
  have rdAll : ∀ m : zM, m 142 17 = L → m 154 = μ 154 → ∃ m', qM_readsAll m = some (wk.1, m') ∧ ((∀ q : Nat, q ≠ 142 → q ≠ 155 → m' q = m q) ∧ ∀ j, j ≠ 18 → j ≠ 22 → m' 142 j = m 142 j) ∧ m' 142 18 = wk.2.1 := fun m h1 h2 => by
    rw [← hwk]; exact readsAll_eq (tm m h1 h2)
  by_cases hc : c = -1
  · -- the text does not read well
    have hz : wk.1 = 0 := by
      rcases u5 with z | z
      · omega
      · exact z.1
    unfold qX_clear
    rw [if_pos hc, sBind, sBind, sBind, sBndTr, if_pos rfl]
    generalize hm2 : st (st m1 0 10 (m1 136 0)) 138 1 0 = m2
    have f2 : ∀ q : Nat, q ≠ 0 → q ≠ 136 → q ≠ 137 → q ≠ 138 → m2 q = μ q := fun q h0 h1 h2 h3 => by rw [← hm2, ← u2 q h1 h2]; exact funext fun j => by rw [st_k h3, st_k h0]
    have g0 : ∀ j, j ≠ 10 → m2 0 j = μ 0 j := fun j hj => by rw [← hm2, st_k (by decide), st_i hj, u2 0 (by decide) (by decide)]
    have g010 : m2 0 10 = wk.2.1 := by rw [← hm2, st_k (by decide), st_at, u3]
    have g138 : m2 138 1 = 0 := by rw [← hm2, st_at]
    have g136 : m2 136 = m1 136 := by rw [← hm2]; exact funext fun j => by rw [st_k (by decide), st_k (by decide)]
    have k142 : m2 142 = μ 142 := f2 142 (by decide) (by decide) (by decide) (by decide)
    obtain ⟨m3, v1, ⟨v2, v3⟩, v4⟩ := rdAll (st m2 142 0 0) (by rw [st_i (by decide), k142]; exact tLM) (by rw [← f2 154 (by decide) (by decide) (by decide) (by decide)]; exact funext fun j => st_k (by decide))
    generalize hmZ : st (st (st m3 142 19 (m3 142 18)) 142 17 0) 142 0 1 = mZ
    have z : ∀ q : Nat, q ≠ 142 → q ≠ 155 → mZ q = m2 q := fun q h1 h2 => by
      rw [← hmZ, show m2 q = m3 q by rw [v2 q h1 h2]; exact (funext fun j => st_k h1).symm]
      exact funext fun j => by rw [st_k h1, st_k h1, st_k h1]
    have z142 : ∀ j, j ≠ 0 → j ≠ 17 → j ≠ 18 → j ≠ 19 → j ≠ 22 → mZ 142 j = μ 142 j := fun j h0 h17 h18 h19 h22 => by
      rw [← hmZ, st_i h0, st_i h17, st_i h19, v3 j h18 h22, st_i h0, k142]
    have z17 : mZ 142 17 = 0 := by rw [← hmZ, st_i (by decide), st_at]
    have z19 : mZ 142 19 = wk.2.1 := by rw [← hmZ, st_i (by decide), st_i (by decide), st_at, v4]
    have zq : ∀ q : Nat, q ≠ 0 → q ≠ 136 → q ≠ 137 → q ≠ 138 → q ≠ 142 → q ≠ 155 → mZ q = μ q := fun q h0 h1 h2 h3 h4 h5 => by rw [z q h4 h5, f2 q h0 h1 h2 h3]
    have mv : ∀ (g : Nat) (w : Int → Int), 1 ≤ g → g < 104 → Both N μ g w → Both (N + 1300000) mZ g w := fun g w hg0 hg b => (b.move (HEq6.of_same fun q q1 q2 => zq q (by omega) (by omega) (by omega) (by omega) (by omega) (by omega)) (fun _ _ _ => rfl)).mono (by omega)
    refine ⟨1, m2, 0, mZ, rfl, ?_, by rw [← hmZ, st_at], fun h => absurd h (by decide), ?_, ⟨?_, ?_, ?_, ?_, fun j h0 h9 => ?_⟩, ⟨?_, ?_, fun y => ?_⟩, ?_, ?_, ?_, ?_, ?_, ?_, ?_, ?_, ?_, ?_, ?_, ?_⟩
    · unfold qM_run
      rw [sBind, v1, sBnd2, if_pos hz, sBind, sBind, fails_eq, sBnd2, hmZ]
    · rw [zq 143 (by decide) (by decide) (by decide) (by decide) (by decide) (by decide)]; exact mv _ _ (by decide) (by decide) hB
    · rw [zq 31 (by decide) (by decide) (by decide) (by decide) (by decide) (by decide)]; exact hR.1
    · rw [zq 31 (by decide) (by decide) (by decide) (by decide) (by decide) (by decide)]; exact hR.2.1
    · rw [z142 7 (by decide) (by decide) (by decide) (by decide) (by decide)]; exact hR.2.2.1
    · rw [z142 6 (by decide) (by decide) (by decide) (by decide) (by decide), zq 31 (by decide) (by decide) (by decide) (by decide) (by decide) (by decide)]; exact hR.2.2.2.1
    · rw [zq 31 (by decide) (by decide) (by decide) (by decide) (by decide) (by decide)] at h9 ⊢
      rw [z142 7 (by decide) (by decide) (by decide) (by decide) (by decide), zq 144 (by decide) (by decide) (by decide) (by decide) (by decide) (by decide)]
      exact mv _ _ (by omega) (by omega) (hR.2.2.2.2 j h0 h9)
    · rw [z 0 (by decide) (by decide), g0 9 (by decide)]; exact hS.1
    · rw [z142 8 (by decide) (by decide) (by decide) (by decide) (by decide), z 0 (by decide) (by decide), g0 9 (by decide)]; exact hS.2.1
    · rw [z 0 (by decide) (by decide), g0 9 (by decide)] at y
      rw [zq 145 (by decide) (by decide) (by decide) (by decide) (by decide) (by decide)]
      exact mv _ _ (by decide) (by decide) (hS.2.2 y)
    · rw [zq 140 (by decide) (by decide) (by decide) (by decide) (by decide) (by decide)]; exact t1
    · rw [z142 15 (by decide) (by decide) (by decide) (by decide) (by decide), zq 140 (by decide) (by decide) (by decide) (by decide) (by decide) (by decide)]; exact t2
    · rw [zq 140 (by decide) (by decide) (by decide) (by decide) (by decide) (by decide), zq 141 (by decide) (by decide) (by decide) (by decide) (by decide) (by decide), zq 153 (by decide) (by decide) (by decide) (by decide) (by decide) (by decide)]; exact t3
    · rw [z 138 (by decide) (by decide), g138]; decide
    · rw [z 138 (by decide) (by decide), g138, z17]
    · rw [z 138 (by decide) (by decide), g138]; intro j j0 j1; omega
    · rw [z19, z 0 (by decide) (by decide), g010]
    · rw [z142 20 (by decide) (by decide) (by decide) (by decide) (by decide), z 0 (by decide) (by decide), g0 11 (by decide)]; exact t5
    · rw [z 0 (by decide) (by decide), g010]; omega
    · rw [z 0 (by decide) (by decide), g0 11 (by decide)]; exact t7
    · rw [z 136 (by decide) (by decide), g136]; exact u4.1
    · rw [z 136 (by decide) (by decide), g136]; exact u4.2
  -- the text reads well: n commands
  obtain ⟨hk1, hk2⟩ : wk.1 = 1 ∧ c = wk.2.2 := by
    rcases u5 with z | z
    · exact z
    · exact absurd z.2 hc
  obtain ⟨-, hP, hlen, -⟩ := hw.resolve_left (by omega)
  generalize hn : wk.2.2 = n at hP hlen hk2
  have hn0 : n ≠ 0 := fun z => by rw [z] at hP; exact hP
  rw [if_neg hc]
  obtain ⟨m2, e1, e2, e3⟩ := copyFrom_eq (μ := m1) (h := 11) (v := 1) (Or.inr (by decide))
  unfold qR_rewind
  rw [e1, sBind, sBind, sBind, sBind]
  generalize hm3 : st (st m2 136 0 0) 136 4 0 = m3
  have f3 : ∀ q : Nat, q ≠ 136 → q ≠ 137 → (q < 11 ∨ 21 ≤ q) → m3 q = μ q := fun q h1 h2 h3 => by rw [← hm3, ← u2 q h1 h2, ← e3 q h3]; exact funext fun j => by rw [st_k h1, st_k h1]
  have s3 : HEq6 (hv m3 11) (hv μ 1) := HEq6.trans (HEq6.of_same fun q q1 q2 => by rw [← hm3]; exact funext fun j => by rw [st_k (by omega), st_k (by omega)]) (HEq6.trans e2 (HEq6.of_same fun q q1 q2 => u2 q (by omega) (by omega)))
  have h3 : HEq6 (hv m3 1) (hv μ 1) := HEq6.of_same fun q q1 q2 => f3 q (by omega) (by omega) (by omega)
  have k3 : m3 136 1 = m1 136 1 := by rw [← hm3, st_i (by decide), st_i (by decide), e3 136 (by omega)]
  obtain ⟨j, V', m6, x1, x2, x3, x4, x5, x6, x7⟩ := execC_l (tx := tx) (L := L) (c := c) n 200 N m3 (hv μ 1) 0 0 (by omega) w h3 ⟨by rw [f3 138 (by decide) (by decide) (by omega)]; exact hL9, fun j _ _ => by rw [f3 139 (by decide) (by decide) (by omega), htx], tL, tc.2.2.2⟩
    ⟨by rw [← hm3, st_at], by rw [k3]; exact u4, Or.inl ⟨rfl, by rw [← hm3, st_i (by decide), st_at]⟩⟩ (Int.le_refl _) tL.1 hP (Int.le_refl _) (by decide) (by omega) (by omega) (by omega)
  have wV : WF (N + 1300000) V' := x5.mono (by omega)
  rw [x1, sBnd2, Int.zero_add]
  unfold qX_clear
  rw [sBind, sBind]
  generalize hm7 : st m6 138 1 0 = m7
  have f7 : ∀ q : Nat, (q < 1 ∨ 21 ≤ q) → (q < 113 ∨ 139 ≤ q) → m7 q = μ q := fun q h1 h2 => by
    rw [← hm7, ← f3 q (by omega) (by omega) (by omega), ← x6 q (by omega) (by omega)]; exact funext fun j => st_k (by omega)
  have s7 : HEq6 (hv m7 11) (hv μ 1) := HEq6.trans (HEq6.of_same fun q q1 q2 => by rw [← hm7, ← x6 q (by omega) (by omega)]; exact funext fun j => st_k (by omega)) s3
  have h7 : HEq6 (hv m7 1) V' := HEq6.trans (HEq6.of_same fun q q1 q2 => by rw [← hm7]; exact funext fun j => st_k (by omega)) x4
  have g138 : m7 138 1 = 0 := by rw [← hm7, st_at]
  have g136 : m7 136 = m6 136 := by rw [← hm7]; exact funext fun j => st_k (by decide)
  -- the model's course, from a memory that has the model's text, row and numbers
  have modelRun : ∀ mA : zM, (∀ q : Nat, 141 ≤ q → q ≠ 142 → q ≠ 156 → q < 157 → mA q = μ q) → (∀ j, j ≠ 0 → mA 142 j = μ 142 j) → ∃ m3 m5, qM_readsAll mA = some (wk.1, m3) ∧ qM_doesAll (cpy m3 143 146 62) = some (if j = n then 1 else 0, m5) ∧ m5 142 23 = j ∧ RowIs (m5 143) V' ∧ (∀ i, 0 ≤ i → i < 62 → m5 146 i = μ 143 i) ∧
      (∀ q : Nat, q ≠ 142 → q ≠ 143 → q ≠ 146 → q ≠ 148 → q ≠ 149 → q ≠ 155 → m5 q = mA q) ∧ ∀ j, j ≠ 18 → j ≠ 22 → j ≠ 23 → m5 142 j = mA 142 j := fun mA hA1 hA2 => by
    obtain ⟨m3, v1, ⟨v2, v3⟩, v4⟩ := rdAll mA (by rw [hA2 17 (by decide)]; exact tLM) (hA1 154 (by decide) (by decide) (by decide) (by decide))
    generalize hm4 : st (st (cpy m3 143 146 62) 142 23 0) 142 18 0 = m4
    have a1 : ∀ q : Nat, q ≠ 142 → q ≠ 146 → q ≠ 155 → m4 q = mA q := fun q h1 h2 h3 => by rw [← hm4, ← v2 q h1 h3]; exact funext fun j => by rw [st_k h1, st_k h1, cpy_k h2]
    have a2 : ∀ j, j ≠ 18 → j ≠ 22 → j ≠ 23 → m4 142 j = mA 142 j := fun j h1 h2 h3 => by rw [← hm4, st_i h1, st_i h3, cpy_k (by decide), v3 j h1 h2]
    have a143 : m4 143 = μ 143 := by rw [a1 143 (by decide) (by decide) (by decide), hA1 143 (by decide) (by decide) (by decide) (by decide)]
    have a146 : ∀ i, 0 ≤ i → i < 62 → m4 146 i = μ 143 i := fun i i0 i1 => by rw [← hm4, st_k (by decide), st_k (by decide), cpy_at ⟨i0, i1⟩, v2 143 (by decide) (by decide), hA1 143 (by decide) (by decide) (by decide) (by decide)]
    have a23 : m4 142 23 = 0 := by rw [← hm4, st_i (by decide), st_at]
    obtain ⟨e9, m5, y1, y2, y3, y4, y5, y6⟩ := execM_l (tx := tx) (L := L) n 200 N m4 (hv μ 1) V' j 0 (by omega) w (by rw [a143]; exact hB.2) (tm m4 (by rw [a2 17 (by decide) (by decide) (by decide), hA2 17 (by decide)]; exact tLM) (by rw [a1 154 (by decide) (by decide) (by decide)]; exact hA1 154 (by decide) (by decide) (by decide) (by decide))) (by rw [← hm4, st_at]) (Int.le_refl _) tL.1 hP x3 (by omega) (by omega) (by omega)
    refine ⟨m3, m5, v1, ?_, by rw [y3, a23, Int.zero_add], y4, fun i i0 i1 => by rw [y5 146 (by decide) (by decide) (by decide) (by decide) (by decide)]; exact a146 i i0 i1, fun q h1 h2 h3 h4 h5 h6 => by rw [y5 q h1 h2 h4 h5 h6, a1 q h1 h3 h6], fun j h1 h2 h3 => by rw [y6 j h1 h2 h3, a2 j h1 h2 h3]⟩
    unfold qM_doesAll
    rw [sBind, sBind, hm4, y1]
    rcases y2 with ⟨b1, rfl⟩ | ⟨b1, rfl⟩
    · rw [sBndS2r, if_pos b1]
    · rw [sBndS2l, if_neg (by omega)]
  by_cases hj : (j : Int) < c
  · -- a command was refused: everything as before
    obtain ⟨m9, y1, y2, y3⟩ := copyFrom_eq (μ := m7) (h := 1) (v := 11) (Or.inl (by decide))
    rw [if_pos hj, y1, sBind, sBind, sBndTr, if_neg (by decide), if_pos rfl]
    generalize hmC : st m9 0 11 (j : Int) = mC
    have fC : ∀ q : Nat, 21 ≤ q → (q < 113 ∨ 139 ≤ q) → mC q = μ q := fun q h1 h2 => by rw [← hmC, ← f7 q (by omega) h2, ← y3 q (by omega)]; exact funext fun j => st_k (by omega)
    have c0 : ∀ i, i ≠ 11 → mC 0 i = μ 0 i := fun i hi => by rw [← hmC, st_i hi, y3 0 (by omega), f7 0 (by omega) (by omega)]
    have c011 : mC 0 11 = j := by rw [← hmC, st_at]
    have c1 : HEq6 (hv mC 1) (hv μ 1) := HEq6.trans (HEq6.of_same fun q q1 q2 => by rw [← hmC]; exact funext fun j => st_k (by omega)) (HEq6.trans y2 s7)
    have c138 : mC 138 1 = 0 := by rw [← hmC, st_k (by decide), y3 138 (by omega), g138]
    have c136 : mC 136 = m6 136 := by rw [← g136, ← y3 136 (by omega), ← hmC]; exact funext fun j => st_k (by decide)
    obtain ⟨m3', m5, v1, v2, v3, v4, v5, v6, v7⟩ := modelRun (st mC 142 0 0) (fun q h1 h2 _ _ => by rw [← fC q (by omega) (by omega)]; exact funext fun j => st_k h2) (fun i hi => by rw [st_i hi, fC 142 (by decide) (by decide)])
    have hjn : ¬ j = n := by omega
    rw [if_neg hjn] at v2
    generalize hmZ : st (st (cpy (st m5 142 17 0) 146 143 62) 142 20 ((cpy (st m5 142 17 0) 146 143 62) 142 23)) 142 0 2 = mZ
    have z : ∀ q : Nat, q ≠ 142 → q ≠ 143 → q ≠ 146 → q ≠ 148 → q ≠ 149 → q ≠ 155 → mZ q = mC q := fun q h1 h2 h3 h4 h5 h6 => by
      rw [← hmZ, show mC q = m5 q by rw [v6 q h1 h2 h3 h4 h5 h6]; exact (funext fun j => st_k h1).symm]
      exact funext fun j => by rw [st_k h1, st_k h1, cpy_k h2, st_k h1]
    have z142 : ∀ i, i ≠ 0 → i ≠ 17 → i ≠ 18 → i ≠ 20 → i ≠ 22 → i ≠ 23 → mZ 142 i = μ 142 i := fun i h0 h17 h18 h20 h22 h23 => by
      rw [← hmZ, st_i h0, st_i h20, cpy_k (by decide), st_i h17, v7 i h18 h22 h23, st_i h0, fC 142 (by decide) (by decide)]
    have z17 : mZ 142 17 = 0 := by rw [← hmZ, st_i (by decide), st_i (by decide), cpy_k (by decide), st_at]
    have z20 : mZ 142 20 = j := by rw [← hmZ, st_i (by decide), st_at, cpy_k (by decide), st_i (by decide), v3]
    have z143 : ∀ i, 0 ≤ i → i < 62 → mZ 143 i = μ 143 i := fun i i0 i1 => by rw [← hmZ, st_k (by decide), st_k (by decide), cpy_at ⟨i0, i1⟩, st_k (by decide), v5 i i0 i1]
    have zq : ∀ q : Nat, 21 ≤ q → (q < 113 ∨ 139 ≤ q) → q ≠ 142 → q ≠ 143 → q ≠ 146 → q ≠ 148 → q ≠ 149 → q ≠ 155 → mZ q = μ q := fun q h1 h2 h3 h4 h5 h6 h7 h8 => by rw [z q h3 h4 h5 h6 h7 h8, fC q h1 h2]
    have mv : ∀ (g : Nat) (w : Int → Int), 21 ≤ g → g < 104 → Both N μ g w → Both (N + 1300000) mZ g w := fun g w hg0 hg b => (b.move (HEq6.of_same fun q q1 q2 => zq q (by omega) (by omega) (by omega) (by omega) (by omega) (by omega) (by omega) (by omega)) (fun _ _ _ => rfl)).mono (by omega)
    have z0 : mZ 0 = mC 0 := z 0 (by decide) (by decide) (by decide) (by decide) (by decide) (by decide)
    have z31 : mZ 31 = μ 31 := zq 31 (by decide) (by decide) (by decide) (by decide) (by decide) (by decide) (by decide) (by decide)
    have z138 : mZ 138 1 = 0 := by rw [z 138 (by decide) (by decide) (by decide) (by decide) (by decide) (by decide), c138]
    have z136 : mZ 136 = m6 136 := by rw [z 136 (by decide) (by decide) (by decide) (by decide) (by decide) (by decide), c136]
    refine ⟨2, mC, 0, mZ, rfl, ?_, by rw [← hmZ, st_at], fun h => absurd h (by decide), ?_, ⟨?_, ?_, ?_, ?_, fun i h0 h9 => ?_⟩, ⟨?_, ?_, fun y => ?_⟩, ?_, ?_, ?_, ?_, ?_, ?_, ?_, ?_, ?_, ?_, ?_, ?_⟩
    · unfold qM_run
      rw [sBind, v1, sBnd2, if_neg (by omega), copies_eq, sBind, v2, sBnd2, sBind, if_pos rfl, goesBack_eq, sBind, sBind, fails_eq, sBnd2, hmZ]
    · exact (hB.move (HEq6.trans (HEq6.of_same fun q q1 q2 => z q (by omega) (by omega) (by omega) (by omega) (by omega) (by omega)) c1) z143).mono (by omega)
    · rw [z31]; exact hR.1
    · rw [z31]; exact hR.2.1
    · rw [z142 7 (by decide) (by decide) (by decide) (by decide) (by decide) (by decide)]; exact hR.2.2.1
    · rw [z142 6 (by decide) (by decide) (by decide) (by decide) (by decide) (by decide), z31]; exact hR.2.2.2.1
    · rw [z31] at h9 ⊢
      rw [z142 7 (by decide) (by decide) (by decide) (by decide) (by decide) (by decide), zq 144 (by decide) (by decide) (by decide) (by decide) (by decide) (by decide) (by decide) (by decide)]
      exact mv _ _ (by omega) (by omega) (hR.2.2.2.2 i h0 h9)
    · rw [z0, c0 9 (by decide)]; exact hS.1
    · rw [z142 8 (by decide) (by decide) (by decide) (by decide) (by decide) (by decide), z0, c0 9 (by decide)]; exact hS.2.1
    · rw [z0, c0 9 (by decide)] at y
      rw [zq 145 (by decide) (by decide) (by decide) (by decide) (by decide) (by decide) (by decide) (by decide)]
      exact mv _ _ (by decide) (by decide) (hS.2.2 y)
    · rw [zq 140 (by decide) (by decide) (by decide) (by decide) (by decide) (by decide) (by decide) (by decide)]; exact t1
    · rw [z142 15 (by decide) (by decide) (by decide) (by decide) (by decide) (by decide), zq 140 (by decide) (by decide) (by decide) (by decide) (by decide) (by decide) (by decide) (by decide)]; exact t2
    · rw [zq 140 (by decide) (by decide) (by decide) (by decide) (by decide) (by decide) (by decide) (by decide), zq 141 (by decide) (by decide) (by decide) (by decide) (by decide) (by decide) (by decide) (by decide), zq 153 (by decide) (by decide) (by decide) (by decide) (by decide) (by decide) (by decide) (by decide)]; exact t3
    · rw [z138]; decide
    · rw [z138, z17]
    · rw [z138]; intro i j0 j1; omega
    · rw [z142 19 (by decide) (by decide) (by decide) (by decide) (by decide) (by decide), z0, c0 10 (by decide)]; exact t4
    · rw [z20, z0, c011]
    · rw [z0, c0 10 (by decide)]; exact t6
    · rw [z0, c011]; omega
    · rw [z136]; exact x7.1
    · rw [z136]; exact x7.2
  · -- all commands carried out
    have hjn : j = n := by omega
    have f31 : m7 31 = μ 31 := f7 31 (by decide) (by decide)
    obtain ⟨m8, p1, p2, p3, p4, p5⟩ := push11_eq (μ := m7) (by rw [f31]; exact hR.1) (by rw [f31]; exact hR.2.1)
    rw [f31] at p2 p3 p4 p5
    have hsl : 0 ≤ (μ 31 1 + μ 31 2) % 8 ∧ (μ 31 1 + μ 31 2) % 8 < 8 := by omega
    rw [if_neg hj, p1, sBind, sBndTl]
    generalize hmA : st (st m8 156 0 c) 142 0 0 = mA
    have fA : ∀ q : Nat, 113 ≤ q → q ≠ 142 → q ≠ 156 → mA q = m7 q := fun q h1 h2 h3 => by rw [← hmA, ← p5 q (by omega) (Or.inr (by omega))]; exact funext fun j => by rw [st_k h2, st_k h3]
    have fAl : ∀ q : Nat, q < 113 → mA q = m8 q := fun q h1 => by rw [← hmA]; exact funext fun j => by rw [st_k (by omega), st_k (by omega)]
    have a142 : ∀ i, i ≠ 0 → mA 142 i = μ 142 i := fun i hi => by rw [← hmA, st_i hi, st_k (by decide), p5 142 (by decide) (Or.inr (by omega)), f7 142 (by decide) (by decide)]
    obtain ⟨m3', m5, v1, v2, v3, v4, v5, v6, v7⟩ := modelRun mA (fun q h1 h2 h3 _ => by rw [fA q (by omega) h2 h3, f7 q (by omega) (by omega)]) a142
    rw [if_pos hjn] at v2
    have k6 : (st m5 142 17 0) 142 6 = μ 142 6 := by rw [st_i (by decide), v7 6 (by decide) (by decide) (by decide), a142 6 (by decide)]
    have k7 : (st m5 142 17 0) 142 7 = μ 142 7 := by rw [st_i (by decide), v7 7 (by decide) (by decide) (by decide), a142 7 (by decide)]
    obtain ⟨mZ, q1, q2, q3, q4, q5, q6, q7⟩ := keeps_eq (μ := st m5 142 17 0) (by rw [k7]; exact hR.2.2.1) (by rw [k6, hR.2.2.2.1]; exact hR.2.1)
    rw [k6, k7] at q2 q5 q6
    rw [k6] at q3
    have z : ∀ q : Nat, q ≠ 142 → q ≠ 143 → q ≠ 144 → q ≠ 146 → q ≠ 148 → q ≠ 149 → q ≠ 155 → mZ q = mA q := fun q h1 h2 h8 h3 h4 h5 h6 => by
      rw [q7 q h1 h8, ← v6 q h1 h2 h3 h4 h5 h6]; exact funext fun j => st_k h1
    have z142 : ∀ i, i ≠ 0 → i ≠ 6 → i ≠ 7 → i ≠ 17 → i ≠ 18 → i ≠ 22 → i ≠ 23 → mZ 142 i = μ 142 i := fun i h0 h6 h7 h17 h18 h22 h23 => by
      rw [q4 i h6 h7, st_i h17, v7 i h18 h22 h23, a142 i h0]
    have z17 : mZ 142 17 = 0 := by rw [q4 17 (by decide) (by decide), st_at]
    have z23 : mZ 142 23 = c := by rw [q4 23 (by decide) (by decide), st_i (by decide), v3]; omega
    have z143 : mZ 143 = m5 143 := by rw [q7 143 (by decide) (by decide)]; exact funext fun j => st_k (by decide)
    have zl : ∀ q : Nat, q < 113 → mZ q = m8 q := fun q h1 => by rw [z q (by omega) (by omega) (by omega) (by omega) (by omega) (by omega) (by omega), fAl q h1]
    have zh : ∀ q : Nat, 139 ≤ q → q ≠ 142 → q ≠ 143 → q ≠ 144 → q ≠ 146 → q ≠ 148 → q ≠ 149 → q ≠ 155 → q ≠ 156 → mZ q = μ q := fun q h0 h1 h2 h3 h4 h5 h6 h7 h8 => by rw [z q h1 h2 h3 h4 h5 h6 h7, fA q (by omega) h1 h8, f7 q (by omega) (by omega)]
    have z0 : mZ 0 = μ 0 := by rw [zl 0 (by decide), p5 0 (by decide) (Or.inl (by omega)), f7 0 (by omega) (by omega)]
    have z138 : mZ 138 1 = 0 := by rw [z 138 (by decide) (by decide) (by decide) (by decide) (by decide) (by decide) (by decide), fA 138 (by decide) (by decide) (by decide), g138]
    have z136 : mZ 136 = m6 136 := by rw [z 136 (by decide) (by decide) (by decide) (by decide) (by decide) (by decide) (by decide), fA 136 (by decide) (by decide) (by decide), g136]
    have z1 : HEq6 (hv mZ 1) V' := HEq6.trans (HEq6.of_same fun q y1 y2 => by rw [zl q (by omega), p5 q (by omega) (Or.inl (by omega))]) h7
    have z144 : ∀ i, (i < 62 * ((μ 142 7 + μ 142 6) % 8) ∨ 62 * ((μ 142 7 + μ 142 6) % 8) + 62 ≤ i) → mZ 144 i = μ 144 i := fun i hi => by
      rw [q6 i hi, st_k (by decide), v6 144 (by decide) (by decide) (by decide) (by decide) (by decide) (by decide), fA 144 (by decide) (by decide) (by decide), f7 144 (by decide) (by decide)]
    have ring := ring_push (m := mZ) hR hB (by rw [zl 31 (by decide)]; exact p2) (by rw [zl 31 (by decide)]; exact p3) (HEq6.trans (HEq6.of_same fun q y1 y2 => zl q (by omega)) (HEq6.trans p4 s7)) (fun q y1 y2 y3 => by
      by_cases hq31 : q = 31
      · omega
      · rw [zl q y2, p5 q hq31 y3, f7 q (by omega) (by omega)]) q2 q3 (fun i i0 i1 => by rw [q5 i i0 i1, st_k (by decide), v5 i i0 i1]) z144
    refine ⟨0, st m8 156 0 c, c, mZ, rfl, ?_, ?_, fun _ => ?_, ⟨z1.wf wV, z1.row (by rw [z143]; exact v4) wV.n6 wV.t6⟩, ring.mono (by omega), ⟨?_, ?_, fun y => ?_⟩, ?_, ?_, ?_, ?_, ?_, ?_, ?_, ?_, ?_, ?_, ?_, ?_⟩
    · unfold qM_run
      rw [sBind, hmA, v1, sBnd2, if_neg (by omega), copies_eq, sBind, v2, sBnd2, sBind, if_neg (show ¬ (1 : Int) = 0 by decide), q1, sBind, z23]
    · rw [q4 0 (by decide) (by decide), st_i (by decide), v7 0 (by decide) (by decide) (by decide), ← hmA, st_at]
    · rw [z 156 (by decide) (by decide) (by decide) (by decide) (by decide) (by decide) (by decide), ← hmA, st_k (by decide), st_at]
    · rw [z0]; exact hS.1
    · rw [z142 8 (by decide) (by decide) (by decide) (by decide) (by decide) (by decide) (by decide), z0]; exact hS.2.1
    · rw [z0] at y
      rw [zh 145 (by decide) (by decide) (by decide) (by decide) (by decide) (by decide) (by decide) (by decide) (by decide)]
      exact ((hS.2.2 y).move (HEq6.of_same fun q y1 y2 => by rw [zl q (by omega), p5 q (by omega) (Or.inl (by omega)), f7 q (by omega) (by omega)]) (fun _ _ _ => rfl)).mono (by omega)
    · rw [zh 140 (by decide) (by decide) (by decide) (by decide) (by decide) (by decide) (by decide) (by decide) (by decide)]; exact t1
    · rw [z142 15 (by decide) (by decide) (by decide) (by decide) (by decide) (by decide) (by decide), zh 140 (by decide) (by decide) (by decide) (by decide) (by decide) (by decide) (by decide) (by decide) (by decide)]; exact t2
    · rw [zh 140 (by decide) (by decide) (by decide) (by decide) (by decide) (by decide) (by decide) (by decide) (by decide), zh 141 (by decide) (by decide) (by decide) (by decide) (by decide) (by decide) (by decide) (by decide) (by decide), zh 153 (by decide) (by decide) (by decide) (by decide) (by decide) (by decide) (by decide) (by decide) (by decide)]; exact t3
    · rw [z138]; decide
    · rw [z138, z17]
    · rw [z138]; intro i j0 j1; omega
    · rw [z142 19 (by decide) (by decide) (by decide) (by decide) (by decide) (by decide) (by decide), z0]; exact t4
    · rw [z142 20 (by decide) (by decide) (by decide) (by decide) (by decide) (by decide) (by decide), z0]; exact t5
    · rw [z0]; exact t6
    · rw [z0]; exact t7
    · rw [z136]; exact x7.1
    · rw [z136]; exact x7.2
