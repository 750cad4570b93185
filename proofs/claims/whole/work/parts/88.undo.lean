/-! ===== B: errorPosition, failedCommand, undo, restore ===== -/
theorem errorPosition_ok {N : Int} : OpOk N N qL_errorPosition qM_errorPosition := by
  intro μ hI
  obtain ⟨-, -, -, -, -, -, t4, t5, t6, t7⟩ := hI.2.2.2
  show ∃ a9 m1 x m2, qL_errorPosition μ = some (a9, m1) ∧ qM_errorPosition m1 = some (x, m2) ∧ m2 142 0 = a9 ∧ (a9 = 0 → m2 156 0 = x) ∧ Inv N m2
  unfold qL_errorPosition qT_errorPosition
  by_cases h : μ 0 10 = -1
  · rw [if_pos h, sBndTr, if_pos rfl]
    refine ⟨1, μ, 0, st (st μ 142 0 0) 142 0 1, rfl, ?_, st_at, fun h => absurd h (by decide), thrown_inv (thrown_inv hI (Int.le_refl N)) (Int.le_refl N)⟩
    unfold qM_errorPosition
    rw [sBind, st_i (by decide), t4, if_pos (by omega), fails_eq, sBnd2]
  · rw [if_neg h, sBndTl]
    refine ⟨0, _, μ 0 10, _, rfl, ?_, st_at, fun _ => by rw [st_k (by decide), st_at], asked_inv (x := μ 0 10) hI⟩
    unfold qM_errorPosition
    rw [sBind, st_i (by decide), st_k (by decide), t4, if_neg (by omega)]
theorem failedCommand_ok {N : Int} : OpOk N N qL_failedCommand qM_failedCommand := by
  intro μ hI
  obtain ⟨-, -, -, -, -, -, t4, t5, t6, t7⟩ := hI.2.2.2
  show ∃ a9 m1 x m2, qL_failedCommand μ = some (a9, m1) ∧ qM_failedCommand m1 = some (x, m2) ∧ m2 142 0 = a9 ∧ (a9 = 0 → m2 156 0 = x) ∧ Inv N m2
  unfold qL_failedCommand qT_failedCommand
  by_cases h : μ 0 11 = -1
  · rw [if_pos h, sBndTr, if_pos rfl]
    refine ⟨1, μ, 0, st (st μ 142 0 0) 142 0 1, rfl, ?_, st_at, fun h => absurd h (by decide), thrown_inv (thrown_inv hI (Int.le_refl N)) (Int.le_refl N)⟩
    unfold qM_failedCommand
    rw [sBind, st_i (by decide), t5, if_pos (by omega), fails_eq, sBnd2]
  · rw [if_neg h, sBndTl]
    refine ⟨0, _, μ 0 11, _, rfl, ?_, st_at, fun _ => by rw [st_k (by decide), st_at], asked_inv (x := μ 0 11) hI⟩
    unfold qM_failedCommand
    rw [sBind, st_i (by decide), st_k (by decide), t5, if_neg (by omega)]
/-- i ints of row s of 144 laid into 143 -/
def cpyU (μ : zM) (s i : Int) : zM := fun q j => if q = 143 then (if 0 ≤ j ∧ j < i then μ 144 (62 * s + j) else μ q j) else μ q j
theorem cpyU_k {μ : zM} {s i : Int} {q : Nat} (h : q ≠ 143) : cpyU μ s i q = μ q := funext fun j => by unfold cpyU; rw [if_neg h]
theorem cpyU_at {μ : zM} {s i j : Int} (h : 0 ≤ j ∧ j < i) : cpyU μ s i 143 j = μ 144 (62 * s + j) := by unfold cpyU; rw [if_pos rfl, if_pos h]
theorem undo_l {μ : zM} {s : Int} (hs : 0 ≤ s ∧ s < 8) : ∀ (k n : Nat) (i : Int), i + k = 62 → 0 ≤ i → k < n → qM_undo_l43 s n (cpyU μ s i) i = some (cpyU μ s 62) := by
  intro k
  induction k with
  | zero =>
    intro n i h h0 hn
    obtain ⟨n, rfl⟩ : ∃ n', n = n' + 1 := ⟨n - 1, by omega⟩
    unfold qM_undo_l43
    rw [if_neg (by omega), show i = 62 by omega]
  | succ k ih =>
    intro n i h h0 hn
    obtain ⟨n, rfl⟩ : ∃ n', n = n' + 1 := ⟨n - 1, by omega⟩
    have hst : st (cpyU μ s i) 143 i (μ 144 (62 * s + i)) = cpyU μ s (i + 1) := by
      funext q j
      unfold st cpyU
      by_cases hq : q = 143
      · rw [if_pos hq, if_pos hq, if_pos hq]
        by_cases hj : j = i
        · rw [if_pos hj, if_pos (by omega), hj]
        · rw [if_neg hj]
          by_cases h1 : 0 ≤ j ∧ j < i
          · rw [if_pos h1, if_pos (by omega)]
          · rw [if_neg h1, if_neg (by omega)]
      · rw [if_neg hq, if_neg hq, if_neg hq]
    unfold qM_undo_l43
    rw [wr_n (x := 62 * s) (by omega) (by omega), wr_n (x := 62 * s + i) (by omega) (by omega), wr_n (x := i + 1) (by omega) (by omega)]
    rw [if_pos (by omega), if_pos (by omega), if_pos (by omega), sBind, cpyU_k (q := 144) (by decide), hst]
    exact ih n (i + 1) (by omega) (by omega) (by omega)
theorem cpyU_0 {μ : zM} {s : Int} : cpyU μ s 0 = μ := by
  funext q j
  unfold cpyU
  by_cases hq : q = 143
  · rw [if_pos hq, if_neg (by omega)]
  · rw [if_neg hq]
theorem undo_ok {N : Int} : OpOk N N qL_undo qM_undo := by
  intro μ hI
  obtain ⟨hB, hR, hS, hT⟩ := hI
  obtain ⟨hC, hK, hF, hE, hr9⟩ := hR
  show ∃ a9 m1 x m2, qL_undo μ = some (a9, m1) ∧ qM_undo m1 = some (x, m2) ∧ m2 142 0 = a9 ∧ (a9 = 0 → m2 156 0 = x) ∧ Inv N m2
  unfold qL_undo qT_undo qY_popInto
  by_cases h0 : μ 31 2 = 0
  · rw [if_pos h0, sBndTr, if_pos rfl]
    refine ⟨1, μ, 0, st (st μ 142 0 0) 142 0 1, rfl, ?_, st_at, fun h => absurd h (by decide), thrown_inv (thrown_inv ⟨hB, ⟨hC, hK, hF, hE, hr9⟩, hS, hT⟩ (Int.le_refl N)) (Int.le_refl N)⟩
    unfold qM_undo
    rw [sBind, st_i (by decide), hE, if_pos h0, fails_eq, sBnd2]
  rw [if_neg h0, if_pos (by omega), sBind, st_at, st_i (show (1 : Int) ≠ 2 by decide), wr_n (x := μ 31 2 - 1) (by omega) (by omega), wr_n (by omega) (by omega), tmod8 (by omega), if_pos ⟨by omega, by omega⟩]
  generalize hs : ((μ 31 1 + (μ 31 2 - 1)) % 8).toNat = s
  have hs7 : s < 8 := by omega
  obtain ⟨m1, e1, e2, e3⟩ := copyFrom_eq (μ := st μ 31 2 (μ 31 2 - 1)) (h := 1) (v := 33 + 10 * s) (Or.inl (by omega))
  have f1 : ∀ q : Nat, (q < 1 ∨ 11 ≤ q) → q ≠ 31 → m1 q = μ q := fun q hq h31 => by rw [e3 q (by omega)]; exact funext fun j => st_k h31
  have f312 : m1 31 2 = μ 31 2 - 1 := by rw [e3 31 (by omega), st_at]
  have f31 : ∀ j, j ≠ 2 → m1 31 j = μ 31 j := fun j hj => by rw [e3 31 (by omega), st_i hj]
  rw [e1, sBind, sBind, sBndTl, f312]
  generalize hmA : st (st m1 156 0 (μ 31 2 - 1)) 142 0 0 = mA
  have a142 : ∀ j, j ≠ 0 → mA 142 j = μ 142 j := fun j hj => by rw [← hmA, st_i hj, st_k (by decide), f1 142 (by omega) (by decide)]
  generalize hm2 : st mA 142 6 (μ 31 2 - 1) = m2
  have hsM : 0 ≤ (μ 142 7 + (μ 31 2 - 1)) % 8 ∧ (μ 142 7 + (μ 31 2 - 1)) % 8 < 8 := by omega
  have hl := undo_l (μ := m2) hsM 62 200 0 (by omega) (by omega) (by omega)
  rw [cpyU_0] at hl
  generalize hmZ : cpyU m2 ((μ 142 7 + (μ 31 2 - 1)) % 8) 62 = mZ at hl
  have z : ∀ q : Nat, q ≠ 143 → q ≠ 142 → q ≠ 156 → mZ q = m1 q := fun q h1 h2 h3 => by
    rw [← hmZ, cpyU_k h1, ← hm2, ← hmA]; exact funext fun j => by rw [st_k h2, st_k h2, st_k h3]
  have z142 : ∀ j, j ≠ 0 → j ≠ 6 → mZ 142 j = μ 142 j := fun j h0 h6 => by rw [← hmZ, cpyU_k (by decide), ← hm2, st_i h6, a142 j h0]
  have z6 : mZ 142 6 = μ 31 2 - 1 := by rw [← hmZ, cpyU_k (by decide), ← hm2, st_at]
  have z143 : ∀ i, 0 ≤ i → i < 62 → mZ 143 i = μ 144 (62 * ((μ 142 7 + (μ 31 2 - 1)) % 8) + i) := fun i i0 i1 => by
    rw [← hmZ, cpyU_at ⟨i0, i1⟩, ← hm2, st_k (by decide), ← hmA, st_k (by decide), st_k (by decide), f1 144 (by omega) (by decide)]
  have zH : HEq6 (hv mZ 1) (hv μ (33 + 10 * s)) := HEq6.trans (HEq6.of_same fun q q1 q2 => z q (by omega) (by omega) (by omega)) (HEq6.trans e2 (HEq6.of_same fun q q1 q2 => funext fun j => st_k (by omega)))
  have last := hr9 (μ 31 2 - 1) (by omega) (by omega)
  rw [hs] at last
  have mv : ∀ (g : Nat) (w w' : Int → Int), 11 ≤ g → g < 22 ∨ 32 ≤ g → g < 104 → (∀ i, 0 ≤ i → i < 62 → w' i = w i) → Both N μ g w → Both N mZ g w' := fun g w w' h1 h2 h3 hw b => b.move (HEq6.of_same fun q q1 q2 => by rw [z q (by omega) (by omega) (by omega), f1 q (by omega) (by omega)]) hw
  refine ⟨0, st m1 156 0 (μ 31 2 - 1), μ 31 2 - 1, mZ, rfl, ?_, ?_, fun _ => ?_, last.move zH z143, ⟨?_, ?_, ?_, ?_, fun j j0 j1 => ?_⟩, ⟨?_, ?_, fun y => ?_⟩, ?_⟩
  · unfold qM_undo
    rw [sBind, hmA, a142 6 (by decide), hE, if_neg h0, wr_n (by omega) (by omega), sBind, hm2]
    have h27 : m2 142 7 = μ 142 7 := by rw [← hm2, st_i (by decide), a142 7 (by decide)]
    have h26 : m2 142 6 = μ 31 2 - 1 := by rw [← hm2, st_at]
    rw [h27, h26, wr_n (by omega) (by omega), tmod8 (by omega), hl, sBind, z6]
  · rw [← hmZ, cpyU_k (by decide), ← hm2, st_i (by decide), ← hmA, st_at]
  · rw [← hmZ, cpyU_k (by decide), ← hm2, st_k (by decide), ← hmA, st_k (by decide), st_at]
  · rw [z 31 (by decide) (by decide) (by decide), f31 1 (by decide)]; exact hC
  · rw [z 31 (by decide) (by decide) (by decide), f312]; omega
  · rw [z142 7 (by decide) (by decide)]; exact hF
  · rw [z6, z 31 (by decide) (by decide) (by decide), f312]
  · rw [z 31 (by decide) (by decide) (by decide), f312] at j1
    rw [z 31 (by decide) (by decide) (by decide), f31 1 (by decide), z142 7 (by decide) (by decide), z 144 (by decide) (by decide) (by decide), f1 144 (by omega) (by decide)]
    exact mv _ _ _ (by omega) (Or.inr (by omega)) (by omega) (fun _ _ _ => rfl) (hr9 j j0 (by omega))
  · rw [z 0 (by decide) (by decide) (by decide), f1 0 (by omega) (by decide)]; exact hS.1
  · rw [z142 8 (by decide) (by decide), z 0 (by decide) (by decide) (by decide), f1 0 (by omega) (by decide)]; exact hS.2.1
  · rw [z 0 (by decide) (by decide) (by decide), f1 0 (by omega) (by decide)] at y
    rw [z 145 (by decide) (by decide) (by decide), f1 145 (by omega) (by decide)]
    exact mv _ _ _ (by omega) (Or.inl (by omega)) (by omega) (fun _ _ _ => rfl) (hS.2.2 y)
  · unfold Texts
    rw [z 140 (by decide) (by decide) (by decide), z 141 (by decide) (by decide) (by decide), z 138 (by decide) (by decide) (by decide), z 139 (by decide) (by decide) (by decide), z 136 (by decide) (by decide) (by decide), z 153 (by decide) (by decide) (by decide), z 154 (by decide) (by decide) (by decide), z 0 (by decide) (by decide) (by decide), f1 140 (by omega) (by decide), f1 141 (by omega) (by decide), f1 138 (by omega) (by decide), f1 139 (by omega) (by decide), f1 136 (by omega) (by decide), f1 153 (by omega) (by decide), f1 154 (by omega) (by decide), f1 0 (by omega) (by decide), z142 15 (by decide) (by decide), z142 17 (by decide) (by decide), z142 19 (by decide) (by decide), z142 20 (by decide) (by decide)]
    exact hT
theorem restore_l {μ : zM} : ∀ (k n : Nat) (i : Int), i + k = 62 → 0 ≤ i → k < n → qM_restore_l20 n (cpy μ 145 143 i) i = some (cpy μ 145 143 62) := by
  intro k
  induction k with
  | zero =>
    intro n i h h0 hn
    obtain ⟨n, rfl⟩ : ∃ n', n = n' + 1 := ⟨n - 1, by omega⟩
    unfold qM_restore_l20
    rw [if_neg (by omega), show i = 62 by omega]
  | succ k ih =>
    intro n i h h0 hn
    obtain ⟨n, rfl⟩ : ∃ n', n = n' + 1 := ⟨n - 1, by omega⟩
    unfold qM_restore_l20
    rw [if_pos (by omega), if_pos (by omega), if_pos (by omega), sBind, st_cpy (by decide) h0, wr_n (by omega) (by omega)]
    exact ih n (i + 1) (by omega) (by omega) (by omega)
theorem restore_ok {N : Int} : OpOk N N qL_restore qM_restore := by
  intro μ hI
  obtain ⟨hB, hR, hS, hT⟩ := hI
  show ∃ a9 m1 x m2, qL_restore μ = some (a9, m1) ∧ qM_restore m1 = some (x, m2) ∧ m2 142 0 = a9 ∧ (a9 = 0 → m2 156 0 = x) ∧ Inv N m2
  unfold qL_restore qT_restore qY_forget
  by_cases h0 : μ 0 9 = 0
  · rw [if_pos h0, sBndTr, if_pos rfl]
    refine ⟨1, μ, 0, st (st μ 142 0 0) 142 0 1, rfl, ?_, st_at, fun h => absurd h (by decide), thrown_inv (thrown_inv ⟨hB, hR, hS, hT⟩ (Int.le_refl N)) (Int.le_refl N)⟩
    unfold qM_restore
    rw [sBind, st_i (by decide), hS.2.1, if_pos h0, fails_eq, sBnd2]
  have hsv : μ 0 9 = 1 := hS.1.resolve_left h0
  have hb := hS.2.2 hsv
  have ht : μ 145 1 = μ 21 3 := hb.2.t
  obtain ⟨m1, e1, e2, e3⟩ := copyFrom_eq (μ := μ) (h := 1) (v := 21) (Or.inl (by decide))
  have x3 : m1 1 3 = μ 21 3 := e2.1.2.1
  rw [if_neg h0, e1, sBind, sBind, sBind, sBndTl, st_k (show (1 : Nat) ≠ 31 by decide), x3]
  generalize hmA : st (st (st m1 31 2 0) 156 0 (μ 21 3)) 142 0 0 = mA
  have fA : ∀ q : Nat, q ≠ 31 → q ≠ 142 → q ≠ 156 → (q < 1 ∨ 11 ≤ q) → mA q = μ q := fun q h1 h2 h3 h4 => by rw [← hmA, ← e3 q h4]; exact funext fun j => by rw [st_k h2, st_k h3, st_k h1]
  have a142 : ∀ j, j ≠ 0 → mA 142 j = μ 142 j := fun j hj => by rw [← hmA, st_i hj, st_k (by decide), st_k (by decide), e3 142 (by omega)]
  have hl := restore_l (μ := mA) 62 200 0 (by omega) (by omega) (by omega)
  rw [cpy_0] at hl
  generalize hmZ : st (st (cpy mA 145 143 62) 142 6 0) 142 7 0 = mZ
  have z : ∀ q : Nat, q ≠ 143 → q ≠ 142 → mZ q = mA q := fun q h1 h2 => by rw [← hmZ]; exact funext fun j => by rw [st_k h2, st_k h2, cpy_k h1]
  have z142 : ∀ j, j ≠ 0 → j ≠ 6 → j ≠ 7 → mZ 142 j = μ 142 j := fun j h0 h6 h7 => by rw [← hmZ, st_i h7, st_i h6, cpy_k (by decide), a142 j h0]
  have z143 : ∀ i, 0 ≤ i → i < 62 → mZ 143 i = μ 145 i := fun i i0 i1 => by rw [← hmZ, st_k (by decide), st_k (by decide), cpy_at ⟨i0, i1⟩, fA 145 (by decide) (by decide) (by decide) (by omega)]
  have zH : HEq6 (hv mZ 1) (hv μ 21) := HEq6.trans (HEq6.of_same fun q q1 q2 => by
    rw [z q (by omega) (by omega), ← hmA]; exact funext fun j => by rw [st_k (by omega), st_k (by omega), st_k (by omega)]) e2
  have z31 : mZ 31 1 = μ 31 1 ∧ mZ 31 2 = 0 := by
    rw [z 31 (by decide) (by decide), ← hmA]
    exact ⟨by rw [st_k (by decide), st_k (by decide), st_i (by decide), e3 31 (by omega)], by rw [st_k (by decide), st_k (by decide), st_at]⟩
  have zq : ∀ q : Nat, q ≠ 31 → q ≠ 142 → q ≠ 143 → q ≠ 156 → (q < 1 ∨ 11 ≤ q) → mZ q = μ q := fun q h1 h2 h3 h4 h5 => by rw [z q h3 h2, fA q h1 h2 h4 h5]
  refine ⟨0, st (st m1 31 2 0) 156 0 (μ 21 3), μ 21 3, mZ, rfl, ?_, ?_, fun _ => ?_, hb.move zH z143, ⟨?_, ?_, ?_, ?_, fun j j0 j1 => ?_⟩, ⟨?_, ?_, fun y => ?_⟩, ?_⟩
  · unfold qM_restore
    rw [sBind, hmA, a142 8 (by decide), hS.2.1, if_neg h0, hl, sBind, sBind, sBind, hmZ, z143 1 (by decide) (by decide), ht]
  · rw [← hmZ, st_i (by decide), st_i (by decide), cpy_k (by decide), ← hmA, st_at]
  · rw [z 156 (by decide) (by decide), ← hmA, st_k (by decide), st_at]
  · rw [z31.1]; exact hR.1
  · rw [z31.2]; omega
  · rw [← hmZ, st_at]; omega
  · rw [z31.2, ← hmZ, st_i (by decide), st_at]
  · rw [z31.2] at j1; omega
  · rw [zq 0 (by decide) (by decide) (by decide) (by decide) (by omega)]; exact hS.1
  · rw [z142 8 (by decide) (by decide) (by decide), zq 0 (by decide) (by decide) (by decide) (by decide) (by omega)]; exact hS.2.1
  · rw [zq 145 (by decide) (by decide) (by decide) (by decide) (by omega)]
    exact hb.move (HEq6.of_same fun q q1 q2 => zq q (by omega) (by omega) (by omega) (by omega) (by omega)) (fun _ _ _ => rfl)
  · unfold Texts
    rw [zq 140 (by decide) (by decide) (by decide) (by decide) (by omega), zq 141 (by decide) (by decide) (by decide) (by decide) (by omega), zq 138 (by decide) (by decide) (by decide) (by decide) (by omega), zq 139 (by decide) (by decide) (by decide) (by decide) (by omega), zq 136 (by decide) (by decide) (by decide) (by decide) (by omega), zq 153 (by decide) (by decide) (by decide) (by decide) (by omega), zq 154 (by decide) (by decide) (by decide) (by decide) (by omega), zq 0 (by decide) (by decide) (by decide) (by decide) (by omega), z142 15 (by decide) (by decide) (by decide), z142 17 (by decide) (by decide) (by decide), z142 19 (by decide) (by decide) (by decide), z142 20 (by decide) (by decide) (by decide)]
    exact hT
