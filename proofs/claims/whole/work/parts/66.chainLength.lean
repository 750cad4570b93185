/-! ===== B: chainLength; looking ahead ===== -/
theorem ahead_l {μ : zM} : ∀ (k n : Nat) (i : Int), i + k = 62 → 0 ≤ i → k < n → qM_looksAhead_l2 n (cpy μ 143 147 i) i = some (cpy μ 143 147 62) := by
  intro k
  induction k with
  | zero =>
    intro n i h h0 hn
    obtain ⟨n, rfl⟩ : ∃ n', n = n' + 1 := ⟨n - 1, by omega⟩
    unfold qM_looksAhead_l2
    rw [if_neg (by omega), show i = 62 by omega]
  | succ k ih =>
    intro n i h h0 hn
    obtain ⟨n, rfl⟩ : ∃ n', n = n' + 1 := ⟨n - 1, by omega⟩
    unfold qM_looksAhead_l2
    rw [if_pos (by omega), if_pos (by omega), if_pos (by omega), sBind, st_cpy (by decide) h0, wr_n (by omega) (by omega)]
    exact ih n (i + 1) (by omega) (by omega) (by omega)
theorem ahead_eq {μ : zM} : qM_looksAhead μ = some (cpy μ 143 147 62) := by
  unfold qM_looksAhead
  have h := ahead_l (μ := μ) 62 200 0 (by omega) (by omega) (by omega)
  rw [cpy_0] at h
  rw [h]; rfl
theorem back_l {μ : zM} : ∀ (k n : Nat) (i : Int), i + k = 62 → 0 ≤ i → k < n → qM_comesBack_l2 n (cpy μ 147 143 i) i = some (cpy μ 147 143 62) := by
  intro k
  induction k with
  | zero =>
    intro n i h h0 hn
    obtain ⟨n, rfl⟩ : ∃ n', n = n' + 1 := ⟨n - 1, by omega⟩
    unfold qM_comesBack_l2
    rw [if_neg (by omega), show i = 62 by omega]
  | succ k ih =>
    intro n i h h0 hn
    obtain ⟨n, rfl⟩ : ∃ n', n = n' + 1 := ⟨n - 1, by omega⟩
    unfold qM_comesBack_l2
    rw [if_pos (by omega), if_pos (by omega), if_pos (by omega), sBind, st_cpy (by decide) h0, wr_n (by omega) (by omega)]
    exact ih n (i + 1) (by omega) (by omega) (by omega)
theorem back_eq {μ : zM} : qM_comesBack μ = some (cpy μ 147 143 62) := by
  unfold qM_comesBack
  have h := back_l (μ := μ) 62 200 0 (by omega) (by omega) (by omega)
  rw [cpy_0] at h
  rw [h]; rfl
/-- a memory that has the house, the row, the ring, what is saved and the texts as before -/
theorem Inv.kept {N : Int} {μ m : zM} (h : Inv N μ) (h1 : ∀ q : Nat, q < 113 → (q < 11 ∨ 21 ≤ q) → m q = μ q) (h2 : ∀ q : Nat, 136 ≤ q → q < 142 → m q = μ q) (h0 : ∀ i, 0 ≤ i → i < 62 → m 143 i = μ 143 i) (h3 : m 144 = μ 144 ∧ m 145 = μ 145 ∧ m 153 = μ 153 ∧ m 154 = μ 154)
    (h4 : m 142 6 = μ 142 6 ∧ m 142 7 = μ 142 7 ∧ m 142 8 = μ 142 8 ∧ m 142 15 = μ 142 15 ∧ m 142 17 = μ 142 17 ∧ m 142 19 = μ 142 19 ∧ m 142 20 = μ 142 20) : Inv N m := by
  obtain ⟨hB, hR, hS, hT⟩ := h
  obtain ⟨e2, e3, e4, e5⟩ := h3
  obtain ⟨f1, f2, f3, f4, f5, f6, f7⟩ := h4
  have hm : ∀ (g : Nat) (w : Int → Int), g = 1 ∨ (21 ≤ g ∧ g < 104) → Both N μ g w → Both N m g w := fun g w hg b => b.move (HEq6.of_same fun q q1 q2 => h1 q (by omega) (by omega)) (fun _ _ _ => rfl)
  refine ⟨hB.move (HEq6.of_same fun q q1 q2 => h1 q (by omega) (by omega)) h0, ⟨?_, ?_, ?_, ?_, fun j h0 h9 => ?_⟩, ⟨?_, ?_, fun z => ?_⟩, ?_⟩
  · rw [h1 31 (by omega) (by omega)]; exact hR.1
  · rw [h1 31 (by omega) (by omega)]; exact hR.2.1
  · rw [f2]; exact hR.2.2.1
  · rw [f1, h1 31 (by omega) (by omega)]; exact hR.2.2.2.1
  · rw [h1 31 (by omega) (by omega)] at h9 ⊢
    rw [f2, e2]
    exact hm _ _ (by omega) (hR.2.2.2.2 j h0 h9)
  · rw [h1 0 (by omega) (by omega)]; exact hS.1
  · rw [f3, h1 0 (by omega) (by omega)]; exact hS.2.1
  · rw [h1 0 (by omega) (by omega)] at z
    rw [e3]
    exact hm _ _ (by omega) (hS.2.2 z)
  · unfold Texts
    rw [h2 140 (by omega) (by omega), h2 141 (by omega) (by omega), h2 138 (by omega) (by omega), h2 139 (by omega) (by omega), h2 136 (by omega) (by omega), h1 0 (by omega) (by omega), e4, e5, f4, f5, f6, f7]
    exact hT
theorem chainLength_ok {N : Int} {v : Int} : OpOk N N (fun μ => qL_chainLength μ v) (fun μ => qM_chainLength μ v) := by
  intro μ hI
  have hB := hI.1
  have w := hB.1
  have t0 : 0 ≤ μ 1 3 := w.t0
  have t6 : μ 1 3 ≤ 6 := w.t6
  have k9 : ∀ (m : zM) (x : Int), (st m 142 0 x) 143 = m 143 := fun m x => funext fun j => st_k (by decide)
  have hs := fi_spec (w := μ (1 + 3)) (v := v) (μ 1 3).toNat 0 (by omega)
  have hp : ∀ m : zM, m 143 = μ 143 → qM_place m v = some (fi (μ (1 + 3)) v (μ 1 3).toNat 0) := fun m hm => place_eq (V := hv μ 1) (by rw [hm]; exact hB.2) t0 t6
  have ho : ∀ m : zM, m 143 = μ 143 → qM_notOut m v = some (if fi (μ (1 + 3)) v (μ 1 3).toNat 0 = -1 then 1 else if μ (1 + 9) (fi (μ (1 + 3)) v (μ 1 3).toNat 0) = -1 then 2 else 0) := fun m hm => notOut_eq (V := hv μ 1) w (by rw [hm]; exact hB.2)
  have hq : ∀ m : zM, (∀ q : Nat, q < 31 → m q = μ q) → qH_slotOf m 1 v = some (fi (μ (1 + 3)) v (μ 1 3).toNat 0) := fun m hm => by
    rw [slotOf_eq (by rw [hm 1 (by omega)]; exact t0) (by rw [hm 1 (by omega)]; exact t6), hm 1 (by omega), hm (1 + 3) (by omega)]
  show ∃ a9 m1 x m2, qL_chainLength μ v = some (a9, m1) ∧ qM_chainLength m1 v = some (x, m2) ∧ m2 142 0 = a9 ∧ (a9 = 0 → m2 156 0 = x) ∧ Inv N m2
  unfold qL_chainLength qT_chainLength qT_housedSlot qT_presentSlot
  rw [hq μ (fun q _ => rfl), sBind]
  generalize fi (μ (1 + 3)) v (μ 1 3).toNat 0 = s at hs hp hq ho
  by_cases hf : s = -1
  · rw [if_pos hf, sTcr, sTcr, sBndTr, if_pos (by decide)]
    refine ⟨1, μ, 0, st (st μ 142 0 0) 142 0 1, rfl, ?_, st_at, fun h => absurd h (by decide), thrown_inv (thrown_inv hI (Int.le_refl _)) (Int.le_refl _)⟩
    unfold qM_chainLength
    rw [sBind, ho _ (k9 _ _), if_pos hf, sBind, if_neg (by decide), fails_eq, sBnd2]
  have s0 : 0 ≤ s ∧ s < μ 1 3 := by omega
  rw [if_neg hf, sTcl, if_pos (show 0 ≤ s ∧ s < 6 by omega)]
  by_cases hm1 : μ 10 s = -1
  · rw [if_pos hm1, sTcr, sBndTr, if_pos (by decide)]
    refine ⟨1, μ, 0, st (st μ 142 0 0) 142 0 1, rfl, ?_, st_at, fun h => absurd h (by decide), thrown_inv (thrown_inv hI (Int.le_refl _)) (Int.le_refl _)⟩
    unfold qM_chainLength
    rw [sBind, ho _ (k9 _ _), if_neg hf, if_pos hm1, sBind, if_neg (by decide), fails_eq, sBnd2]
  rw [if_neg hm1, sTcl]
  obtain ⟨m2, e1, e2, e3⟩ := copyFrom_eq (μ := μ) (h := 11) (v := 1) (Or.inr (by decide))
  have l := h6leave e2 (x := s) (e2.wf w) (by rw [e2.1.2.1]; exact s0)
  obtain ⟨m3, p1, p2, p3⟩ := leaveHome_eq (μ := m2) (h := 11) (x := s) (e2.wf w) (by have h9 : m2 11 3 = μ 1 3 := e2.1.2.1; rw [h9]; exact s0)
  rw [e1, sBind, p1, sBnd2, sBndTl, l.1]
  generalize hr9 : (vLeave (hv μ 1) s).2 = r
  have q3 : ∀ q : Nat, (q < 11 ∨ 21 ≤ q) → m3 q = μ q := fun q hq => by rw [p3 q (by omega) (by omega), e3 q (by omega)]
  generalize hm4 : cpy (st (st m3 156 0 r) 142 0 0) 143 147 62 = m4
  have z4 : m4 143 = μ 143 := by rw [← hm4, ← q3 143 (by omega)]; exact funext fun j => by rw [cpy_k (by decide), st_k (by decide), st_k (by decide)]
  have z7 : ∀ i, 0 ≤ i → i < 62 → m4 147 i = μ 143 i := fun i i0 i1 => by rw [← hm4, cpy_at ⟨i0, i1⟩, st_k (by decide), st_k (by decide), q3 143 (by omega)]
  have zq : ∀ q : Nat, q ≠ 142 → q ≠ 147 → q ≠ 156 → (q < 11 ∨ 21 ≤ q) → m4 q = μ q := fun q h1 h2 h3 h4 => by
    rw [← hm4, ← q3 q h4]; exact funext fun j => by rw [cpy_k h2, st_k h1, st_k h3]
  have z2 : ∀ j, j ≠ 0 → m4 142 j = μ 142 j := fun j hj => by rw [← hm4, cpy_k (by decide), st_i hj, st_k (by decide), q3 142 (by omega)]
  have z0 : m4 142 0 = 0 := by rw [← hm4, cpy_k (by decide), st_at]
  have z6 : m4 156 0 = r := by rw [← hm4, cpy_k (by decide), st_k (by decide), st_at]
  obtain ⟨m6, u1, u2, u3⟩ := leaves_eq (m := m4) (V := hv μ 1) (x := s) w (by rw [z4]; exact hB.2) s0
  have y143 : (st (st m3 156 0 r) 142 0 0) 143 = μ 143 := by rw [← q3 143 (by omega)]; exact funext fun j => by rw [st_k (by decide), st_k (by decide)]
  refine ⟨0, st m3 156 0 r, r, cpy m6 147 143 62, rfl, ?_, by rw [cpy_k (by decide), u3 142 (by decide), z0], fun _ => by rw [cpy_k (by decide), u3 156 (by decide), z6], ?_⟩
  · unfold qM_chainLength
    rw [sBind, ho _ y143, if_neg hf, if_neg hm1, sBind, if_pos rfl, ahead_eq, sBind, hm4, hp m4 z4, sBind, u1, sBnd2, back_eq, sBind, hr9]
  · have cq : ∀ q : Nat, q ≠ 143 → (cpy m6 147 143 62) q = m4 q := fun q hq => by rw [← u3 q hq]; exact funext fun j => cpy_k hq
    refine hI.kept (fun q q1 q2 => by rw [cq q (by omega), zq q (by omega) (by omega) (by omega) q2]) (fun q q1 q2 => by rw [cq q (by omega), zq q (by omega) (by omega) (by omega) (by omega)]) (fun i i0 i1 => by rw [cpy_at ⟨i0, i1⟩, u3 147 (by decide), z7 i i0 i1]) ⟨?_, ?_, ?_, ?_⟩ ?_
    · rw [cq 144 (by decide), zq 144 (by decide) (by decide) (by decide) (by omega)]
    · rw [cq 145 (by decide), zq 145 (by decide) (by decide) (by decide) (by omega)]
    · rw [cq 153 (by decide), zq 153 (by decide) (by decide) (by decide) (by omega)]
    · rw [cq 154 (by decide), zq 154 (by decide) (by decide) (by decide) (by omega)]
    · rw [cq 142 (by decide)]
      exact ⟨z2 6 (by decide), z2 7 (by decide), z2 8 (by decide), z2 15 (by decide), z2 17 (by decide), z2 19 (by decide), z2 20 (by decide)⟩
