/-! ===== B: removeTenant, the turn ===== -/
theorem removes_eq {m : zM} {V : zM} {N : Int} {s : Int} (hN : N ≤ 1000000000) (w : WF N V) (r : RowIs (m 143) V) (hs : 0 ≤ s ∧ s < V 0 3) :
    ∃ m6, (Option.bind (qM_of m s 4) fun a5 =>
      Option.bind (some (st m 143 6 (wr ((m 143 6) + a5)))) fun m6 =>
      Option.bind (some (st m6 143 1 (wr ((m6 143 1) - 1)))) fun m7 =>
      Option.bind (qM_removeTenant_l89 (wr (20 + (wr (7 * (m7 143 1))))) 200 m7 (wr (20 + (wr (7 * s))))) fun m9 =>
      Option.bind (qM_removeTenant_l121 (wr (20 + (wr (7 * (m7 143 1))))) 200 m9 0) fun m11 =>
      some ((m11 143 1), m11)) = some (V 0 3 - 1, m6) ∧ (∀ q : Nat, q ≠ 143 → m6 q = m q) ∧ RowIs (m6 143) (vRemove V s) := by
  have t6 := w.t6
  have rt := r.t
  have rg := r.gn
  have rp := (r.tn s hs.1 hs.2).2.2.2.2.1
  have gn := w.gn
  have pu := (w.tn s hs.1 hs.2).2.2.2.1
  rw [of_eq (by omega) (by decide), sBind, sBind, show 20 + 7 * s + 4 = 24 + 7 * s by omega, rp, rg, wr_n (x := V 0 16 + V 7 s) (by omega) (by omega), sBind, st_i (show (1 : Int) ≠ 6 by decide), rt, wr_n (x := V 0 3 - 1) (by omega) (by omega)]
  generalize hm7 : st (st m 143 6 (V 0 16 + V 7 s)) 143 1 (V 0 3 - 1) = m7
  have g1 : m7 143 1 = V 0 3 - 1 := by rw [← hm7, st_at]
  have g6 : m7 143 6 = V 0 16 + V 7 s := by rw [← hm7, st_i (by decide), st_at]
  have gi : ∀ i, i ≠ 1 → i ≠ 6 → m7 143 i = m 143 i := fun i h1 h6 => by rw [← hm7, st_i h1, st_i h6]
  have gq : ∀ q : Nat, q ≠ 143 → m7 q = m q := fun q hq => by rw [← hm7]; exact funext fun j => by rw [st_k hq, st_k hq]
  rw [g1, wr_n (x := 7 * (V 0 3 - 1)) (by omega) (by omega), wr_n (x := 20 + 7 * (V 0 3 - 1)) (by omega) (by omega), wr_n (x := 7 * s) (by omega) (by omega), wr_n (x := 20 + 7 * s) (by omega) (by omega)]
  have h1 := rem1_l (μ := m7) (a := 20 + 7 * s) (b := 20 + 7 * (V 0 3 - 1)) (by omega) (by omega) (7 * (V 0 3 - 1) - 7 * s).toNat 200 (20 + 7 * s) (by omega) (by omega) (by omega)
  rw [shM_0] at h1
  rw [h1, sBind]
  generalize hm9 : shM m7 (20 + 7 * s) (20 + 7 * (V 0 3 - 1)) = m9
  have k1 : ∀ i, 20 + 7 * s ≤ i → i < 20 + 7 * (V 0 3 - 1) → m9 143 i = m7 143 (i + 7) := fun i i0 i1 => by rw [← hm9]; unfold shM; rw [if_pos rfl, if_pos ⟨i0, i1⟩]
  have k2 : ∀ i, i < 20 + 7 * s → m9 143 i = m7 143 i := fun i i0 => by rw [← hm9]; unfold shM; rw [if_pos rfl, if_neg (by omega)]
  have kq : ∀ q : Nat, q ≠ 143 → m9 q = m7 q := fun q hq => by rw [← hm9]; unfold shM; exact funext fun j => if_neg hq
  have h2 := rem2_l (μ := m9) (b := 20 + 7 * (V 0 3 - 1)) (by omega) (by omega) 7 200 0 (by omega) (by omega) (by omega)
  rw [zrM_0] at h2
  rw [h2, sBind]
  have z1 : ∀ i, i < 20 + 7 * (V 0 3 - 1) → zrM m9 (20 + 7 * (V 0 3 - 1)) 7 143 i = m9 143 i := fun i i0 => by unfold zrM; rw [if_pos rfl, if_neg (by omega)]
  have zq : ∀ q : Nat, q ≠ 143 → zrM m9 (20 + 7 * (V 0 3 - 1)) 7 q = m9 q := fun q hq => by unfold zrM; exact funext fun j => if_neg hq
  refine ⟨_, by rw [z1 1 (by omega), k2 1 (by omega), g1], fun q hq => by rw [zq q hq, kq q hq, gq q hq], remove_row r w.n6 t6 hs (by rw [z1 1 (by omega), k2 1 (by omega), g1]) (by rw [z1 6 (by omega), k2 6 (by omega), g6]) (fun i i1 i6 i9 => by rw [z1 i (by omega), k2 i i9, gi i i1 i6]) (fun i i0 i9 => by rw [z1 i i9, k1 i i0 i9, gi _ (by omega) (by omega)])⟩
theorem removeTenant_ok {N : Int} (hN : N ≤ 1000000000) {v : Int} : OpOk N N (fun μ => qL_removeTenant μ v) (fun μ => qM_removeTenant μ v) := by
  intro μ hI
  have hB := hI.1
  have w := hB.1
  have t0 : 0 ≤ μ 1 3 := w.t0
  have t6 : μ 1 3 ≤ 6 := w.t6
  have n6 : μ 1 0 ≤ 6 := w.n6
  have gn : 0 ≤ μ 1 16 ∧ μ 1 16 ≤ N := w.gn
  have k9 : ∀ (m : zM) (x : Int), (st m 142 0 x) 143 = m 143 := fun m x => funext fun j => st_k (by decide)
  have hs := fi_spec (w := μ (1 + 3)) (v := v) (μ 1 3).toNat 0 (by omega)
  have hp : ∀ m : zM, m 143 = μ 143 → qM_place m v = some (fi (μ (1 + 3)) v (μ 1 3).toNat 0) := fun m hm => place_eq (V := hv μ 1) (by rw [hm]; exact hB.2) t0 t6
  have hq : ∀ m : zM, (∀ q : Nat, q < 31 → m q = μ q) → qH_slotOf m 1 v = some (fi (μ (1 + 3)) v (μ 1 3).toNat 0) := fun m hm => by
    rw [slotOf_eq (by rw [hm 1 (by omega)]; exact t0) (by rw [hm 1 (by omega)]; exact t6), hm 1 (by omega), hm (1 + 3) (by omega)]
  show ∃ a9 m1 x m2, qL_removeTenant μ v = some (a9, m1) ∧ qM_removeTenant m1 v = some (x, m2) ∧ m2 142 0 = a9 ∧ (a9 = 0 → m2 156 0 = x) ∧ Inv N m2
  unfold qL_removeTenant qT_removeTenant qH_refusalOfGoing
  rw [hq μ (fun q _ => rfl), sBind]
  generalize fi (μ (1 + 3)) v (μ 1 3).toNat 0 = s at hs hp hq
  by_cases hf : s = -1
  · rw [if_pos hf, sBind, refuseE (by decide), sTcr, sBndTr, if_pos (by decide)]
    refine ⟨1, μ, 0, st (st μ 142 0 0) 142 0 1, rfl, ?_, st_at, fun h => absurd h (by decide), thrown_inv (thrown_inv hI (Int.le_refl _)) (Int.le_refl _)⟩
    unfold qM_removeTenant
    rw [sBind, hp _ (k9 _ _), sBind, if_pos (show s < 0 by omega), fails_eq, sBnd2]
  have s0 : 0 ≤ s ∧ s < μ 1 3 := by omega
  have hh : μ 143 (26 + 7 * s) = μ (1 + 9) s + 1 := (hB.2.tn s s0.1 s0.2).2.2.2.2.2.2
  have hb : -1 ≤ μ (1 + 9) s ∧ μ (1 + 9) s < μ 1 0 := (w.tn s s0.1 s0.2).2.2.2.2.2
  have pu : 0 ≤ μ 8 s ∧ μ 8 s ≤ N := (w.tn s s0.1 s0.2).2.2.2.1
  rw [if_neg hf, if_pos (show 0 ≤ s ∧ s < 6 by omega)]
  by_cases hm1 : μ (1 + 9) s = -1
  case neg =>
    rw [if_neg hm1, sBind, refuseE (by decide), sTcr, sBndTr, if_neg (by decide), if_pos (by decide)]
    refine ⟨2, μ, 0, st (st μ 142 0 0) 142 0 2, rfl, ?_, st_at, fun h => absurd h (by decide), thrown_inv (thrown_inv hI (Int.le_refl _)) (Int.le_refl _)⟩
    unfold qM_removeTenant
    rw [sBind, hp _ (k9 _ _), sBind, if_neg (show ¬ s < 0 by omega), of_eq (by omega) (by decide), sBind, k9, show 20 + 7 * s + 6 = 26 + 7 * s by omega, hh, if_pos (by omega), fails_eq, sBnd2]
  rw [if_pos hm1, sBind, refuse0, sTcl]
  obtain ⟨m1, m2, e1, g1, e2, k⟩ := change_both (N' := N) (μ := μ) (r := μ 1 3 - 1) (V' := vRemove (hv μ 1) s) (fun m => Option.bind (qH_slotOf m 1 v) fun a4 => qH_sendAway m 1 a4) (fun m4 => Option.bind (qM_of m4 s 4) fun a5 =>
      Option.bind (some (st m4 143 6 (wr ((m4 143 6) + a5)))) fun m6 =>
      Option.bind (some (st m6 143 1 (wr ((m6 143 1) - 1)))) fun m7 =>
      Option.bind (qM_removeTenant_l89 (wr (20 + (wr (7 * (m7 143 1))))) 200 m7 (wr (20 + (wr (7 * s))))) fun m9 =>
      Option.bind (qM_removeTenant_l121 (wr (20 + (wr (7 * (m7 143 1))))) 200 m9 0) fun m11 =>
      some ((m11 143 1), m11)) hI (Int.le_refl _)
    (fun m1 g1 => by
      show ∃ m2, Option.bind (qH_slotOf m1 1 v) (fun a4 => qH_sendAway m1 1 a4) = _ ∧ _
      rw [hq m1 g1, sBind]
      exact sendAway_eq g1 ⟨s0.1, by omega⟩ ⟨t0, t6⟩ ⟨by omega, by omega⟩)
    (fun m5 l5 => by
      obtain ⟨m6, p1, p2, p3⟩ := removes_eq (m := m5) (V := hv μ 1) (s := s) hN w (by rw [l5]; exact hB.2) s0
      exact ⟨m6, p1, fun q q1 _ _ => p2 q q1, fun j _ => by rw [p2 142 (by decide)], p3⟩)
    (remove_wf w s0)
  have e2' : Option.bind (qH_slotOf m1 1 v) (fun a4 => qH_sendAway m1 1 a4) = some (μ 1 3 - 1, m2) := e2
  rw [hq m1 g1, sBind] at e2'
  rw [e1, sBind, hq m1 g1, sBind, e2', sBnd2, sBndTl]
  obtain ⟨k143, k0, m5, m6, e5, l143, e6, z0, z1, z2⟩ := k _ rfl
  refine ⟨0, _, μ 1 3 - 1, m6, rfl, ?_, z0, fun _ => z1, z2⟩
  unfold qM_removeTenant
  rw [sBind, hp _ k143, sBind, if_neg (show ¬ s < 0 by omega), of_eq (by omega) (by decide), sBind, k143, show 20 + 7 * s + 6 = 26 + 7 * s by omega, hh, if_neg (show ¬ 0 < μ (1 + 9) s + 1 by omega), e5, sBind]
  exact e6
