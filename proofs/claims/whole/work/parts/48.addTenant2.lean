/-! ===== B: addTenant, the turn ===== -/
theorem addTenant_row {w w' : Int → Int} {V : zM} {a b c d : Int} (h : RowIs w V) (t0 : 0 ≤ V 0 3) (t6 : V 0 3 < 6) (n0 : 0 ≤ V 0 0) (n6 : V 0 0 ≤ 6) (w1 : w' 1 = V 0 3 + 1) (w2 : w' 2 = V 0 4 + 1) (w7 : w' 7 = V 0 15 + d)
    (u0 : w' (20 + 7 * V 0 3) = V 0 4) (u1 : w' (21 + 7 * V 0 3) = a) (u2 : w' (22 + 7 * V 0 3) = b) (u3 : w' (23 + 7 * V 0 3) = c) (u4 : w' (24 + 7 * V 0 3) = d) (u5 : w' (25 + 7 * V 0 3) = 0) (u6 : w' (26 + 7 * V 0 3) = 0)
    (wo : ∀ i, i ≠ 1 → i ≠ 2 → i ≠ 7 → (i < 20 + 7 * V 0 3 ∨ 26 + 7 * V 0 3 < i) → w' i = w i) : RowIs w' (vAddTenant V a b c d) := by
  obtain ⟨q3, q4, q5, q6, q7, q8, q9⟩ := vAT_t (V := V) (a := a) (b := b) (c := c) (d := d)
  refine ⟨?_, by rw [vAT_3, w1], by rw [vAT_4, w2], ?_, ?_, ?_, ?_, by rw [vAT_15, w7], fun j h0 h1 => ?_, fun j h0 h1 => ?_⟩
  · rw [vAT_j (by decide) (by decide) (by decide), wo 0 (by decide) (by decide) (by decide) (by omega)]; exact h.n
  · rw [vAT_j (by decide) (by decide) (by decide), wo 3 (by decide) (by decide) (by decide) (by omega)]; exact h.mo
  · rw [vAT_j (by decide) (by decide) (by decide), wo 4 (by decide) (by decide) (by decide) (by omega)]; exact h.ev
  · rw [vAT_j (by decide) (by decide) (by decide), wo 5 (by decide) (by decide) (by decide) (by omega)]; exact h.pd
  · rw [vAT_j (by decide) (by decide) (by decide), wo 6 (by decide) (by decide) (by decide) (by omega)]; exact h.gn
  · rw [vAT_j (by decide) (by decide) (by decide)] at h1
    rw [vAT_f (by decide) (by decide), vAT_f (by decide) (by decide), wo _ (by omega) (by omega) (by omega) (by omega), wo _ (by omega) (by omega) (by omega) (by omega)]
    exact h.fl j h0 h1
  · rw [vAT_3] at h1
    by_cases hj : j = V 0 3
    · subst hj
      rw [q3, q4, q5, q6, q7, q8, q9]
      exact ⟨u0, u1, u2, u3, u4, u5, u6⟩
    · rw [vAT_o (by decide) hj, vAT_o (by decide) hj, vAT_o (by decide) hj, vAT_o (by decide) hj, vAT_o (by decide) hj, vAT_o (by decide) hj, vAT_o (by decide) hj]
      rw [wo _ (by omega) (by omega) (by omega) (by omega), wo _ (by omega) (by omega) (by omega) (by omega), wo _ (by omega) (by omega) (by omega) (by omega), wo _ (by omega) (by omega) (by omega) (by omega), wo _ (by omega) (by omega) (by omega) (by omega), wo _ (by omega) (by omega) (by omega) (by omega), wo _ (by omega) (by omega) (by omega) (by omega)]
      exact h.tn j h0 (by omega)
theorem addTenant_ok {N : Int} (hN : N ≤ 1000000000) {a b c d : Int} : OpOk N (N + 99) (fun μ => qL_addTenant μ a b c d) (fun μ => qM_addTenant μ a b c d) := by
  intro μ hI
  have hB := hI.1
  have w := hB.1
  have ht : μ 143 1 = μ 1 3 := hB.2.t
  have hx : μ 143 2 = μ 1 4 := hB.2.nx
  have hr : μ 143 7 = μ 1 15 := hB.2.rc
  have t0 : 0 ≤ μ 1 3 := w.t0
  have t6 : μ 1 3 ≤ 6 := w.t6
  have nx : 0 ≤ μ 1 4 ∧ μ 1 4 ≤ N := w.nx
  have rc : 0 ≤ μ 1 15 ∧ μ 1 15 ≤ N := w.rc
  show ∃ a9 m1 x m2, qL_addTenant μ a b c d = some (a9, m1) ∧ qM_addTenant m1 a b c d = some (x, m2) ∧ m2 142 0 = a9 ∧ (a9 = 0 → m2 156 0 = x) ∧ Inv (N + 99) m2
  unfold qL_addTenant qT_addTenant
  rw [refTenant_eq, sBind]
  by_cases hc : (1 ≤ a ∧ a ≤ 50) ∧ (0 ≤ b ∧ b ≤ 5) ∧ (1 ≤ c ∧ c ≤ 40) ∧ 0 ≤ d ∧ d ≤ 99
  · rw [if_pos hc]
    by_cases h6 : μ 1 3 < 6
    · rw [if_pos h6, refuse0, sTcl]
      obtain ⟨m1, m2, e1, g1, e2, k⟩ := change_both (N' := N + 99) (μ := μ) (r := μ 1 4) (V' := vAddTenant (hv μ 1) a b c d) (fun m => qH_welcome m 1 a b c d) (fun m => qM_addsTenant m a b c d) hI (by omega)
        (fun m1 g1 => by
          have e9 : m1 1 = μ 1 := g1 1 (by omega)
          refine ⟨_, by rw [welcome_eq (by rw [e9]; exact t0) (by rw [e9]; exact h6) (by rw [e9]; omega) (by rw [e9]; omega) hc.2.2.2, e9], fun q hq => funext fun j => ?_, ?_⟩
          · simp (disch := omega) only [st_k]
          · simp only [hv_st, hv_st0]
            exact HEq6.upd (HEq6.upd (HEq6.upd (HEq6.upd (HEq6.upd (HEq6.upd (HEq6.upd (HEq6.upd (HEq6.upd (HEq6.upd (HEq6.of_same fun q q1 q2 => g1 q (by omega)))))))))))
        )
        (fun m5 l5 => by
          obtain ⟨m6, p1, p2, p3, p4, p5, s0, s1, s2, s3, s4, s5, s6, po⟩ := addsTenant_eq (μ := m5) (a := a) (b := b) (c := c) (d := d) (by rw [l5]; omega) (by rw [l5]; omega) (by rw [l5]; omega) (by rw [l5]; omega) hc.2.2.2
          rw [l5, ht] at p3 s0 s1 s2 s3 s4 s5 s6 po
          rw [l5, hx] at p1 p4
          rw [l5, hr] at p5
          rw [hx] at s0
          exact ⟨m6, p1, fun q q1 _ _ => p2 q q1, fun j _ => by rw [p2 142 (by decide)], addTenant_row hB.2 t0 h6 w.n0 w.n6 p3 p4 p5 s0 s1 s2 s3 s4 s5 s6 po⟩)
        (addTenant_wf w h6 hc.1 hc.2.1 hc.2.2.1 hc.2.2.2)
      rw [e1, sBind, show qH_welcome m1 1 a b c d = some (μ 1 4, m2) from e2, sBnd2, sBndTl]
      obtain ⟨k143, k0, m5, m6, e5, l143, e6, z0, z1, z2⟩ := k _ rfl
      refine ⟨0, _, μ 1 4, m6, rfl, ?_, z0, fun _ => z1, z2⟩
      unfold qM_addTenant
      rw [sBind, notTenant_eq, sBind, if_pos hc, k143, if_neg (show ¬ μ 143 1 = 6 by omega), if_pos rfl, e5, sBind, show qM_addsTenant m5 a b c d = some (μ 1 4, m6) from e6, sBnd2]
    · rw [if_neg h6, refuseE (by decide), sTcr, sBndTr, if_neg (by decide), if_pos (by decide)]
      refine ⟨2, μ, 0, st (st μ 142 0 0) 142 0 2, rfl, ?_, st_at, fun h => absurd h (by decide), thrown_inv (thrown_inv hI (by omega)) (Int.le_refl _)⟩
      unfold qM_addTenant
      rw [sBind, notTenant_eq, sBind, if_pos hc, st_k (show (143 : Nat) ≠ 142 by decide), if_pos (show μ 143 1 = 6 by omega), if_neg (by decide), fails_eq, sBnd2]
  · rw [if_neg hc, refuseE (by decide), sTcr, sBndTr, if_pos (by decide)]
    refine ⟨1, μ, 0, st (st μ 142 0 0) 142 0 1, rfl, ?_, st_at, fun h => absurd h (by decide), thrown_inv (thrown_inv hI (by omega)) (Int.le_refl _)⟩
    unfold qM_addTenant
    rw [sBind, notTenant_eq, sBind, if_neg hc, if_neg (by decide), fails_eq, sBnd2]
