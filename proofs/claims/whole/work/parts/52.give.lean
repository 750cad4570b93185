/-! ===== B: give ===== -/
def vGive (V : zM) (s g : Int) : zM := st (st V 7 s (V 7 s + g)) 0 15 (V 0 15 + g)
section VGV
variable {V : zM} {s g : Int}
theorem vG_15 : vGive V s g 0 15 = V 0 15 + g := by unfold vGive; simp (disch := omega) only [st_k, st_i, st_at]
theorem vG_j {j : Int} (h : j ≠ 15) : vGive V s g 0 j = V 0 j := by unfold vGive; simp (disch := omega) only [st_k, st_i]
theorem vG_k {j : Int} {k : Nat} (h0 : k ≠ 0) (h7 : k ≠ 7) : vGive V s g k j = V k j := by unfold vGive; simp (disch := omega) only [st_k]
theorem vG_7 : vGive V s g 7 s = V 7 s + g := by unfold vGive; simp (disch := omega) only [st_k, st_i, st_at]
theorem vG_7o {j : Int} (h : j ≠ s) : vGive V s g 7 j = V 7 j := by unfold vGive; simp (disch := omega) only [st_k, st_i]
theorem give_wf {N : Int} (h : WF N V) (hs : 0 ≤ s ∧ s < V 0 3) (hg : 1 ≤ g ∧ g ≤ 99) : WF (N + 99) (vGive V s g) := by
  have nx := h.nx
  have mo := h.mo
  have ev := h.ev
  have pd := h.pd
  have rc := h.rc
  have gn := h.gn
  refine ⟨by rw [vG_j (by decide)]; exact h.n0, by rw [vG_j (by decide)]; exact h.n6, by rw [vG_j (by decide)]; exact h.t0, by rw [vG_j (by decide)]; exact h.t6, fun j h0 h1 => ?_, fun j h0 h1 => ?_, fun i j h0 hij h1 => ?_, fun j h0 h1 => ?_, fun i j h0 hij h1 => ?_, by rw [vG_j (by decide)]; omega, by rw [vG_j (by decide)]; omega, by rw [vG_j (by decide)]; omega, by rw [vG_j (by decide)]; omega, by rw [vG_15]; omega, by rw [vG_j (by decide)]; omega, by
    have h8 := h.sm
    have t0 := h.t0
    rw [vG_15, vG_j (j := 14) (by decide), vG_j (j := 16) (by decide), vG_j (j := 3) (by decide), ps_upd (w := V 7) (w' := vGive V s g 7) (s := s) (g := g) hs.1 (by omega) vG_7 (fun j hj => vG_7o hj), h8]; omega⟩
  · rw [vG_j (by decide)] at h1
    rw [vG_k (by decide) (by decide), vG_k (by decide) (by decide)]
    exact h.fl j h0 h1
  · rw [vG_j (by decide)] at h1
    rw [vG_k (by decide) (by decide), vG_j (by decide)]
    exact h.id j h0 h1
  · rw [vG_j (by decide)] at h1
    rw [vG_k (by decide) (by decide), vG_k (by decide) (by decide)]
    exact h.inc i j h0 hij h1
  · rw [vG_j (by decide)] at h1
    rw [vG_k (k := 4) (by decide) (by decide), vG_k (k := 5) (by decide) (by decide), vG_k (k := 6) (by decide) (by decide), vG_k (k := 8) (by decide) (by decide), vG_k (k := 9) (by decide) (by decide), vG_j (j := 0) (by decide)]
    obtain ⟨a1, a2, a3, a4, a5, a6, a7⟩ := h.tn j h0 h1
    by_cases hj : j = s
    · subst hj; rw [vG_7]; exact ⟨a1, a2, a3, ⟨by omega, by omega⟩, ⟨a5.1, by omega⟩, a6, a7⟩
    · rw [vG_7o hj]; exact ⟨a1, a2, a3, ⟨a4.1, by omega⟩, ⟨a5.1, by omega⟩, a6, a7⟩
  · rw [vG_j (by decide)] at h1
    rw [vG_k (by decide) (by decide), vG_k (by decide) (by decide)]
    exact h.hm i j h0 hij h1
theorem give_row {w w' : Int → Int} (h : RowIs w V) (n6 : V 0 0 ≤ 6) (hs : 0 ≤ s) (hs6 : s < 6) (w7 : w' 7 = V 0 15 + g) (w1 : w' (24 + 7 * s) = V 7 s + g) (wo : ∀ i, i ≠ 7 → i ≠ 24 + 7 * s → w' i = w i) : RowIs w' (vGive V s g) := by
  refine ⟨by rw [vG_j (by decide), wo 0 (by omega) (by omega)]; exact h.n, by rw [vG_j (by decide), wo 1 (by omega) (by omega)]; exact h.t, by rw [vG_j (by decide), wo 2 (by omega) (by omega)]; exact h.nx, by rw [vG_j (by decide), wo 3 (by omega) (by omega)]; exact h.mo, by rw [vG_j (by decide), wo 4 (by omega) (by omega)]; exact h.ev, by rw [vG_j (by decide), wo 5 (by omega) (by omega)]; exact h.pd, by rw [vG_j (by decide), wo 6 (by omega) (by omega)]; exact h.gn, by rw [vG_15, w7], fun j h0 h1 => ?_, fun j h0 h1 => ?_⟩
  · rw [vG_j (by decide)] at h1
    rw [vG_k (by decide) (by decide), vG_k (by decide) (by decide), wo (8 + 2 * j) (by omega) (by omega), wo (9 + 2 * j) (by omega) (by omega)]
    exact h.fl j h0 h1
  · rw [vG_j (by decide)] at h1
    rw [vG_k (k := 3) (by decide) (by decide), vG_k (k := 4) (by decide) (by decide), vG_k (k := 5) (by decide) (by decide), vG_k (k := 6) (by decide) (by decide), vG_k (k := 8) (by decide) (by decide), vG_k (k := 9) (by decide) (by decide)]
    rw [wo (20 + 7 * j) (by omega) (by omega), wo (21 + 7 * j) (by omega) (by omega), wo (22 + 7 * j) (by omega) (by omega), wo (23 + 7 * j) (by omega) (by omega), wo (25 + 7 * j) (by omega) (by omega), wo (26 + 7 * j) (by omega) (by omega)]
    obtain ⟨a1, a2, a3, a4, a5, a6, a7⟩ := h.tn j h0 h1
    by_cases hj : j = s
    · subst hj; rw [vG_7]; exact ⟨a1, a2, a3, a4, w1, a6, a7⟩
    · rw [vG_7o hj, wo (24 + 7 * j) (by omega) (by omega)]; exact ⟨a1, a2, a3, a4, a5, a6, a7⟩
end VGV
theorem give_ok {N : Int} (hN : N ≤ 1000000000) {v g : Int} : OpOk N (N + 99) (fun μ => qL_give μ v g) (fun μ => qM_give μ v g) := by
  intro μ hI
  have hB := hI.1
  have w := hB.1
  have t0 : 0 ≤ μ 1 3 := w.t0
  have t6 : μ 1 3 ≤ 6 := w.t6
  have rc : 0 ≤ μ 1 15 ∧ μ 1 15 ≤ N := w.rc
  have hr : μ 143 7 = μ 1 15 := hB.2.rc
  have k9 : ∀ (m : zM) (x : Int), (st m 142 0 x) 143 = m 143 := fun m x => funext fun j => st_k (by decide)
  have hs := fi_spec (w := μ (1 + 3)) (v := v) (μ 1 3).toNat 0 (by omega)
  have hp : ∀ m : zM, m 143 = μ 143 → qM_place m v = some (fi (μ (1 + 3)) v (μ 1 3).toNat 0) := fun m hm => place_eq (V := hv μ 1) (by rw [hm]; exact hB.2) t0 t6
  have hq : ∀ m : zM, (∀ q : Nat, q < 31 → m q = μ q) → qH_slotOf m 1 v = some (fi (μ (1 + 3)) v (μ 1 3).toNat 0) := fun m hm => by
    rw [slotOf_eq (by rw [hm 1 (by omega)]; exact t0) (by rw [hm 1 (by omega)]; exact t6), hm 1 (by omega), hm (1 + 3) (by omega)]
  show ∃ a9 m1 x m2, qL_give μ v g = some (a9, m1) ∧ qM_give m1 v g = some (x, m2) ∧ m2 142 0 = a9 ∧ (a9 = 0 → m2 156 0 = x) ∧ Inv (N + 99) m2
  unfold qL_give qT_give qH_refusalOfGift
  rw [hq μ (fun q _ => rfl), sBind]
  generalize fi (μ (1 + 3)) v (μ 1 3).toNat 0 = s at hs hp hq
  by_cases hf : s = -1
  · rw [if_pos hf, sBind, refuseE (by decide), sTcr, sBndTr, if_pos (by decide)]
    refine ⟨1, μ, 0, st (st μ 142 0 0) 142 0 1, rfl, ?_, st_at, fun h => absurd h (by decide), thrown_inv (thrown_inv hI (by omega)) (Int.le_refl _)⟩
    unfold qM_give qM_notGive
    rw [sBind, hp _ (k9 _ _), sBind, if_pos (show s < 0 by omega), sBind, if_neg (by decide), fails_eq, sBnd2]
  · have s0 : 0 ≤ s ∧ s < μ 1 3 := by omega
    rw [if_neg hf, within_eq, sBind]
    by_cases hg : 1 ≤ g ∧ g ≤ 99
    · rw [if_pos hg, if_neg (show ¬ (1 : Int) = 0 by decide), sBind, refuse0, sTcl]
      have pu : 0 ≤ μ 8 s ∧ μ 8 s ≤ N := (w.tn s s0.1 s0.2).2.2.2.1
      have pr : μ 143 (24 + 7 * s) = μ 8 s := (hB.2.tn s s0.1 s0.2).2.2.2.2.1
      obtain ⟨m1, m2, e1, g1, e2, k⟩ := change_both (N' := N + 99) (μ := μ) (r := μ 8 s + g) (V' := vGive (hv μ 1) s g) (fun m => Option.bind (qH_slotOf m 1 v) fun a4 => qH_receive m 1 a4 g) (fun m => qM_gives m v g) hI (by omega)
        (fun m1 g1 => by
          have e9 : m1 1 = μ 1 := g1 1 (by omega)
          have e8 : m1 (1 + 7) = μ 8 := g1 8 (by omega)
          refine ⟨st (st m1 (1 + 7) s (μ 8 s + g)) 1 15 (μ 1 15 + g), ?_, fun q hq => funext fun j => ?_, ?_⟩
          · show Option.bind (qH_slotOf m1 1 v) (fun a4 => qH_receive m1 1 a4 g) = _
            rw [hq m1 g1, sBind]
            unfold qH_receive
            have hc : (0 ≤ s ∧ s < 6) = True := eq_true (by omega)
            simp only [hc, if_true, sBind]
            rw [e8, wr_n (by omega) (by omega), st_k (show (1 : Nat) ≠ 1 + 7 by decide), e9, if_pos (show y_inL (μ 1 15 + g) from ⟨by omega, by omega⟩), st_k (show (1 + 7 : Nat) ≠ 1 by decide), st_at]
          · simp (disch := omega) only [st_k]
          · simp only [hv_st, hv_st0]
            exact HEq6.upd (HEq6.upd (HEq6.of_same fun q q1 q2 => g1 q (by omega))))
        (fun m5 l5 => by
          refine ⟨st (st m5 143 (24 + 7 * s) (μ 8 s + g)) 143 7 (μ 1 15 + g), ?_, fun q q1 _ _ => funext fun j => by rw [st_k q1, st_k q1], fun j _ => by rw [st_k (by decide), st_k (by decide)], give_row hB.2 w.n6 s0.1 (by omega) st_at ?_ (fun i i7 i1 => ?_)⟩
          · unfold qM_gives
            rw [hp m5 l5, sBind, of_eq (by omega) (by decide), sBind, show 20 + 7 * s + 4 = 24 + 7 * s by omega, l5, pr, wr_n (x := μ 8 s + g) (by omega) (by omega), puts_eq (by omega) (by decide), sBind, sBind, show 20 + 7 * s + 4 = 24 + 7 * s by omega, st_i (show (7 : Int) ≠ 24 + 7 * s by omega), l5, hr, wr_n (x := μ 1 15 + g) (by omega) (by omega), of_eq (by omega) (by decide), sBind, show 20 + 7 * s + 4 = 24 + 7 * s by omega, st_i (show 24 + 7 * s ≠ 7 by omega), st_at]
          · rw [st_i (show 24 + 7 * s ≠ 7 by omega), st_at]; rfl
          · rw [st_i i7, st_i i1, l5])
        (give_wf w s0 hg)
      have e2' : Option.bind (qH_slotOf m1 1 v) (fun a4 => qH_receive m1 1 a4 g) = some (μ 8 s + g, m2) := e2
      rw [hq m1 g1, sBind] at e2'
      rw [e1, sBind, hq m1 g1, sBind, e2', sBnd2, sBndTl]
      obtain ⟨k143, k0, m5, m6, e5, l143, e6, z0, z1, z2⟩ := k _ rfl
      refine ⟨0, _, μ 8 s + g, m6, rfl, ?_, z0, fun _ => z1, z2⟩
      unfold qM_give qM_notGive
      rw [sBind, hp _ k143, sBind, if_neg (show ¬ s < 0 by omega), between_eq, sBind, if_pos hg, if_neg (show ¬ (1 : Int) = 0 by decide), sBind, if_pos rfl, e5, sBind, show qM_gives m5 v g = some (μ 8 s + g, m6) from e6, sBnd2]
    · rw [if_neg hg, if_pos rfl, sBind, refuseE (by decide), sTcr, sBndTr, if_neg (by decide), if_pos (by decide)]
      refine ⟨2, μ, 0, st (st μ 142 0 0) 142 0 2, rfl, ?_, st_at, fun h => absurd h (by decide), thrown_inv (thrown_inv hI (by omega)) (Int.le_refl _)⟩
      unfold qM_give qM_notGive
      rw [sBind, hp _ (k9 _ _), sBind, if_neg (show ¬ s < 0 by omega), between_eq, sBind, if_neg hg, if_pos rfl, sBind, if_neg (by decide), fails_eq, sBnd2]
