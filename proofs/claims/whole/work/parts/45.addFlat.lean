/-! ===== B: addFlat ===== -/
theorem st_congr {A B : zM} {k q : Nat} {i v j : Int} (h : A q j = B q j) : st A k i v q j = st B k i v q j := by
  unfold st
  rw [h]
theorem HEq6.upd {A B : zM} {k : Nat} {i v : Int} (h : HEq6 A B) : HEq6 (st A k i v) (st B k i v) := by
  obtain ⟨⟨a1, a2, a3, a4, a5, a6, a7, a8⟩, b⟩ := h
  exact ⟨⟨st_congr a1, st_congr a2, st_congr a3, st_congr a4, st_congr a5, st_congr a6, st_congr a7, st_congr a8⟩, fun q q1 q9 j j0 j6 => st_congr (b q q1 q9 j j0 j6)⟩
theorem refFlat_eq {μ : zM} {h : Nat} {f r : Int} : qH_refusalOfFlat μ h f r = some (if (0 ≤ f ∧ f ≤ 5) ∧ 1 ≤ r ∧ r ≤ 99 then (if μ h 0 < 6 then 0 else 4) else 3) := by
  unfold qH_refusalOfFlat
  rw [within_eq, sBind, within_eq]
  by_cases h1 : 0 ≤ f ∧ f ≤ 5
  · rw [if_pos h1, if_neg (by decide), sBind]
    by_cases h2 : 1 ≤ r ∧ r ≤ 99
    · rw [if_pos h2, if_neg (by decide), if_pos (show (0 ≤ f ∧ f ≤ 5) ∧ 1 ≤ r ∧ r ≤ 99 from ⟨h1, h2⟩)]
      by_cases h3 : μ h 0 < 6
      · rw [if_pos h3, if_pos h3]
      · rw [if_neg h3, if_neg h3]
    · rw [if_neg h2, if_pos rfl, if_neg (fun z => h2 z.2)]
  · rw [if_neg h1, if_pos rfl, if_neg (fun z => h1 z.1)]
theorem notFlat_eq {μ : zM} {f r : Int} : qM_notFlat μ f r = some (if (0 ≤ f ∧ f ≤ 5) ∧ 1 ≤ r ∧ r ≤ 99 then (if μ 143 0 = 6 then 2 else 0) else 1) := by
  unfold qM_notFlat
  rw [between_eq, sBind, between_eq]
  by_cases h1 : 0 ≤ f ∧ f ≤ 5
  · rw [if_pos h1, if_neg (by decide), sBind]
    by_cases h2 : 1 ≤ r ∧ r ≤ 99
    · rw [if_pos h2, if_neg (by decide), if_pos (show (0 ≤ f ∧ f ≤ 5) ∧ 1 ≤ r ∧ r ≤ 99 from ⟨h1, h2⟩)]
      by_cases h3 : μ 143 0 = 6
      · rw [if_pos h3, if_pos h3]
      · rw [if_neg h3, if_neg h3]
    · rw [if_neg h2, if_pos rfl, if_neg (fun z => h2 z.2)]
  · rw [if_neg h1, if_pos rfl, if_neg (fun z => h1 z.1)]
def vAddFlat (V : zM) (f r : Int) : zM := st (st (st V 1 (V 0 0) f) 2 (V 0 0) r) 0 0 (V 0 0 + 1)
theorem vAddFlat_0 {V : zM} {f r : Int} : vAddFlat V f r 0 0 = V 0 0 + 1 := st_at
theorem vAddFlat_j {V : zM} {f r j : Int} (h : j ≠ 0) : vAddFlat V f r 0 j = V 0 j := by unfold vAddFlat; rw [st_i h, st_k (by decide), st_k (by decide)]
theorem vAddFlat_k {V : zM} {f r j : Int} {k : Nat} (h : 3 ≤ k) : vAddFlat V f r k j = V k j := by unfold vAddFlat; rw [st_k (by omega), st_k (by omega), st_k (by omega)]
theorem vAddFlat_1 {V : zM} {f r j : Int} : vAddFlat V f r 1 j = if j = V 0 0 then f else V 1 j := by
  unfold vAddFlat
  rw [st_k (by decide), st_k (by decide)]
  by_cases h : j = V 0 0
  · rw [if_pos h, h, st_at]
  · rw [if_neg h, st_i h]
theorem vAddFlat_2 {V : zM} {f r j : Int} : vAddFlat V f r 2 j = if j = V 0 0 then r else V 2 j := by
  unfold vAddFlat
  rw [st_k (by decide)]
  by_cases h : j = V 0 0
  · rw [if_pos h, h, st_at]
  · rw [if_neg h, st_i h, st_k (by decide)]
theorem addFlat_wf {N : Int} {V : zM} {f r : Int} (h : WF N V) (hn : V 0 0 < 6) (hf : 0 ≤ f ∧ f ≤ 5) (hr : 1 ≤ r ∧ r ≤ 99) : WF N (vAddFlat V f r) := by
  have n0 := h.n0
  refine ⟨by rw [vAddFlat_0]; omega, by rw [vAddFlat_0]; omega, by rw [vAddFlat_j (by decide)]; exact h.t0, by rw [vAddFlat_j (by decide)]; exact h.t6, fun j h0 h1 => ?_, fun j h0 h1 => ?_, fun i j h0 hij h1 => ?_, fun j h0 h1 => ?_, fun i j h0 hij h1 => ?_, by rw [vAddFlat_j (by decide)]; exact h.nx, by rw [vAddFlat_j (by decide)]; exact h.mo, by rw [vAddFlat_j (by decide)]; exact h.ev, by rw [vAddFlat_j (by decide)]; exact h.pd, by rw [vAddFlat_j (by decide)]; exact h.rc, by rw [vAddFlat_j (by decide)]; exact h.gn, by rw [vAddFlat_j (by decide), vAddFlat_j (by decide), vAddFlat_j (by decide), vAddFlat_j (by decide), ps_congr (w := vAddFlat V f r 7) (w' := V 7) (fun j _ _ => vAddFlat_k (by decide))]; exact h.sm⟩
  · rw [vAddFlat_0] at h1
    rw [vAddFlat_1, vAddFlat_2]
    by_cases hj : j = V 0 0
    · rw [if_pos hj, if_pos hj]; exact ⟨hf, hr⟩
    · rw [if_neg hj, if_neg hj]; exact h.fl j h0 (by omega)
  · rw [vAddFlat_j (by decide)] at h1
    rw [vAddFlat_k (by decide), vAddFlat_j (by decide)]
    exact h.id j h0 h1
  · rw [vAddFlat_j (by decide)] at h1
    rw [vAddFlat_k (by decide), vAddFlat_k (by decide)]
    exact h.inc i j h0 hij h1
  · rw [vAddFlat_j (by decide)] at h1
    rw [vAddFlat_k (by decide), vAddFlat_k (by decide), vAddFlat_k (by decide), vAddFlat_k (by decide), vAddFlat_k (by decide), vAddFlat_k (by decide), vAddFlat_0]
    obtain ⟨a1, a2, a3, a4, a5, a6, a7⟩ := h.tn j h0 h1
    exact ⟨a1, a2, a3, a4, a5, a6, by omega⟩
  · rw [vAddFlat_j (by decide)] at h1
    rw [vAddFlat_k (by decide), vAddFlat_k (by decide)]
    exact h.hm i j h0 hij h1
theorem addFlat_row {w w' : Int → Int} {V : zM} {f r : Int} (h : RowIs w V) (hn : 0 ≤ V 0 0) (w0 : w' 0 = V 0 0 + 1) (w1 : w' (8 + 2 * V 0 0) = f) (w2 : w' (9 + 2 * V 0 0) = r) (hn6 : V 0 0 < 6) (wo : ∀ i, i ≠ 0 → i ≠ 8 + 2 * V 0 0 → i ≠ 9 + 2 * V 0 0 → w' i = w i) : RowIs w' (vAddFlat V f r) := by
  refine ⟨by rw [vAddFlat_0, w0], by rw [vAddFlat_j (by decide), wo 1 (by omega) (by omega) (by omega)]; exact h.t, by rw [vAddFlat_j (by decide), wo 2 (by omega) (by omega) (by omega)]; exact h.nx, by rw [vAddFlat_j (by decide), wo 3 (by omega) (by omega) (by omega)]; exact h.mo, by rw [vAddFlat_j (by decide), wo 4 (by omega) (by omega) (by omega)]; exact h.ev, by rw [vAddFlat_j (by decide), wo 5 (by omega) (by omega) (by omega)]; exact h.pd, by rw [vAddFlat_j (by decide), wo 6 (by omega) (by omega) (by omega)]; exact h.gn, by rw [vAddFlat_j (by decide), wo 7 (by omega) (by omega) (by omega)]; exact h.rc, fun j h0 h1 => ?_, fun j h0 h1 => ?_⟩
  · rw [vAddFlat_0] at h1
    rw [vAddFlat_1, vAddFlat_2]
    by_cases hj : j = V 0 0
    · rw [if_pos hj, if_pos hj, hj]; exact ⟨w1, w2⟩
    · rw [if_neg hj, if_neg hj, wo _ (by omega) (by omega) (by omega), wo _ (by omega) (by omega) (by omega)]; exact h.fl j h0 (by omega)
  · rw [vAddFlat_j (by decide)] at h1
    rw [vAddFlat_k (by decide), vAddFlat_k (by decide), vAddFlat_k (by decide), vAddFlat_k (by decide), vAddFlat_k (by decide), vAddFlat_k (by decide), vAddFlat_k (by decide)]
    rw [wo _ (by omega) (by omega) (by omega), wo _ (by omega) (by omega) (by omega), wo _ (by omega) (by omega) (by omega), wo _ (by omega) (by omega) (by omega), wo _ (by omega) (by omega) (by omega), wo _ (by omega) (by omega) (by omega), wo _ (by omega) (by omega) (by omega)]
    exact h.tn j h0 h1
theorem build_eq {μ : zM} {h : Nat} {f r : Int} (h0 : 0 ≤ μ h 0) (h6 : μ h 0 < 6) : qH_buildFlat μ h f r = some (μ h 0, st (st (st μ (h + 1) (μ h 0) f) (h + 2) (μ h 0) r) h 0 (μ h 0 + 1)) := by
  unfold qH_buildFlat
  rw [if_pos ⟨h0, h6⟩, sBind, if_pos ⟨h0, h6⟩, sBind, st_k (show h ≠ h + 2 by omega), st_k (show h ≠ h + 1 by omega), wr_n (by omega) (by omega), sBind]
theorem addsFlat_eq {μ : zM} {f r : Int} (h0 : 0 ≤ μ 143 0) (h6 : μ 143 0 < 6) : qM_addsFlat μ f r = some (μ 143 0, st (st (st μ 143 0 (μ 143 0 + 1)) 143 (8 + 2 * μ 143 0) f) 143 (9 + 2 * μ 143 0) r) := by
  unfold qM_addsFlat
  rw [wr_n (x := 2 * μ 143 0) (by omega) (by omega), wr_n (x := 8 + 2 * μ 143 0) (by omega) (by omega), wr_n (x := 8 + 2 * μ 143 0 + 0) (by omega) (by omega), wr_n (x := 8 + 2 * μ 143 0 + 1) (by omega) (by omega), wr_n (x := μ 143 0 + 1) (by omega) (by omega), sBind, if_pos (by omega), sBind, if_pos (by omega), sBind, show 8 + 2 * μ 143 0 + 0 = 8 + 2 * μ 143 0 by omega, show 8 + 2 * μ 143 0 + 1 = 9 + 2 * μ 143 0 by omega]
theorem addFlat_ok {N : Int} {f r : Int} : OpOk N N (fun μ => qL_addFlat μ f r) (fun μ => qM_addFlat μ f r) := by
  intro μ hI
  have hB := hI.1
  have hR := hI.2.1
  have hn : μ 143 0 = μ 1 0 := hB.2.n
  have n0 : 0 ≤ μ 1 0 := hB.1.n0
  have n6 : μ 1 0 ≤ 6 := hB.1.n6
  show ∃ a m1 x m2, qL_addFlat μ f r = some (a, m1) ∧ qM_addFlat m1 f r = some (x, m2) ∧ m2 142 0 = a ∧ (a = 0 → m2 156 0 = x) ∧ Inv N m2
  unfold qL_addFlat qT_addFlat
  rw [refFlat_eq, sBind]
  by_cases hc : (0 ≤ f ∧ f ≤ 5) ∧ 1 ≤ r ∧ r ≤ 99
  · rw [if_pos hc]
    by_cases h6 : μ 1 0 < 6
    · rw [if_pos h6, refuse0, sTcl]
      obtain ⟨m1, e1, c1, c2, c3, c4⟩ := push_eq (μ := μ) hR.1 hR.2.1
      have g1 : m1 1 = μ 1 := c4 1 (by decide) (Or.inl (by omega))
      rw [e1, sBind, build_eq (by rw [g1]; exact n0) (by rw [g1]; exact h6), sBnd2, sBndTl, g1]
      generalize hm3 : st (st (st (st (st m1 (1 + 1) (μ 1 0) f) (1 + 2) (μ 1 0) r) 1 0 (μ 1 0 + 1)) 156 0 (μ 1 0)) 142 0 0 = m3
      have a1 : ∀ q : Nat, (q < 1 ∨ 11 ≤ q) → q ≠ 142 → q ≠ 156 → m3 q = m1 q := fun q h1 h2 h3 => by
        rw [← hm3]
        exact funext fun j => by rw [st_k h2, st_k h3, st_k (by omega), st_k (by omega), st_k (by omega)]
      have a2 : ∀ j, j ≠ 0 → m3 142 j = m1 142 j := fun j hj => by
        rw [← hm3, st_i hj, st_k (by decide), st_k (by decide), st_k (by decide), st_k (by decide)]
      have a3 : HEq6 (hv m3 1) (vAddFlat (hv μ 1) f r) := by
        rw [← hm3]
        refine HEq6.trans (HEq6.of_same fun q q1 q2 => funext fun j => by rw [st_k (by omega), st_k (by omega)]) ?_
        rw [show st (st (st m1 (1 + 1) (μ 1 0) f) (1 + 2) (μ 1 0) r) 1 0 (μ 1 0 + 1) = st (st (st m1 (1 + 1) (μ 1 0) f) (1 + 2) (μ 1 0) r) (1 + 0) 0 (μ 1 0 + 1) from rfl, hv_st, hv_st, hv_st]
        exact HEq6.upd (HEq6.upd (HEq6.upd (HEq6.of_same fun q q1 q2 => c4 q (by omega) (Or.inl (by omega)))))
      have k143 : m3 143 = μ 143 := by rw [a1 143 (by omega) (by decide) (by decide), c4 143 (by decide) (Or.inr (by omega))]
      have k142 : ∀ j, j ≠ 0 → m3 142 j = μ 142 j := fun j hj => by rw [a2 j hj, c4 142 (by decide) (Or.inr (by omega))]
      have k156 : m3 156 0 = μ 1 0 := by rw [← hm3, st_k (by decide), st_at]
      have k0 : m3 142 0 = 0 := by rw [← hm3, st_at]
      obtain ⟨m5, e5, d1, d2, d5, d3, d4, d6⟩ := remembers_eq (μ := m3) (by rw [k142 7 (by decide)]; exact hR.2.2.1) (by rw [k142 6 (by decide), hR.2.2.2.1]; exact hR.2.1)
      have l143 : m5 143 = μ 143 := by rw [d6 143 (by decide) (by decide) (by decide), k143]
      refine ⟨0, _, μ 1 0, st (st (st m5 143 0 (μ 1 0 + 1)) 143 (8 + 2 * μ 1 0) f) 143 (9 + 2 * μ 1 0) r, rfl, ?_, ?_, fun _ => ?_, ?_⟩
      · unfold qM_addFlat
        rw [sBind, hm3, notFlat_eq, sBind, if_pos hc, k143, if_neg (show ¬ μ 143 0 = 6 by omega), if_pos rfl, e5, sBind, addsFlat_eq (by rw [l143]; omega) (by rw [l143]; omega), sBnd2, l143, hn]
      · rw [st_k (by decide), st_k (by decide), st_k (by decide), d5 0 (by decide) (by decide), k0]
      · rw [st_k (by decide), st_k (by decide), st_k (by decide), d6 156 (by decide) (by decide) (by decide), k156]
      · refine change_inv hI (Int.le_refl N) c1 c2 c3 c4 a1 a2 d1 d2 d5 d3 d4 d6 (fun q q1 q2 q3 => funext fun j => by rw [st_k q1, st_k q1, st_k q1]) (fun j hj => by rw [st_k (by decide), st_k (by decide), st_k (by decide)]) ?_
        have a4 : HEq6 (hv (st (st (st m5 143 0 (μ 1 0 + 1)) 143 (8 + 2 * μ 1 0) f) 143 (9 + 2 * μ 1 0) r) 1) (vAddFlat (hv μ 1) f r) :=
          HEq6.trans (HEq6.of_same fun q q1 q2 => funext fun j => by rw [st_k (by omega), st_k (by omega), st_k (by omega), d6 q (by omega) (by omega) (by omega)]) a3
        have w1 : WF N (vAddFlat (hv μ 1) f r) := addFlat_wf hB.1 h6 hc.1 hc.2
        refine ⟨a4.wf w1, a4.row (addFlat_row hB.2 n0 ?_ ?_ ?_ h6 (fun i i0 i1 i2 => ?_)) w1.n6 w1.t6⟩
        · rw [st_i (show (0 : Int) ≠ 9 + 2 * μ 1 0 by omega), st_i (show (0 : Int) ≠ 8 + 2 * μ 1 0 by omega), st_at]; rfl
        · show st _ 143 (9 + 2 * μ 1 0) r 143 (8 + 2 * μ 1 0) = f
          rw [st_i (by omega), st_at]
        · exact st_at
        · have i1' : i ≠ 8 + 2 * μ 1 0 := i1
          have i2' : i ≠ 9 + 2 * μ 1 0 := i2
          rw [st_i i2', st_i i1', st_i i0, l143]
    · rw [if_neg h6, refuseE (by decide), sTcr, sBndTr, if_neg (by decide), if_pos (by decide)]
      refine ⟨2, μ, 0, st (st μ 142 0 0) 142 0 2, rfl, ?_, st_at, fun h => absurd h (by decide), thrown_inv (thrown_inv hI (Int.le_refl N)) (Int.le_refl N)⟩
      unfold qM_addFlat
      rw [sBind, notFlat_eq, sBind, if_pos hc, st_k (show (143 : Nat) ≠ 142 by decide), if_pos (show μ 143 0 = 6 by omega), if_neg (by decide), fails_eq, sBnd2]
  · rw [if_neg hc, refuseE (by decide), sTcr, sBndTr, if_pos (by decide)]
    refine ⟨1, μ, 0, st (st μ 142 0 0) 142 0 1, rfl, ?_, st_at, fun h => absurd h (by decide), thrown_inv (thrown_inv hI (Int.le_refl N)) (Int.le_refl N)⟩
    unfold qM_addFlat
    rw [sBind, notFlat_eq, sBind, if_neg hc, if_neg (by decide), fails_eq, sBnd2]
