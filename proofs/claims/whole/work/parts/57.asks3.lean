/-! ===== B: the house's own numbers; burden; tenantIn ===== -/
theorem month_ok {N : Int} : AskOk N qT_month qM_month := fun μ hI => by
  obtain ⟨m, h1, h2⟩ := told_ok (k := 3) hI (by decide) hI.1.2.mo
  exact ⟨μ 1 12, m, rfl, h1, h2⟩
theorem paidRents_ok {N : Int} : AskOk N qT_paidRents qM_paidRents := fun μ hI => by
  obtain ⟨m, h1, h2⟩ := told_ok (k := 5) hI (by decide) hI.1.2.pd
  exact ⟨μ 1 14, m, rfl, h1, h2⟩
theorem evictions_ok {N : Int} : AskOk N qT_evictions qM_evictions := fun μ hI => by
  obtain ⟨m, h1, h2⟩ := told_ok (k := 4) hI (by decide) hI.1.2.ev
  exact ⟨μ 1 13, m, rfl, h1, h2⟩
theorem received_ok {N : Int} : AskOk N qT_received qM_received := fun μ hI => by
  refine ⟨μ 1 15, st μ 142 0 0, rfl, ?_, thrown_inv hI (Int.le_refl _)⟩
  unfold qM_received
  rw [sBind, st_k (by decide), hI.1.2.rc]
  rfl
theorem burden_ok {N : Int} {v f : Int} : OpOk N N (fun μ => qL_burden μ v f) (fun μ => qM_burden μ v f) := by
  intro μ hI
  have hB := hI.1
  have w := hB.1
  have t0 : 0 ≤ μ 1 3 := w.t0
  have t6 : μ 1 3 ≤ 6 := w.t6
  have n0 : 0 ≤ μ 1 0 := w.n0
  have n6 : μ 1 0 ≤ 6 := w.n6
  have hn : μ 143 0 = μ 1 0 := hB.2.n
  have k9 : ∀ (m : zM) (x : Int), (st m 142 0 x) 143 = m 143 := fun m x => funext fun j => st_k (by decide)
  have k8 : ∀ x : Int, (st μ 156 0 x) 143 = μ 143 := fun x => funext fun j => st_k (by decide)
  have hs := fi_spec (w := μ (1 + 3)) (v := v) (μ 1 3).toNat 0 (by omega)
  have hp : ∀ m : zM, m 143 = μ 143 → qM_place m v = some (fi (μ (1 + 3)) v (μ 1 3).toNat 0) := fun m hm => place_eq (V := hv μ 1) (by rw [hm]; exact hB.2) t0 t6
  show ∃ a9 m1 x m2, qL_burden μ v f = some (a9, m1) ∧ qM_burden m1 v f = some (x, m2) ∧ m2 142 0 = a9 ∧ (a9 = 0 → m2 156 0 = x) ∧ Inv N m2
  unfold qL_burden qT_burden qT_presentSlot qT_requireFlat
  rw [slotOf_eq t0 t6, sBind]
  generalize fi (μ (1 + 3)) v (μ 1 3).toNat 0 = s at hs hp
  by_cases hf : s = -1
  · rw [if_pos hf, sTcr, sBndTr, if_pos rfl]
    refine ⟨1, μ, 0, st (st μ 142 0 0) 142 0 1, rfl, ?_, st_at, fun h => absurd h (by decide), thrown_inv (thrown_inv hI (Int.le_refl N)) (Int.le_refl N)⟩
    unfold qM_burden
    rw [sBind, hp _ (k9 _ _), sBind, if_pos (show s < 0 by omega), fails_eq, sBnd2]
  have s0 : 0 ≤ s ∧ s < μ 1 3 := by omega
  rw [if_neg hf, sTcl, hasFlat_eq, sBind]
  by_cases hfl : 0 ≤ f ∧ f < μ 1 0
  · rw [if_pos hfl, if_neg (show ¬ (1 : Int) = 0 by decide), sTcl, burdenFor_eq w s0 hfl, sBind, sBndTl]
    refine ⟨0, _, bd (hv μ 1) s f, _, rfl, ?_, st_at, fun _ => ?_, asked_inv (x := bd (hv μ 1) s f) hI⟩
    · have h3 : (st (st μ 156 0 (bd (hv μ 1) s f)) 142 0 0) 143 = μ 143 := by rw [k9, k8]
      unfold qM_burden
      rw [sBind, hp _ h3, sBind, if_neg (show ¬ s < 0 by omega), isFlat_eq (by rw [h3]; omega), sBind, h3, hn, if_pos hfl, if_neg (show ¬ (1 : Int) = 0 by decide), sBind, burdenOf_eq w (by rw [h3]; exact hB.2) s0 hfl, sBind]
    · rw [st_k (by decide), st_at]
  · rw [if_neg hfl, if_pos rfl, sTcr, sBndTr, if_neg (by decide), if_pos rfl]
    refine ⟨2, μ, 0, st (st μ 142 0 0) 142 0 2, rfl, ?_, st_at, fun h => absurd h (by decide), thrown_inv (thrown_inv hI (Int.le_refl N)) (Int.le_refl N)⟩
    unfold qM_burden
    rw [sBind, hp _ (k9 _ _), sBind, if_neg (show ¬ s < 0 by omega), isFlat_eq (by rw [k9]; omega), sBind, k9, hn, if_neg hfl, if_pos rfl, fails_eq, sBnd2]
