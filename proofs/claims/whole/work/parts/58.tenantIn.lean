/-! ===== B: tenantIn ===== -/
theorem tenantIn_ok {N : Int} {f : Int} : OpOk N N (fun μ => qL_tenantIn μ f) (fun μ => qM_tenantIn μ f) := by
  intro μ hI
  have hB := hI.1
  have w := hB.1
  have t0 : 0 ≤ μ 1 3 := w.t0
  have t6 : μ 1 3 ≤ 6 := w.t6
  have n0 : 0 ≤ μ 1 0 := w.n0
  have n6 : μ 1 0 ≤ 6 := w.n6
  have hn : μ 143 0 = μ 1 0 := hB.2.n
  have k9 : ∀ (m : zM) (x : Int), (st m 142 0 x) 143 = m 143 := fun m x => funext fun j => st_k (by decide)
  have k8 : ∀ x : Int, (st μ 156 0 x) 143 = μ 143 := fun x => funext fun j => st_k (by decide)
  have ho := fi_spec (w := μ (1 + 9)) (v := f) (μ 1 3).toNat 0 (by omega)
  have hoc : ∀ m : zM, m 143 = μ 143 → 0 ≤ f ∧ f < μ 1 0 → qM_occupant m f = some (fi (μ (1 + 9)) f (μ 1 3).toNat 0) := fun m hm hf => occupant_eq (V := hv μ 1) (by rw [hm]; exact hB.2) t0 t6 (by omega)
  show ∃ a9 m1 x m2, qL_tenantIn μ f = some (a9, m1) ∧ qM_tenantIn m1 f = some (x, m2) ∧ m2 142 0 = a9 ∧ (a9 = 0 → m2 156 0 = x) ∧ Inv N m2
  unfold qL_tenantIn qT_tenantIn qT_requireFlat
  rw [hasFlat_eq, sBind]
  by_cases hfl : 0 ≤ f ∧ f < μ 1 0
  case neg =>
    rw [if_neg hfl, if_pos rfl, sTcr, sBndTr, if_pos rfl]
    refine ⟨1, μ, 0, st (st μ 142 0 0) 142 0 1, rfl, ?_, st_at, fun h => absurd h (by decide), thrown_inv (thrown_inv hI (Int.le_refl N)) (Int.le_refl N)⟩
    unfold qM_tenantIn
    rw [sBind, isFlat_eq (by rw [k9]; omega), sBind, k9, hn, if_neg hfl, if_pos rfl, fails_eq, sBnd2]
  rw [if_pos hfl, if_neg (show ¬ (1 : Int) = 0 by decide), sTcl, slotIn_eq t0 t6, sBind]
  generalize fi (μ (1 + 9)) f (μ 1 3).toNat 0 = o at ho hoc
  by_cases hoo : o = -1
  · rw [if_pos hoo, sBndTr, if_neg (by decide), if_pos rfl]
    refine ⟨2, μ, 0, st (st μ 142 0 0) 142 0 2, rfl, ?_, st_at, fun h => absurd h (by decide), thrown_inv (thrown_inv hI (Int.le_refl N)) (Int.le_refl N)⟩
    unfold qM_tenantIn
    rw [sBind, isFlat_eq (by rw [k9]; omega), sBind, k9, hn, if_pos hfl, if_neg (show ¬ (1 : Int) = 0 by decide), hoc _ (k9 _ _) hfl, sBind, if_pos (show o < 0 by omega), fails_eq, sBnd2]
  · have o0 : 0 ≤ o ∧ o < μ 1 3 := by omega
    have hid : μ 143 (20 + 7 * o) = μ 4 o := (hB.2.tn o o0.1 o0.2).1
    rw [if_neg hoo, if_pos (show 0 ≤ o ∧ o < 6 by omega), sBndTl]
    refine ⟨0, _, μ 4 o, _, rfl, ?_, st_at, fun _ => ?_, asked_inv (x := μ 4 o) hI⟩
    · have h3 : (st (st μ 156 0 (μ 4 o)) 142 0 0) 143 = μ 143 := by rw [k9, k8]
      unfold qM_tenantIn
      rw [sBind, isFlat_eq (by rw [h3]; omega), sBind, h3, hn, if_pos hfl, if_neg (show ¬ (1 : Int) = 0 by decide), hoc _ h3 hfl, sBind, if_neg (show ¬ o < 0 by omega), sBind, of_eq (by omega) (by decide), sBind, h3, Int.add_zero, hid]
    · rw [st_k (by decide), st_at]
