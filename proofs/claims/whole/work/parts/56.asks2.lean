/-! ===== B: more questions ===== -/
/-- what a question that throws nothing owes -/
def AskOk (N : Int) (C : zM → Option Int) (M : zM → Option (Int × zM)) : Prop := ∀ μ, Inv N μ → ∃ x m, C μ = some x ∧ M μ = some (x, m) ∧ Inv N m
theorem told_ok {N : Int} {μ : zM} {k x : Int} (hI : Inv N μ) (hk : 0 ≤ k ∧ k < 62) (hx : μ 143 k = x) : ∃ m, (bnd2 (qM_told μ k) fun a1 m1 => some (a1, m1)) = some (x, m) ∧ Inv N m := by
  refine ⟨st μ 142 0 0, ?_, thrown_inv hI (Int.le_refl _)⟩
  unfold qM_told
  rw [sBind, if_pos hk, sBnd2, st_k (by decide), hx]
theorem flats_ok {N : Int} : AskOk N qT_flats qM_flats := fun μ hI => by
  obtain ⟨m, h1, h2⟩ := told_ok (k := 0) hI (by decide) hI.1.2.n
  exact ⟨μ 1 0, m, rfl, h1, h2⟩
theorem tenants_ok {N : Int} : AskOk N qT_tenants qM_tenants := fun μ hI => by
  obtain ⟨m, h1, h2⟩ := told_ok (k := 1) hI (by decide) hI.1.2.t
  exact ⟨μ 1 3, m, rfl, h1, h2⟩
theorem isPresent_ok {N : Int} {v : Int} : AskOk N (fun μ => qT_isPresent μ v) (fun μ => qM_isPresent μ v) := by
  intro μ hI
  have hB := hI.1
  have w := hB.1
  have t0 : 0 ≤ μ 1 3 := w.t0
  have t6 : μ 1 3 ≤ 6 := w.t6
  have hs := fi_spec (w := μ (1 + 3)) (v := v) (μ 1 3).toNat 0 (by omega)
  have k9 : (st μ 142 0 0) 143 = μ 143 := funext fun j => st_k (by decide)
  have hp : qM_place (st μ 142 0 0) v = some (fi (μ (1 + 3)) v (μ 1 3).toNat 0) := place_eq (V := hv μ 1) (by rw [k9]; exact hB.2) t0 t6
  show ∃ x m, qT_isPresent μ v = some x ∧ qM_isPresent μ v = some (x, m) ∧ Inv N m
  unfold qT_isPresent qM_isPresent
  rw [slotOf_eq t0 t6, sBind, sBind, hp, sBind]
  generalize fi (μ (1 + 3)) v (μ 1 3).toNat 0 = s at hs
  by_cases hf : s = -1
  · rw [if_pos hf, if_pos (show s < 0 by omega)]
    exact ⟨0, _, rfl, rfl, thrown_inv hI (Int.le_refl _)⟩
  · rw [if_neg hf, if_neg (show ¬ s < 0 by omega)]
    exact ⟨1, _, rfl, rfl, thrown_inv hI (Int.le_refl _)⟩
theorem flatOf_ok {N : Int} {v : Int} : OpOk N N (fun μ => qL_flatOf μ v) (fun μ => qM_flatOf μ v) := by
  intro μ hI
  have hB := hI.1
  have w := hB.1
  have t0 : 0 ≤ μ 1 3 := w.t0
  have t6 : μ 1 3 ≤ 6 := w.t6
  have n6 : μ 1 0 ≤ 6 := w.n6
  have k9 : ∀ (m : zM) (x : Int), (st m 142 0 x) 143 = m 143 := fun m x => funext fun j => st_k (by decide)
  have k8 : ∀ x : Int, (st μ 156 0 x) 143 = μ 143 := fun x => funext fun j => st_k (by decide)
  have hs := fi_spec (w := μ (1 + 3)) (v := v) (μ 1 3).toNat 0 (by omega)
  have hp : ∀ m : zM, m 143 = μ 143 → qM_place m v = some (fi (μ (1 + 3)) v (μ 1 3).toNat 0) := fun m hm => place_eq (V := hv μ 1) (by rw [hm]; exact hB.2) t0 t6
  show ∃ a9 m1 x m2, qL_flatOf μ v = some (a9, m1) ∧ qM_flatOf m1 v = some (x, m2) ∧ m2 142 0 = a9 ∧ (a9 = 0 → m2 156 0 = x) ∧ Inv N m2
  unfold qL_flatOf qT_flatOf qT_housedSlot qT_presentSlot
  rw [slotOf_eq t0 t6, sBind]
  generalize fi (μ (1 + 3)) v (μ 1 3).toNat 0 = s at hs hp
  by_cases hf : s = -1
  · rw [if_pos hf, sTcr, sTcr, sBndTr, if_pos rfl]
    refine ⟨1, μ, 0, st (st (st μ 142 0 0) 142 0 1) 142 0 1, rfl, ?_, st_at, fun h => absurd h (by decide), thrown_inv (thrown_inv (thrown_inv hI (Int.le_refl N)) (Int.le_refl N)) (Int.le_refl N)⟩
    unfold qM_flatOf qM_tells
    rw [sBind, hp _ (k9 _ _), sBind, if_pos (show s < 0 by omega), fails_eq, sBnd2, sBnd2, if_pos rfl, fails_eq, sBnd2]
  have s0 : 0 ≤ s ∧ s < μ 1 3 := by omega
  have hh : μ 143 (26 + 7 * s) = μ 10 s + 1 := (hB.2.tn s s0.1 s0.2).2.2.2.2.2.2
  have hb : -1 ≤ μ 10 s ∧ μ 10 s < μ 1 0 := (w.tn s s0.1 s0.2).2.2.2.2.2
  rw [if_neg hf, sTcl, if_pos (show 0 ≤ s ∧ s < 6 by omega)]
  by_cases hm : μ 10 s = -1
  · rw [if_pos hm, sTcr, sBndTr, if_pos rfl]
    refine ⟨1, μ, 0, st (st μ 142 0 0) 142 0 1, rfl, ?_, st_at, fun h => absurd h (by decide), thrown_inv (thrown_inv hI (Int.le_refl N)) (Int.le_refl N)⟩
    unfold qM_flatOf qM_tells
    rw [sBind, hp _ (k9 _ _), sBind, if_neg (show ¬ s < 0 by omega), sBind, of_eq (by omega) (by decide), sBind, sBnd2, k9, show 20 + 7 * s + 6 = 26 + 7 * s by omega, hh, if_pos (by omega), fails_eq, sBnd2]
  · rw [if_neg hm, sTcl, if_pos (show 0 ≤ s ∧ s < 6 by omega), sBndTl]
    refine ⟨0, _, μ 10 s, _, rfl, ?_, st_at, fun _ => ?_, asked_inv (x := μ 10 s) hI⟩
    · have h3 : (st (st μ 156 0 (μ 10 s)) 142 0 0) 143 = μ 143 := by rw [k9, k8]
      unfold qM_flatOf qM_tells
      rw [sBind, hp _ h3, sBind, if_neg (show ¬ s < 0 by omega), sBind, of_eq (by omega) (by decide), sBind, sBnd2, h3, show 20 + 7 * s + 6 = 26 + 7 * s by omega, hh, if_neg (show ¬ μ 10 s + 1 = 0 by omega), wr_n (by omega) (by omega), show μ 10 s + 1 - 1 = μ 10 s by omega]
    · rw [st_k (by decide), st_at]
