/-! ===== B: both programs agree; the claim ===== -/
theorem both0 (h : Nat) (hh : h < 100) (w : Int → Int) (hw : ∀ i, w i = 0) : Both 0 μ0 h w := by
  have hz : ∀ (k : Nat) (j : Int), k < 10 → h ≠ 0 → hv μ0 h k j = 0 := fun k j hk h0 => by
    unfold hv
    rw [μ0_z (show decide (h + k ≠ 0 ∧ h + k ≠ 136 ∧ h + k ≠ 142) = true from decide_eq_true ⟨by omega, by omega, by omega⟩)]
  sorry
theorem inv0 : Inv 0 μ0 := by
  sorry
theorem agree : Agree := fun scL scV h0 h1 _ => by
  obtain ⟨mf, h⟩ := loop_l (scV := scV) h0 h1 512 700 0 μ0 (by decide) (by decide) (by rw [show 1300000 * ((0 : Nat) : Int) = 0 by decide]; exact inv0) (by omega)
  exact ⟨mf, h⟩
