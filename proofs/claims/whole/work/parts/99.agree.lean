/-! ===== B: both programs agree; the claim ===== -/
theorem both0 : Both 0 μ0 1 (μ0 143) := by
  have v : ∀ (k : Nat) (j : Int), k < 10 → hv μ0 1 k j = 0 := fun k j hk => by
    unfold hv
    rw [μ0_z (show decide (1 + k ≠ 0 ∧ 1 + k ≠ 136 ∧ 1 + k ≠ 142) = true from decide_eq_true ⟨by omega, by omega, by omega⟩)]
  have w : ∀ i, μ0 143 i = 0 := fun i => by rw [μ0_z (by decide)]
  have v0 : ∀ j, hv μ0 1 0 j = 0 := fun j => v 0 j (by omega)
  refine ⟨⟨?_, ?_, ?_, ?_, fun j h0 h1 => ?_, fun j h0 h1 => ?_, fun i j h0 h1 h2 => ?_, fun j h0 h1 => ?_, fun i j h0 h1 h2 => ?_, ?_, ?_, ?_, ?_, ?_, ?_, ?_⟩, ?_, ?_, ?_, ?_, ?_, ?_, ?_, ?_, fun j h0 h1 => ?_, fun j h0 h1 => ?_⟩
  · rw [v0]; omega
  · rw [v0]; omega
  · rw [v0]; omega
  · rw [v0]; omega
  · rw [v0] at h1; omega
  · rw [v0] at h1; omega
  · rw [v0] at h2; omega
  · rw [v0] at h1; omega
  · rw [v0] at h2; omega
  · rw [v0]; omega
  · rw [v0]; omega
  · rw [v0]; omega
  · rw [v0]; omega
  · rw [v0]; omega
  · rw [v0]; omega
  · rw [v0, v0, v0, v0]; rfl
  · rw [w, v0]
  · rw [w, v0]
  · rw [w, v0]
  · rw [w, v0]
  · rw [w, v0]
  · rw [w, v0]
  · rw [w, v0]
  · rw [w, v0]
  · rw [v0] at h1; omega
  · rw [v0] at h1; omega
theorem inv0 : Inv 0 μ0 := by
  have r : ∀ j, μ0 31 j = 0 := fun j => by rw [μ0_z (by decide)]
  have c1 : μ0 140 1 = 0 := by rw [μ0_z (by decide)]
  have c2 : μ0 138 1 = 0 := by rw [μ0_z (by decide)]
  refine ⟨both0, ⟨?_, ?_, ?_, ?_, fun j h0 h1 => ?_⟩, ⟨?_, ?_, fun z => ?_⟩, ?_, ?_, fun j h0 h1 => ?_, ?_, ?_, fun j h0 h1 => ?_, ?_, ?_, ?_, ?_, ?_, ?_⟩
  · rw [r]; omega
  · rw [r]; omega
  · exact by decide
  · exact by decide
  · rw [r] at h1; omega
  · exact by decide
  · exact by decide
  · exact absurd z (by decide)
  · rw [c1]; omega
  · exact by decide
  · rw [c1] at h1; omega
  · rw [c2]; omega
  · exact by decide
  · rw [c2] at h1; omega
  · exact by decide
  · exact by decide
  · exact by decide
  · exact by decide
  · exact by decide
  · exact by decide
theorem agree : Agree := fun scL scV h0 h1 _ => by
  obtain ⟨mf, h⟩ := loop_l (scV := scV) h0 h1 512 700 0 μ0 (by decide) (by decide) (by rw [show 1300000 * ((0 : Nat) : Int) = 0 by decide]; exact inv0) (by omega)
  exact ⟨mf, h⟩
