/-! ===== B: the frame of every changing turn: remember, change, on both sides ===== -/
theorem change_both2 {N N' : Int} {μ V' : zM} {r : Int} (chg chgM : zM → Option (Int × zM)) (hI : Inv N μ) (hN : N ≤ N')
    (hc : ∀ m1 : zM, (∀ q : Nat, q < 31 → m1 q = μ q) → ∃ m2, chg m1 = some (r, m2) ∧ (∀ q : Nat, (q < 1 ∨ 11 ≤ q) → (q < 113 ∨ 136 ≤ q) → m2 q = m1 q) ∧ HEq6 (hv m2 1) V')
    (hm : ∀ m5 : zM, m5 143 = μ 143 → ∃ m6, chgM m5 = some (r, m6) ∧ (∀ q : Nat, q ≠ 143 → q ≠ 142 → (q < 146 ∨ 153 ≤ q) → m6 q = m5 q) ∧ (∀ j, j = 0 ∨ j = 6 ∨ j = 7 ∨ j = 8 ∨ j = 15 ∨ j = 17 ∨ j = 19 ∨ j = 20 → m6 142 j = m5 142 j) ∧ RowIs (m6 143) V')
    (hw : WF N' V') :
    ∃ m1 m2, qY_push μ 1 = some m1 ∧ (∀ q : Nat, q < 31 → m1 q = μ q) ∧ chg m1 = some (r, m2) ∧ ∀ m3, st (st m2 156 0 r) 142 0 0 = m3 → m3 143 = μ 143 ∧ m3 142 0 = 0 ∧ ∃ m5 m6, qM_remembers m3 = some m5 ∧ m5 143 = μ 143 ∧ chgM m5 = some (r, m6) ∧ m6 142 0 = 0 ∧ m6 156 0 = r ∧ Inv N' m6 := by
  have hR := hI.2.1
  obtain ⟨m1, e1, c1, c2, c3, c4⟩ := push_eq (μ := μ) hR.1 hR.2.1
  have g1 : ∀ q : Nat, q < 31 → m1 q = μ q := fun q hq => c4 q (by omega) (Or.inl (by omega))
  obtain ⟨m2, e2, f2, v2⟩ := hc m1 g1
  refine ⟨m1, m2, e1, g1, e2, fun m3 hm3 => ?_⟩
  have a1 : ∀ q : Nat, (q < 1 ∨ 11 ≤ q) → (q < 113 ∨ 136 ≤ q) → q ≠ 142 → q ≠ 156 → m3 q = m1 q := fun q h1 h4 h2 h3 => by
    rw [← hm3, ← f2 q h1 h4]
    exact funext fun j => by rw [st_k h2, st_k h3]
  have a2 : ∀ j, j ≠ 0 → m3 142 j = m1 142 j := fun j hj => by
    rw [← hm3, st_i hj, st_k (by decide), f2 142 (by omega) (by omega)]
  have a3 : HEq6 (hv m3 1) V' := by
    rw [← hm3]
    exact HEq6.trans (HEq6.of_same fun q q1 q2 => funext fun j => by rw [st_k (by omega), st_k (by omega)]) v2
  have k143 : m3 143 = μ 143 := by rw [a1 143 (by omega) (by omega) (by decide) (by decide), c4 143 (by decide) (Or.inr (by omega))]
  have k142 : ∀ j, j ≠ 0 → m3 142 j = μ 142 j := fun j hj => by rw [a2 j hj, c4 142 (by decide) (Or.inr (by omega))]
  have k156 : m3 156 0 = r := by rw [← hm3, st_k (by decide), st_at]
  have k0 : m3 142 0 = 0 := by rw [← hm3, st_at]
  obtain ⟨m5, e5, d1, d2, d5, d3, d4, d6⟩ := remembers_eq (μ := m3) (by rw [k142 7 (by decide)]; exact hR.2.2.1) (by rw [k142 6 (by decide), hR.2.2.2.1]; exact hR.2.1)
  have l143 : m5 143 = μ 143 := by rw [d6 143 (by decide) (by decide) (by decide), k143]
  obtain ⟨m6, e6, b1, b2, b3⟩ := hm m5 l143
  refine ⟨k143, k0, m5, m6, e5, l143, e6, ?_, ?_, ?_⟩
  · rw [b2 0 (by omega), d5 0 (by decide) (by decide), k0]
  · rw [b1 156 (by decide) (by decide) (by omega), d6 156 (by decide) (by decide) (by decide), k156]
  · refine change_inv2 hI hN c1 c2 c3 c4 a1 a2 d1 d2 d5 d3 d4 d6 b1 (fun j hj => b2 j (by omega)) ?_
    have a4 : HEq6 (hv m6 1) V' := HEq6.trans (HEq6.of_same fun q q1 q2 => by rw [b1 q (by omega) (by omega) (by omega), d6 q (by omega) (by omega) (by omega)]) a3
    exact ⟨a4.wf hw, a4.row b3 hw.n6 hw.t6⟩
theorem change_both {N N' : Int} {μ V' : zM} {r : Int} (chg chgM : zM → Option (Int × zM)) (hI : Inv N μ) (hN : N ≤ N')
    (hc : ∀ m1 : zM, (∀ q : Nat, q < 31 → m1 q = μ q) → ∃ m2, chg m1 = some (r, m2) ∧ (∀ q : Nat, (q < 1 ∨ 11 ≤ q) → m2 q = m1 q) ∧ HEq6 (hv m2 1) V')
    (hm : ∀ m5 : zM, m5 143 = μ 143 → ∃ m6, chgM m5 = some (r, m6) ∧ (∀ q : Nat, q ≠ 143 → q ≠ 142 → (q < 146 ∨ 153 ≤ q) → m6 q = m5 q) ∧ (∀ j, j = 0 ∨ j = 6 ∨ j = 7 ∨ j = 8 ∨ j = 15 ∨ j = 17 ∨ j = 19 ∨ j = 20 → m6 142 j = m5 142 j) ∧ RowIs (m6 143) V')
    (hw : WF N' V') :
    ∃ m1 m2, qY_push μ 1 = some m1 ∧ (∀ q : Nat, q < 31 → m1 q = μ q) ∧ chg m1 = some (r, m2) ∧ ∀ m3, st (st m2 156 0 r) 142 0 0 = m3 → m3 143 = μ 143 ∧ m3 142 0 = 0 ∧ ∃ m5 m6, qM_remembers m3 = some m5 ∧ m5 143 = μ 143 ∧ chgM m5 = some (r, m6) ∧ m6 142 0 = 0 ∧ m6 156 0 = r ∧ Inv N' m6 :=
  change_both2 chg chgM hI hN (fun m1 g1 => by
    obtain ⟨m2, x1, x2, x3⟩ := hc m1 g1
    exact ⟨m2, x1, fun q hq _ => x2 q hq, x3⟩) hm hw
