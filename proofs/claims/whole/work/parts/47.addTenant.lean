/-! ===== B: addTenant ===== -/
theorem hv_st0 {μ : zM} {h : Nat} {i v : Int} : hv (st μ h i v) h = st (hv μ h) 0 i v := hv_st (k := 0)
theorem refTenant_eq {μ : zM} {h : Nat} {a b c d : Int} : qH_refusalOfTenant μ h a b c d = some (if (1 ≤ a ∧ a ≤ 50) ∧ (0 ≤ b ∧ b ≤ 5) ∧ (1 ≤ c ∧ c ≤ 40) ∧ 0 ≤ d ∧ d ≤ 99 then (if μ h 3 < 6 then 0 else 4) else 3) := by
  unfold qH_refusalOfTenant
  simp only [within_eq, sBind]
  by_cases h1 : 1 ≤ a ∧ a ≤ 50 <;> by_cases h2 : 0 ≤ b ∧ b ≤ 5 <;> by_cases h3 : 1 ≤ c ∧ c ≤ 40 <;> by_cases h4 : 0 ≤ d ∧ d ≤ 99 <;> by_cases h5 : μ h 3 < 6 <;> simp [h1, h2, h3, h4, h5]
theorem notTenant_eq {μ : zM} {a b c d : Int} : qM_notTenant μ a b c d = some (if (1 ≤ a ∧ a ≤ 50) ∧ (0 ≤ b ∧ b ≤ 5) ∧ (1 ≤ c ∧ c ≤ 40) ∧ 0 ≤ d ∧ d ≤ 99 then (if μ 143 1 = 6 then 2 else 0) else 1) := by
  unfold qM_notTenant
  simp only [between_eq, sBind]
  by_cases h1 : 1 ≤ a ∧ a ≤ 50 <;> by_cases h2 : 0 ≤ b ∧ b ≤ 5 <;> by_cases h3 : 1 ≤ c ∧ c ≤ 40 <;> by_cases h4 : 0 ≤ d ∧ d ≤ 99 <;> by_cases h5 : μ 143 1 = 6 <;> simp [h1, h2, h3, h4, h5]
def vAddTenant (V : zM) (a b c d : Int) : zM := st (st (st (st (st (st (st (st (st (st V 3 (V 0 3) (V 0 4)) 4 (V 0 3) a) 5 (V 0 3) b) 6 (V 0 3) c) 7 (V 0 3) d) 8 (V 0 3) 0) 9 (V 0 3) (-1)) 0 3 (V 0 3 + 1)) 0 4 (V 0 4 + 1)) 0 15 (V 0 15 + d)
theorem welcome_eq {μ : zM} {h : Nat} {a b c d : Int} (h0 : 0 ≤ μ h 3) (h6 : μ h 3 < 6) (hn : 0 ≤ μ h 4 ∧ μ h 4 ≤ 1000000000) (hr : 0 ≤ μ h 15 ∧ μ h 15 ≤ 1000000000) (hd : 0 ≤ d ∧ d ≤ 99) :
    qH_welcome μ h a b c d = some (μ h 4, st (st (st (st (st (st (st (st (st (st μ (h + 3) (μ h 3) (μ h 4)) (h + 4) (μ h 3) a) (h + 5) (μ h 3) b) (h + 6) (μ h 3) c) (h + 7) (μ h 3) d) (h + 8) (μ h 3) 0) (h + 9) (μ h 3) (-1)) h 3 (μ h 3 + 1)) h 4 (μ h 4 + 1)) h 15 (μ h 15 + d)) := by
  have hc : (0 ≤ μ h 3 ∧ μ h 3 < 6) = True := eq_true ⟨h0, h6⟩
  unfold qH_welcome
  simp only [hc, if_true, sBind]
  simp (disch := omega) only [st_k, st_i, st_at, wr_n]
  rw [if_pos (show y_inL (μ h 15 + d) from ⟨by omega, by omega⟩)]
theorem addsTenant_eq {μ : zM} {a b c d : Int} (h0 : 0 ≤ μ 143 1) (h6 : μ 143 1 < 6) (hn : 0 ≤ μ 143 2 ∧ μ 143 2 ≤ 1000000000) (hr : 0 ≤ μ 143 7 ∧ μ 143 7 ≤ 1000000000) (hd : 0 ≤ d ∧ d ≤ 99) :
    ∃ m, qM_addsTenant μ a b c d = some (μ 143 2, m) ∧ (∀ q : Nat, q ≠ 143 → m q = μ q) ∧ m 143 1 = μ 143 1 + 1 ∧ m 143 2 = μ 143 2 + 1 ∧ m 143 7 = μ 143 7 + d ∧
      m 143 (20 + 7 * μ 143 1) = μ 143 2 ∧ m 143 (21 + 7 * μ 143 1) = a ∧ m 143 (22 + 7 * μ 143 1) = b ∧ m 143 (23 + 7 * μ 143 1) = c ∧ m 143 (24 + 7 * μ 143 1) = d ∧ m 143 (25 + 7 * μ 143 1) = 0 ∧ m 143 (26 + 7 * μ 143 1) = 0 ∧
      ∀ i, i ≠ 1 → i ≠ 2 → i ≠ 7 → (i < 20 + 7 * μ 143 1 ∨ 26 + 7 * μ 143 1 < i) → m 143 i = μ 143 i := by
  generalize ht : μ 143 1 = t at *
  have hp : ∀ (m : zM) (k v : Int), 0 ≤ k → k ≤ 6 → qM_puts m t k v = some (st m 143 (20 + 7 * t + k) v) := fun m k v k0 k6 => by
    unfold qM_puts
    rw [wr_n (x := 7 * t) (by omega) (by omega), wr_n (x := 20 + 7 * t) (by omega) (by omega), wr_n (x := 20 + 7 * t + k) (by omega) (by omega), if_pos (by omega), sBind]
  unfold qM_addsTenant
  simp only [ht, sBind]
  rw [hp _ 0 _ (by omega) (by omega), sBind, hp _ 1 _ (by omega) (by omega), sBind, hp _ 2 _ (by omega) (by omega), sBind, hp _ 3 _ (by omega) (by omega), sBind, hp _ 4 _ (by omega) (by omega), sBind, hp _ 5 _ (by omega) (by omega), sBind, hp _ 6 _ (by omega) (by omega), sBind]
  simp (disch := omega) only [st_i, st_at, wr_n, Int.add_sub_cancel]
  refine ⟨_, rfl, fun q hq => funext fun j => ?_, ?_, ?_, ?_, ?_, ?_, ?_, ?_, ?_, ?_, ?_, fun i i1 i2 i7 io => ?_⟩
  · simp (disch := omega) only [st_k]
  · simp (disch := omega) only [st_i, st_at]
  · simp (disch := omega) only [st_i, st_at]
  · simp (disch := omega) only [st_i, st_at]
  · simp (disch := omega) only [st_i, Int.add_zero, st_at]
  · rw [show 21 + 7 * t = 20 + 7 * t + 1 by omega]; simp (disch := omega) only [st_i, st_at]
  · rw [show 22 + 7 * t = 20 + 7 * t + 2 by omega]; simp (disch := omega) only [st_i, st_at]
  · rw [show 23 + 7 * t = 20 + 7 * t + 3 by omega]; simp (disch := omega) only [st_i, st_at]
  · rw [show 24 + 7 * t = 20 + 7 * t + 4 by omega]; simp (disch := omega) only [st_i, st_at]
  · rw [show 25 + 7 * t = 20 + 7 * t + 5 by omega]; simp (disch := omega) only [st_i, st_at]
  · rw [show 26 + 7 * t = 20 + 7 * t + 6 by omega]; simp (disch := omega) only [st_i, st_at]
  · simp (disch := omega) only [st_i]
section VAT
variable {V : zM} {a b c d : Int}
theorem vAT_3 : vAddTenant V a b c d 0 3 = V 0 3 + 1 := by unfold vAddTenant; simp (disch := omega) only [st_k, st_i, st_at]
theorem vAT_4 : vAddTenant V a b c d 0 4 = V 0 4 + 1 := by unfold vAddTenant; simp (disch := omega) only [st_k, st_i, st_at]
theorem vAT_15 : vAddTenant V a b c d 0 15 = V 0 15 + d := by unfold vAddTenant; simp (disch := omega) only [st_k, st_i, st_at]
theorem vAT_j {j : Int} (h3 : j ≠ 3) (h4 : j ≠ 4) (h5 : j ≠ 15) : vAddTenant V a b c d 0 j = V 0 j := by unfold vAddTenant; simp (disch := omega) only [st_k, st_i]
theorem vAT_f {j : Int} {k : Nat} (h1 : 1 ≤ k) (h2 : k ≤ 2) : vAddTenant V a b c d k j = V k j := by unfold vAddTenant; simp (disch := omega) only [st_k, st_i]
theorem vAT_o {j : Int} {k : Nat} (h1 : 1 ≤ k) (hj : j ≠ V 0 3) : vAddTenant V a b c d k j = V k j := by unfold vAddTenant; simp (disch := omega) only [st_k, st_i]
theorem vAT_t : vAddTenant V a b c d 3 (V 0 3) = V 0 4 ∧ vAddTenant V a b c d 4 (V 0 3) = a ∧ vAddTenant V a b c d 5 (V 0 3) = b ∧ vAddTenant V a b c d 6 (V 0 3) = c ∧ vAddTenant V a b c d 7 (V 0 3) = d ∧ vAddTenant V a b c d 8 (V 0 3) = 0 ∧ vAddTenant V a b c d 9 (V 0 3) = -1 := by
  unfold vAddTenant
  refine ⟨?_, ?_, ?_, ?_, ?_, ?_, ?_⟩ <;> simp (disch := omega) only [st_k, st_i, st_at]
theorem addTenant_wf {N : Int} (h : WF N V) (ht : V 0 3 < 6) (ha : 1 ≤ a ∧ a ≤ 50) (hb : 0 ≤ b ∧ b ≤ 5) (hc : 1 ≤ c ∧ c ≤ 40) (hd : 0 ≤ d ∧ d ≤ 99) : WF (N + 99) (vAddTenant V a b c d) := by
  have t0 := h.t0
  have n0 := h.n0
  have nx := h.nx
  have mo := h.mo
  have ev := h.ev
  have pd := h.pd
  have rc := h.rc
  have gn := h.gn
  obtain ⟨q3, q4, q5, q6, q7, q8, q9⟩ := vAT_t (V := V) (a := a) (b := b) (c := c) (d := d)
  refine ⟨by rw [vAT_j (by decide) (by decide) (by decide)]; exact h.n0, by rw [vAT_j (by decide) (by decide) (by decide)]; exact h.n6, by rw [vAT_3]; omega, by rw [vAT_3]; omega, fun j h0 h1 => ?_, fun j h0 h1 => ?_, fun i j h0 hij h1 => ?_, fun j h0 h1 => ?_, fun i j h0 hij h1 => ?_, by rw [vAT_4]; omega, by rw [vAT_j (by decide) (by decide) (by decide)]; omega, by rw [vAT_j (by decide) (by decide) (by decide)]; omega, by rw [vAT_j (by decide) (by decide) (by decide)]; omega, by rw [vAT_15]; omega, by rw [vAT_j (by decide) (by decide) (by decide)]; omega, by
    have h8 := h.sm
    have t0 := h.t0
    have h9 : ps (vAddTenant V a b c d 7) (V 0 3 + 1).toNat = ps (V 7) (V 0 3).toNat + d := by
      rw [show (V 0 3 + 1).toNat = (V 0 3).toNat + 1 by omega]
      show ps (vAddTenant V a b c d 7) (V 0 3).toNat + vAddTenant V a b c d 7 ((V 0 3).toNat : Nat) = _
      rw [show (((V 0 3).toNat : Nat) : Int) = V 0 3 by omega, q7, ps_congr (w' := V 7) (fun j j0 j1 => vAT_o (by decide) (by omega))]
    rw [vAT_15, vAT_j (j := 14) (by decide) (by decide) (by decide), vAT_j (j := 16) (by decide) (by decide) (by decide), vAT_3, h9, h8]; omega⟩
  · rw [vAT_j (by decide) (by decide) (by decide)] at h1
    rw [vAT_f (by decide) (by decide), vAT_f (by decide) (by decide)]
    exact h.fl j h0 h1
  · rw [vAT_3] at h1
    rw [vAT_4]
    by_cases hj : j = V 0 3
    · subst hj; rw [q3]; omega
    · rw [vAT_o (by decide) hj]
      have := h.id j h0 (by omega)
      omega
  · rw [vAT_3] at h1
    rw [vAT_o (k := 3) (j := i) (by decide) (by omega)]
    by_cases hj : j = V 0 3
    · subst hj
      rw [q3]
      exact (h.id i h0 (by omega)).2
    · rw [vAT_o (by decide) hj]
      exact h.inc i j h0 hij (by omega)
  · rw [vAT_3] at h1
    rw [vAT_j (j := 0) (by decide) (by decide) (by decide)]
    by_cases hj : j = V 0 3
    · subst hj
      rw [q4, q5, q6, q7, q8, q9]
      exact ⟨ha, hb, hc, ⟨hd.1, by omega⟩, ⟨by omega, by omega⟩, by omega, by omega⟩
    · rw [vAT_o (by decide) hj, vAT_o (by decide) hj, vAT_o (by decide) hj, vAT_o (by decide) hj, vAT_o (by decide) hj, vAT_o (by decide) hj]
      obtain ⟨a1, a2, a3, a4, a5, a6, a7⟩ := h.tn j h0 (by omega)
      exact ⟨a1, a2, a3, ⟨a4.1, by omega⟩, ⟨a5.1, by omega⟩, a6, a7⟩
  · rw [vAT_3] at h1
    rw [vAT_o (k := 9) (j := i) (by decide) (by omega)]
    by_cases hj : j = V 0 3
    · subst hj
      rw [q9]
      exact fun z => z
    · rw [vAT_o (by decide) hj]
      exact h.hm i j h0 hij (by omega)
end VAT
