/-! ===== B: burdens, rents that can be paid, on both sides ===== -/
def bd (V : zM) (t f : Int) : Int := if V 1 f - V 5 t < 0 then V 2 f + 3 * (-(V 1 f - V 5 t)) else V 2 f + 3 * (V 1 f - V 5 t)
theorem burdenFor_eq {N : Int} {μ : zM} {h : Nat} {t f : Int} (w : WF N (hv μ h)) (ht : 0 ≤ t ∧ t < μ h 3) (hf : 0 ≤ f ∧ f < μ h 0) : qH_burdenFor μ h t f = some (bd (hv μ h) t f) := by
  have n6 : μ h 0 ≤ 6 := w.n6
  have t6 : μ h 3 ≤ 6 := w.t6
  have a1 : (0 ≤ μ (h + 1) f ∧ μ (h + 1) f ≤ 5) ∧ 1 ≤ μ (h + 2) f ∧ μ (h + 2) f ≤ 99 := w.fl f hf.1 hf.2
  have a2 : 0 ≤ μ (h + 5) t ∧ μ (h + 5) t ≤ 5 := (w.tn t ht.1 ht.2).2.1
  unfold qH_burdenFor
  rw [if_pos (show 0 ≤ f ∧ f < 6 by omega), if_pos (show 0 ≤ t ∧ t < 6 by omega), if_pos (show 0 ≤ f ∧ f < 6 by omega)]
  rw [wr_n (x := μ (h + 1) f - μ (h + 5) t) (by omega) (by omega), wr_n (x := -(μ (h + 1) f - μ (h + 5) t)) (by omega) (by omega), wr_n (x := 3 * -(μ (h + 1) f - μ (h + 5) t)) (by omega) (by omega), wr_n (x := 3 * (μ (h + 1) f - μ (h + 5) t)) (by omega) (by omega), wr_n (x := μ (h + 2) f + 3 * -(μ (h + 1) f - μ (h + 5) t)) (by omega) (by omega), wr_n (x := μ (h + 2) f + 3 * (μ (h + 1) f - μ (h + 5) t)) (by omega) (by omega)]
  show _ = some (if μ (h + 1) f - μ (h + 5) t < 0 then μ (h + 2) f + 3 * (-(μ (h + 1) f - μ (h + 5) t)) else μ (h + 2) f + 3 * (μ (h + 1) f - μ (h + 5) t))
  by_cases hc : μ (h + 1) f - μ (h + 5) t < 0
  · rw [if_pos hc, if_pos hc]
  · rw [if_neg hc, if_neg hc]
theorem burdenOf_eq {N : Int} {μ V : zM} {t f : Int} (w : WF N V) (r : RowIs (μ 143) V) (ht : 0 ≤ t ∧ t < V 0 3) (hf : 0 ≤ f ∧ f < V 0 0) : qM_burdenOf μ t f = some (bd V t f) := by
  have n6 := w.n6
  have t6 := w.t6
  have a1 := w.fl f hf.1 hf.2
  have a2 := (w.tn t ht.1 ht.2).2.1
  obtain ⟨b1, b2⟩ := r.fl f hf.1 hf.2
  have b3 := (r.tn t ht.1 ht.2).2.2.1
  unfold qM_burdenOf
  rw [flat_eq (by omega) (by decide), sBind, of_eq (by omega) (by decide), sBind, flat_eq (by omega) (by decide), sBind, Int.add_zero, show 20 + 7 * t + 2 = 22 + 7 * t by omega, show 8 + 2 * f + 1 = 9 + 2 * f by omega, b1, b2, b3]
  rw [wr_n (x := V 1 f - V 5 t) (by omega) (by omega), wr_n (x := -(V 1 f - V 5 t)) (by omega) (by omega), wr_n (x := 3 * -(V 1 f - V 5 t)) (by omega) (by omega), wr_n (x := 3 * (V 1 f - V 5 t)) (by omega) (by omega), wr_n (x := V 2 f + 3 * -(V 1 f - V 5 t)) (by omega) (by omega), wr_n (x := V 2 f + 3 * (V 1 f - V 5 t)) (by omega) (by omega)]
  unfold bd
  by_cases hc : V 1 f - V 5 t < 0
  · rw [if_pos hc, if_pos hc]
  · rw [if_neg hc, if_neg hc]
theorem canAfford_eq {μ : zM} {h : Nat} {t f : Int} (ht : 0 ≤ t ∧ t < 6) (hf : 0 ≤ f ∧ f < 6) : qH_canAfford μ h t f = some (if μ (h + 7) t < μ (h + 2) f then 0 else 1) := by
  unfold qH_canAfford
  rw [if_pos hf, if_pos ht]
  by_cases hc : μ (h + 7) t < μ (h + 2) f
  · rw [if_pos hc, if_pos hc]
  · rw [if_neg hc, if_neg hc]
theorem affords_eq {μ V : zM} {t f : Int} (r : RowIs (μ 143) V) (ht : 0 ≤ t ∧ t < V 0 3) (t6 : V 0 3 ≤ 6) (hf : 0 ≤ f ∧ f < V 0 0) (n6 : V 0 0 ≤ 6) : qM_affords μ t f = some (if V 7 t < V 2 f then 0 else 1) := by
  have b2 := (r.fl f hf.1 hf.2).2
  have b3 := (r.tn t ht.1 ht.2).2.2.2.2.1
  unfold qM_affords
  rw [flat_eq (by omega) (by decide), sBind, of_eq (by omega) (by decide), sBind, show 20 + 7 * t + 4 = 24 + 7 * t by omega, show 8 + 2 * f + 1 = 9 + 2 * f by omega, b2, b3]
  by_cases hc : V 7 t < V 2 f
  · rw [if_pos hc, if_pos hc]
  · rw [if_neg hc, if_neg hc]
