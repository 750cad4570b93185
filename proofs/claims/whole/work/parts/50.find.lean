/-! ===== B: the first place that has it ===== -/
def fi (w : Int → Int) (v : Int) : Nat → Int → Int
  | 0, _ => -1
  | k+1, i => if w i = v then i else fi w v k (i + 1)
theorem fi_congr {w w' : Int → Int} {v : Int} : ∀ (k : Nat) (i : Int), (∀ j, i ≤ j → j < i + k → w j = w' j) → fi w v k i = fi w' v k i
  | 0, _, _ => rfl
  | k+1, i, h => by
    unfold fi
    rw [h i (by omega) (by omega), fi_congr k (i + 1) (fun j h1 h2 => h j (by omega) (by omega))]
theorem fi_spec {w : Int → Int} {v : Int} : ∀ (k : Nat) (i : Int), 0 ≤ i → (i ≤ fi w v k i ∧ fi w v k i < i + k ∧ w (fi w v k i) = v) ∨ (fi w v k i = -1 ∧ ∀ j, i ≤ j → j < i + k → w j ≠ v)
  | 0, i, _ => Or.inr ⟨rfl, fun j h1 h2 => by omega⟩
  | k+1, i, h => by
    unfold fi
    by_cases hw : w i = v
    · rw [if_pos hw]
      exact Or.inl ⟨by omega, by omega, hw⟩
    · rw [if_neg hw]
      rcases fi_spec (w := w) (v := v) k (i + 1) (by omega) with ⟨a, b, c⟩ | ⟨a, b⟩
      · exact Or.inl ⟨by omega, by omega, c⟩
      · refine Or.inr ⟨a, fun j h1 h2 => ?_⟩
        by_cases hj : j = i
        · rw [hj]; exact hw
        · exact b j (by omega) (by omega)
theorem slotOf_l {μ : zM} {h : Nat} {v : Int} (h6 : μ h 3 ≤ 6) : ∀ (k n : Nat) (i : Int), i + k = μ h 3 → 0 ≤ i → k < n → qH_slotOf_l2 μ h v n i = some (if fi (μ (h + 3)) v k i = -1 then .inr () else .inl (fi (μ (h + 3)) v k i)) := by
  intro k
  induction k with
  | zero =>
    intro n i h1 h0 hn
    obtain ⟨n, rfl⟩ : ∃ n', n = n' + 1 := ⟨n - 1, by omega⟩
    unfold qH_slotOf_l2 fi
    rw [if_neg (by omega), if_pos rfl]
  | succ k ih =>
    intro n i h1 h0 hn
    obtain ⟨n, rfl⟩ : ∃ n', n = n' + 1 := ⟨n - 1, by omega⟩
    unfold qH_slotOf_l2 fi
    rw [if_pos (show i < μ h 3 by omega), if_pos (show 0 ≤ i ∧ i < 6 by omega)]
    by_cases hw : μ (h + 3) i = v
    · rw [if_pos hw, if_pos hw, if_neg (show ¬ i = -1 by omega)]
    · rw [if_neg hw, if_neg hw, wr_n (by omega) (by omega)]
      exact ih n (i + 1) (by omega) (by omega) (by omega)
theorem slotOf_eq {μ : zM} {h : Nat} {v : Int} (h0 : 0 ≤ μ h 3) (h6 : μ h 3 ≤ 6) : qH_slotOf μ h v = some (fi (μ (h + 3)) v (μ h 3).toNat 0) := by
  unfold qH_slotOf
  rw [slotOf_l h6 (μ h 3).toNat 200 0 (by omega) (by omega) (by omega)]
  by_cases hf : fi (μ (h + 3)) v (μ h 3).toNat 0 = -1
  · rw [if_pos hf, sBndSr, hf]
  · rw [if_neg hf, sBndSl]
theorem slotIn_l {μ : zM} {h : Nat} {v : Int} (h6 : μ h 3 ≤ 6) : ∀ (k n : Nat) (i : Int), i + k = μ h 3 → 0 ≤ i → k < n → qH_slotIn_l2 μ h v n i = some (if fi (μ (h + 9)) v k i = -1 then .inr () else .inl (fi (μ (h + 9)) v k i)) := by
  intro k
  induction k with
  | zero =>
    intro n i h1 h0 hn
    obtain ⟨n, rfl⟩ : ∃ n', n = n' + 1 := ⟨n - 1, by omega⟩
    unfold qH_slotIn_l2 fi
    rw [if_neg (by omega), if_pos rfl]
  | succ k ih =>
    intro n i h1 h0 hn
    obtain ⟨n, rfl⟩ : ∃ n', n = n' + 1 := ⟨n - 1, by omega⟩
    unfold qH_slotIn_l2 fi
    rw [if_pos (show i < μ h 3 by omega), if_pos (show 0 ≤ i ∧ i < 6 by omega)]
    by_cases hw : μ (h + 9) i = v
    · rw [if_pos hw, if_pos hw, if_neg (show ¬ i = -1 by omega)]
    · rw [if_neg hw, if_neg hw, wr_n (by omega) (by omega)]
      exact ih n (i + 1) (by omega) (by omega) (by omega)
theorem slotIn_eq {μ : zM} {h : Nat} {v : Int} (h0 : 0 ≤ μ h 3) (h6 : μ h 3 ≤ 6) : qH_slotIn μ h v = some (fi (μ (h + 9)) v (μ h 3).toNat 0) := by
  unfold qH_slotIn
  rw [slotIn_l h6 (μ h 3).toNat 200 0 (by omega) (by omega) (by omega)]
  by_cases hf : fi (μ (h + 9)) v (μ h 3).toNat 0 = -1
  · rw [if_pos hf, sBndSr, hf]
  · rw [if_neg hf, sBndSl]
theorem place_l {μ : zM} {v : Int} (h6 : μ 143 1 ≤ 6) : ∀ (k n : Nat) (i : Int), i + k = μ 143 1 → 0 ≤ i → k < n → qM_place_l2 μ v n i = some (if fi (fun j => μ 143 (20 + 7 * j)) v k i = -1 then .inr () else .inl (fi (fun j => μ 143 (20 + 7 * j)) v k i)) := by
  intro k
  induction k with
  | zero =>
    intro n i h1 h0 hn
    obtain ⟨n, rfl⟩ : ∃ n', n = n' + 1 := ⟨n - 1, by omega⟩
    unfold qM_place_l2 fi
    rw [if_neg (by omega), if_pos rfl]
  | succ k ih =>
    intro n i h1 h0 hn
    obtain ⟨n, rfl⟩ : ∃ n', n = n' + 1 := ⟨n - 1, by omega⟩
    unfold qM_place_l2 fi
    rw [if_pos (show i < μ 143 1 by omega), of_eq (by omega) (by decide), sBind, Int.add_zero]
    by_cases hw : μ 143 (20 + 7 * i) = v
    · rw [if_pos hw, if_pos hw, if_neg (show ¬ i = -1 by omega)]
    · rw [if_neg hw, if_neg hw, wr_n (by omega) (by omega)]
      exact ih n (i + 1) (by omega) (by omega) (by omega)
theorem place_eq {μ : zM} {v : Int} {V : zM} (hr : RowIs (μ 143) V) (h0 : 0 ≤ V 0 3) (h6 : V 0 3 ≤ 6) : qM_place μ v = some (fi (V 3) v (V 0 3).toNat 0) := by
  have ht := hr.t
  unfold qM_place
  rw [place_l (by omega) (V 0 3).toNat 200 0 (by omega) (by omega) (by omega)]
  have hc : fi (fun j => μ 143 (20 + 7 * j)) v (V 0 3).toNat 0 = fi (V 3) v (V 0 3).toNat 0 := fi_congr _ _ (fun j h1 h2 => (hr.tn j (by omega) (by omega)).1)
  rw [hc]
  by_cases hf : fi (V 3) v (V 0 3).toNat 0 = -1
  · rw [if_pos hf, sBndSr, hf]
  · rw [if_neg hf, sBndSl]
theorem occupant_l {μ : zM} {v : Int} (h6 : μ 143 1 ≤ 6) (hv : 0 ≤ v ∧ v ≤ 6) : ∀ (k n : Nat) (i : Int), i + k = μ 143 1 → 0 ≤ i → k < n → qM_occupant_l2 μ v n i = some (if fi (fun j => μ 143 (26 + 7 * j)) (v + 1) k i = -1 then .inr () else .inl (fi (fun j => μ 143 (26 + 7 * j)) (v + 1) k i)) := by
  intro k
  induction k with
  | zero =>
    intro n i h1 h0 hn
    obtain ⟨n, rfl⟩ : ∃ n', n = n' + 1 := ⟨n - 1, by omega⟩
    unfold qM_occupant_l2 fi
    rw [if_neg (by omega), if_pos rfl]
  | succ k ih =>
    intro n i h1 h0 hn
    obtain ⟨n, rfl⟩ : ∃ n', n = n' + 1 := ⟨n - 1, by omega⟩
    unfold qM_occupant_l2 fi
    rw [if_pos (show i < μ 143 1 by omega), of_eq (by omega) (by decide), sBind, wr_n (x := v + 1) (by omega) (by omega), show 20 + 7 * i + 6 = 26 + 7 * i by omega]
    by_cases hw : μ 143 (26 + 7 * i) = v + 1
    · rw [if_pos hw, if_pos hw, if_neg (show ¬ i = -1 by omega)]
    · rw [if_neg hw, if_neg hw, wr_n (by omega) (by omega)]
      exact ih n (i + 1) (by omega) (by omega) (by omega)
theorem fi_shift {w : Int → Int} {v : Int} : ∀ (k : Nat) (i : Int), fi (fun j => w j + 1) (v + 1) k i = fi w v k i
  | 0, _ => rfl
  | k+1, i => by
    unfold fi
    rw [fi_shift k (i + 1)]
    by_cases hw : w i = v
    · rw [if_pos hw, if_pos (by omega)]
    · rw [if_neg hw, if_neg (by omega)]
theorem occupant_eq {μ : zM} {v : Int} {V : zM} (hr : RowIs (μ 143) V) (h0 : 0 ≤ V 0 3) (h6 : V 0 3 ≤ 6) (hv : 0 ≤ v ∧ v ≤ 6) : qM_occupant μ v = some (fi (V 9) v (V 0 3).toNat 0) := by
  have ht := hr.t
  unfold qM_occupant
  rw [occupant_l (by omega) hv (V 0 3).toNat 200 0 (by omega) (by omega) (by omega)]
  have hc : fi (fun j => μ 143 (26 + 7 * j)) (v + 1) (V 0 3).toNat 0 = fi (V 9) v (V 0 3).toNat 0 := (fi_congr _ _ (fun j h1 h2 => (hr.tn j (by omega) (by omega)).2.2.2.2.2.2)).trans (fi_shift _ _)
  rw [hc]
  by_cases hf : fi (V 9) v (V 0 3).toNat 0 = -1
  · rw [if_pos hf, sBndSr, hf]
  · rw [if_neg hf, sBndSl]
