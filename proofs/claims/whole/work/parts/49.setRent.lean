/-! ===== B: setRent ===== -/
theorem hasFlat_eq {μ : zM} {h : Nat} {f : Int} : qH_hasFlat μ h f = some (if 0 ≤ f ∧ f < μ h 0 then 1 else 0) := by
  unfold qH_hasFlat
  by_cases h1 : f < 0
  · rw [if_pos h1, if_neg (by omega)]
  · rw [if_neg h1]
    by_cases h2 : f < μ h 0
    · rw [if_pos h2, if_pos ⟨by omega, h2⟩]
    · rw [if_neg h2, if_neg (by omega)]
theorem isFlat_eq {μ : zM} {f : Int} (h0 : 0 ≤ μ 143 0 ∧ μ 143 0 ≤ 6) : qM_isFlat μ f = some (if 0 ≤ f ∧ f < μ 143 0 then 1 else 0) := by
  unfold qM_isFlat
  rw [between_eq, sBind, wr_n (by omega) (by omega)]
  by_cases h1 : 0 ≤ f ∧ f < μ 143 0
  · rw [if_pos (show 0 ≤ f ∧ f ≤ μ 143 0 - 1 by omega), if_pos h1, if_pos (by decide)]
  · rw [if_neg (show ¬ (0 ≤ f ∧ f ≤ μ 143 0 - 1) by omega), if_neg h1, if_pos (by decide)]
theorem flat_eq {μ : zM} {f k : Int} (h0 : 0 ≤ f ∧ f < 6) (hk : 0 ≤ k ∧ k ≤ 1) : qM_flat μ f k = some (μ 143 (8 + 2 * f + k)) := by
  unfold qM_flat
  rw [wr_n (x := 2 * f) (by omega) (by omega), wr_n (x := 8 + 2 * f) (by omega) (by omega), wr_n (x := 8 + 2 * f + k) (by omega) (by omega), if_pos (by omega)]
theorem of_eq {μ : zM} {t k : Int} (h0 : 0 ≤ t ∧ t < 6) (hk : 0 ≤ k ∧ k ≤ 6) : qM_of μ t k = some (μ 143 (20 + 7 * t + k)) := by
  unfold qM_of
  rw [wr_n (x := 7 * t) (by omega) (by omega), wr_n (x := 20 + 7 * t) (by omega) (by omega), wr_n (x := 20 + 7 * t + k) (by omega) (by omega), if_pos (by omega)]
theorem puts_eq {μ : zM} {t k v : Int} (h0 : 0 ≤ t ∧ t < 6) (hk : 0 ≤ k ∧ k ≤ 6) : qM_puts μ t k v = some (st μ 143 (20 + 7 * t + k) v) := by
  unfold qM_puts
  rw [wr_n (x := 7 * t) (by omega) (by omega), wr_n (x := 20 + 7 * t) (by omega) (by omega), wr_n (x := 20 + 7 * t + k) (by omega) (by omega), if_pos (by omega), sBind]
theorem setRent_wf {N : Int} {V : zM} {f r : Int} (h : WF N V) (hr : 1 ≤ r ∧ r ≤ 99) : WF N (st V 2 f r) := by
  have e : ∀ (k : Nat) (j : Int), k ≠ 2 → st V 2 f r k j = V k j := fun k j hk => st_k hk
  refine ⟨by rw [e 0 _ (by decide)]; exact h.n0, by rw [e 0 _ (by decide)]; exact h.n6, by rw [e 0 _ (by decide)]; exact h.t0, by rw [e 0 _ (by decide)]; exact h.t6, fun j h0 h1 => ?_, fun j h0 h1 => ?_, fun i j h0 hij h1 => ?_, fun j h0 h1 => ?_, fun i j h0 hij h1 => ?_, by rw [e 0 _ (by decide)]; exact h.nx, by rw [e 0 _ (by decide)]; exact h.mo, by rw [e 0 _ (by decide)]; exact h.ev, by rw [e 0 _ (by decide)]; exact h.pd, by rw [e 0 _ (by decide)]; exact h.rc, by rw [e 0 _ (by decide)]; exact h.gn, by rw [e 0 _ (by decide), e 0 _ (by decide), e 0 _ (by decide), e 0 _ (by decide), ps_congr (w' := V 7) (fun j _ _ => e 7 j (by decide))]; exact h.sm⟩
  · rw [e 0 _ (by decide)] at h1
    have a := h.fl j h0 h1
    rw [e 1 _ (by decide)]
    by_cases hj : j = f
    · rw [hj, st_at]; rw [hj] at a; exact ⟨a.1, hr⟩
    · rw [st_i hj]; exact a
  · rw [e 0 _ (by decide)] at h1
    rw [e 3 _ (by decide), e 0 _ (by decide)]
    exact h.id j h0 h1
  · rw [e 0 _ (by decide)] at h1
    rw [e 3 _ (by decide), e 3 _ (by decide)]
    exact h.inc i j h0 hij h1
  · rw [e 0 _ (by decide)] at h1
    rw [e 4 _ (by decide), e 5 _ (by decide), e 6 _ (by decide), e 7 _ (by decide), e 8 _ (by decide), e 9 _ (by decide), e 0 _ (by decide)]
    exact h.tn j h0 h1
  · rw [e 0 _ (by decide)] at h1
    rw [e 9 _ (by decide), e 9 _ (by decide)]
    exact h.hm i j h0 hij h1
theorem setRent_row {w w' : Int → Int} {V : zM} {f r : Int} (h : RowIs w V) (n6 : V 0 0 ≤ 6) (hf : 0 ≤ f ∧ f < 6) (w1 : w' (9 + 2 * f) = r) (wo : ∀ i, i ≠ 9 + 2 * f → w' i = w i) : RowIs w' (st V 2 f r) := by
  have e : ∀ (k : Nat) (j : Int), k ≠ 2 → st V 2 f r k j = V k j := fun k j hk => st_k hk
  refine ⟨by rw [e 0 _ (by decide), wo 0 (by omega)]; exact h.n, by rw [e 0 _ (by decide), wo 1 (by omega)]; exact h.t, by rw [e 0 _ (by decide), wo 2 (by omega)]; exact h.nx, by rw [e 0 _ (by decide), wo 3 (by omega)]; exact h.mo, by rw [e 0 _ (by decide), wo 4 (by omega)]; exact h.ev, by rw [e 0 _ (by decide), wo 5 (by omega)]; exact h.pd, by rw [e 0 _ (by decide), wo 6 (by omega)]; exact h.gn, by rw [e 0 _ (by decide), wo 7 (by omega)]; exact h.rc, fun j h0 h1 => ?_, fun j h0 h1 => ?_⟩
  · rw [e 0 _ (by decide)] at h1
    have a := h.fl j h0 h1
    rw [e 1 _ (by decide), wo (8 + 2 * j) (by omega)]
    by_cases hj : j = f
    · rw [hj, st_at]; rw [hj] at a; exact ⟨a.1, w1⟩
    · rw [st_i hj, wo (9 + 2 * j) (by omega)]; exact a
  · rw [e 0 _ (by decide)] at h1
    rw [e 3 _ (by decide), e 4 _ (by decide), e 5 _ (by decide), e 6 _ (by decide), e 7 _ (by decide), e 8 _ (by decide), e 9 _ (by decide)]
    rw [wo _ (by omega), wo _ (by omega), wo _ (by omega), wo _ (by omega), wo _ (by omega), wo _ (by omega), wo _ (by omega)]
    exact h.tn j h0 h1
theorem setRent_ok {N : Int} {f r : Int} : OpOk N N (fun μ => qL_setRent μ f r) (fun μ => qM_setRent μ f r) := by
  intro μ hI
  have hB := hI.1
  have w := hB.1
  have hn : μ 143 0 = μ 1 0 := hB.2.n
  have n0 : 0 ≤ μ 1 0 := w.n0
  have n6 : μ 1 0 ≤ 6 := w.n6
  show ∃ a9 m1 x m2, qL_setRent μ f r = some (a9, m1) ∧ qM_setRent m1 f r = some (x, m2) ∧ m2 142 0 = a9 ∧ (a9 = 0 → m2 156 0 = x) ∧ Inv N m2
  have k9 : ∀ v, (st μ 142 0 v) 143 = μ 143 := fun v => funext fun j => st_k (by decide)
  unfold qL_setRent qT_setRent qH_refusalOfRent
  rw [hasFlat_eq, sBind]
  by_cases hf : 0 ≤ f ∧ f < μ 1 0
  · rw [if_pos hf, if_neg (show ¬ (1 : Int) = 0 by decide), within_eq, sBind]
    by_cases hr : 1 ≤ r ∧ r ≤ 99
    · rw [if_pos hr, if_neg (show ¬ (1 : Int) = 0 by decide), sBind, refuse0, sTcl]
      obtain ⟨m1, m2, e1, g1, e2, k⟩ := change_both (N' := N) (μ := μ) (r := μ 3 f) (V' := st (hv μ 1) 2 f r) (fun m => qH_changeRent m 1 f r) (fun m => qM_setsRent m f r) hI (by omega)
        (fun m1 g1 => by
          refine ⟨st m1 (1 + 2) f r, ?_, fun q hq => funext fun j => st_k (by omega), ?_⟩
          · unfold qH_changeRent
            rw [if_pos ⟨hf.1, by omega⟩, if_pos ⟨hf.1, by omega⟩, sBind, g1 (1 + 2) (by omega)]
          · rw [hv_st]
            exact HEq6.upd (HEq6.of_same fun q q1 q2 => g1 q (by omega)))
        (fun m5 l5 => by
          refine ⟨st m5 143 (8 + 2 * f + 1) r, ?_, fun q q1 _ _ => funext fun j => st_k q1, fun j _ => st_k (by decide), setRent_row hB.2 n6 ⟨hf.1, by omega⟩ ?_ (fun i hi => ?_)⟩
          · unfold qM_setsRent
            rw [flat_eq ⟨hf.1, by omega⟩ (by decide), sBind, wr_n (x := 2 * f) (by omega) (by omega), wr_n (x := 8 + 2 * f) (by omega) (by omega), wr_n (x := 8 + 2 * f + 1) (by omega) (by omega), if_pos (by omega), sBind, l5, show 8 + 2 * f + 1 = 9 + 2 * f by omega, (hB.2.fl f hf.1 hf.2).2]
            rfl
          · rw [show 9 + 2 * f = 8 + 2 * f + 1 by omega, st_at]
          · rw [st_i (by omega), l5])
        (setRent_wf w hr)
      rw [e1, sBind, show qH_changeRent m1 1 f r = some (μ 3 f, m2) from e2, sBnd2, sBndTl]
      obtain ⟨k143, k0, m5, m6, e5, l143, e6, z0, z1, z2⟩ := k _ rfl
      refine ⟨0, _, μ 3 f, m6, rfl, ?_, z0, fun _ => z1, z2⟩
      unfold qM_setRent qM_notRent
      rw [sBind, isFlat_eq (by rw [k143]; omega), sBind, k143, hn, if_pos hf, if_neg (show ¬ (1 : Int) = 0 by decide), between_eq, sBind, if_pos hr, if_neg (show ¬ (1 : Int) = 0 by decide), sBind, if_pos rfl, e5, sBind, show qM_setsRent m5 f r = some (μ 3 f, m6) from e6, sBnd2]
    · rw [if_neg hr, if_pos rfl, sBind, refuseE (by decide), sTcr, sBndTr, if_neg (by decide), if_pos (by decide)]
      refine ⟨2, μ, 0, st (st μ 142 0 0) 142 0 2, rfl, ?_, st_at, fun h => absurd h (by decide), thrown_inv (thrown_inv hI (by omega)) (Int.le_refl _)⟩
      unfold qM_setRent qM_notRent
      rw [sBind, isFlat_eq (by rw [k9]; omega), sBind, k9, hn, if_pos hf, if_neg (show ¬ (1 : Int) = 0 by decide), between_eq, sBind, if_neg hr, if_pos rfl, sBind, if_neg (by decide), fails_eq, sBnd2]
  · rw [if_neg hf, if_pos rfl, sBind, refuseE (by decide), sTcr, sBndTr, if_pos (by decide)]
    refine ⟨1, μ, 0, st (st μ 142 0 0) 142 0 1, rfl, ?_, st_at, fun h => absurd h (by decide), thrown_inv (thrown_inv hI (by omega)) (Int.le_refl _)⟩
    unfold qM_setRent qM_notRent
    rw [sBind, isFlat_eq (by rw [k9]; omega), sBind, k9, hn, if_neg hf, if_pos rfl, sBind, if_neg (by decide), fails_eq, sBnd2]
