/-! ===== B: moveIn ===== -/
section VMI
variable {V : zM} {s f : Int}
theorem home_wf {N : Int} (h : WF N V) (hf : -1 ≤ f ∧ f < V 0 0) (hd : ∀ j, 0 ≤ j → j < V 0 3 → j ≠ s → V 9 j = f → f = -1) : WF N (st V 9 s f) := by
  have e : ∀ (k : Nat) (j : Int), k ≠ 9 → st V 9 s f k j = V k j := fun k j hk => st_k hk
  refine ⟨by rw [e 0 _ (by decide)]; exact h.n0, by rw [e 0 _ (by decide)]; exact h.n6, by rw [e 0 _ (by decide)]; exact h.t0, by rw [e 0 _ (by decide)]; exact h.t6, fun j h0 h1 => ?_, fun j h0 h1 => ?_, fun i j h0 hij h1 => ?_, fun j h0 h1 => ?_, fun i j h0 hij h1 => ?_, by rw [e 0 _ (by decide)]; exact h.nx, by rw [e 0 _ (by decide)]; exact h.mo, by rw [e 0 _ (by decide)]; exact h.ev, by rw [e 0 _ (by decide)]; exact h.pd, by rw [e 0 _ (by decide)]; exact h.rc, by rw [e 0 _ (by decide)]; exact h.gn, by rw [e 0 _ (by decide), e 0 _ (by decide), e 0 _ (by decide), e 0 _ (by decide), ps_congr (w' := V 7) (fun j _ _ => e 7 j (by decide))]; exact h.sm⟩
  · rw [e 0 _ (by decide)] at h1
    rw [e 1 _ (by decide), e 2 _ (by decide)]
    exact h.fl j h0 h1
  · rw [e 0 _ (by decide)] at h1
    rw [e 3 _ (by decide), e 0 _ (by decide)]
    exact h.id j h0 h1
  · rw [e 0 _ (by decide)] at h1
    rw [e 3 _ (by decide), e 3 _ (by decide)]
    exact h.inc i j h0 hij h1
  · rw [e 0 _ (by decide)] at h1
    rw [e 4 _ (by decide), e 5 _ (by decide), e 6 _ (by decide), e 7 _ (by decide), e 8 _ (by decide), e 0 _ (by decide)]
    obtain ⟨a1, a2, a3, a4, a5, a6, a7⟩ := h.tn j h0 h1
    by_cases hj : j = s
    · rw [hj, st_at]; rw [hj] at a1 a2 a3 a4 a5; exact ⟨a1, a2, a3, a4, a5, hf.1, hf.2⟩
    · rw [st_i hj]; exact ⟨a1, a2, a3, a4, a5, a6, a7⟩
  · rw [e 0 _ (by decide)] at h1
    by_cases hj : j = s
    · rw [hj, st_at, st_i (show i ≠ s by omega)]
      exact fun z => z.trans (hd i h0 (by omega) (by omega) z)
    · by_cases hi : i = s
      · rw [hi, st_at, st_i hj]
        exact fun z => hd j (by omega) h1 hj z.symm
      · rw [st_i hi, st_i hj]
        exact h.hm i j h0 hij h1
theorem home_row {w w' : Int → Int} (h : RowIs w V) (n6 : V 0 0 ≤ 6) (hs : 0 ≤ s) (w1 : w' (26 + 7 * s) = f + 1) (wo : ∀ i, i ≠ 26 + 7 * s → w' i = w i) : RowIs w' (st V 9 s f) := by
  have e : ∀ (k : Nat) (j : Int), k ≠ 9 → st V 9 s f k j = V k j := fun k j hk => st_k hk
  refine ⟨by rw [e 0 _ (by decide), wo 0 (by omega)]; exact h.n, by rw [e 0 _ (by decide), wo 1 (by omega)]; exact h.t, by rw [e 0 _ (by decide), wo 2 (by omega)]; exact h.nx, by rw [e 0 _ (by decide), wo 3 (by omega)]; exact h.mo, by rw [e 0 _ (by decide), wo 4 (by omega)]; exact h.ev, by rw [e 0 _ (by decide), wo 5 (by omega)]; exact h.pd, by rw [e 0 _ (by decide), wo 6 (by omega)]; exact h.gn, by rw [e 0 _ (by decide), wo 7 (by omega)]; exact h.rc, fun j h0 h1 => ?_, fun j h0 h1 => ?_⟩
  · rw [e 0 _ (by decide)] at h1
    rw [e 1 _ (by decide), e 2 _ (by decide), wo (8 + 2 * j) (by omega), wo (9 + 2 * j) (by omega)]
    exact h.fl j h0 h1
  · rw [e 0 _ (by decide)] at h1
    rw [e 3 _ (by decide), e 4 _ (by decide), e 5 _ (by decide), e 6 _ (by decide), e 7 _ (by decide), e 8 _ (by decide)]
    rw [wo (20 + 7 * j) (by omega), wo (21 + 7 * j) (by omega), wo (22 + 7 * j) (by omega), wo (23 + 7 * j) (by omega), wo (24 + 7 * j) (by omega), wo (25 + 7 * j) (by omega)]
    obtain ⟨a1, a2, a3, a4, a5, a6, a7⟩ := h.tn j h0 h1
    by_cases hj : j = s
    · rw [hj, st_at]; rw [hj] at a1 a2 a3 a4 a5 a6; exact ⟨a1, a2, a3, a4, a5, a6, w1⟩
    · rw [st_i hj, wo (26 + 7 * j) (by omega)]; exact ⟨a1, a2, a3, a4, a5, a6, a7⟩
end VMI
