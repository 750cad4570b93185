/-! ===== B: save ===== -/
/-- what a turn that changes and throws nothing owes -/
def DoOk (N N' : Int) (C M : zM → Option (Int × zM)) : Prop := ∀ μ, Inv N μ → ∃ x m1 m2, C μ = some (x, m1) ∧ M m1 = some (x, m2) ∧ Inv N' m2
theorem save_l {μ : zM} : ∀ (k n : Nat) (i : Int), i + k = 62 → 0 ≤ i → k < n → qM_save_l7 n (cpy μ 143 145 i) i = some (cpy μ 143 145 62) := by
  intro k
  induction k with
  | zero =>
    intro n i h h0 hn
    obtain ⟨n, rfl⟩ : ∃ n', n = n' + 1 := ⟨n - 1, by omega⟩
    unfold qM_save_l7
    rw [if_neg (by omega), show i = 62 by omega]
  | succ k ih =>
    intro n i h h0 hn
    obtain ⟨n, rfl⟩ : ∃ n', n = n' + 1 := ⟨n - 1, by omega⟩
    unfold qM_save_l7
    rw [if_pos (by omega), if_pos (by omega), if_pos (by omega), sBind, st_cpy (by decide) h0, wr_n (by omega) (by omega)]
    exact ih n (i + 1) (by omega) (by omega) (by omega)
theorem qMsave_eq {μ : zM} : qM_save μ = some (μ 143 1, st (cpy (st μ 142 0 0) 143 145 62) 142 8 1) := by
  unfold qM_save
  have h := save_l (μ := st μ 142 0 0) 62 200 0 (by omega) (by omega) (by omega)
  rw [cpy_0] at h
  rw [sBind, h, sBind, sBind, st_k (by decide), cpy_k (by decide), st_k (by decide)]
theorem save_ok {N : Int} : DoOk N N qT_save qM_save := by
  intro μ hI
  obtain ⟨hB, hR, hS, hT⟩ := hI
  obtain ⟨mc, e1, e2, e3⟩ := copyFrom_eq (μ := μ) (h := 21) (v := 1) (Or.inr (by decide))
  have ht : μ 143 1 = μ 1 3 := hB.2.t
  have x3 : mc 21 3 = μ 1 3 := e2.1.2.1
  have k143 : mc 143 = μ 143 := e3 143 (Or.inr (by decide))
  refine ⟨μ 1 3, st mc 0 9 1, st (cpy (st (st mc 0 9 1) 142 0 0) 143 145 62) 142 8 1, ?_, ?_, ?_⟩
  · unfold qT_save
    rw [e1, sBind, sBind, st_k (by decide), x3]
  · rw [qMsave_eq, st_k (by decide), k143, ht]
  · generalize hm : st (cpy (st (st mc 0 9 1) 142 0 0) 143 145 62) 142 8 1 = m
    have mq : ∀ q : Nat, q ≠ 0 → q ≠ 142 → q ≠ 145 → (q < 21 ∨ 31 ≤ q) → m q = μ q := fun q h0 h1 h2 h3 => by
      rw [← hm, ← e3 q h3]
      exact funext fun j => by rw [st_k h1, cpy_k h2, st_k h1, st_k h0]
    have m0 : ∀ j, j ≠ 9 → m 0 j = μ 0 j := fun j hj => by
      rw [← hm, st_k (by decide), cpy_k (by decide), st_k (by decide), st_i hj, e3 0 (Or.inl (by decide))]
    have m09 : m 0 9 = 1 := by rw [← hm, st_k (by decide), cpy_k (by decide), st_k (by decide), st_at]
    have m142 : ∀ j, j ≠ 0 → j ≠ 8 → m 142 j = μ 142 j := fun j h0 h8 => by
      rw [← hm, st_i h8, cpy_k (by decide), st_i h0, st_k (by decide), e3 142 (Or.inr (by decide))]
    have m1428 : m 142 8 = 1 := by rw [← hm, st_at]
    have m145 : ∀ i, 0 ≤ i → i < 62 → m 145 i = μ 143 i := fun i h0 h1 => by
      rw [← hm, st_k (by decide), cpy_at ⟨h0, h1⟩, st_k (by decide), st_k (by decide), k143]
    have m21 : HEq6 (hv m 21) (hv μ 1) := HEq6.trans (HEq6.of_same fun q q1 q2 => by
      rw [← hm]
      exact funext fun j => by rw [st_k (by omega), cpy_k (by omega), st_k (by omega), st_k (by omega)]) e2
    have mv : ∀ (g : Nat) (w : Int → Int), g = 1 ∨ (33 ≤ g ∧ g < 104) → Both N μ g w → Both N m g w := fun g w hg b => b.move (HEq6.of_same fun q q1 q2 => mq q (by omega) (by omega) (by omega) (by omega)) (fun _ _ _ => rfl)
    refine ⟨?_, ⟨?_, ?_, ?_, ?_, fun j h0 h9 => ?_⟩, ⟨Or.inr m09, by rw [m1428, m09], fun _ => hB.move m21 m145⟩, ?_⟩
    · rw [mq 143 (by decide) (by decide) (by decide) (by omega)]; exact mv _ _ (Or.inl rfl) hB
    · rw [mq 31 (by decide) (by decide) (by decide) (by omega)]; exact hR.1
    · rw [mq 31 (by decide) (by decide) (by decide) (by omega)]; exact hR.2.1
    · rw [m142 7 (by decide) (by decide)]; exact hR.2.2.1
    · rw [m142 6 (by decide) (by decide), mq 31 (by decide) (by decide) (by decide) (by omega)]; exact hR.2.2.2.1
    · rw [mq 31 (by decide) (by decide) (by decide) (by omega)] at h9 ⊢
      rw [m142 7 (by decide) (by decide), mq 144 (by decide) (by decide) (by decide) (by omega)]
      exact mv _ _ (Or.inr (by omega)) (hR.2.2.2.2 j h0 h9)
    · unfold Texts
      rw [mq 140 (by decide) (by decide) (by decide) (by omega), mq 141 (by decide) (by decide) (by decide) (by omega), mq 138 (by decide) (by decide) (by decide) (by omega), mq 139 (by decide) (by decide) (by decide) (by omega), mq 136 (by decide) (by decide) (by decide) (by omega), mq 153 (by decide) (by decide) (by decide) (by omega), mq 154 (by decide) (by decide) (by decide) (by omega), m0 10 (by decide), m0 11 (by decide), m142 15 (by decide) (by decide), m142 17 (by decide) (by decide), m142 19 (by decide) (by decide), m142 20 (by decide) (by decide)]
      exact hT
