/-! ===== B: a change on both sides keeps the invariant ===== -/
theorem change_inv2 {N N' : Int} {μ m1 m3 m5 m6 : zM} (hI : Inv N μ) (hN : N ≤ N')
    (c1 : m1 31 1 = (if μ 31 2 < 8 then μ 31 1 else (μ 31 1 + 1) % 8)) (c2 : m1 31 2 = (if μ 31 2 < 8 then μ 31 2 + 1 else μ 31 2))
    (c3 : HEq6 (hv m1 (33 + 10 * ((μ 31 1 + μ 31 2) % 8).toNat)) (hv μ 1)) (c4 : ∀ q : Nat, q ≠ 31 → (q < 33 + 10 * ((μ 31 1 + μ 31 2) % 8).toNat ∨ 43 + 10 * ((μ 31 1 + μ 31 2) % 8).toNat ≤ q) → m1 q = μ q)
    (a1 : ∀ q : Nat, (q < 1 ∨ 11 ≤ q) → (q < 113 ∨ 136 ≤ q) → q ≠ 142 → q ≠ 156 → m3 q = m1 q) (a2 : ∀ j, j ≠ 0 → m3 142 j = m1 142 j)
    (d1 : m5 142 7 = (if m3 142 6 < 8 then m3 142 7 else (m3 142 7 + 1) % 8)) (d2 : m5 142 6 = (if m3 142 6 < 8 then m3 142 6 + 1 else m3 142 6)) (d5 : ∀ j, j ≠ 6 → j ≠ 7 → m5 142 j = m3 142 j)
    (d3 : ∀ i, 0 ≤ i → i < 62 → m5 144 (62 * ((m3 142 7 + m3 142 6) % 8) + i) = m3 143 i) (d4 : ∀ j, (j < 62 * ((m3 142 7 + m3 142 6) % 8) ∨ 62 * ((m3 142 7 + m3 142 6) % 8) + 62 ≤ j) → m5 144 j = m3 144 j)
    (d6 : ∀ q : Nat, q ≠ 142 → q ≠ 144 → q ≠ 146 → m5 q = m3 q)
    (b1 : ∀ q : Nat, q ≠ 143 → q ≠ 142 → (q < 146 ∨ 153 ≤ q) → m6 q = m5 q) (b2 : ∀ j, j = 6 ∨ j = 7 ∨ j = 8 ∨ j = 15 ∨ j = 17 ∨ j = 19 ∨ j = 20 → m6 142 j = m5 142 j)
    (hB : Both N' m6 1 (m6 143)) : Inv N' m6 := by
  obtain ⟨h1, h2, h3, h4⟩ := hI
  have hC := h2.1
  have hK := h2.2.1
  have m1_lo : ∀ q : Nat, q < 33 → q ≠ 31 → m1 q = μ q := fun q hq h => c4 q h (Or.inl (by omega))
  have m1_hi : ∀ q : Nat, 113 ≤ q → m1 q = μ q := fun q hq => c4 q (by omega) (Or.inr (by omega))
  have e142 : ∀ j, j ≠ 0 → m3 142 j = μ 142 j := fun j hj => by rw [a2 j hj, m1_hi 142 (by omega)]
  have e143 : m3 143 = μ 143 := by rw [a1 143 (by omega) (by omega) (by omega) (by omega), m1_hi 143 (by omega)]
  have e144 : m3 144 = μ 144 := by rw [a1 144 (by omega) (by omega) (by omega) (by omega), m1_hi 144 (by omega)]
  have k31 : m6 31 = m1 31 := by rw [b1 31 (by omega) (by omega) (by omega), d6 31 (by omega) (by omega) (by omega), a1 31 (by omega) (by omega) (by omega) (by omega)]
  have kq : ∀ q : Nat, ((q < 1 ∨ 11 ≤ q) ∧ (q < 113 ∨ 136 ≤ q)) → q < 142 → m6 q = m1 q := fun q h9 hq => by rw [b1 q (by omega) (by omega) (by omega), d6 q (by omega) (by omega) (by omega), a1 q h9.1 h9.2 (by omega) (by omega)]
  rw [e142 6 (by decide), e142 7 (by decide)] at d1 d3 d4
  rw [e142 6 (by decide)] at d2
  refine ⟨hB, (ring_push (m := m6) h2 h1 (by rw [k31]; exact c1) (by rw [k31]; exact c2) (HEq6.trans (HEq6.of_same fun q q1 q2 => kq q (by omega) (by omega)) c3) (fun q q1 q2 q3 => (kq q (by omega) (by omega)).trans (c4 q (by omega) q3)) (by rw [b2 7 (by omega)]; exact d1) (by rw [b2 6 (by omega)]; exact d2) (fun i i0 i1 => by rw [b1 144 (by omega) (by omega) (by omega), d3 i i0 i1, e143]) (fun j hj => by rw [b1 144 (by omega) (by omega) (by omega), d4 j hj, e144])).mono hN, ⟨?_, ?_, fun z => ?_⟩, ?_⟩
  · rw [kq 0 (by omega) (by omega), m1_lo 0 (by omega) (by omega)]; exact h3.1
  · rw [b2 8 (by omega), d5 8 (by decide) (by decide), e142 8 (by decide), kq 0 (by omega) (by omega), m1_lo 0 (by omega) (by omega)]; exact h3.2.1
  · rw [kq 0 (by omega) (by omega), m1_lo 0 (by omega) (by omega)] at z
    rw [b1 145 (by omega) (by omega) (by omega), d6 145 (by omega) (by omega) (by omega), a1 145 (by omega) (by omega) (by omega) (by omega), m1_hi 145 (by omega)]
    exact ((h3.2.2 z).move (HEq6.of_same fun q q1 q2 => (kq q (by omega) (by omega)).trans (m1_lo q (by omega) (by omega))) (fun _ _ _ => rfl)).mono hN
  · unfold Texts
    rw [kq 140 (by omega) (by omega), kq 141 (by omega) (by omega), kq 138 (by omega) (by omega), kq 139 (by omega) (by omega), kq 136 (by omega) (by omega), kq 0 (by omega) (by omega), m1_lo 0 (by omega) (by omega), m1_hi 140 (by omega), m1_hi 141 (by omega), m1_hi 138 (by omega), m1_hi 139 (by omega), m1_hi 136 (by omega)]
    rw [b2 15 (by omega), b2 17 (by omega), b2 19 (by omega), b2 20 (by omega), d5 15 (by decide) (by decide), d5 17 (by decide) (by decide), d5 19 (by decide) (by decide), d5 20 (by decide) (by decide), e142 15 (by decide), e142 17 (by decide), e142 19 (by decide), e142 20 (by decide)]
    rw [b1 153 (by omega) (by omega) (by omega), d6 153 (by omega) (by omega) (by omega), a1 153 (by omega) (by omega) (by omega) (by omega), m1_hi 153 (by omega), b1 154 (by omega) (by omega) (by omega), d6 154 (by omega) (by omega) (by omega), a1 154 (by omega) (by omega) (by omega) (by omega), m1_hi 154 (by omega)]
    exact h4
theorem change_inv {N N' : Int} {μ m1 m3 m5 m6 : zM} (hI : Inv N μ) (hN : N ≤ N')
    (c1 : m1 31 1 = (if μ 31 2 < 8 then μ 31 1 else (μ 31 1 + 1) % 8)) (c2 : m1 31 2 = (if μ 31 2 < 8 then μ 31 2 + 1 else μ 31 2))
    (c3 : HEq6 (hv m1 (33 + 10 * ((μ 31 1 + μ 31 2) % 8).toNat)) (hv μ 1)) (c4 : ∀ q : Nat, q ≠ 31 → (q < 33 + 10 * ((μ 31 1 + μ 31 2) % 8).toNat ∨ 43 + 10 * ((μ 31 1 + μ 31 2) % 8).toNat ≤ q) → m1 q = μ q)
    (a1 : ∀ q : Nat, (q < 1 ∨ 11 ≤ q) → q ≠ 142 → q ≠ 156 → m3 q = m1 q) (a2 : ∀ j, j ≠ 0 → m3 142 j = m1 142 j)
    (d1 : m5 142 7 = (if m3 142 6 < 8 then m3 142 7 else (m3 142 7 + 1) % 8)) (d2 : m5 142 6 = (if m3 142 6 < 8 then m3 142 6 + 1 else m3 142 6)) (d5 : ∀ j, j ≠ 6 → j ≠ 7 → m5 142 j = m3 142 j)
    (d3 : ∀ i, 0 ≤ i → i < 62 → m5 144 (62 * ((m3 142 7 + m3 142 6) % 8) + i) = m3 143 i) (d4 : ∀ j, (j < 62 * ((m3 142 7 + m3 142 6) % 8) ∨ 62 * ((m3 142 7 + m3 142 6) % 8) + 62 ≤ j) → m5 144 j = m3 144 j)
    (d6 : ∀ q : Nat, q ≠ 142 → q ≠ 144 → q ≠ 146 → m5 q = m3 q)
    (b1 : ∀ q : Nat, q ≠ 143 → q ≠ 142 → (q < 146 ∨ 153 ≤ q) → m6 q = m5 q) (b2 : ∀ j, j = 6 ∨ j = 7 ∨ j = 8 ∨ j = 15 ∨ j = 17 ∨ j = 19 ∨ j = 20 → m6 142 j = m5 142 j)
    (hB : Both N' m6 1 (m6 143)) : Inv N' m6 :=
  change_inv2 hI hN c1 c2 c3 c4 (fun q h1 _ h2 h3 => a1 q h1 h2 h3) a2 d1 d2 d5 d3 d4 d6 b1 b2 hB
/-- what each of the law's turns owes -/
def OpOk (N N' : Int) (C M : zM → Option (Int × zM)) : Prop := ∀ μ, Inv N μ → ∃ a m1 x m2, C μ = some (a, m1) ∧ M m1 = some (x, m2) ∧ m2 142 0 = a ∧ (a = 0 → m2 156 0 = x) ∧ Inv N' m2
/-- a refusal on both sides: nothing has changed but what was thrown -/
theorem thrown_inv {N N' : Int} {μ : zM} {v : Int} (hI : Inv N μ) (hN : N ≤ N') : Inv N' (st μ 142 0 v) :=
  (hI.same (fun q hq => funext fun j => st_k (by omega)) (fun q h1 h2 => funext fun j => st_k (by omega)) ⟨funext fun j => st_k (by decide), funext fun j => st_k (by decide), funext fun j => st_k (by decide), funext fun j => st_k (by decide), funext fun j => st_k (by decide)⟩ ⟨st_i (by decide), st_i (by decide), st_i (by decide), st_i (by decide), st_i (by decide), st_i (by decide), st_i (by decide)⟩).mono hN
theorem out_inv {N : Int} {μ : zM} {v : Int} (hI : Inv N μ) : Inv N (st μ 156 0 v) :=
  hI.same (fun q hq => funext fun j => st_k (by omega)) (fun q h1 h2 => funext fun j => st_k (by omega)) ⟨funext fun j => st_k (by decide), funext fun j => st_k (by decide), funext fun j => st_k (by decide), funext fun j => st_k (by decide), funext fun j => st_k (by decide)⟩ ⟨st_k (by decide), st_k (by decide), st_k (by decide), st_k (by decide), st_k (by decide), st_k (by decide), st_k (by decide)⟩
