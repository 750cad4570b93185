/-! ===== B: remembering a state, on both sides ===== -/
theorem HEq6.of_same {m μ : zM} {h : Nat} (hs : ∀ q : Nat, h ≤ q → q < h + 10 → m q = μ q) : HEq6 (hv m h) (hv μ h) := by
  have hq : ∀ k : Nat, k < 10 → ∀ j, hv m h k j = hv μ h k j := fun k hk j => by
    unfold hv
    rw [hs (h + k) (by omega) (by omega)]
  exact ⟨⟨hq 0 (by omega) _, hq 0 (by omega) _, hq 0 (by omega) _, hq 0 (by omega) _, hq 0 (by omega) _, hq 0 (by omega) _, hq 0 (by omega) _, hq 0 (by omega) _⟩, fun k _ k9 j _ _ => hq k (by omega) j⟩
theorem HEq6.trans {a b c : zM} (h : HEq6 a b) (g : HEq6 b c) : HEq6 a c := by
  obtain ⟨⟨a1, a2, a3, a4, a5, a6, a7, a8⟩, x⟩ := h
  obtain ⟨⟨b1, b2, b3, b4, b5, b6, b7, b8⟩, y⟩ := g
  exact ⟨⟨a1.trans b1, a2.trans b2, a3.trans b3, a4.trans b4, a5.trans b5, a6.trans b6, a7.trans b7, a8.trans b8⟩, fun k k1 k9 j j0 j6 => (x k k1 k9 j j0 j6).trans (y k k1 k9 j j0 j6)⟩
theorem tmod8 {x : Int} (h : 0 ≤ x) : Int.tmod x 8 = x % 8 := Int.tmod_eq_emod_of_nonneg h
theorem push_eq {μ : zM} (hC : 0 ≤ μ 31 1 ∧ μ 31 1 < 8) (hK : 0 ≤ μ 31 2 ∧ μ 31 2 ≤ 8) : ∃ m, qY_push μ 1 = some m ∧ m 31 1 = (if μ 31 2 < 8 then μ 31 1 else (μ 31 1 + 1) % 8) ∧ m 31 2 = (if μ 31 2 < 8 then μ 31 2 + 1 else μ 31 2) ∧
    HEq6 (hv m (33 + 10 * ((μ 31 1 + μ 31 2) % 8).toNat)) (hv μ 1) ∧ ∀ q : Nat, q ≠ 31 → (q < 33 + 10 * ((μ 31 1 + μ 31 2) % 8).toNat ∨ 43 + 10 * ((μ 31 1 + μ 31 2) % 8).toNat ≤ q) → m q = μ q := by
  unfold qY_push
  rw [wr_n (by omega) (by omega), tmod8 (by omega), if_pos ⟨by omega, by omega⟩]
  generalize hs : 33 + 10 * ((μ 31 1 + μ 31 2) % 8).toNat = s
  obtain ⟨m1, e1, e2, e3⟩ := copyFrom_eq (μ := μ) (h := s) (v := 1) (Or.inr (by omega))
  have f31 : m1 31 = μ 31 := e3 31 (Or.inl (by omega))
  rw [e1, sBind, f31]
  by_cases hk : μ 31 2 < 8
  · rw [if_pos hk, if_pos hk, if_pos hk, sBind, wr_n (by omega) (by omega)]
    refine ⟨_, rfl, by rw [st_i (by decide), f31], st_at, HEq6.trans (HEq6.of_same fun q h1 h2 => funext fun j => st_k (by omega)) e2, fun q h1 h2 => ?_⟩
    rw [← e3 q (by omega)]
    exact funext fun j => st_k h1
  · rw [if_neg hk, if_neg hk, if_neg hk, sBind, wr_n (by omega) (by omega), tmod8 (by omega)]
    refine ⟨_, rfl, st_at, by rw [st_i (by decide), f31], HEq6.trans (HEq6.of_same fun q h1 h2 => funext fun j => st_k (by omega)) e2, fun q h1 h2 => ?_⟩
    rw [← e3 q (by omega)]
    exact funext fun j => st_k h1
/-- i ints of the row 146 laid into the row s of 144 -/
def cpyR (μ : zM) (s i : Int) : zM := fun q j => if q = 144 then (if 62 * s ≤ j ∧ j < 62 * s + i then μ 146 (j - 62 * s) else μ q j) else μ q j
theorem cpyR_k {μ : zM} {s i : Int} {q : Nat} (h : q ≠ 144) : cpyR μ s i q = μ q := funext fun j => by unfold cpyR; rw [if_neg h]
theorem st_cpyR {μ : zM} {s i : Int} (h0 : 0 ≤ i) : st (cpyR μ s i) 144 (62 * s + i) (μ 146 i) = cpyR μ s (i + 1) := by
  funext q j
  unfold st cpyR
  by_cases hq : q = 144
  · rw [if_pos hq, if_pos hq, if_pos hq]
    by_cases hj : j = 62 * s + i
    · rw [if_pos hj, if_pos (by omega), hj, show 62 * s + i - 62 * s = i by omega]
    · rw [if_neg hj]
      by_cases h1 : 62 * s ≤ j ∧ j < 62 * s + i
      · rw [if_pos h1, if_pos (by omega)]
      · rw [if_neg h1, if_neg (by omega)]
  · rw [if_neg hq, if_neg hq, if_neg hq]
theorem cpyR_0 {μ : zM} {s : Int} : cpyR μ s 0 = μ := by
  funext q j
  unfold cpyR
  by_cases hq : q = 144
  · rw [if_pos hq, if_neg (by omega)]
  · rw [if_neg hq]
theorem keeps_l {μ : zM} {s : Int} (hs : 0 ≤ s ∧ s < 8) : ∀ (k n : Nat) (i : Int), i + k = 62 → 0 ≤ i → k < n → qM_keeps_l47 s n (cpyR μ s i) i = some (cpyR μ s 62) := by
  intro k
  induction k with
  | zero =>
    intro n i h h0 hn
    obtain ⟨n, rfl⟩ : ∃ n', n = n' + 1 := ⟨n - 1, by omega⟩
    unfold qM_keeps_l47
    rw [if_neg (by omega), show i = 62 by omega]
  | succ k ih =>
    intro n i h h0 hn
    obtain ⟨n, rfl⟩ : ∃ n', n = n' + 1 := ⟨n - 1, by omega⟩
    unfold qM_keeps_l47
    rw [wr_n (x := 62 * s) (by omega) (by omega), wr_n (x := 62 * s + i) (by omega) (by omega), wr_n (x := i + 1) (by omega) (by omega)]
    rw [if_pos (by omega), if_pos (by omega), if_pos (by omega), sBind, cpyR_k (q := 146) (by decide), st_cpyR h0]
    exact ih n (i + 1) (by omega) (by omega) (by omega)
theorem keeps_j {μ : zM} (hF : 0 ≤ μ 142 7 ∧ μ 142 7 < 8) (hK : 0 ≤ μ 142 6 ∧ μ 142 6 < 8) : qM_keeps_j32 μ = some (st (cpyR μ ((μ 142 7 + μ 142 6) % 8) 62) 142 6 (μ 142 6 + 1)) := by
  unfold qM_keeps_j32
  rw [wr_n (by omega) (by omega), tmod8 (by omega)]
  have h := keeps_l (μ := μ) (s := (μ 142 7 + μ 142 6) % 8) ⟨by omega, by omega⟩ 62 200 0 (by omega) (by omega) (by omega)
  rw [cpyR_0] at h
  rw [h, sBind, sBind, cpyR_k (q := 142) (by decide), wr_n (by omega) (by omega)]
theorem remembers_eq {μ : zM} (hF : 0 ≤ μ 142 7 ∧ μ 142 7 < 8) (hK : 0 ≤ μ 142 6 ∧ μ 142 6 ≤ 8) : ∃ m, qM_remembers μ = some m ∧ m 142 7 = (if μ 142 6 < 8 then μ 142 7 else (μ 142 7 + 1) % 8) ∧ m 142 6 = (if μ 142 6 < 8 then μ 142 6 + 1 else μ 142 6) ∧
    (∀ j, j ≠ 6 → j ≠ 7 → m 142 j = μ 142 j) ∧ (∀ i, 0 ≤ i → i < 62 → m 144 (62 * ((μ 142 7 + μ 142 6) % 8) + i) = μ 143 i) ∧ (∀ j, (j < 62 * ((μ 142 7 + μ 142 6) % 8) ∨ 62 * ((μ 142 7 + μ 142 6) % 8) + 62 ≤ j) → m 144 j = μ 144 j) ∧
    ∀ q : Nat, q ≠ 142 → q ≠ 144 → q ≠ 146 → m q = μ q := by
  unfold qM_remembers
  rw [copies_eq, sBind]
  generalize hm1 : cpy μ 143 146 62 = m1
  have f142 : m1 142 = μ 142 := by rw [← hm1]; exact funext fun j => cpy_k (by decide)
  have f144 : m1 144 = μ 144 := by rw [← hm1]; exact funext fun j => cpy_k (by decide)
  have f146 : ∀ i, 0 ≤ i → i < 62 → m1 146 i = μ 143 i := fun i h0 h1 => by rw [← hm1]; exact cpy_at ⟨h0, h1⟩
  have fq : ∀ q : Nat, q ≠ 146 → m1 q = μ q := fun q hq => by rw [← hm1]; exact funext fun j => cpy_k hq
  unfold qM_keeps
  rw [f142]
  by_cases hk : μ 142 6 = 8
  · rw [if_pos hk, sBind, wr_n (by omega) (by omega), tmod8 (by omega), st_i (by decide), f142, sBind, wr_n (by omega) (by omega)]
    generalize hm2 : st (st m1 142 7 ((μ 142 7 + 1) % 8)) 142 6 (μ 142 6 - 1) = m2
    have g7 : m2 142 7 = (μ 142 7 + 1) % 8 := by rw [← hm2, st_i (by decide), st_at]
    have g6 : m2 142 6 = 7 := by rw [← hm2, st_at]; omega
    have gj : ∀ j, j ≠ 6 → j ≠ 7 → m2 142 j = μ 142 j := fun j h6 h7 => by rw [← hm2, st_i h6, st_i h7, f142]
    have gq : ∀ q : Nat, q ≠ 142 → m2 q = m1 q := fun q hq => by rw [← hm2]; exact funext fun j => by rw [st_k hq, st_k hq]
    have hs : (m2 142 7 + m2 142 6) % 8 = (μ 142 7 + μ 142 6) % 8 := by rw [g7, g6]; omega
    rw [keeps_j (μ := m2) (by omega) (by omega), sBind, hs, g6]
    refine ⟨_, rfl, by rw [st_i (by decide), cpyR_k (by decide), g7, if_neg (by omega)], by rw [st_at, if_neg (by omega), hk]; rfl, fun j h6 h7 => by rw [st_i h6, cpyR_k (by decide), gj j h6 h7], fun i h0 h1 => ?_, fun j hj => ?_, fun q h1 h2 h3 => ?_⟩
    · rw [st_k (by decide)]
      unfold cpyR
      rw [if_pos rfl, if_pos (by omega), gq 146 (by decide), show 62 * ((μ 142 7 + μ 142 6) % 8) + i - 62 * ((μ 142 7 + μ 142 6) % 8) = i by omega, f146 i h0 h1]
    · rw [st_k (by decide)]
      unfold cpyR
      rw [if_pos rfl, if_neg (by omega), gq 144 (by decide), f144]
    · rw [← fq q h3, ← gq q h1]
      exact funext fun j => by rw [st_k h1, cpyR_k h2]
  · rw [if_neg hk, keeps_j (μ := m1) (by rw [f142]; omega) (by rw [f142]; omega), sBind, f142]
    refine ⟨_, rfl, by rw [st_i (by decide), cpyR_k (by decide), f142, if_pos (by omega)], by rw [st_at, if_pos (by omega)], fun j h6 h7 => by rw [st_i h6, cpyR_k (by decide), f142], fun i h0 h1 => ?_, fun j hj => ?_, fun q h1 h2 h3 => ?_⟩
    · rw [st_k (by decide)]
      unfold cpyR
      rw [if_pos rfl, if_pos (by omega), show 62 * ((μ 142 7 + μ 142 6) % 8) + i - 62 * ((μ 142 7 + μ 142 6) % 8) = i by omega, f146 i h0 h1]
    · rw [st_k (by decide)]
      unfold cpyR
      rw [if_pos rfl, if_neg (by omega), f144]
    · rw [← fq q h3]
      exact funext fun j => by rw [st_k h1, cpyR_k h2]
