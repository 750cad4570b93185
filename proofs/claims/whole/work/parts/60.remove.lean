/-! ===== B: removeTenant ===== -/
/-- the array k moved down by one from s on, as far as i -/
def shf (μ : zM) (k : Nat) (s i : Int) : zM := fun q j => if q = k then (if s ≤ j ∧ j + 1 < i then μ k (j + 1) else μ k j) else μ q j
theorem shf_k {μ : zM} {k q : Nat} {s i j : Int} (h : q ≠ k) : shf μ k s i q j = μ q j := by unfold shf; rw [if_neg h]
theorem shf_at {μ : zM} {k : Nat} {s i j : Int} : shf μ k s i k j = if s ≤ j ∧ j + 1 < i then μ k (j + 1) else μ k j := by unfold shf; rw [if_pos rfl]
theorem shf_0 {μ : zM} {k : Nat} {s : Int} : shf μ k s (s + 1) = μ := by
  funext q j
  unfold shf
  by_cases hq : q = k
  · rw [if_pos hq, if_neg (by omega), hq]
  · rw [if_neg hq]
theorem st_shf {μ : zM} {k : Nat} {s i : Int} (h : s < i) : st (shf μ k s i) k (i - 1) (shf μ k s i k i) = shf μ k s (i + 1) := by
  rw [shf_at, if_neg (by omega)]
  funext q j
  unfold st shf
  by_cases hq : q = k
  · rw [if_pos hq, if_pos hq, if_pos hq]
    by_cases hj : j = i - 1
    · rw [if_pos hj, if_pos (by omega), hj, show i - 1 + 1 = i by omega]
    · rw [if_neg hj]
      by_cases h1 : s ≤ j ∧ j + 1 < i
      · rw [if_pos h1, if_pos (by omega)]
      · rw [if_neg h1, if_neg (by omega)]
  · rw [if_neg hq, if_neg hq, if_neg hq]
theorem closeGap_l {μ : zM} {a : Nat} {s : Int} (hs : 0 ≤ s) : ∀ (k n : Nat) (i : Int), i + k = 6 → s < i → k < n → qH_closeGap_l4 a n (shf μ a s i) i = some (shf μ a s 6) := by
  intro k
  induction k with
  | zero =>
    intro n i h h0 hn
    obtain ⟨n, rfl⟩ : ∃ n', n = n' + 1 := ⟨n - 1, by omega⟩
    unfold qH_closeGap_l4
    rw [if_neg (by omega), show i = 6 by omega]
  | succ k ih =>
    intro n i h h0 hn
    obtain ⟨n, rfl⟩ : ∃ n', n = n' + 1 := ⟨n - 1, by omega⟩
    unfold qH_closeGap_l4
    rw [wr_n (x := i - 1) (by omega) (by omega), wr_n (x := i + 1) (by omega) (by omega), if_pos (by omega), if_pos (by omega), if_pos (by omega), sBind, st_shf h0]
    exact ih n (i + 1) (by omega) (by omega) (by omega)
theorem closeGap_eq {μ : zM} {a : Nat} {s : Int} (hs : 0 ≤ s ∧ s < 6) : qH_closeGap μ a s = some (shf μ a s 6) := by
  unfold qH_closeGap
  have h := closeGap_l (μ := μ) (a := a) hs.1 (5 - s).toNat 200 (s + 1) (by omega) (by omega) (by omega)
  rw [shf_0] at h
  rw [wr_n (by omega) (by omega), h, sBind]
def shi (s j : Int) : Int := if s ≤ j then j + 1 else j
def vRemove (V : zM) (s : Int) : zM := fun k j => if k = 0 then (if j = 3 then V 0 3 - 1 else if j = 16 then V 0 16 + V 7 s else V 0 j) else if 3 ≤ k then (if s ≤ j ∧ j < 5 then V k (j + 1) else V k j) else V k j
section VRM
variable {V : zM} {s : Int}
theorem vR_3 : vRemove V s 0 3 = V 0 3 - 1 := by unfold vRemove; rw [if_pos rfl, if_pos rfl]
theorem vR_16 : vRemove V s 0 16 = V 0 16 + V 7 s := by unfold vRemove; rw [if_pos rfl, if_neg (by decide), if_pos rfl]
theorem vR_j {j : Int} (h3 : j ≠ 3) (h16 : j ≠ 16) : vRemove V s 0 j = V 0 j := by unfold vRemove; rw [if_pos rfl, if_neg h3, if_neg h16]
theorem vR_f {j : Int} {k : Nat} (h0 : k ≠ 0) (h1 : k < 3) : vRemove V s k j = V k j := by unfold vRemove; rw [if_neg h0, if_neg (by omega)]
theorem vR_t {j : Int} {k : Nat} (h1 : 3 ≤ k) (hj : j < 5) : vRemove V s k j = V k (shi s j) := by
  unfold vRemove shi
  rw [if_neg (by omega), if_pos h1]
  by_cases h : s ≤ j
  · rw [if_pos (by omega), if_pos h]
  · rw [if_neg (by omega), if_neg h]
theorem shi_in {j T : Int} (h0 : 0 ≤ j) (h1 : j < T - 1) : 0 ≤ shi s j ∧ shi s j < T := by unfold shi; split <;> omega
theorem shi_lt {i j : Int} (h : i < j) : shi s i < shi s j := by unfold shi; split <;> split <;> omega
theorem shi_ne {j : Int} : shi s j ≠ s := by unfold shi; split <;> omega
theorem remove_wf {N : Int} (h : WF N V) (hs : 0 ≤ s ∧ s < V 0 3) : WF N (vRemove V s) := by
  have t6 := h.t6
  have sm := h.sm
  have rc := h.rc
  have pd := h.pd
  have gn := h.gn
  have pn : ∀ j : Int, 0 ≤ j → j < ((V 0 3).toNat : Nat) → 0 ≤ V 7 j := fun j j0 j1 => (h.tn j j0 (by omega)).2.2.2.1.1
  have p1 := pn s hs.1 (by omega)
  have p2 := ps_le pn s hs.1 (by omega)
  refine ⟨by rw [vR_j (by decide) (by decide)]; exact h.n0, by rw [vR_j (by decide) (by decide)]; exact h.n6, by rw [vR_3]; omega, by rw [vR_3]; omega, fun j h0 h1 => ?_, fun j h0 h1 => ?_, fun i j h0 hij h1 => ?_, fun j h0 h1 => ?_, fun i j h0 hij h1 => ?_, by rw [vR_j (by decide) (by decide)]; exact h.nx, by rw [vR_j (by decide) (by decide)]; exact h.mo, by rw [vR_j (by decide) (by decide)]; exact h.ev, by rw [vR_j (by decide) (by decide)]; exact h.pd, by rw [vR_j (by decide) (by decide)]; exact h.rc, by rw [vR_16]; omega, ?_⟩
  · rw [vR_j (by decide) (by decide)] at h1
    rw [vR_f (by decide) (by decide), vR_f (by decide) (by decide)]
    exact h.fl j h0 h1
  · rw [vR_3] at h1
    rw [vR_t (by decide) (by omega), vR_j (by decide) (by decide)]
    have a := shi_in (s := s) h0 h1
    exact h.id _ a.1 a.2
  · rw [vR_3] at h1
    rw [vR_t (by decide) (by omega), vR_t (by decide) (by omega)]
    exact h.inc _ _ (shi_in h0 (show i < V 0 3 - 1 by omega)).1 (shi_lt hij) (shi_in (T := V 0 3) (by omega) h1).2
  · rw [vR_3] at h1
    rw [vR_t (by decide) (by omega), vR_t (by decide) (by omega), vR_t (by decide) (by omega), vR_t (by decide) (by omega), vR_t (by decide) (by omega), vR_t (by decide) (by omega), vR_j (by decide) (by decide)]
    have a := shi_in (s := s) h0 h1
    exact h.tn _ a.1 a.2
  · rw [vR_3] at h1
    rw [vR_t (by decide) (by omega), vR_t (by decide) (by omega)]
    exact h.hm _ _ (shi_in h0 (show i < V 0 3 - 1 by omega)).1 (shi_lt hij) (shi_in (T := V 0 3) (by omega) h1).2
  · rw [vR_j (j := 15) (by decide) (by decide), vR_j (j := 14) (by decide) (by decide), vR_16, vR_3, ps_shift (w := V 7) (w' := vRemove V s 7) (s := s) hs.1 (fun j j0 j1 => ?_) (k := (V 0 3 - 1).toNat) (by omega) (fun j j0 j1 => ?_), show (V 0 3 - 1).toNat + 1 = (V 0 3).toNat by omega, sm]
    · omega
    · rw [vR_t (by decide) (by omega)]; unfold shi; rw [if_neg (by omega)]
    · rw [vR_t (by decide) (by omega)]; unfold shi; rw [if_pos j0]
theorem remove_row {w w' : Int → Int} (h : RowIs w V) (n6 : V 0 0 ≤ 6) (t6 : V 0 3 ≤ 6) (hs : 0 ≤ s ∧ s < V 0 3) (w1 : w' 1 = V 0 3 - 1) (w6 : w' 6 = V 0 16 + V 7 s)
    (wo : ∀ i, i ≠ 1 → i ≠ 6 → i < 20 + 7 * s → w' i = w i) (wm : ∀ i, 20 + 7 * s ≤ i → i < 20 + 7 * (V 0 3 - 1) → w' i = w (i + 7)) : RowIs w' (vRemove V s) := by
  refine ⟨?_, by rw [vR_3, w1], ?_, ?_, ?_, ?_, by rw [vR_16, w6], ?_, fun j h0 h1 => ?_, fun j h0 h1 => ?_⟩
  · rw [vR_j (by decide) (by decide), wo 0 (by decide) (by decide) (by omega)]; exact h.n
  · rw [vR_j (by decide) (by decide), wo 2 (by decide) (by decide) (by omega)]; exact h.nx
  · rw [vR_j (by decide) (by decide), wo 3 (by decide) (by decide) (by omega)]; exact h.mo
  · rw [vR_j (by decide) (by decide), wo 4 (by decide) (by decide) (by omega)]; exact h.ev
  · rw [vR_j (by decide) (by decide), wo 5 (by decide) (by decide) (by omega)]; exact h.pd
  · rw [vR_j (by decide) (by decide), wo 7 (by decide) (by decide) (by omega)]; exact h.rc
  · rw [vR_j (by decide) (by decide)] at h1
    rw [vR_f (by decide) (by decide), vR_f (by decide) (by decide), wo _ (by omega) (by omega) (by omega), wo _ (by omega) (by omega) (by omega)]
    exact h.fl j h0 h1
  · rw [vR_3] at h1
    rw [vR_t (k := 3) (by decide) (by omega), vR_t (k := 4) (by decide) (by omega), vR_t (k := 5) (by decide) (by omega), vR_t (k := 6) (by decide) (by omega), vR_t (k := 7) (by decide) (by omega), vR_t (k := 8) (by decide) (by omega), vR_t (k := 9) (by decide) (by omega)]
    unfold shi
    by_cases hj : s ≤ j
    · rw [if_pos hj, wm _ (by omega) (by omega), wm _ (by omega) (by omega), wm _ (by omega) (by omega), wm _ (by omega) (by omega), wm _ (by omega) (by omega), wm _ (by omega) (by omega), wm _ (by omega) (by omega)]
      have a := h.tn (j + 1) (by omega) (by omega)
      rw [show 20 + 7 * (j + 1) = 20 + 7 * j + 7 by omega, show 21 + 7 * (j + 1) = 21 + 7 * j + 7 by omega, show 22 + 7 * (j + 1) = 22 + 7 * j + 7 by omega, show 23 + 7 * (j + 1) = 23 + 7 * j + 7 by omega, show 24 + 7 * (j + 1) = 24 + 7 * j + 7 by omega, show 25 + 7 * (j + 1) = 25 + 7 * j + 7 by omega, show 26 + 7 * (j + 1) = 26 + 7 * j + 7 by omega] at a
      exact a
    · rw [if_neg hj, wo _ (by omega) (by omega) (by omega), wo _ (by omega) (by omega) (by omega), wo _ (by omega) (by omega) (by omega), wo _ (by omega) (by omega) (by omega), wo _ (by omega) (by omega) (by omega), wo _ (by omega) (by omega) (by omega), wo _ (by omega) (by omega) (by omega)]
      exact h.tn j h0 (by omega)
end VRM
theorem sendAway_eq {m μ : zM} {s : Int} (hm : ∀ q : Nat, q < 31 → m q = μ q) (hs : 0 ≤ s ∧ s < 6) (h3 : 0 ≤ μ 1 3 ∧ μ 1 3 ≤ 6) (hg : y_inL (μ 1 16 + μ 8 s)) : ∃ m', qH_sendAway m 1 s = some (μ 1 3 - 1, m') ∧ (∀ q : Nat, (q < 1 ∨ 11 ≤ q) → m' q = m q) ∧ HEq6 (hv m' 1) (vRemove (hv μ 1) s) := by
  have e1 : m 1 = μ 1 := hm 1 (by omega)
  have e8 : m (1 + 7) = μ 8 := hm 8 (by omega)
  unfold qH_sendAway
  rw [if_pos hs, e1, e8, if_pos hg, sBind, sBind, st_i (show (3 : Int) ≠ 16 by decide), e1, wr_n (by omega) (by omega), closeGap_eq hs, sBind, closeGap_eq hs, sBind, closeGap_eq hs, sBind, closeGap_eq hs, sBind, closeGap_eq hs, sBind, closeGap_eq hs, sBind, closeGap_eq hs, sBind]
  refine ⟨_, by rw [shf_k (by decide), shf_k (by decide), shf_k (by decide), shf_k (by decide), shf_k (by decide), shf_k (by decide), shf_k (by decide), st_at], fun q hq => funext fun j => ?_, ⟨⟨?_, ?_, ?_, ?_, ?_, ?_, ?_, ?_⟩, fun k k1 k9 j h0 h6 => ?_⟩⟩
  · simp (disch := omega) only [shf_k, st_k]
  · rw [vR_j (by decide) (by decide)]; unfold hv; simp (disch := omega) only [shf_k, st_i, Nat.add_zero, e1]
  · rw [vR_3]; unfold hv; simp (disch := omega) only [shf_k, st_i, st_at, Nat.add_zero, e1]
  · rw [vR_j (by decide) (by decide)]; unfold hv; simp (disch := omega) only [shf_k, st_i, Nat.add_zero, e1]
  · rw [vR_j (by decide) (by decide)]; unfold hv; simp (disch := omega) only [shf_k, st_i, Nat.add_zero, e1]
  · rw [vR_j (by decide) (by decide)]; unfold hv; simp (disch := omega) only [shf_k, st_i, Nat.add_zero, e1]
  · rw [vR_j (by decide) (by decide)]; unfold hv; simp (disch := omega) only [shf_k, st_i, Nat.add_zero, e1]
  · rw [vR_j (by decide) (by decide)]; unfold hv; simp (disch := omega) only [shf_k, st_i, Nat.add_zero, e1]
  · rw [vR_16]; unfold hv; simp (disch := omega) only [shf_k, st_i, st_at, Nat.add_zero]
  · have hk : k = 1 ∨ k = 2 ∨ k = 3 ∨ k = 4 ∨ k = 5 ∨ k = 6 ∨ k = 7 ∨ k = 8 ∨ k = 9 := by omega
    have c : (s ≤ j ∧ j + 1 < 6) = (s ≤ j ∧ j < 5) := propext ⟨fun z => by omega, fun z => by omega⟩
    unfold vRemove hv
    rcases hk with rfl | rfl | rfl | rfl | rfl | rfl | rfl | rfl | rfl <;> simp (disch := omega) only [shf_k, shf_at, st_k, hm, c, if_neg (show ¬ (1 : Nat) = 0 by decide), if_neg (show ¬ (2 : Nat) = 0 by decide), if_neg (show ¬ (3 : Nat) = 0 by decide), if_neg (show ¬ (4 : Nat) = 0 by decide), if_neg (show ¬ (5 : Nat) = 0 by decide), if_neg (show ¬ (6 : Nat) = 0 by decide), if_neg (show ¬ (7 : Nat) = 0 by decide), if_neg (show ¬ (8 : Nat) = 0 by decide), if_neg (show ¬ (9 : Nat) = 0 by decide), if_neg (show ¬ 3 ≤ (1 : Nat) by decide), if_neg (show ¬ 3 ≤ (2 : Nat) by decide), if_pos (show 3 ≤ (3 : Nat) by decide), if_pos (show 3 ≤ (4 : Nat) by decide), if_pos (show 3 ≤ (5 : Nat) by decide), if_pos (show 3 ≤ (6 : Nat) by decide), if_pos (show 3 ≤ (7 : Nat) by decide), if_pos (show 3 ≤ (8 : Nat) by decide), if_pos (show 3 ≤ (9 : Nat) by decide)]
/-- the model's row moved down by seven from a on, as far as i -/
def shM (μ : zM) (a i : Int) : zM := fun q j => if q = 143 then (if a ≤ j ∧ j < i then μ 143 (j + 7) else μ 143 j) else μ q j
theorem rem1_l {μ : zM} {a b : Int} (ha : 0 ≤ a) (hb : b + 7 ≤ 62) : ∀ (k n : Nat) (i : Int), i + k = b → a ≤ i → k < n → qM_removeTenant_l89 b n (shM μ a i) i = some (shM μ a b) := by
  intro k
  induction k with
  | zero =>
    intro n i h h0 hn
    obtain ⟨n, rfl⟩ : ∃ n', n = n' + 1 := ⟨n - 1, by omega⟩
    unfold qM_removeTenant_l89
    rw [if_neg (by omega), show i = b by omega]
  | succ k ih =>
    intro n i h h0 hn
    obtain ⟨n, rfl⟩ : ∃ n', n = n' + 1 := ⟨n - 1, by omega⟩
    have hst : st (shM μ a i) 143 i (shM μ a i 143 (i + 7)) = shM μ a (i + 1) := by
      funext q j
      unfold st shM
      rw [if_pos rfl, if_neg (show ¬ (a ≤ i + 7 ∧ i + 7 < i) by omega)]
      by_cases hq : q = 143
      · rw [if_pos hq, if_pos hq, if_pos hq]
        by_cases hj : j = i
        · rw [if_pos hj, if_pos (by omega), hj]
        · rw [if_neg hj]
          by_cases h1 : a ≤ j ∧ j < i
          · rw [if_pos h1, if_pos (by omega)]
          · rw [if_neg h1, if_neg (by omega)]
      · rw [if_neg hq, if_neg hq, if_neg hq]
    unfold qM_removeTenant_l89
    rw [wr_n (x := i + 7) (by omega) (by omega), wr_n (x := i + 1) (by omega) (by omega), if_pos (by omega), if_pos (by omega), if_pos (by omega), sBind, hst]
    exact ih n (i + 1) (by omega) (by omega) (by omega)
theorem shM_0 {μ : zM} {a : Int} : shM μ a a = μ := by
  funext q j
  unfold shM
  by_cases hq : q = 143
  · rw [if_pos hq, if_neg (by omega), hq]
  · rw [if_neg hq]
def zrM (μ : zM) (b i : Int) : zM := fun q j => if q = 143 then (if b ≤ j ∧ j < b + i then 0 else μ 143 j) else μ q j
theorem zrM_0 {μ : zM} {b : Int} : zrM μ b 0 = μ := by
  funext q j
  unfold zrM
  by_cases hq : q = 143
  · rw [if_pos hq, if_neg (by omega), hq]
  · rw [if_neg hq]
theorem rem2_l {μ : zM} {b : Int} (ha : 0 ≤ b) (hb : b + 7 ≤ 62) : ∀ (k n : Nat) (i : Int), i + k = 7 → 0 ≤ i → k < n → qM_removeTenant_l121 b n (zrM μ b i) i = some (zrM μ b 7) := by
  intro k
  induction k with
  | zero =>
    intro n i h h0 hn
    obtain ⟨n, rfl⟩ : ∃ n', n = n' + 1 := ⟨n - 1, by omega⟩
    unfold qM_removeTenant_l121
    rw [if_neg (by omega), show i = 7 by omega]
  | succ k ih =>
    intro n i h h0 hn
    obtain ⟨n, rfl⟩ : ∃ n', n = n' + 1 := ⟨n - 1, by omega⟩
    have hst : st (zrM μ b i) 143 (b + i) 0 = zrM μ b (i + 1) := by
      funext q j
      unfold st zrM
      by_cases hq : q = 143
      · rw [if_pos hq, if_pos hq, if_pos hq]
        by_cases hj : j = b + i
        · rw [if_pos hj, if_pos (by omega)]
        · rw [if_neg hj]
          by_cases h1 : b ≤ j ∧ j < b + i
          · rw [if_pos h1, if_pos (by omega)]
          · rw [if_neg h1, if_neg (by omega)]
      · rw [if_neg hq, if_neg hq, if_neg hq]
    unfold qM_removeTenant_l121
    rw [wr_n (x := b + i) (by omega) (by omega), wr_n (x := i + 1) (by omega) (by omega), if_pos (by omega), if_pos (by omega), sBind, hst]
    exact ih n (i + 1) (by omega) (by omega) (by omega)
