/-! ===== B: the two programs side by side. Views and relations ===== -/
/-- a house's view: its own ints at 0, its arrays at 1 to 9 -/
def hv (μ : zM) (h : Nat) : zM := fun k j => μ (h + k) j
theorem hv_st {μ : zM} {h k : Nat} {i v : Int} : hv (st μ (h + k) i v) h = st (hv μ h) k i v := by
  funext q j
  unfold hv st
  by_cases hq : q = k
  · subst hq; rw [if_pos rfl, if_pos rfl]
  · rw [if_neg (fun z => hq (Nat.add_left_cancel z)), if_neg hq]
theorem st_at {μ : zM} {k : Nat} {i v : Int} : st μ k i v k i = v := by unfold st; rw [if_pos rfl, if_pos rfl]
theorem st_k {μ : zM} {k q : Nat} {i v j : Int} (h : q ≠ k) : st μ k i v q j = μ q j := by unfold st; rw [if_neg h]
theorem st_i {μ : zM} {k q : Nat} {i v j : Int} (h : j ≠ i) : st μ k i v q j = μ q j := by
  unfold st
  by_cases hq : q = k
  · rw [if_pos hq, if_neg h]
  · rw [if_neg hq]
theorem cpy_at {μ : zM} {a b : Nat} {n j : Int} (h : 0 ≤ j ∧ j < n) : cpy μ a b n b j = μ a j := by unfold cpy; rw [if_pos rfl, if_pos h]
theorem cpy_k {μ : zM} {a b q : Nat} {n j : Int} (h : q ≠ b) : cpy μ a b n q j = μ q j := by unfold cpy; rw [if_neg h]
theorem wr_n {x : Int} (h1 : -2147483648 ≤ x) (h2 : x ≤ 2147483647) : wr x = x := wr_eq ⟨h1, h2⟩
theorem sBind {α β : Type} {a : α} {f : α → Option β} : Option.bind (some a) f = f a := rfl
theorem sBnd2 {α β : Type} {a : α} {m : zM} {f : α → zM → Option β} : bnd2 (some (a, m)) f = f a m := rfl
theorem sBndSl {α β : Type} {r : Int} {f : Int → Option β} {k : α → Option β} : bndS (some (.inl r)) f k = f r := rfl
theorem sBndSr {α β : Type} {t : α} {f : Int → Option β} {k : α → Option β} : bndS (some (.inr t)) f k = k t := rfl
theorem sBndS2l {α β : Type} {r : Int} {m : zM} {f : Int → zM → Option β} {k : α → zM → Option β} : bndS2 (some (.inl r, m)) f k = f r m := rfl
theorem sBndS2r {α β : Type} {t : α} {m : zM} {f : Int → zM → Option β} {k : α → zM → Option β} : bndS2 (some (.inr t, m)) f k = k t m := rfl
theorem sBndTl {β : Type} {r : Int} {m : zM} {f : Int → zM → Option β} {k : Nat → zM → Option β} : bndT (some (.inl r, m)) f k = f r m := rfl
theorem sBndTr {β : Type} {t : Nat} {m : zM} {f : Int → zM → Option β} {k : Nat → zM → Option β} : bndT (some (.inr t, m)) f k = k t m := rfl
theorem sTcl {x : Int} {m : zM} {k : Int → zM → Option ((Int ⊕ Nat) × zM)} : tcall (some (.inl x, m)) k = k x m := rfl
theorem sTcr {x : Nat} {m : zM} {k : Int → zM → Option ((Int ⊕ Nat) × zM)} : tcall (some (.inr x, m)) k = some (.inr x, m) := rfl
/-- a row of the model says what a house's view says -/
def RowIs (w : Int → Int) (V : zM)  : Prop := (w 0 = V 0 0) ∧ (w 1 = V 0 3) ∧ (w 2 = V 0 4) ∧ (w 3 = V 0 12) ∧ (w 4 = V 0 13) ∧ (w 5 = V 0 14) ∧ (w 6 = V 0 16) ∧ (w 7 = V 0 15) ∧ (∀ j : Int, 0 ≤ j → j < V 0 0 → w (8 + 2 * j) = V 1 j ∧ w (9 + 2 * j) = V 2 j) ∧ (∀ j : Int, 0 ≤ j → j < V 0 3 → w (20 + 7 * j) = V 3 j ∧ w (21 + 7 * j) = V 4 j ∧ w (22 + 7 * j) = V 5 j ∧ w (23 + 7 * j) = V 6 j ∧ w (24 + 7 * j) = V 7 j ∧ w (25 + 7 * j) = V 8 j ∧ w (26 + 7 * j) = V 9 j + 1)
theorem RowIs.n {w : Int → Int} {V : zM}  (h : RowIs w V) : w 0 = V 0 0 := h.1
theorem RowIs.t {w : Int → Int} {V : zM}  (h : RowIs w V) : w 1 = V 0 3 := h.2.1
theorem RowIs.nx {w : Int → Int} {V : zM}  (h : RowIs w V) : w 2 = V 0 4 := h.2.2.1
theorem RowIs.mo {w : Int → Int} {V : zM}  (h : RowIs w V) : w 3 = V 0 12 := h.2.2.2.1
theorem RowIs.ev {w : Int → Int} {V : zM}  (h : RowIs w V) : w 4 = V 0 13 := h.2.2.2.2.1
theorem RowIs.pd {w : Int → Int} {V : zM}  (h : RowIs w V) : w 5 = V 0 14 := h.2.2.2.2.2.1
theorem RowIs.gn {w : Int → Int} {V : zM}  (h : RowIs w V) : w 6 = V 0 16 := h.2.2.2.2.2.2.1
theorem RowIs.rc {w : Int → Int} {V : zM}  (h : RowIs w V) : w 7 = V 0 15 := h.2.2.2.2.2.2.2.1
theorem RowIs.fl {w : Int → Int} {V : zM}  (h : RowIs w V) : ∀ j : Int, 0 ≤ j → j < V 0 0 → w (8 + 2 * j) = V 1 j ∧ w (9 + 2 * j) = V 2 j := h.2.2.2.2.2.2.2.2.1
theorem RowIs.tn {w : Int → Int} {V : zM}  (h : RowIs w V) : ∀ j : Int, 0 ≤ j → j < V 0 3 → w (20 + 7 * j) = V 3 j ∧ w (21 + 7 * j) = V 4 j ∧ w (22 + 7 * j) = V 5 j ∧ w (23 + 7 * j) = V 6 j ∧ w (24 + 7 * j) = V 7 j ∧ w (25 + 7 * j) = V 8 j ∧ w (26 + 7 * j) = V 9 j + 1 := h.2.2.2.2.2.2.2.2.2
/-- the first k numbers added up -/
def ps (w : Int → Int) : Nat → Int
  | 0 => 0
  | k+1 => ps w k + w k
theorem ps_congr {w w' : Int → Int} : ∀ {k : Nat}, (∀ j : Int, 0 ≤ j → j < k → w j = w' j) → ps w k = ps w' k
  | 0, _ => rfl
  | k+1, h => by
    unfold ps
    rw [h k (by omega) (by omega), ps_congr (k := k) (fun j h0 h1 => h j h0 (by omega))]
theorem ps_upd {w w' : Int → Int} {s g : Int} : ∀ {k : Nat}, 0 ≤ s → s < k → w' s = w s + g → (∀ j : Int, j ≠ s → w' j = w j) → ps w' k = ps w k + g
  | 0, h0, h1, _, _ => by omega
  | k+1, h0, h1, h2, h3 => by
    unfold ps
    by_cases hk : s = k
    · rw [← hk, h2, ps_congr (w := w') (w' := w) (fun j j0 j1 => h3 j (by omega))]; omega
    · rw [ps_upd (k := k) h0 (by omega) h2 h3, h3 k (by omega)]; omega
theorem ps_shift {w w' : Int → Int} {s : Int} (h0 : 0 ≤ s) (hl : ∀ j : Int, 0 ≤ j → j < s → w' j = w j) : ∀ {k : Nat}, s ≤ k → (∀ j : Int, s ≤ j → j < k → w' j = w (j + 1)) → ps w' k = ps w (k + 1) - w s
  | 0, h1, _ => by
    have : s = 0 := by omega
    subst this
    show (0 : Int) = 0 + w 0 - w 0
    omega
  | k+1, h1, h2 => by
    show ps w' k + w' k = ps w (k + 1) + w ((k + 1 : Nat) : Int) - w s
    by_cases hk : s = ((k + 1 : Nat) : Int)
    · rw [← hk, ps_congr (w := w') (w' := w) (fun j j0 j1 => hl j j0 (by omega)), hl k (by omega) (by omega)]
      show ps w k + w k = ps w k + w k + w s - w s
      omega
    · rw [ps_shift h0 hl (k := k) (by omega) (fun j j0 j1 => h2 j j0 (by omega)), h2 k (by omega) (by omega)]
      rw [show ((k + 1 : Nat) : Int) = (k : Int) + 1 by omega]
      omega
theorem ps_nn {w : Int → Int} : ∀ {k : Nat}, (∀ j : Int, 0 ≤ j → j < k → 0 ≤ w j) → 0 ≤ ps w k
  | 0, _ => Int.le_refl _
  | k+1, h => by
    unfold ps
    have h1 := h k (by omega) (by omega)
    have h2 := ps_nn (k := k) (fun j j0 j1 => h j j0 (by omega))
    omega
theorem ps_le {w : Int → Int} : ∀ {k : Nat}, (∀ j : Int, 0 ≤ j → j < k → 0 ≤ w j) → ∀ s : Int, 0 ≤ s → s < k → w s ≤ ps w k
  | 0, _, s, h0, h1 => by omega
  | k+1, h, s, h0, h1 => by
    unfold ps
    have h2 := h k (by omega) (by omega)
    by_cases hk : s = k
    · have h3 := ps_nn (w := w) (k := k) (fun j j0 j1 => h j j0 (by omega))
      rw [hk]; omega
    · have h3 := ps_le (k := k) (fun j j0 j1 => h j j0 (by omega)) s h0 (by omega)
      omega
/-- what a house's view always keeps; N: a bound that grows with the steps taken -/
def WF (N : Int) (V : zM)  : Prop := (0 ≤ V 0 0) ∧ (V 0 0 ≤ 6) ∧ (0 ≤ V 0 3) ∧ (V 0 3 ≤ 6) ∧ (∀ j : Int, 0 ≤ j → j < V 0 0 → (0 ≤ V 1 j ∧ V 1 j ≤ 5) ∧ 1 ≤ V 2 j ∧ V 2 j ≤ 99) ∧ (∀ j : Int, 0 ≤ j → j < V 0 3 → 0 ≤ V 3 j ∧ V 3 j < V 0 4) ∧ (∀ i j : Int, 0 ≤ i → i < j → j < V 0 3 → V 3 i < V 3 j) ∧ (∀ j : Int, 0 ≤ j → j < V 0 3 → (1 ≤ V 4 j ∧ V 4 j ≤ 50) ∧ (0 ≤ V 5 j ∧ V 5 j ≤ 5) ∧ (1 ≤ V 6 j ∧ V 6 j ≤ 40) ∧ (0 ≤ V 7 j ∧ V 7 j ≤ N) ∧ (0 ≤ V 8 j ∧ V 8 j ≤ 1) ∧ -1 ≤ V 9 j ∧ V 9 j < V 0 0) ∧ (∀ i j : Int, 0 ≤ i → i < j → j < V 0 3 → V 9 i = V 9 j → V 9 i = -1) ∧ (0 ≤ V 0 4 ∧ V 0 4 ≤ N) ∧ (0 ≤ V 0 12 ∧ V 0 12 ≤ N) ∧ (0 ≤ V 0 13 ∧ V 0 13 ≤ N) ∧ (0 ≤ V 0 14 ∧ V 0 14 ≤ N) ∧ (0 ≤ V 0 15 ∧ V 0 15 ≤ N) ∧ (0 ≤ V 0 16 ∧ V 0 16 ≤ N) ∧ V 0 15 = V 0 14 + V 0 16 + ps (V 7) (V 0 3).toNat
theorem WF.n0 {N : Int} {V : zM}  (h : WF N V) : 0 ≤ V 0 0 := h.1
theorem WF.n6 {N : Int} {V : zM}  (h : WF N V) : V 0 0 ≤ 6 := h.2.1
theorem WF.t0 {N : Int} {V : zM}  (h : WF N V) : 0 ≤ V 0 3 := h.2.2.1
theorem WF.t6 {N : Int} {V : zM}  (h : WF N V) : V 0 3 ≤ 6 := h.2.2.2.1
theorem WF.fl {N : Int} {V : zM}  (h : WF N V) : ∀ j : Int, 0 ≤ j → j < V 0 0 → (0 ≤ V 1 j ∧ V 1 j ≤ 5) ∧ 1 ≤ V 2 j ∧ V 2 j ≤ 99 := h.2.2.2.2.1
theorem WF.id {N : Int} {V : zM}  (h : WF N V) : ∀ j : Int, 0 ≤ j → j < V 0 3 → 0 ≤ V 3 j ∧ V 3 j < V 0 4 := h.2.2.2.2.2.1
theorem WF.inc {N : Int} {V : zM}  (h : WF N V) : ∀ i j : Int, 0 ≤ i → i < j → j < V 0 3 → V 3 i < V 3 j := h.2.2.2.2.2.2.1
theorem WF.tn {N : Int} {V : zM}  (h : WF N V) : ∀ j : Int, 0 ≤ j → j < V 0 3 → (1 ≤ V 4 j ∧ V 4 j ≤ 50) ∧ (0 ≤ V 5 j ∧ V 5 j ≤ 5) ∧ (1 ≤ V 6 j ∧ V 6 j ≤ 40) ∧ (0 ≤ V 7 j ∧ V 7 j ≤ N) ∧ (0 ≤ V 8 j ∧ V 8 j ≤ 1) ∧ -1 ≤ V 9 j ∧ V 9 j < V 0 0 := h.2.2.2.2.2.2.2.1
theorem WF.hm {N : Int} {V : zM}  (h : WF N V) : ∀ i j : Int, 0 ≤ i → i < j → j < V 0 3 → V 9 i = V 9 j → V 9 i = -1 := h.2.2.2.2.2.2.2.2.1
theorem WF.nx {N : Int} {V : zM}  (h : WF N V) : 0 ≤ V 0 4 ∧ V 0 4 ≤ N := h.2.2.2.2.2.2.2.2.2.1
theorem WF.mo {N : Int} {V : zM}  (h : WF N V) : 0 ≤ V 0 12 ∧ V 0 12 ≤ N := h.2.2.2.2.2.2.2.2.2.2.1
theorem WF.ev {N : Int} {V : zM}  (h : WF N V) : 0 ≤ V 0 13 ∧ V 0 13 ≤ N := h.2.2.2.2.2.2.2.2.2.2.2.1
theorem WF.pd {N : Int} {V : zM}  (h : WF N V) : 0 ≤ V 0 14 ∧ V 0 14 ≤ N := h.2.2.2.2.2.2.2.2.2.2.2.2.1
theorem WF.rc {N : Int} {V : zM}  (h : WF N V) : 0 ≤ V 0 15 ∧ V 0 15 ≤ N := h.2.2.2.2.2.2.2.2.2.2.2.2.2.1
theorem WF.gn {N : Int} {V : zM}  (h : WF N V) : 0 ≤ V 0 16 ∧ V 0 16 ≤ N := h.2.2.2.2.2.2.2.2.2.2.2.2.2.2.1
theorem WF.sm {N : Int} {V : zM}  (h : WF N V) : V 0 15 = V 0 14 + V 0 16 + ps (V 7) (V 0 3).toNat := h.2.2.2.2.2.2.2.2.2.2.2.2.2.2.2
/-! ===== small things ===== -/
theorem within_eq {μ : zM} {a b c : Int} : qT_isWithin μ a b c = some (if b ≤ a ∧ a ≤ c then 1 else 0) := by
  unfold qT_isWithin
  by_cases h1 : a < b
  · rw [if_pos h1, if_neg (by omega)]
  · rw [if_neg h1]
    by_cases h2 : c < a
    · rw [if_pos h2, if_neg (by omega)]
    · rw [if_neg h2, if_pos (by omega)]
theorem between_eq {μ : zM} {a b c : Int} : qM_isBetween μ a b c = some (if b ≤ a ∧ a ≤ c then 1 else 0) := by
  unfold qM_isBetween
  by_cases h1 : a < b
  · rw [if_pos h1, if_neg (by omega)]
  · rw [if_neg h1]
    by_cases h2 : c < a
    · rw [if_pos h2, if_neg (by omega)]
    · rw [if_neg h2, if_pos (by omega)]
theorem refuse0 {μ : zM} : qT_refuse μ 0 = some (.inl 0, μ) := by unfold qT_refuse; rw [if_pos (by decide), if_pos (by decide), if_neg (by decide), if_neg (by decide), if_neg (by decide), if_neg (by decide), if_neg (by decide)]
theorem refuseE {μ : zM} {v : Int} (h : 1 ≤ v ∧ v ≤ 5) : qT_refuse μ v = some (.inr (v.toNat - 1), μ) := by
  have h5 : v = 1 ∨ v = 2 ∨ v = 3 ∨ v = 4 ∨ v = 5 := by omega
  rcases h5 with rfl | rfl | rfl | rfl | rfl <;> rfl
theorem fails_eq {μ : zM} {v : Int} : qM_fails μ v = some (0, st μ 142 0 v) := rfl
/-- a loop that copies, step by step -/
theorem st_cpy {μ : zM} {a b : Nat} {i : Int} (hab : a ≠ b) (h0 : 0 ≤ i) : st (cpy μ a b i) b i (cpy μ a b i a i) = cpy μ a b (i + 1) := by
  rw [cpy_k hab]
  funext q j
  unfold st cpy
  by_cases hq : q = b
  · rw [if_pos hq, if_pos hq, if_pos hq]
    by_cases hj : j = i
    · subst hj; rw [if_pos rfl, if_pos (by omega)]
    · rw [if_neg hj]
      by_cases h1 : 0 ≤ j ∧ j < i
      · rw [if_pos h1, if_pos (by omega)]
      · rw [if_neg h1, if_neg (by omega)]
  · rw [if_neg hq, if_neg hq, if_neg hq]
theorem cpy_0 {μ : zM} {a b : Nat} : cpy μ a b 0 = μ := by
  funext q j
  unfold cpy
  by_cases hq : q = b
  · rw [if_pos hq, if_neg (by omega)]
  · rw [if_neg hq]
theorem copies_l {μ : zM} : ∀ (k n : Nat) (i : Int), i + k = 62 → 0 ≤ i → k < n → qM_copies_l2 n (cpy μ 143 146 i) i = some (cpy μ 143 146 62) := by
  intro k
  induction k with
  | zero =>
    intro n i h h0 hn
    obtain ⟨n, rfl⟩ : ∃ n', n = n' + 1 := ⟨n - 1, by omega⟩
    unfold qM_copies_l2
    rw [if_neg (by omega), show i = 62 by omega]
  | succ k ih =>
    intro n i h h0 hn
    obtain ⟨n, rfl⟩ : ∃ n', n = n' + 1 := ⟨n - 1, by omega⟩
    unfold qM_copies_l2
    rw [if_pos (by omega), if_pos (by omega), if_pos (by omega), sBind, st_cpy (by decide) h0, wr_n (by omega) (by omega)]
    exact ih n (i + 1) (by omega) (by omega) (by omega)
theorem copies_eq {μ : zM} : qM_copies μ = some (cpy μ 143 146 62) := by
  unfold qM_copies
  have h := copies_l (μ := μ) 62 200 0 (by omega) (by omega) (by omega)
  rw [cpy_0] at h
  rw [h]; rfl
