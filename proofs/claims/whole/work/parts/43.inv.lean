/-! ===== B: the invariant of the law's loop ===== -/
theorem RowIs.congr {w w' : Int → Int} {V : zM} (h : RowIs w' V) (hn : V 0 0 ≤ 6) (ht : V 0 3 ≤ 6) (he : ∀ i, 0 ≤ i → i < 62 → w i = w' i) : RowIs w V := by
  refine ⟨by rw [he 0 (by omega) (by omega)]; exact h.n, by rw [he 1 (by omega) (by omega)]; exact h.t, by rw [he 2 (by omega) (by omega)]; exact h.nx, by rw [he 3 (by omega) (by omega)]; exact h.mo, by rw [he 4 (by omega) (by omega)]; exact h.ev, by rw [he 5 (by omega) (by omega)]; exact h.pd, by rw [he 6 (by omega) (by omega)]; exact h.gn, by rw [he 7 (by omega) (by omega)]; exact h.rc, fun j h0 h1 => ?_, fun j h0 h1 => ?_⟩
  · rw [he _ (by omega) (by omega), he _ (by omega) (by omega)]
    exact h.fl j h0 h1
  · rw [he _ (by omega) (by omega), he _ (by omega) (by omega), he _ (by omega) (by omega), he _ (by omega) (by omega), he _ (by omega) (by omega), he _ (by omega) (by omega), he _ (by omega) (by omega)]
    exact h.tn j h0 h1
theorem WF.mono {N N' : Int} {V : zM} (h : WF N V) (hN : N ≤ N') : WF N' V :=
  ⟨h.n0, h.n6, h.t0, h.t6, h.fl, h.id, h.inc, fun j h0 h1 => by
    obtain ⟨a1, a2, a3, a4, a5, a6, a7⟩ := h.tn j h0 h1
    exact ⟨a1, a2, a3, ⟨a4.1, by omega⟩, a5, a6, a7⟩, h.hm, ⟨h.nx.1, by have := h.nx.2; omega⟩, ⟨h.mo.1, by have := h.mo.2; omega⟩, ⟨h.ev.1, by have := h.ev.2; omega⟩, ⟨h.pd.1, by have := h.pd.2; omega⟩, ⟨h.rc.1, by have := h.rc.2; omega⟩, ⟨h.gn.1, by have := h.gn.2; omega⟩, h.sm⟩
/-- one state on both sides: the view of the class's house h, the model's row w -/
def Both (N : Int) (μ : zM) (h : Nat) (w : Int → Int) : Prop := WF N (hv μ h) ∧ RowIs w (hv μ h)
theorem Both.mono {N N' : Int} {μ : zM} {h : Nat} {w : Int → Int} (b : Both N μ h w) (hN : N ≤ N') : Both N' μ h w := ⟨b.1.mono hN, b.2⟩
theorem Both.move {N : Int} {μ m : zM} {h g : Nat} {w w' : Int → Int} (b : Both N μ h w) (he : HEq6 (hv m g) (hv μ h)) (hw : ∀ i, 0 ≤ i → i < 62 → w' i = w i) : Both N m g w' :=
  ⟨he.wf b.1, he.row (b.2.congr b.1.n6 b.1.t6 hw) b.1.n6 b.1.t6⟩
def Ring (N : Int) (μ : zM) : Prop := (0 ≤ μ 31 1 ∧ μ 31 1 < 8) ∧ (0 ≤ μ 31 2 ∧ μ 31 2 ≤ 8) ∧ (0 ≤ μ 142 7 ∧ μ 142 7 < 8) ∧ μ 142 6 = μ 31 2 ∧
  ∀ j, 0 ≤ j → j < μ 31 2 → Both N μ (33 + 10 * ((μ 31 1 + j) % 8).toNat) (fun i => μ 144 (62 * ((μ 142 7 + j) % 8) + i))
theorem ring_push {N : Int} {μ m : zM} (hI : Ring N μ) (hH : Both N μ 1 (μ 143))
    (c1 : m 31 1 = (if μ 31 2 < 8 then μ 31 1 else (μ 31 1 + 1) % 8)) (c2 : m 31 2 = (if μ 31 2 < 8 then μ 31 2 + 1 else μ 31 2))
    (c3 : HEq6 (hv m (33 + 10 * ((μ 31 1 + μ 31 2) % 8).toNat)) (hv μ 1)) (c4 : ∀ q : Nat, 33 ≤ q → q < 113 → (q < 33 + 10 * ((μ 31 1 + μ 31 2) % 8).toNat ∨ 43 + 10 * ((μ 31 1 + μ 31 2) % 8).toNat ≤ q) → m q = μ q)
    (d1 : m 142 7 = (if μ 142 6 < 8 then μ 142 7 else (μ 142 7 + 1) % 8)) (d2 : m 142 6 = (if μ 142 6 < 8 then μ 142 6 + 1 else μ 142 6))
    (d3 : ∀ i, 0 ≤ i → i < 62 → m 144 (62 * ((μ 142 7 + μ 142 6) % 8) + i) = μ 143 i) (d4 : ∀ j, (j < 62 * ((μ 142 7 + μ 142 6) % 8) ∨ 62 * ((μ 142 7 + μ 142 6) % 8) + 62 ≤ j) → m 144 j = μ 144 j) : Ring N m := by
  obtain ⟨hC, hK, hF, hE, hR⟩ := hI
  rw [hE] at d1 d2 d3 d4
  by_cases hk : μ 31 2 < 8
  · rw [if_pos hk] at c1 c2 d1 d2
    refine ⟨by omega, by omega, by omega, by omega, fun j h0 h1 => ?_⟩
    rw [c1, d1]
    by_cases hj : j = μ 31 2
    · subst hj
      exact hH.move c3 d3
    · refine (hR j h0 (by omega)).move (HEq6.of_same fun q q1 q2 => c4 q (by omega) (by omega) (by omega)) (fun i i0 i1 => d4 _ (by omega))
  · rw [if_neg hk] at c1 c2 d1 d2
    refine ⟨by omega, by omega, by omega, by omega, fun j h0 h1 => ?_⟩
    rw [c1, d1]
    by_cases hj : j = 7
    · subst hj
      rw [show ((μ 31 1 + 1) % 8 + 7) % 8 = (μ 31 1 + μ 31 2) % 8 by omega, show ((μ 142 7 + 1) % 8 + 7) % 8 = (μ 142 7 + μ 31 2) % 8 by omega]
      exact hH.move c3 d3
    · rw [show ((μ 31 1 + 1) % 8 + j) % 8 = (μ 31 1 + (j + 1)) % 8 by omega, show ((μ 142 7 + 1) % 8 + j) % 8 = (μ 142 7 + (j + 1)) % 8 by omega]
      refine (hR (j + 1) (by omega) (by omega)).move (HEq6.of_same fun q q1 q2 => c4 q (by omega) (by omega) (by omega)) (fun i i0 i1 => d4 _ (by omega))
def Saved (N : Int) (μ : zM) : Prop := (μ 0 9 = 0 ∨ μ 0 9 = 1) ∧ μ 142 8 = μ 0 9 ∧ (μ 0 9 = 1 → Both N μ 21 (μ 145))
/-- the line that is written, the program that is typed, the positions that are recorded -/
def Texts (μ : zM) : Prop := (0 ≤ μ 140 1 ∧ μ 140 1 ≤ 120) ∧ μ 142 15 = μ 140 1 ∧ (∀ j, 0 ≤ j → j < μ 140 1 → μ 153 j = μ 141 j ∧ 0 ≤ μ 141 j ∧ μ 141 j ≤ 65535) ∧
  (0 ≤ μ 138 1 ∧ μ 138 1 ≤ 60) ∧ μ 142 17 = μ 138 1 ∧ (∀ j, 0 ≤ j → j < μ 138 1 → μ 154 j = μ 139 j ∧ 0 ≤ μ 139 j ∧ μ 139 j ≤ 65535) ∧
  μ 142 19 = μ 0 10 ∧ μ 142 20 = μ 0 11 ∧ -1 ≤ μ 0 10 ∧ -1 ≤ μ 0 11 ∧ 0 ≤ μ 136 1 ∧ μ 136 1 < 8
def Inv (N : Int) (μ : zM) : Prop := Both N μ 1 (μ 143) ∧ Ring N μ ∧ Saved N μ ∧ Texts μ
theorem Ring.mono {N N' : Int} {μ : zM} (h : Ring N μ) (hN : N ≤ N') : Ring N' μ := ⟨h.1, h.2.1, h.2.2.1, h.2.2.2.1, fun j h0 h1 => (h.2.2.2.2 j h0 h1).mono hN⟩
theorem Inv.mono {N N' : Int} {μ : zM} (h : Inv N μ) (hN : N ≤ N') : Inv N' μ := ⟨h.1.mono hN, h.2.1.mono hN, ⟨h.2.2.1.1, h.2.2.1.2.1, fun z => (h.2.2.1.2.2 z).mono hN⟩, h.2.2.2⟩
/-- what an invariant reads: a memory that says the same there keeps it -/
theorem Inv.same {N : Int} {μ m : zM} (h : Inv N μ) (h1 : ∀ q : Nat, q < 113 → m q = μ q) (h2 : ∀ q : Nat, 136 ≤ q → q < 142 → m q = μ q) (h3 : m 143 = μ 143 ∧ m 144 = μ 144 ∧ m 145 = μ 145 ∧ m 153 = μ 153 ∧ m 154 = μ 154)
    (h4 : m 142 6 = μ 142 6 ∧ m 142 7 = μ 142 7 ∧ m 142 8 = μ 142 8 ∧ m 142 15 = μ 142 15 ∧ m 142 17 = μ 142 17 ∧ m 142 19 = μ 142 19 ∧ m 142 20 = μ 142 20) : Inv N m := by
  obtain ⟨hB, hR, hS, hT⟩ := h
  obtain ⟨e1, e2, e3, e4, e5⟩ := h3
  obtain ⟨f1, f2, f3, f4, f5, f6, f7⟩ := h4
  have hm : ∀ (g : Nat) (w : Int → Int), g < 104 → Both N μ g w → Both N m g w := fun g w hg b => b.move (HEq6.of_same fun q q1 q2 => h1 q (by omega)) (fun _ _ _ => rfl)
  refine ⟨?_, ⟨?_, ?_, ?_, ?_, fun j h0 h9 => ?_⟩, ⟨?_, ?_, fun z => ?_⟩, ?_⟩
  · rw [e1]; exact hm _ _ (by omega) hB
  · rw [h1 31 (by omega)]; exact hR.1
  · rw [h1 31 (by omega)]; exact hR.2.1
  · rw [f2]; exact hR.2.2.1
  · rw [f1, h1 31 (by omega)]; exact hR.2.2.2.1
  · rw [h1 31 (by omega)] at h9 ⊢
    rw [f2, e2]
    exact hm _ _ (by omega) (hR.2.2.2.2 j h0 h9)
  · rw [h1 0 (by omega)]; exact hS.1
  · rw [f3, h1 0 (by omega)]; exact hS.2.1
  · rw [h1 0 (by omega)] at z
    rw [e3]
    exact hm _ _ (by omega) (hS.2.2 z)
  · unfold Texts
    rw [h2 140 (by omega) (by omega), h2 141 (by omega) (by omega), h2 138 (by omega) (by omega), h2 139 (by omega) (by omega), h2 136 (by omega) (by omega), h1 0 (by omega), e4, e5, f4, f5, f6, f7]
    exact hT
