/-! ===== B: copies of houses, the ring of former states ===== -/
/-- two views that say the same of all six places -/
def HEq6 (V V' : zM) : Prop := (V 0 0 = V' 0 0 ∧ V 0 3 = V' 0 3 ∧ V 0 4 = V' 0 4 ∧ V 0 12 = V' 0 12 ∧ V 0 13 = V' 0 13 ∧ V 0 14 = V' 0 14 ∧ V 0 15 = V' 0 15 ∧ V 0 16 = V' 0 16) ∧ ∀ k : Nat, 1 ≤ k → k ≤ 9 → ∀ j : Int, 0 ≤ j → j < 6 → V k j = V' k j
theorem copyFrom_eq {μ : zM} {h v : Nat} (hd : h + 10 ≤ v ∨ v + 10 ≤ h) : ∃ m, qH_copyFrom μ h v = some m ∧ HEq6 (hv m h) (hv μ v) ∧ ∀ q : Nat, (q < h ∨ h + 10 ≤ q) → m q = μ q := by
  refine ⟨_, rfl, ⟨⟨?_, ?_, ?_, ?_, ?_, ?_, ?_, ?_⟩, fun k k1 k9 j h0 h6 => ?_⟩, fun q hq => funext fun j => ?_⟩
  · unfold hv; simp (disch := omega) only [st_k, st_i, st_at, cpy_k, Nat.add_zero]
  · unfold hv; simp (disch := omega) only [st_k, st_i, st_at, cpy_k, Nat.add_zero]
  · unfold hv; simp (disch := omega) only [st_k, st_i, st_at, cpy_k, Nat.add_zero]
  · unfold hv; simp (disch := omega) only [st_k, st_i, st_at, cpy_k, Nat.add_zero]
  · unfold hv; simp (disch := omega) only [st_k, st_i, st_at, cpy_k, Nat.add_zero]
  · unfold hv; simp (disch := omega) only [st_k, st_i, st_at, cpy_k, Nat.add_zero]
  · unfold hv; simp (disch := omega) only [st_k, st_i, st_at, cpy_k, Nat.add_zero]
  · unfold hv; simp (disch := omega) only [st_k, st_i, st_at, cpy_k, Nat.add_zero]
  · have hk : k = 1 ∨ k = 2 ∨ k = 3 ∨ k = 4 ∨ k = 5 ∨ k = 6 ∨ k = 7 ∨ k = 8 ∨ k = 9 := by omega
    unfold hv
    rcases hk with rfl | rfl | rfl | rfl | rfl | rfl | rfl | rfl | rfl <;> simp (disch := omega) only [st_k, st_i, st_at, cpy_k, cpy_at]
  · simp (disch := omega) only [st_k, cpy_k]
theorem HEq6.row {w : Int → Int} {V V' : zM} (h : HEq6 V V') (hr : RowIs w V') (hn : V' 0 0 ≤ 6) (ht : V' 0 3 ≤ 6) : RowIs w V := by
  obtain ⟨⟨a1, a2, a3, a4, a5, a6, a7, a8⟩, b⟩ := h
  refine ⟨by rw [a1]; exact hr.n, by rw [a2]; exact hr.t, by rw [a3]; exact hr.nx, by rw [a4]; exact hr.mo, by rw [a5]; exact hr.ev, by rw [a6]; exact hr.pd, by rw [a8]; exact hr.gn, by rw [a7]; exact hr.rc, fun j h0 h1 => ?_, fun j h0 h1 => ?_⟩
  · rw [a1] at h1
    rw [b 1 (by omega) (by omega) j h0 (by omega), b 2 (by omega) (by omega) j h0 (by omega)]
    exact hr.fl j h0 h1
  · rw [a2] at h1
    rw [b 3 (by omega) (by omega) j h0 (by omega), b 4 (by omega) (by omega) j h0 (by omega), b 5 (by omega) (by omega) j h0 (by omega), b 6 (by omega) (by omega) j h0 (by omega), b 7 (by omega) (by omega) j h0 (by omega), b 8 (by omega) (by omega) j h0 (by omega), b 9 (by omega) (by omega) j h0 (by omega)]
    exact hr.tn j h0 h1
theorem HEq6.wf {N : Int} {V V' : zM} (h : HEq6 V V') (hw : WF N V') : WF N V := by
  obtain ⟨⟨a1, a2, a3, a4, a5, a6, a7, a8⟩, b⟩ := h
  have n6 := hw.n6
  have t6 := hw.t6
  refine ⟨by rw [a1]; exact hw.n0, by rw [a1]; exact hw.n6, by rw [a2]; exact hw.t0, by rw [a2]; exact hw.t6, fun j h0 h1 => ?_, fun j h0 h1 => ?_, fun i j h0 hij h1 => ?_, fun j h0 h1 => ?_, fun i j h0 hij h1 => ?_, by rw [a3]; exact hw.nx, by rw [a4]; exact hw.mo, by rw [a5]; exact hw.ev, by rw [a6]; exact hw.pd, by rw [a7]; exact hw.rc, by rw [a8]; exact hw.gn, by rw [a7, a6, a8, a2, ps_congr (w := V 7) (w' := V' 7) (fun j h0 h1 => b 7 (by omega) (by omega) j h0 (by omega))]; exact hw.sm⟩
  · rw [a1] at h1
    rw [b 1 (by omega) (by omega) j h0 (by omega), b 2 (by omega) (by omega) j h0 (by omega)]
    exact hw.fl j h0 h1
  · rw [a2] at h1
    rw [b 3 (by omega) (by omega) j h0 (by omega), a3]
    exact hw.id j h0 h1
  · rw [a2] at h1
    rw [b 3 (by omega) (by omega) j (by omega) (by omega), b 3 (by omega) (by omega) i h0 (by omega)]
    exact hw.inc i j h0 hij h1
  · rw [a2] at h1
    rw [b 4 (by omega) (by omega) j h0 (by omega), b 5 (by omega) (by omega) j h0 (by omega), b 6 (by omega) (by omega) j h0 (by omega), b 7 (by omega) (by omega) j h0 (by omega), b 8 (by omega) (by omega) j h0 (by omega), b 9 (by omega) (by omega) j h0 (by omega), a1]
    exact hw.tn j h0 h1
  · rw [a2] at h1
    rw [b 9 (by omega) (by omega) j (by omega) (by omega), b 9 (by omega) (by omega) i h0 (by omega)]
    exact hw.hm i j h0 hij h1
