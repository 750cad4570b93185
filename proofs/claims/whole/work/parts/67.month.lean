/-! ===== B: a tenant's turn in a month ===== -/
theorem st_comm {V : zM} {k q : Nat} {i j v u : Int} (h : k ≠ q) : st (st V k i v) q j u = st (st V q j u) k i v := by
  funext a b
  unfold st
  by_cases ha : a = k
  · have hq : ¬ a = q := fun z => h (ha.symm.trans z)
    rw [if_pos ha, if_pos ha, if_neg hq, if_neg hq]
  · rw [if_neg ha, if_neg ha]
theorem st_comm_i {V : zM} {k : Nat} {i j v u : Int} (h : i ≠ j) : st (st V k i v) k j u = st (st V k j u) k i v := by
  funext a b
  unfold st
  by_cases ha : a = k
  · rw [if_pos ha, if_pos ha, if_pos ha, if_pos ha]
    by_cases hb : b = i
    · rw [if_pos hb, if_pos hb, if_neg (fun z => h (hb.symm.trans z))]
    · rw [if_neg hb, if_neg hb]
  · rw [if_neg ha, if_neg ha, if_neg ha, if_neg ha]
theorem st_st {V : zM} {k : Nat} {i v u : Int} : st (st V k i v) k i u = st V k i u := by
  funext a b
  unfold st
  by_cases ha : a = k
  · rw [if_pos ha, if_pos ha]
    by_cases hb : b = i
    · rw [if_pos hb, if_pos ha, if_pos hb]
    · rw [if_neg hb, if_pos ha, if_neg hb, if_neg hb]
  · rw [if_neg ha, if_neg ha, if_neg ha]
theorem cd_ev {V : zM} {a f x : Int} : ∀ (k : Nat) (b i : Int), cd (st V 0 13 a) f x k b i = cd V f x k b i
  | 0, _, _ => rfl
  | k+1, b, i => by
    unfold cd
    rw [cd_ev k]
    rfl
theorem cand_ev {V : zM} {a f x : Int} : cand (st V 0 13 a) f x = cand V f x := by
  unfold cand
  rw [cd_ev]
  rfl
theorem chn_ev {a x : Int} : ∀ (k : Nat) {V : zM} {f n : Int}, chn x k (st V 0 13 a) f n = (st (chn x k V f n).1 0 13 a, (chn x k V f n).2)
  | 0, _, _, _ => rfl
  | k+1, V, f, n => by
    unfold chn
    by_cases hf : f = -1
    · rw [if_pos hf, if_pos hf]
    rw [if_neg hf, if_neg hf, cand_ev]
    by_cases hc : cand V f x = -1
    · rw [if_pos hc, if_pos hc]
    rw [if_neg hc, if_neg hc, st_comm (k := 0) (q := 9) (by decide), chn_ev k]
    rfl
theorem leave_ev {V : zM} {a x : Int} : vLeave (st V 0 13 a) x = (st (vLeave V x).1 0 13 a, (vLeave V x).2) := by
  unfold vLeave
  rw [st_comm (k := 0) (q := 9) (by decide), st_comm (k := 0) (q := 8) (by decide), chn_ev]
  rfl
section VSC
variable {V : zM} {v : Int}
theorem sc_wf {N : Int} {i : Int} (h : WF N V) (hi : i = 12 ∨ i = 13) (hv9 : 0 ≤ v ∧ v ≤ N) : WF N (st V 0 i v) := by
  have e : ∀ (k : Nat) (j : Int), k ≠ 0 → st V 0 i v k j = V k j := fun k j hk => st_k hk
  have e0 : ∀ j : Int, j ≠ 12 → j ≠ 13 → st V 0 i v 0 j = V 0 j := fun j h2 h3 => st_i (by omega)
  refine ⟨by rw [e0 _ (by decide) (by decide)]; exact h.n0, by rw [e0 _ (by decide) (by decide)]; exact h.n6, by rw [e0 _ (by decide) (by decide)]; exact h.t0, by rw [e0 _ (by decide) (by decide)]; exact h.t6, fun j h0 h1 => ?_, fun j h0 h1 => ?_, fun i j h0 hij h1 => ?_, fun j h0 h1 => ?_, fun i j h0 hij h1 => ?_, by rw [e0 _ (by decide) (by decide)]; exact h.nx, ?_, ?_, by rw [e0 _ (by decide) (by decide)]; exact h.pd, by rw [e0 _ (by decide) (by decide)]; exact h.rc, by rw [e0 _ (by decide) (by decide)]; exact h.gn, by rw [e0 _ (by decide) (by decide), e0 _ (by decide) (by decide), e0 _ (by decide) (by decide), e0 _ (by decide) (by decide), ps_congr (w' := V 7) (fun j _ _ => e 7 j (by decide))]; exact h.sm⟩
  · rw [e0 _ (by decide) (by decide)] at h1
    rw [e 1 _ (by decide), e 2 _ (by decide)]
    exact h.fl j h0 h1
  · rw [e0 _ (by decide) (by decide)] at h1
    rw [e 3 _ (by decide), e0 _ (by decide) (by decide)]
    exact h.id j h0 h1
  · rw [e0 _ (by decide) (by decide)] at h1
    rw [e 3 _ (by decide), e 3 _ (by decide)]
    exact h.inc i j h0 hij h1
  · rw [e0 _ (by decide) (by decide)] at h1
    rw [e 4 _ (by decide), e 5 _ (by decide), e 6 _ (by decide), e 7 _ (by decide), e 8 _ (by decide), e 9 _ (by decide), e0 _ (by decide) (by decide)]
    exact h.tn j h0 h1
  · rw [e0 _ (by decide) (by decide)] at h1
    rw [e 9 _ (by decide), e 9 _ (by decide)]
    exact h.hm i j h0 hij h1
  · by_cases hj : i = 12
    · rw [hj, st_at]; exact hv9
    · rw [st_i (by omega)]; exact h.mo
  · by_cases hj : i = 13
    · rw [hj, st_at]; exact hv9
    · rw [st_i (by omega)]; exact h.ev
theorem sc_row {w w' : Int → Int} {i : Int} (h : RowIs w V) (n6 : V 0 0 ≤ 6) (hi : i = 12 ∨ i = 13) (w1 : w' (i - 9) = v) (wo : ∀ q, q ≠ i - 9 → w' q = w q) : RowIs w' (st V 0 i v) := by
  have e : ∀ (k : Nat) (j : Int), k ≠ 0 → st V 0 i v k j = V k j := fun k j hk => st_k hk
  have e0 : ∀ j : Int, j ≠ 12 → j ≠ 13 → st V 0 i v 0 j = V 0 j := fun j h2 h3 => st_i (by omega)
  refine ⟨by rw [e0 _ (by decide) (by decide), wo 0 (by omega)]; exact h.n, by rw [e0 _ (by decide) (by decide), wo 1 (by omega)]; exact h.t, by rw [e0 _ (by decide) (by decide), wo 2 (by omega)]; exact h.nx, ?_, ?_, by rw [e0 _ (by decide) (by decide), wo 5 (by omega)]; exact h.pd, by rw [e0 _ (by decide) (by decide), wo 6 (by omega)]; exact h.gn, by rw [e0 _ (by decide) (by decide), wo 7 (by omega)]; exact h.rc, fun j h0 h1 => ?_, fun j h0 h1 => ?_⟩
  · by_cases hj : i = 12
    · rw [hj, st_at]; rw [hj] at w1; exact w1
    · rw [st_i (by omega), wo 3 (by omega)]; exact h.mo
  · by_cases hj : i = 13
    · rw [hj, st_at]; rw [hj] at w1; exact w1
    · rw [st_i (by omega), wo 4 (by omega)]; exact h.ev
  · rw [e0 _ (by decide) (by decide)] at h1
    rw [e 1 _ (by decide), e 2 _ (by decide), wo (8 + 2 * j) (by omega), wo (9 + 2 * j) (by omega)]
    exact h.fl j h0 h1
  · rw [e0 _ (by decide) (by decide)] at h1
    rw [e 3 _ (by decide), e 4 _ (by decide), e 5 _ (by decide), e 6 _ (by decide), e 7 _ (by decide), e 8 _ (by decide), e 9 _ (by decide)]
    rw [wo (20 + 7 * j) (by omega), wo (21 + 7 * j) (by omega), wo (22 + 7 * j) (by omega), wo (23 + 7 * j) (by omega), wo (24 + 7 * j) (by omega), wo (25 + 7 * j) (by omega), wo (26 + 7 * j) (by omega)]
    exact h.tn j h0 h1
end VSC
/-- a rent is paid -/
def vPay (V : zM) (s r : Int) : zM := st (st V 7 s (V 7 s - r)) 0 14 (V 0 14 + r)
section VPY
variable {V : zM} {s r : Int}
theorem vP_14 : vPay V s r 0 14 = V 0 14 + r := by unfold vPay; rw [st_at]
theorem vP_j {j : Int} (h : j ≠ 14) : vPay V s r 0 j = V 0 j := by unfold vPay; rw [st_i h, st_k (by decide)]
theorem vP_k {j : Int} {k : Nat} (h0 : k ≠ 0) (h7 : k ≠ 7) : vPay V s r k j = V k j := by unfold vPay; rw [st_k h0, st_k h7]
theorem vP_7 : vPay V s r 7 s = V 7 s - r := by unfold vPay; rw [st_k (by decide), st_at]
theorem vP_7o {j : Int} (h : j ≠ s) : vPay V s r 7 j = V 7 j := by unfold vPay; rw [st_k (by decide), st_i h]
theorem pay_wf {N : Int} (h : WF N V) (hs : 0 ≤ s ∧ s < V 0 3) (hr9 : 0 ≤ r ∧ r ≤ V 7 s) : WF N (vPay V s r) := by
  have sm := h.sm
  have rc := h.rc
  have pd := h.pd
  have gn := h.gn
  have pn : ∀ j : Int, 0 ≤ j → j < ((V 0 3).toNat : Nat) → 0 ≤ V 7 j := fun j j0 j1 => (h.tn j j0 (by omega)).2.2.2.1.1
  have p2 := ps_le pn s hs.1 (by omega)
  refine ⟨by rw [vP_j (by decide)]; exact h.n0, by rw [vP_j (by decide)]; exact h.n6, by rw [vP_j (by decide)]; exact h.t0, by rw [vP_j (by decide)]; exact h.t6, fun j h0 h1 => ?_, fun j h0 h1 => ?_, fun i j h0 hij h1 => ?_, fun j h0 h1 => ?_, fun i j h0 hij h1 => ?_, by rw [vP_j (by decide)]; exact h.nx, by rw [vP_j (by decide)]; exact h.mo, by rw [vP_j (by decide)]; exact h.ev, by rw [vP_14]; omega, by rw [vP_j (by decide)]; exact h.rc, by rw [vP_j (by decide)]; exact h.gn, by rw [vP_j (j := 15) (by decide), vP_14, vP_j (j := 16) (by decide), vP_j (j := 3) (by decide), ps_upd (w := V 7) (w' := vPay V s r 7) (s := s) (g := -r) hs.1 (by omega) (by rw [vP_7]; omega) (fun j hj => vP_7o hj), sm]; omega⟩
  · rw [vP_j (by decide)] at h1
    rw [vP_k (by decide) (by decide), vP_k (by decide) (by decide)]
    exact h.fl j h0 h1
  · rw [vP_j (by decide)] at h1
    rw [vP_k (by decide) (by decide), vP_j (by decide)]
    exact h.id j h0 h1
  · rw [vP_j (by decide)] at h1
    rw [vP_k (by decide) (by decide), vP_k (by decide) (by decide)]
    exact h.inc i j h0 hij h1
  · rw [vP_j (by decide)] at h1
    rw [vP_k (k := 4) (by decide) (by decide), vP_k (k := 5) (by decide) (by decide), vP_k (k := 6) (by decide) (by decide), vP_k (k := 8) (by decide) (by decide), vP_k (k := 9) (by decide) (by decide), vP_j (j := 0) (by decide)]
    obtain ⟨a1, a2, a3, a4, a5, a6, a7⟩ := h.tn j h0 h1
    by_cases hj : j = s
    · subst hj; rw [vP_7]; exact ⟨a1, a2, a3, ⟨by omega, by omega⟩, a5, a6, a7⟩
    · rw [vP_7o hj]; exact ⟨a1, a2, a3, a4, a5, a6, a7⟩
  · rw [vP_j (by decide)] at h1
    rw [vP_k (by decide) (by decide), vP_k (by decide) (by decide)]
    exact h.hm i j h0 hij h1
theorem pay_row {w w' : Int → Int} (h : RowIs w V) (n6 : V 0 0 ≤ 6) (hs : 0 ≤ s) (w5 : w' 5 = V 0 14 + r) (w1 : w' (24 + 7 * s) = V 7 s - r) (wo : ∀ i, i ≠ 5 → i ≠ 24 + 7 * s → w' i = w i) : RowIs w' (vPay V s r) := by
  refine ⟨by rw [vP_j (by decide), wo 0 (by omega) (by omega)]; exact h.n, by rw [vP_j (by decide), wo 1 (by omega) (by omega)]; exact h.t, by rw [vP_j (by decide), wo 2 (by omega) (by omega)]; exact h.nx, by rw [vP_j (by decide), wo 3 (by omega) (by omega)]; exact h.mo, by rw [vP_j (by decide), wo 4 (by omega) (by omega)]; exact h.ev, by rw [vP_14, w5], by rw [vP_j (by decide), wo 6 (by omega) (by omega)]; exact h.gn, by rw [vP_j (by decide), wo 7 (by omega) (by omega)]; exact h.rc, fun j h0 h1 => ?_, fun j h0 h1 => ?_⟩
  · rw [vP_j (by decide)] at h1
    rw [vP_k (by decide) (by decide), vP_k (by decide) (by decide), wo (8 + 2 * j) (by omega) (by omega), wo (9 + 2 * j) (by omega) (by omega)]
    exact h.fl j h0 h1
  · rw [vP_j (by decide)] at h1
    rw [vP_k (k := 3) (by decide) (by decide), vP_k (k := 4) (by decide) (by decide), vP_k (k := 5) (by decide) (by decide), vP_k (k := 6) (by decide) (by decide), vP_k (k := 8) (by decide) (by decide), vP_k (k := 9) (by decide) (by decide)]
    rw [wo (20 + 7 * j) (by omega) (by omega), wo (21 + 7 * j) (by omega) (by omega), wo (22 + 7 * j) (by omega) (by omega), wo (23 + 7 * j) (by omega) (by omega), wo (25 + 7 * j) (by omega) (by omega), wo (26 + 7 * j) (by omega) (by omega)]
    obtain ⟨a1, a2, a3, a4, a5, a6, a7⟩ := h.tn j h0 h1
    by_cases hj : j = s
    · subst hj; rw [vP_7]; exact ⟨a1, a2, a3, a4, w1, a6, a7⟩
    · rw [vP_7o hj, wo (24 + 7 * j) (by omega) (by omega)]; exact ⟨a1, a2, a3, a4, a5, a6, a7⟩
end VPY
/-- a tenant's turn: the view, and 1 if the tenant is evicted -/
def vTurn (V : zM) (t : Int) : zM × Int :=
  if V 9 t = -1 then (vGive V t (V 6 t), 0)
  else if V 7 t + V 6 t < V 2 (V 9 t) then
    (if V 8 t + 1 < 2 then (st (vGive V t (V 6 t)) 8 t (V 8 t + 1), 0) else (st (vLeave (vGive V t (V 6 t)) t).1 0 13 (V 0 13 + 1), 1))
  else (st (vPay (vGive V t (V 6 t)) t (V 2 (V 9 t))) 8 t 0, 0)
section VTN
variable {V : zM} {t : Int}
theorem turn_wf {N : Int} (w : WF N V) (ht : 0 ≤ t ∧ t < V 0 3) : WF (N + 100) (vTurn V t).1 := by
  have hin := (w.tn t ht.1 ht.2).2.2.1
  have hno := (w.tn t ht.1 ht.2).2.2.2.2.1
  have hho := (w.tn t ht.1 ht.2).2.2.2.2.2
  have ev := w.ev
  have g := (give_wf w ht (g := V 6 t) (by omega)).mono (show N + 99 ≤ N + 100 by omega)
  have g3 : vGive V t (V 6 t) 0 3 = V 0 3 := vG_j (by decide)
  unfold vTurn
  by_cases h9 : V 9 t = -1
  · rw [if_pos h9]; exact g
  rw [if_neg h9]
  have hr9 := w.fl (V 9 t) (by omega) hho.2
  by_cases h7 : V 7 t + V 6 t < V 2 (V 9 t)
  · rw [if_pos h7]
    by_cases h8 : V 8 t + 1 < 2
    · rw [if_pos h8]; exact notice_wf g (by omega)
    · rw [if_neg h8]
      exact sc_wf (leave_wf g (by rw [g3]; exact ht)) (Or.inr rfl) (by omega)
  · rw [if_neg h7]
    exact notice_wf (pay_wf g (by rw [g3]; exact ht) (by rw [vG_7]; omega)) (by decide)
theorem turn_0 {i : Int} (h13 : i ≠ 13) (h14 : i ≠ 14) (h15 : i ≠ 15) : (vTurn V t).1 0 i = V 0 i := by
  unfold vTurn
  by_cases h9 : V 9 t = -1
  · rw [if_pos h9]; exact vG_j h15
  rw [if_neg h9]
  by_cases h7 : V 7 t + V 6 t < V 2 (V 9 t)
  · rw [if_pos h7]
    by_cases h8 : V 8 t + 1 < 2
    · rw [if_pos h8]
      dsimp only
      rw [st_k (by decide), vG_j h15]
    · rw [if_neg h8]
      dsimp only
      rw [st_i h13, leave_k (by decide) (by decide), vG_j h15]
  · rw [if_neg h7]
    dsimp only
    rw [st_k (by decide), vP_j h14, vG_j h15]
theorem turn_13 : (vTurn V t).1 0 13 = V 0 13 + (vTurn V t).2 ∧ 0 ≤ (vTurn V t).2 ∧ (vTurn V t).2 ≤ 1 := by
  unfold vTurn
  by_cases h9 : V 9 t = -1
  · rw [if_pos h9]
    dsimp only
    rw [vG_j (by decide)]
    omega
  rw [if_neg h9]
  by_cases h7 : V 7 t + V 6 t < V 2 (V 9 t)
  · rw [if_pos h7]
    by_cases h8 : V 8 t + 1 < 2
    · rw [if_pos h8]
      dsimp only
      rw [st_k (by decide), vG_j (by decide)]
      omega
    · rw [if_neg h8]
      dsimp only
      rw [st_at]
      omega
  · rw [if_neg h7]
    dsimp only
    rw [st_k (by decide), vP_j (by decide), vG_j (by decide)]
    omega
end VTN
