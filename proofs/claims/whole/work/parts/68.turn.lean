/-! ===== B: a turn in a month, on both sides ===== -/
theorem receive_eq {μ : zM} {h : Nat} {s g : Int} (hs : 0 ≤ s ∧ s < 6) (h7 : y_in (μ (h + 7) s + g)) (h15 : y_inL (μ h 15 + g)) : qH_receive μ h s g = some (μ (h + 7) s + g, st (st μ (h + 7) s (μ (h + 7) s + g)) h 15 (μ h 15 + g)) := by
  unfold qH_receive
  rw [if_pos hs, if_pos hs, wr_eq h7, sBind, st_k (show h ≠ h + 7 by omega), if_pos h15, sBind, if_pos hs, st_k (show h + 7 ≠ h by omega), st_at]
theorem HEq6.tok {V V' : zM} (e : HEq6 V V') {k : Nat} {j : Int} (hk : 1 ≤ k ∧ k ≤ 9) (hj : 0 ≤ j ∧ j < 6) : V k j = V' k j := e.2 k hk.1 hk.2 j hj.1 hj.2
theorem takeTurn_eq {N : Int} {μ V : zM} {h : Nat} {t : Int} (hN : N ≤ 1500000000) (w : WF N V) (e : HEq6 (hv μ h) V) (ht : 0 ≤ t ∧ t < V 0 3) : ∃ m, qH_takeTurn μ h t = some m ∧ HEq6 (hv m h) (vTurn V t).1 ∧ ∀ q : Nat, (q < h ∨ h + 10 ≤ q) → m q = μ q := by
  have t6 := w.t6
  have n6 := w.n6
  have c : 0 ≤ t ∧ t < 6 := by omega
  obtain ⟨-, -, hin, hpu, hno, hho⟩ := w.tn t ht.1 ht.2
  have rc := w.rc
  have pd := w.pd
  have ev := w.ev
  have e6 : μ (h + 6) t = V 6 t := e.tok (k := 6) (by decide) c
  have e7 : μ (h + 7) t = V 7 t := e.tok (k := 7) (by decide) c
  have e8 : μ (h + 8) t = V 8 t := e.tok (k := 8) (by decide) c
  have e9 : μ (h + 9) t = V 9 t := e.tok (k := 9) (by decide) c
  have e15 : μ h 15 = V 0 15 := e.1.2.2.2.2.2.2.1
  have e14 : μ h 14 = V 0 14 := e.1.2.2.2.2.2.1
  have e13 : μ h 13 = V 0 13 := e.1.2.2.2.2.1
  unfold qH_takeTurn
  rw [if_pos c, e6, receive_eq c (by rw [e7]; unfold y_in; omega) (by rw [e15]; unfold y_inL; omega), sBnd2, e7, e15]
  generalize hm1 : st (st μ (h + 7) t (V 7 t + V 6 t)) h 15 (V 0 15 + V 6 t) = m1
  have v1 : HEq6 (hv m1 h) (vGive V t (V 6 t)) := by
    rw [← hm1, hv_st0, hv_st]
    exact e.upd.upd
  have q1 : ∀ q : Nat, q ≠ h → q ≠ h + 7 → m1 q = μ q := fun q h0 h7 => by rw [← hm1]; exact funext fun j => by rw [st_k h0, st_k h7]
  have f9 : m1 (h + 9) t = V 9 t := by rw [q1 _ (by omega) (by omega), e9]
  have f8 : m1 (h + 8) t = V 8 t := by rw [q1 _ (by omega) (by omega), e8]
  have f7 : m1 (h + 7) t = V 7 t + V 6 t := by rw [← hm1, st_k (by omega), st_at]
  have f14 : m1 h 14 = V 0 14 := by rw [← hm1, st_i (by decide), st_k (by omega), e14]
  have f13 : m1 h 13 = V 0 13 := by rw [← hm1, st_i (by decide), st_k (by omega), e13]
  rw [if_pos c, f9]
  unfold vTurn
  by_cases h9 : V 9 t = -1
  · rw [if_pos h9, if_pos h9]
    exact ⟨m1, rfl, v1, fun q hq => q1 q (by omega) (by omega)⟩
  rw [if_neg h9, if_neg h9]
  have cf : 0 ≤ V 9 t ∧ V 9 t < 6 := by omega
  have f2 : m1 (h + 2) (V 9 t) = V 2 (V 9 t) := by rw [q1 _ (by omega) (by omega)]; exact e.tok (k := 2) (by decide) cf
  have hr9 := w.fl (V 9 t) (by omega) hho.2
  rw [canAfford_eq c cf, sBind, f7, f2]
  by_cases h7 : V 7 t + V 6 t < V 2 (V 9 t)
  · rw [if_pos h7, if_pos rfl, if_pos h7, if_pos c, if_pos c, f8, wr_n (by omega) (by omega), sBind, if_pos c, st_at]
    by_cases h8 : V 8 t + 1 < 2
    · rw [if_pos h8, if_pos h8]
      refine ⟨_, rfl, ?_, fun q hq => by rw [← q1 q (by omega) (by omega)]; exact funext fun j => st_k (by omega)⟩
      rw [hv_st]
      exact v1.upd
    · rw [if_neg h8, if_neg h8, sBind, st_k (show h ≠ h + 8 by omega), f13, wr_n (by omega) (by omega)]
      have g := give_wf w ht (g := V 6 t) (by omega)
      have g3 : vGive V t (V 6 t) 0 3 = V 0 3 := vG_j (by decide)
      have w1 : WF (N + 99) (hv m1 h) := v1.wf g
      have m3 : hv m1 h 0 3 = V 0 3 := by rw [v1.1.2.1, g3]
      obtain ⟨m5, p1, p2, p3⟩ := leaveHome_gen (μ := st (st m1 (h + 8) t (V 8 t + 1)) h 13 (V 0 13 + 1)) (V := st (hv m1 h) 0 13 (V 0 13 + 1)) (h := h) (x := t) (sc_wf (N := N + 99) w1 (Or.inr rfl) (by omega)) (by rw [st_i (by decide), m3]; exact ht) (by rw [st_i (by decide), m3]; exact t6) (by rw [st_k (by omega), st_k (by omega), st_k (by decide)]; rfl) (by
        rw [hv_st0, hv_st, st_comm (k := 8) (q := 0) (by decide), st_comm (k := 8) (q := 9) (by decide), st_st])
      rw [p1, sBnd2]
      refine ⟨m5, rfl, ?_, fun q hq => by rw [p3 q (by omega) (by omega), ← q1 q (by omega) (by omega)]; exact funext fun j => by rw [st_k (by omega), st_k (by omega)]⟩
      rw [p2, leave_ev]
      exact (h6leave v1 w1 (by rw [m3]; exact ht)).2.upd
  · rw [if_neg h7, if_neg (show ¬ (1 : Int) = 0 by decide), if_neg h7, if_pos c, if_pos cf, if_pos c, wr_n (by omega) (by omega), sBind, if_pos cf, st_k (show h ≠ h + 7 by omega), st_k (show h + 2 ≠ h + 7 by omega), f14, f2, wr_n (by omega) (by omega), sBind, if_pos c, sBind]
    refine ⟨_, rfl, ?_, fun q hq => by rw [← q1 q (by omega) (by omega)]; exact funext fun j => by rw [st_k (by omega), st_k (by omega), st_k (by omega)]⟩
    rw [hv_st, hv_st0, hv_st]
    unfold vPay
    rw [vG_7, vG_j (by decide)]
    exact v1.upd.upd.upd
theorem goes_eq {N : Int} {m V : zM} {t : Int} (hN : N ≤ 1500000000) (w : WF N V) (r : RowIs (m 143) V) (ht : 0 ≤ t ∧ t < V 0 3) : ∃ m', qM_goes m t = some ((vTurn V t).2, m') ∧ RowIs (m' 143) (vTurn V t).1 ∧ ∀ q : Nat, q ≠ 143 → m' q = m q := by
  have t6 := w.t6
  have n6 := w.n6
  have c : 0 ≤ t ∧ t < 6 := by omega
  obtain ⟨-, -, hin, hpu, hno, hho⟩ := w.tn t ht.1 ht.2
  obtain ⟨-, -, -, r6, r7, r8, r9⟩ := r.tn t ht.1 ht.2
  have rr := r.rc
  have rp := r.pd
  have re := r.ev
  have rc := w.rc
  have pd := w.pd
  have ev := w.ev
  unfold qM_goes
  rw [of_eq c (by decide), sBind, of_eq c (by decide), sBind, show 20 + 7 * t + 4 = 24 + 7 * t by omega, show 20 + 7 * t + 3 = 23 + 7 * t by omega, r6, r7, wr_n (x := V 7 t + V 6 t) (by omega) (by omega), puts_eq c (by decide), sBind, of_eq c (by decide), sBind, show 20 + 7 * t + 4 = 24 + 7 * t by omega, show 20 + 7 * t + 3 = 23 + 7 * t by omega, st_i (show (23 + 7 * t : Int) ≠ 24 + 7 * t by omega), st_i (show (7 : Int) ≠ 24 + 7 * t by omega), r6, rr, wr_n (x := V 0 15 + V 6 t) (by omega) (by omega), sBind]
  generalize hm5 : st (st m 143 (24 + 7 * t) (V 7 t + V 6 t)) 143 7 (V 0 15 + V 6 t) = m5
  have v1 : RowIs (m5 143) (vGive V t (V 6 t)) := by
    rw [← hm5]
    exact give_row r n6 ht.1 (by omega) st_at (by rw [st_i (by omega), st_at]) (fun i i7 i1 => by rw [st_i i7, st_i i1])
  have q5 : ∀ q : Nat, q ≠ 143 → m5 q = m q := fun q hq => by rw [← hm5]; exact funext fun j => by rw [st_k hq, st_k hq]
  have f9 : m5 143 (26 + 7 * t) = V 9 t + 1 := by rw [← hm5, st_i (by omega), st_i (by omega), r9]
  have f8 : m5 143 (25 + 7 * t) = V 8 t := by rw [← hm5, st_i (by omega), st_i (by omega), r8]
  have f7 : m5 143 (24 + 7 * t) = V 7 t + V 6 t := by rw [← hm5, st_i (by omega), st_at]
  have f5 : m5 143 5 = V 0 14 := by rw [← hm5, st_i (by omega), st_i (by omega), rp]
  have g := give_wf w ht (g := V 6 t) (by omega)
  have g3 : vGive V t (V 6 t) 0 3 = V 0 3 := vG_j (by decide)
  have g0 : vGive V t (V 6 t) 0 0 = V 0 0 := vG_j (by decide)
  rw [of_eq c (by decide), sBind, show 20 + 7 * t + 6 = 26 + 7 * t by omega, f9]
  unfold vTurn
  by_cases h9 : V 9 t = -1
  · rw [if_pos (by omega), if_pos h9]
    exact ⟨m5, rfl, v1, q5⟩
  rw [if_neg (by omega), if_neg h9, sBind, wr_n (by omega) (by omega), show V 9 t + 1 - 1 = V 9 t by omega, flat_eq (by omega) (by decide), sBind, of_eq c (by decide), sBind, show 20 + 7 * t + 4 = 24 + 7 * t by omega, f7]
  have f2 : m5 143 (8 + 2 * V 9 t + 1) = V 2 (V 9 t) := by
    rw [← hm5, st_i (by omega), st_i (by omega), show 8 + 2 * V 9 t + 1 = 9 + 2 * V 9 t by omega, (r.fl (V 9 t) (by omega) hho.2).2]
  rw [f2]
  have hr9 := w.fl (V 9 t) (by omega) hho.2
  by_cases h7 : V 7 t + V 6 t < V 2 (V 9 t)
  · rw [if_pos h7, if_pos h7, of_eq c (by decide), sBind, show 20 + 7 * t + 5 = 25 + 7 * t by omega, f8, wr_n (by omega) (by omega), puts_eq c (by decide), sBind, of_eq c (by decide), sBind, show 20 + 7 * t + 5 = 25 + 7 * t by omega, st_at]
    have v2 : RowIs ((st m5 143 (25 + 7 * t) (V 8 t + 1)) 143) (st (vGive V t (V 6 t)) 8 t (V 8 t + 1)) := notice_row v1 (by rw [g0]; exact n6) ht.1 st_at (fun i hi => st_i hi)
    by_cases h8 : V 8 t + 1 < 2
    · rw [if_pos h8, if_pos h8]
      exact ⟨_, rfl, v2, fun q hq => by rw [← q5 q hq]; exact funext fun j => st_k hq⟩
    · rw [if_neg h8, if_neg h8]
      have r2 : RowIs ((st (st (st m5 143 (25 + 7 * t) (V 8 t + 1)) 143 (26 + 7 * t) 0) 143 (25 + 7 * t) 0) 143) (st (st (vGive V t (V 6 t)) 9 t (-1)) 8 t 0) := by
        have a1 := home_row (s := t) (f := -1) v2 (by rw [st_k (by decide), g0]; exact n6) ht.1 (w' := (st (st m5 143 (25 + 7 * t) (V 8 t + 1)) 143 (26 + 7 * t) 0) 143) st_at (fun i hi => st_i hi)
        have a2 := notice_row (s := t) (v := 0) a1 (by rw [st_k (by decide), st_k (by decide), g0]; exact n6) ht.1 (w' := (st (st (st m5 143 (25 + 7 * t) (V 8 t + 1)) 143 (26 + 7 * t) 0) 143 (25 + 7 * t) 0) 143) st_at (fun i hi => st_i hi)
        rw [st_comm (k := 8) (q := 9) (by decide), st_st] at a2
        exact a2
      obtain ⟨m13, p1, p2, p3⟩ := leaves_gen (m := st m5 143 (25 + 7 * t) (V 8 t + 1)) (V := vGive V t (V 6 t)) (x := t) g (by rw [st_i (by omega), f9]; rw [vG_k (by decide) (by decide)]) r2 (by rw [g3]; exact ht)
      have n13 : m13 143 4 = V 0 13 := by rw [p2.ev, leave_k (by decide) (by decide), vG_j (by decide)]
      have l := leave_n (V := vGive V t (V 6 t)) (x := t)
      rw [p1, sBnd2, sBind, n13, wr_n (by omega) (by omega), if_neg (show ¬ (vLeave (vGive V t (V 6 t)) t).2 < 0 by omega)]
      refine ⟨_, rfl, sc_row p2 (by rw [leave_k (by decide) (by decide), g0]; exact n6) (Or.inr rfl) st_at (fun i hi => st_i hi), fun q hq => ?_⟩
      rw [← q5 q hq]
      have p4 := p3 q hq
      exact funext fun j => by rw [st_k hq, p4, st_k hq]
  · rw [if_neg h7, if_neg h7, sBind, wr_n (by omega) (by omega), puts_eq c (by decide), sBind, sBind, show 20 + 7 * t + 4 = 24 + 7 * t by omega, st_i (show (5 : Int) ≠ 24 + 7 * t by omega), f5, wr_n (by omega) (by omega), puts_eq c (by decide), sBind, show 20 + 7 * t + 5 = 25 + 7 * t by omega]
    refine ⟨_, rfl, ?_, fun q hq => by rw [← q5 q hq]; exact funext fun j => by rw [st_k hq, st_k hq, st_k hq]⟩
    have a1 := pay_row (s := t) (r := V 2 (V 9 t)) v1 (by rw [g0]; exact n6) ht.1 (w' := (st (st m5 143 (24 + 7 * t) (V 7 t + V 6 t - V 2 (V 9 t))) 143 5 (V 0 14 + V 2 (V 9 t))) 143) (by rw [st_at, vG_j (by decide)]) (by rw [st_i (by omega), st_at, vG_7]) (fun i i5 i1 => by rw [st_i i5, st_i i1])
    exact notice_row a1 (by rw [vP_j (by decide), g0]; exact n6) ht.1 st_at (fun i hi => st_i hi)
