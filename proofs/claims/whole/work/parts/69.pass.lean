/-! ===== B: months pass ===== -/
def vTurns : Nat → zM → Int → Int → zM × Int
  | 0, V, _, c => (V, c)
  | k+1, V, t, c => vTurns k (vTurn V t).1 (t + 1) (c + (vTurn V t).2)
def vMonth (V : zM) (c : Int) : zM × Int := vTurns (V 0 3).toNat (st V 0 12 (V 0 12 + 1)) 0 c
def vMonths : Nat → zM → Int → zM × Int
  | 0, V, c => (V, c)
  | k+1, V, c => vMonths k (vMonth V c).1 (vMonth V c).2
theorem turns_0 : ∀ (k : Nat) {V : zM} {t c : Int}, (vTurns k V t c).1 0 3 = V 0 3 ∧ (vTurns k V t c).1 0 13 = V 0 13 + ((vTurns k V t c).2 - c) ∧ c ≤ (vTurns k V t c).2 ∧ (vTurns k V t c).2 ≤ c + k
  | 0, V, t, c => ⟨rfl, by show V 0 13 = V 0 13 + (c - c); omega, Int.le_refl _, by show c ≤ c + ((0 : Nat) : Int); omega⟩
  | k+1, V, t, c => by
    have h := turns_0 k (V := (vTurn V t).1) (t := t + 1) (c := c + (vTurn V t).2)
    have h3 := turn_0 (V := V) (t := t) (i := 3) (by decide) (by decide) (by decide)
    have h13 := turn_13 (V := V) (t := t)
    unfold vTurns
    omega
theorem turns_wf {N : Int} : ∀ (k : Nat) {V : zM} {t c : Int}, WF N V → 0 ≤ t → t + k = V 0 3 → WF (N + 100 * k) (vTurns k V t c).1
  | 0, V, t, c, w, _, _ => w.mono (by omega)
  | k+1, V, t, c, w, h0, h1 => by
    have h3 := turn_0 (V := V) (t := t) (i := 3) (by decide) (by decide) (by decide)
    have h := turns_wf k (c := c + (vTurn V t).2) (turn_wf w (t := t) ⟨h0, by omega⟩) (t := t + 1) (by omega) (by omega)
    exact h.mono (by omega)
theorem month_wf {N : Int} {V : zM} {c : Int} (w : WF N V) : WF (N + 700) (vMonth V c).1 := by
  have t0 := w.t0
  have t6 := w.t6
  have mo := w.mo
  unfold vMonth
  refine (turns_wf (N := N + 1) _ (sc_wf (w.mono (by omega)) (Or.inl rfl) (by omega)) (Int.le_refl 0) ?_).mono (by omega)
  rw [st_i (by decide)]; omega
theorem month_0 {V : zM} {c : Int} : (vMonth V c).1 0 3 = V 0 3 ∧ (vMonth V c).1 0 13 = V 0 13 + ((vMonth V c).2 - c) ∧ c ≤ (vMonth V c).2 ∧ (vMonth V c).2 ≤ c + (V 0 3).toNat := by
  have h := turns_0 (V 0 3).toNat (V := st V 0 12 (V 0 12 + 1)) (t := 0) (c := c)
  rw [st_i (show (3 : Int) ≠ 12 by decide), st_i (show (13 : Int) ≠ 12 by decide)] at h
  exact h
theorem months_0 : ∀ (k : Nat) {V : zM} {c : Int}, V 0 3 ≤ 6 → (vMonths k V c).1 0 13 = V 0 13 + ((vMonths k V c).2 - c) ∧ c ≤ (vMonths k V c).2 ∧ (vMonths k V c).2 ≤ c + 6 * k
  | 0, V, c, _ => ⟨by show V 0 13 = V 0 13 + (c - c); omega, Int.le_refl _, by show c ≤ c + 6 * ((0 : Nat) : Int); omega⟩
  | k+1, V, c, h6 => by
    have h1 := month_0 (V := V) (c := c)
    have h := months_0 k (V := (vMonth V c).1) (c := (vMonth V c).2) (by omega)
    unfold vMonths
    omega
theorem months_wf {N : Int} : ∀ (k : Nat) {V : zM} {c : Int}, WF N V → WF (N + 700 * k) (vMonths k V c).1
  | 0, V, c, w => w.mono (by omega)
  | k+1, V, c, w => by
    have h := months_wf k (c := (vMonth V c).2) (month_wf w (c := c))
    exact h.mono (by omega)
theorem turnsC_l {h : Nat} {v1 v2 v3 : Int} : ∀ (k n : Nat) (N : Int) (μ V : zM) (t c : Int), N + 100 * k ≤ 1500000000 → WF N V → HEq6 (hv μ h) V → 0 ≤ t → t + k = V 0 3 → k < n →
    ∃ m, qH_letMonthsPass_l25 h v1 v2 v3 n μ t = some m ∧ HEq6 (hv m h) (vTurns k V t c).1 ∧ ∀ q : Nat, (q < h ∨ h + 10 ≤ q) → m q = μ q := by
  intro k
  induction k with
  | zero =>
    intro n N μ V t c hN w e9 h0 h1 hn
    obtain ⟨n, rfl⟩ : ∃ n', n = n' + 1 := ⟨n - 1, by omega⟩
    have e3 : μ h 3 = V 0 3 := e9.1.2.1
    unfold qH_letMonthsPass_l25
    rw [if_neg (by omega)]
    exact ⟨μ, rfl, e9, fun _ _ => rfl⟩
  | succ k ih =>
    intro n N μ V t c hN w e9 h0 h1 hn
    obtain ⟨n, rfl⟩ : ∃ n', n = n' + 1 := ⟨n - 1, by omega⟩
    have e3 : μ h 3 = V 0 3 := e9.1.2.1
    have t6 := w.t6
    unfold qH_letMonthsPass_l25 vTurns
    obtain ⟨m1, p1, p2, p3⟩ := takeTurn_eq (h := h) (t := t) (by omega) w e9 ⟨h0, by omega⟩
    have h3 := turn_0 (V := V) (t := t) (i := 3) (by decide) (by decide) (by decide)
    rw [if_pos (by omega), p1, sBind, wr_n (by omega) (by omega)]
    obtain ⟨m, u1, u2, u3⟩ := ih n (N + 100) m1 (vTurn V t).1 (t + 1) (c + (vTurn V t).2) (by omega) (turn_wf w ⟨h0, by omega⟩) p2 (by omega) (by omega) (by omega)
    exact ⟨m, u1, u2, fun q hq => by rw [u3 q hq, p3 q hq]⟩
theorem monthC_eq {h : Nat} {v1 v2 v3 : Int} {N : Int} {μ V : zM} {c : Int} (hN : N + 1000 ≤ 1500000000) (w : WF N V) (e9 : HEq6 (hv μ h) V) :
    ∃ m, qH_letMonthsPass_l25 h v1 v2 v3 200 (st μ h 12 (wr (μ h 12 + 1))) 0 = some m ∧ HEq6 (hv m h) (vMonth V c).1 ∧ ∀ q : Nat, (q < h ∨ h + 10 ≤ q) → m q = μ q := by
  have t0 := w.t0
  have t6 := w.t6
  have mo := w.mo
  have e12 : μ h 12 = V 0 12 := e9.1.2.2.2.1
  rw [e12, wr_n (by omega) (by omega)]
  have w1 : WF (N + 1) (st V 0 12 (V 0 12 + 1)) := sc_wf (w.mono (by omega)) (Or.inl rfl) (by omega)
  obtain ⟨m, u1, u2, u3⟩ := turnsC_l (h := h) (v1 := v1) (v2 := v2) (v3 := v3) (V 0 3).toNat 200 (N + 1) (st μ h 12 (V 0 12 + 1)) (st V 0 12 (V 0 12 + 1)) 0 c (by omega) w1 (by rw [hv_st0]; exact e9.upd) (Int.le_refl 0) (by rw [st_i (by decide)]; omega) (by omega)
  exact ⟨m, u1, u2, fun q hq => by rw [u3 q hq]; exact funext fun j => st_k (by omega)⟩
theorem monthsC_l {h : Nat} {v1 v2 : Int} (hv1 : v1 ≤ 24) : ∀ (k n : Nat) (N : Int) (μ V : zM) (i c : Int), N + 700 * k + 1000 ≤ 1500000000 → WF N V → HEq6 (hv μ h) V → 0 ≤ i → i + k = v1 → k < n →
    ∃ m, qH_letMonthsPass_l7 h v1 v2 n μ i = some m ∧ HEq6 (hv m h) (vMonths k V c).1 ∧ ∀ q : Nat, (q < h ∨ h + 10 ≤ q) → m q = μ q := by
  intro k
  induction k with
  | zero =>
    intro n N μ V i c hN w e9 h0 h1 hn
    obtain ⟨n, rfl⟩ : ∃ n', n = n' + 1 := ⟨n - 1, by omega⟩
    unfold qH_letMonthsPass_l7
    rw [if_neg (by omega)]
    exact ⟨μ, rfl, e9, fun _ _ => rfl⟩
  | succ k ih =>
    intro n N μ V i c hN w e9 h0 h1 hn
    obtain ⟨n, rfl⟩ : ∃ n', n = n' + 1 := ⟨n - 1, by omega⟩
    unfold qH_letMonthsPass_l7 vMonths
    obtain ⟨m1, p1, p2, p3⟩ := monthC_eq (h := h) (v1 := v1) (v2 := v2) (v3 := i) (c := c) (by omega) w e9
    rw [if_pos (by omega), sBind, p1, sBind, wr_n (by omega) (by omega)]
    obtain ⟨m, u1, u2, u3⟩ := ih n (N + 700) m1 (vMonth V c).1 (i + 1) (vMonth V c).2 (by omega) (month_wf w) p2 (by omega) (by omega) (by omega)
    exact ⟨m, u1, u2, fun q hq => by rw [u3 q hq, p3 q hq]⟩
theorem letMonths_eq {h : Nat} {v : Int} {N : Int} {μ V : zM} (hv1 : 0 ≤ v ∧ v ≤ 24) (hN : N ≤ 1400000000) (w : WF N V) (e9 : HEq6 (hv μ h) V) :
    ∃ m, qH_letMonthsPass μ h v = some ((vMonths v.toNat V 0).2, m) ∧ HEq6 (hv m h) (vMonths v.toNat V 0).1 ∧ ∀ q : Nat, (q < h ∨ h + 10 ≤ q) → m q = μ q := by
  unfold qH_letMonthsPass
  obtain ⟨m, u1, u2, u3⟩ := monthsC_l (h := h) (v1 := v) (v2 := μ h 13) hv1.2 v.toNat 200 N μ V 0 0 (by omega) w e9 (Int.le_refl 0) (by omega) (by omega)
  have e13 : μ h 13 = V 0 13 := e9.1.2.2.2.2.1
  have m13 : m h 13 = (vMonths v.toNat V 0).1 0 13 := u2.1.2.2.2.2.1
  have h0 := months_0 v.toNat (V := V) (c := 0) w.t6
  rw [u1, sBind, m13, e13, h0.1, wr_n (by omega) (by omega)]
  exact ⟨m, by rw [show V 0 13 + ((vMonths v.toNat V 0).2 - 0) - V 0 13 = (vMonths v.toNat V 0).2 by omega], u2, u3⟩
theorem turnsM_l {v1 v3 : Int} : ∀ (k n : Nat) (N : Int) (m V : zM) (t c : Int), N + 100 * k ≤ 1500000000 → WF N V → RowIs (m 143) V → 0 ≤ t → t + k = V 0 3 → 0 ≤ c → c + k ≤ 100000 → k < n →
    ∃ m', qM_passes_l22 v1 v3 n m c t = some ((vTurns k V t c).2, m') ∧ RowIs (m' 143) (vTurns k V t c).1 ∧ ∀ q : Nat, q ≠ 143 → m' q = m q := by
  intro k
  induction k with
  | zero =>
    intro n N m V t c hN w r h0 h1 c0 c1 hn
    obtain ⟨n, rfl⟩ : ∃ n', n = n' + 1 := ⟨n - 1, by omega⟩
    have rt := r.t
    unfold qM_passes_l22
    rw [if_neg (by omega)]
    exact ⟨m, rfl, r, fun _ _ => rfl⟩
  | succ k ih =>
    intro n N m V t c hN w r h0 h1 c0 c1 hn
    obtain ⟨n, rfl⟩ : ∃ n', n = n' + 1 := ⟨n - 1, by omega⟩
    have rt := r.t
    have t6 := w.t6
    unfold qM_passes_l22 vTurns
    obtain ⟨m1, p1, p2, p3⟩ := goes_eq (t := t) (by omega) w r ⟨h0, by omega⟩
    have h3 := turn_0 (V := V) (t := t) (i := 3) (by decide) (by decide) (by decide)
    have h13 := turn_13 (V := V) (t := t)
    rw [if_pos (by omega), p1, sBnd2, wr_n (x := t + 1) (by omega) (by omega), wr_n (x := c + 0) (by omega) (by omega), wr_n (x := c + 1) (by omega) (by omega)]
    obtain ⟨m', u1, u2, u3⟩ := ih n (N + 100) m1 (vTurn V t).1 (t + 1) (c + (vTurn V t).2) (by omega) (turn_wf w ⟨h0, by omega⟩) p2 (by omega) (by omega) (by omega) (by omega) (by omega)
    refine ⟨m', ?_, u2, fun q hq => by rw [u3 q hq, p3 q hq]⟩
    by_cases h9 : (vTurn V t).2 = 0
    · rw [if_pos h9]; rw [h9] at u1; rw [h9]; exact u1
    · have h8 : (vTurn V t).2 = 1 := by omega
      rw [if_neg h9]; rw [h8] at u1; rw [h8]; exact u1
theorem monthsM_l {v1 : Int} (hv1 : v1 ≤ 24) : ∀ (k n : Nat) (N : Int) (m V : zM) (i c : Int), N + 700 * k + 1000 ≤ 1500000000 → WF N V → RowIs (m 143) V → 0 ≤ i → i + k = v1 → 0 ≤ c → c + 6 * k ≤ 10000 → k < n →
    ∃ m', qM_passes_l4 v1 n m c i = some ((vMonths k V c).2, m') ∧ RowIs (m' 143) (vMonths k V c).1 ∧ ∀ q : Nat, q ≠ 143 → m' q = m q := by
  intro k
  induction k with
  | zero =>
    intro n N m V i c hN w r h0 h1 c0 c1 hn
    obtain ⟨n, rfl⟩ : ∃ n', n = n' + 1 := ⟨n - 1, by omega⟩
    unfold qM_passes_l4
    rw [if_neg (by omega)]
    exact ⟨m, rfl, r, fun _ _ => rfl⟩
  | succ k ih =>
    intro n N m V i c hN w r h0 h1 c0 c1 hn
    obtain ⟨n, rfl⟩ : ∃ n', n = n' + 1 := ⟨n - 1, by omega⟩
    have t0 := w.t0
    have t6 := w.t6
    have mo := w.mo
    have rm := r.mo
    unfold qM_passes_l4 vMonths
    have w1 : WF (N + 1) (st V 0 12 (V 0 12 + 1)) := sc_wf (w.mono (by omega)) (Or.inl rfl) (by omega)
    have r1 : RowIs ((st m 143 3 (V 0 12 + 1)) 143) (st V 0 12 (V 0 12 + 1)) := sc_row r w.n6 (Or.inl rfl) st_at (fun q hq => st_i hq)
    obtain ⟨m1, p1, p2, p3⟩ := turnsM_l (v1 := v1) (v3 := i) (V 0 3).toNat 200 (N + 1) (st m 143 3 (V 0 12 + 1)) (st V 0 12 (V 0 12 + 1)) 0 c (by omega) w1 r1 (Int.le_refl 0) (by rw [st_i (by decide)]; omega) c0 (by omega) (by omega)
    have h3 := month_0 (V := V) (c := c)
    rw [if_pos (by omega), sBind, rm, wr_n (x := V 0 12 + 1) (by omega) (by omega), p1, sBnd2, wr_n (by omega) (by omega)]
    obtain ⟨m', u1, u2, u3⟩ := ih n (N + 700) m1 (vMonth V c).1 (i + 1) (vMonth V c).2 (by omega) (month_wf w) p2 (by omega) (by omega) (by omega) (by omega) (by omega)
    refine ⟨m', u1, u2, fun q hq => ?_⟩
    rw [u3 q hq, p3 q hq]
    exact funext fun j => st_k hq
theorem passes_eq {v : Int} {N : Int} {m V : zM} (hv1 : 0 ≤ v ∧ v ≤ 24) (hN : N ≤ 1400000000) (w : WF N V) (r : RowIs (m 143) V) :
    ∃ m', qM_passes m v = some ((vMonths v.toNat V 0).2, m') ∧ RowIs (m' 143) (vMonths v.toNat V 0).1 ∧ ∀ q : Nat, q ≠ 143 → m' q = m q := by
  unfold qM_passes
  obtain ⟨m', u1, u2, u3⟩ := monthsM_l (v1 := v) hv1.2 v.toNat 200 N m V 0 0 (by omega) w r (Int.le_refl 0) (by omega) (by omega) (by omega) (by omega)
  rw [u1, sBnd2]
  exact ⟨m', rfl, u2, u3⟩
theorem pass_ok {N : Int} (hN : N ≤ 1000000000) {v : Int} : OpOk N (N + 20000) (fun μ => qL_pass μ v) (fun μ => qM_pass μ v) := by
  intro μ hI
  have hB := hI.1
  have w := hB.1
  show ∃ a9 m1 x m2, qL_pass μ v = some (a9, m1) ∧ qM_pass m1 v = some (x, m2) ∧ m2 142 0 = a9 ∧ (a9 = 0 → m2 156 0 = x) ∧ Inv (N + 20000) m2
  unfold qL_pass qT_pass qH_refusalOfMonths
  rw [within_eq, sBind]
  by_cases hv1 : 1 ≤ v ∧ v ≤ 24
  case neg =>
    rw [if_neg hv1, if_pos rfl, sBind, refuseE (by decide), sTcr, sBndTr, if_pos (by decide)]
    refine ⟨1, μ, 0, st (st μ 142 0 0) 142 0 1, rfl, ?_, st_at, fun h => absurd h (by decide), thrown_inv (thrown_inv hI (Int.le_refl _)) (by omega)⟩
    unfold qM_pass qM_notPass
    rw [sBind, between_eq, sBind, if_neg hv1, if_pos rfl, sBind, if_neg (by decide), fails_eq, sBnd2]
  rw [if_pos hv1, if_neg (show ¬ (1 : Int) = 0 by decide), sBind, refuse0, sTcl]
  obtain ⟨m1, m2, e1, g1, e2, k⟩ := change_both (N' := N + 20000) (μ := μ) (r := (vMonths v.toNat (hv μ 1) 0).2) (V' := (vMonths v.toNat (hv μ 1) 0).1) (fun m => qH_letMonthsPass m 1 v) (fun m => qM_passes m v) hI (by omega)
    (fun m1 g1 => by
      obtain ⟨m, p1, p2, p3⟩ := letMonths_eq (h := 1) (v := v) (μ := m1) (by omega) (by omega) w (HEq6.of_same fun q q1 q2 => g1 q (by omega))
      exact ⟨m, p1, fun q hq => p3 q (by omega), p2⟩)
    (fun m5 l5 => by
      obtain ⟨m6, p1, p2, p3⟩ := passes_eq (m := m5) (V := hv μ 1) (v := v) (by omega) (by omega) w (by rw [l5]; exact hB.2)
      exact ⟨m6, p1, fun q q1 _ _ => p3 q q1, fun j _ => by rw [p3 142 (by decide)], p2⟩)
    ((months_wf v.toNat w).mono (by omega))
  rw [e1, sBind, show qH_letMonthsPass m1 1 v = some ((vMonths v.toNat (hv μ 1) 0).2, m2) from e2, sBnd2, sBndTl]
  obtain ⟨k143, k0, m5, m6, e5, l143, e6, z0, z1, z2⟩ := k _ rfl
  refine ⟨0, _, (vMonths v.toNat (hv μ 1) 0).2, m6, rfl, ?_, z0, fun _ => z1, z2⟩
  unfold qM_pass qM_notPass
  rw [sBind, between_eq, sBind, if_pos hv1, if_neg (show ¬ (1 : Int) = 0 by decide), sBind, if_pos rfl, e5, sBind, show qM_passes m5 v = some ((vMonths v.toNat (hv μ 1) 0).2, m6) from e6, sBnd2]
/-- in which month somebody is evicted, from month i on -/
def mue : Nat → zM → Int → Int
  | 0, _, _ => 0
  | k+1, V, i => if 0 < (vMonth V 0).2 then i else mue k (vMonth V 0).1 (i + 1)
theorem months_1 {V : zM} : vMonths (1 : Int).toNat V 0 = vMonth V 0 := rfl
theorem mueC_l : ∀ (k n : Nat) (N : Int) (μ V : zM) (i : Int), N + 700 * k ≤ 1400000000 → WF N V → HEq6 (hv μ 11) V → 1 ≤ i → i + k = 25 → k < n →
    ∃ e9 m, qT_monthsUntilEviction_l13 n μ i = some (e9, m) ∧ (mue k V i = 0 ∧ e9 = .inr () ∨ mue k V i ≠ 0 ∧ e9 = .inl (mue k V i)) ∧ ∀ q : Nat, (q < 11 ∨ 21 ≤ q) → m q = μ q := by
  intro k
  induction k with
  | zero =>
    intro n N μ V i hN w e9 h0 h1 hn
    obtain ⟨n, rfl⟩ : ∃ n', n = n' + 1 := ⟨n - 1, by omega⟩
    unfold qT_monthsUntilEviction_l13
    rw [if_pos (by omega)]
    exact ⟨.inr (), μ, rfl, Or.inl ⟨rfl, rfl⟩, fun _ _ => rfl⟩
  | succ k ih =>
    intro n N μ V i hN w e9 h0 h1 hn
    obtain ⟨n, rfl⟩ : ∃ n', n = n' + 1 := ⟨n - 1, by omega⟩
    unfold qT_monthsUntilEviction_l13 mue
    obtain ⟨m1, p1, p2, p3⟩ := letMonths_eq (h := 11) (v := 1) (μ := μ) (V := V) (by decide) (by omega) w e9
    rw [months_1] at p1 p2
    rw [if_neg (by omega), p1, sBnd2]
    by_cases hp : 0 < (vMonth V 0).2
    · rw [if_pos hp, if_pos hp]
      exact ⟨.inl i, m1, rfl, Or.inr ⟨by omega, rfl⟩, p3⟩
    · rw [if_neg hp, if_neg hp, wr_n (by omega) (by omega)]
      obtain ⟨e8, m, u1, u2, u3⟩ := ih n (N + 700) m1 (vMonth V 0).1 (i + 1) (by omega) (month_wf w) p2 (by omega) (by omega) (by omega)
      exact ⟨e8, m, u1, u2, fun q hq => by rw [u3 q hq, p3 q hq]⟩
theorem mueM_l : ∀ (k n : Nat) (N : Int) (m V : zM) (i : Int), N + 700 * k ≤ 1400000000 → WF N V → RowIs (m 143) V → 0 ≤ i → i + k = 24 → k < n →
    ∃ a b m', qM_monthsUntilEviction_l13 n m i 0 = some ((a, b), m') ∧ (mue k V (i + 1) = 0 ∧ b = 0 ∨ mue k V (i + 1) = a ∧ a ≠ 0 ∧ 0 < b) ∧ ∀ q : Nat, q ≠ 143 → m' q = m q := by
  intro k
  induction k with
  | zero =>
    intro n N m V i hN w r h0 h1 hn
    obtain ⟨n, rfl⟩ : ∃ n', n = n' + 1 := ⟨n - 1, by omega⟩
    unfold qM_monthsUntilEviction_l13
    rw [if_neg (by omega)]
    exact ⟨i, 0, m, rfl, Or.inl ⟨rfl, rfl⟩, fun _ _ => rfl⟩
  | succ k ih =>
    intro n N m V i hN w r h0 h1 hn
    obtain ⟨n, rfl⟩ : ∃ n', n = n' + 1 := ⟨n - 1, by omega⟩
    obtain ⟨n, rfl⟩ : ∃ n', n = n' + 1 := ⟨n - 1, by omega⟩
    unfold mue
    obtain ⟨m1, p1, p2, p3⟩ := passes_eq (v := 1) (m := m) (V := V) (by decide) (by omega) w r
    rw [months_1] at p1 p2
    have hst : qM_monthsUntilEviction_l13 (n + 1 + 1) m i 0 = qM_monthsUntilEviction_l13 (n + 1) m1 (i + 1) (vMonth V 0).2 := by
      conv => lhs; unfold qM_monthsUntilEviction_l13
      rw [if_pos (by omega), if_pos rfl, p1, sBnd2, wr_n (by omega) (by omega)]
    have h3 := month_0 (V := V) (c := 0)
    rw [hst]
    by_cases hp : 0 < (vMonth V 0).2
    · rw [if_pos hp]
      refine ⟨i + 1, (vMonth V 0).2, m1, ?_, Or.inr ⟨rfl, by omega, hp⟩, p3⟩
      unfold qM_monthsUntilEviction_l13
      by_cases h24 : i + 1 < 24
      · rw [if_pos h24, if_neg (by omega)]
      · rw [if_neg h24]
    · rw [if_neg hp, show (vMonth V 0).2 = 0 by omega]
      obtain ⟨a, b, m', u1, u2, u3⟩ := ih (n + 1) (N + 700) m1 (vMonth V 0).1 (i + 1) (by omega) (month_wf w) p2 (by omega) (by omega) (by omega)
      exact ⟨a, b, m', u1, u2, fun q hq => by rw [u3 q hq, p3 q hq]⟩
theorem monthsUntilEviction_ok {N : Int} (hN : N ≤ 1000000000) : OpOk N N qL_monthsUntilEviction qM_monthsUntilEviction := by
  intro μ hI
  have hB := hI.1
  have w := hB.1
  show ∃ a9 m1 x m2, qL_monthsUntilEviction μ = some (a9, m1) ∧ qM_monthsUntilEviction m1 = some (x, m2) ∧ m2 142 0 = a9 ∧ (a9 = 0 → m2 156 0 = x) ∧ Inv N m2
  unfold qL_monthsUntilEviction qT_monthsUntilEviction
  obtain ⟨m2, e1, e2, e3⟩ := copyFrom_eq (μ := μ) (h := 11) (v := 1) (Or.inr (by decide))
  obtain ⟨e9, m3, p1, p2, p3⟩ := mueC_l 24 200 N m2 (hv μ 1) 1 (by omega) w e2 (by omega) (by omega) (by omega)
  have q3 : ∀ q : Nat, (q < 11 ∨ 21 ≤ q) → m3 q = μ q := fun q hq => by rw [p3 q hq, e3 q (by omega)]
  rw [e1, sBind, p1]
  rcases p2 with ⟨h0, rfl⟩ | ⟨h0, rfl⟩
  · rw [sBndS2r, sBndTr, if_pos rfl]
    generalize hm4 : cpy (st m3 142 0 0) 143 147 62 = m4
    have z4 : m4 143 = μ 143 := by rw [← hm4, ← q3 143 (by omega)]; exact funext fun j => by rw [cpy_k (by decide), st_k (by decide)]
    have z7 : ∀ i, 0 ≤ i → i < 62 → m4 147 i = μ 143 i := fun i i0 i1 => by rw [← hm4, cpy_at ⟨i0, i1⟩, st_k (by decide), q3 143 (by omega)]
    have zq : ∀ q : Nat, q ≠ 142 → q ≠ 147 → (q < 11 ∨ 21 ≤ q) → m4 q = μ q := fun q h1 h2 h4 => by
      rw [← hm4, ← q3 q h4]; exact funext fun j => by rw [cpy_k h2, st_k h1]
    have z2 : ∀ j, j ≠ 0 → m4 142 j = μ 142 j := fun j hj => by rw [← hm4, cpy_k (by decide), st_i hj, q3 142 (by omega)]
    obtain ⟨a, b, m6, u1, u2, u3⟩ := mueM_l 24 200 N m4 (hv μ 1) 0 (by omega) w (by rw [z4]; exact hB.2) (by omega) (by omega) (by omega)
    have hb : b = 0 := by
      rcases u2 with u2 | u2
      · exact u2.2
      · have := u2.1.symm.trans h0; exact absurd this u2.2.1
    refine ⟨1, m3, 0, st (cpy m6 147 143 62) 142 0 1, rfl, ?_, st_at, fun h => absurd h (by decide), thrown_inv ?_ (Int.le_refl _)⟩
    · unfold qM_monthsUntilEviction
      rw [sBind, ahead_eq, sBind, hm4, u1, sBnd2, back_eq, sBind]
      show (if 0 < b then _ else _) = _
      rw [if_neg (by omega), fails_eq, sBnd2]
    · have cq : ∀ q : Nat, q ≠ 143 → (cpy m6 147 143 62) q = m4 q := fun q hq => by rw [← u3 q hq]; exact funext fun j => cpy_k hq
      refine hI.kept (fun q q1 q2 => by rw [cq q (by omega), zq q (by omega) (by omega) q2]) (fun q q1 q2 => by rw [cq q (by omega), zq q (by omega) (by omega) (by omega)]) (fun i i0 i1 => by rw [cpy_at ⟨i0, i1⟩, u3 147 (by decide), z7 i i0 i1]) ⟨?_, ?_, ?_, ?_⟩ ?_
      · rw [cq 144 (by decide), zq 144 (by decide) (by decide) (by omega)]
      · rw [cq 145 (by decide), zq 145 (by decide) (by decide) (by omega)]
      · rw [cq 153 (by decide), zq 153 (by decide) (by decide) (by omega)]
      · rw [cq 154 (by decide), zq 154 (by decide) (by decide) (by omega)]
      · rw [cq 142 (by decide)]
        exact ⟨z2 6 (by decide), z2 7 (by decide), z2 8 (by decide), z2 15 (by decide), z2 17 (by decide), z2 19 (by decide), z2 20 (by decide)⟩
  · rw [sBndS2l, sBndTl]
    generalize hr9 : mue 24 (hv μ 1) 1 = r at h0
    generalize hm4 : cpy (st (st m3 156 0 r) 142 0 0) 143 147 62 = m4
    have z4 : m4 143 = μ 143 := by rw [← hm4, ← q3 143 (by omega)]; exact funext fun j => by rw [cpy_k (by decide), st_k (by decide), st_k (by decide)]
    have z7 : ∀ i, 0 ≤ i → i < 62 → m4 147 i = μ 143 i := fun i i0 i1 => by rw [← hm4, cpy_at ⟨i0, i1⟩, st_k (by decide), st_k (by decide), q3 143 (by omega)]
    have zq : ∀ q : Nat, q ≠ 142 → q ≠ 147 → q ≠ 156 → (q < 11 ∨ 21 ≤ q) → m4 q = μ q := fun q h1 h2 h3 h4 => by
      rw [← hm4, ← q3 q h4]; exact funext fun j => by rw [cpy_k h2, st_k h1, st_k h3]
    have z2 : ∀ j, j ≠ 0 → m4 142 j = μ 142 j := fun j hj => by rw [← hm4, cpy_k (by decide), st_i hj, st_k (by decide), q3 142 (by omega)]
    have z0 : m4 142 0 = 0 := by rw [← hm4, cpy_k (by decide), st_at]
    have z6 : m4 156 0 = r := by rw [← hm4, cpy_k (by decide), st_k (by decide), st_at]
    obtain ⟨a, b, m6, u1, u2, u3⟩ := mueM_l 24 200 N m4 (hv μ 1) 0 (by omega) w (by rw [z4]; exact hB.2) (by omega) (by omega) (by omega)
    rw [show (0 : Int) + 1 = 1 from rfl, hr9] at u2
    obtain ⟨ha, hb⟩ : a = r ∧ 0 < b := by
      rcases u2 with u2 | u2
      · exact absurd u2.1 h0
      · exact ⟨u2.1.symm, u2.2.2⟩
    refine ⟨0, st m3 156 0 r, r, cpy m6 147 143 62, rfl, ?_, by rw [cpy_k (by decide), u3 142 (by decide), z0], fun _ => by rw [cpy_k (by decide), u3 156 (by decide), z6], ?_⟩
    · unfold qM_monthsUntilEviction
      rw [sBind, ahead_eq, sBind, hm4, u1, sBnd2, back_eq, sBind]
      show (if 0 < b then some (a, _) else _) = _
      rw [if_pos hb, ha]
    · have cq : ∀ q : Nat, q ≠ 143 → (cpy m6 147 143 62) q = m4 q := fun q hq => by rw [← u3 q hq]; exact funext fun j => cpy_k hq
      refine hI.kept (fun q q1 q2 => by rw [cq q (by omega), zq q (by omega) (by omega) (by omega) q2]) (fun q q1 q2 => by rw [cq q (by omega), zq q (by omega) (by omega) (by omega) (by omega)]) (fun i i0 i1 => by rw [cpy_at ⟨i0, i1⟩, u3 147 (by decide), z7 i i0 i1]) ⟨?_, ?_, ?_, ?_⟩ ?_
      · rw [cq 144 (by decide), zq 144 (by decide) (by decide) (by decide) (by omega)]
      · rw [cq 145 (by decide), zq 145 (by decide) (by decide) (by decide) (by omega)]
      · rw [cq 153 (by decide), zq 153 (by decide) (by decide) (by decide) (by omega)]
      · rw [cq 154 (by decide), zq 154 (by decide) (by decide) (by decide) (by omega)]
      · rw [cq 142 (by decide)]
        exact ⟨z2 6 (by decide), z2 7 (by decide), z2 8 (by decide), z2 15 (by decide), z2 17 (by decide), z2 19 (by decide), z2 20 (by decide)⟩
