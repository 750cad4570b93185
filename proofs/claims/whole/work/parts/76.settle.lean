/-! ===== B: settle, plannedFlat ===== -/
def lb (V : zM) (p : Int → Int) (i : Int) : zM := fun k j => if k = 9 ∧ 0 ≤ j ∧ j < i then p j else V k j
section VLB
variable {V : zM} {p : Int → Int} {i : Int}
theorem lb_k {k : Nat} {j : Int} (h : k ≠ 9) : lb V p i k j = V k j := by unfold lb; rw [if_neg (fun z => h z.1)]
theorem lb_at {j : Int} (h : 0 ≤ j ∧ j < i) : lb V p i 9 j = p j := by unfold lb; rw [if_pos ⟨rfl, h⟩]
theorem lb_o {j : Int} (h : ¬ (0 ≤ j ∧ j < i)) : lb V p i 9 j = V 9 j := by unfold lb; rw [if_neg (fun z => h z.2)]
theorem lb_0 : lb V p 0 = V := by
  funext k j
  unfold lb
  rw [if_neg (by omega)]
theorem st_lb (h0 : 0 ≤ i) : st (lb V p i) 9 i (p i) = lb V p (i + 1) := by
  funext k j
  unfold st lb
  by_cases hk : k = 9
  · rw [if_pos hk]
    by_cases hj : j = i
    · rw [if_pos hj, if_pos ⟨hk, by omega⟩, hj]
    · rw [if_neg hj]
      by_cases h1 : 0 ≤ j ∧ j < i
      · rw [if_pos ⟨hk, h1⟩, if_pos ⟨hk, by omega⟩]
      · rw [if_neg (fun z => h1 z.2), if_neg (fun z => h1 (by omega))]
  · rw [if_neg hk, if_neg (fun z => hk z.1), if_neg (fun z => hk z.1)]
theorem lb_same (h : V 9 i = p i) : lb V p i = lb V p (i + 1) := by
  funext k j
  unfold lb
  by_cases h1 : k = 9 ∧ 0 ≤ j ∧ j < i
  · rw [if_pos h1, if_pos ⟨h1.1, by omega⟩]
  · rw [if_neg h1]
    by_cases h2 : k = 9 ∧ 0 ≤ j ∧ j < i + 1
    · rw [if_pos h2, h2.1, show j = i by
        by_cases hj : j = i
        · exact hj
        · exact absurd ⟨h2.1, h2.2.1, by omega⟩ h1, h]
    · rw [if_neg h2]
theorem lb_wf {N : Int} (h : WF N V) (hp : Plan V p) : WF N (lb V p (V 0 3)) := by
  have n0 := h.n0
  have e : ∀ (k : Nat) (j : Int), k ≠ 9 → lb V p (V 0 3) k j = V k j := fun k j hk => lb_k hk
  refine ⟨by rw [e 0 _ (by decide)]; exact h.n0, by rw [e 0 _ (by decide)]; exact h.n6, by rw [e 0 _ (by decide)]; exact h.t0, by rw [e 0 _ (by decide)]; exact h.t6, fun j h0 h1 => ?_, fun j h0 h1 => ?_, fun i j h0 hij h1 => ?_, fun j h0 h1 => ?_, fun i j h0 hij h1 => ?_, by rw [e 0 _ (by decide)]; exact h.nx, by rw [e 0 _ (by decide)]; exact h.mo, by rw [e 0 _ (by decide)]; exact h.ev, by rw [e 0 _ (by decide)]; exact h.pd, by rw [e 0 _ (by decide)]; exact h.rc, by rw [e 0 _ (by decide)]; exact h.gn, by rw [e 0 15 (by decide), e 0 14 (by decide), e 0 16 (by decide), e 0 3 (by decide), ps_congr (w' := V 7) (fun j _ _ => e 7 j (by decide))]; exact h.sm⟩
  · rw [e 0 _ (by decide)] at h1
    rw [e 1 _ (by decide), e 2 _ (by decide)]
    exact h.fl j h0 h1
  · rw [e 0 _ (by decide)] at h1
    rw [e 3 _ (by decide), e 0 _ (by decide)]
    exact h.id j h0 h1
  · rw [e 0 _ (by decide)] at h1
    rw [e 3 _ (by decide), e 3 _ (by decide)]
    exact h.inc i j h0 hij h1
  · rw [e 0 _ (by decide)] at h1
    rw [e 4 _ (by decide), e 5 _ (by decide), e 6 _ (by decide), e 7 _ (by decide), e 8 _ (by decide), e 0 _ (by decide), lb_at ⟨h0, h1⟩]
    obtain ⟨a1, a2, a3, a4, a5, -⟩ := h.tn j h0 h1
    refine ⟨a1, a2, a3, a4, a5, ?_⟩
    rcases hp.1 j ⟨h0, h1⟩ with z | z
    · rw [z]; omega
    · have z1 := z.1.1; have z2 := z.1.2; omega
  · rw [e 0 _ (by decide)] at h1
    rw [lb_at ⟨h0, by omega⟩, lb_at ⟨by omega, h1⟩]
    exact fun z => hp.2 i j ⟨h0, by omega⟩ ⟨by omega, h1⟩ z (by omega)
end VLB
theorem liveBy_l {N : Int} {V : zM} {p : Int → Int} {h : Nat} (hh : h + 10 ≤ 113) (w : WF N V) : ∀ (k n : Nat) (m : zM) (c i : Int), i + k = V 0 3 → 0 ≤ i → k < n → 0 ≤ c → c + k ≤ 1000 → HEq6 (hv m h) (lb V p i) → (∀ t, inT V t → m 128 t = p t) →
    ∃ m', qH_liveBy_l4 h n m c i = some (c + ct (fun t => V 9 t ≠ p t) k i, m') ∧ HEq6 (hv m' h) (lb V p (V 0 3)) ∧ ∀ q : Nat, q ≠ h + 9 → m' q = m q := by
  have t6 := w.t6
  intro k
  induction k with
  | zero =>
    intro n m c i h1 h0 hn c0 c1 e hp
    obtain ⟨n, rfl⟩ : ∃ n', n = n' + 1 := ⟨n - 1, by omega⟩
    have e3 : m h 3 = V 0 3 := e.1.2.1.trans (lb_k (by decide))
    unfold qH_liveBy_l4 ct
    rw [if_neg (by omega), Int.add_zero]
    refine ⟨m, rfl, ?_, fun _ _ => rfl⟩
    rw [show V 0 3 = i by omega]; exact e
  | succ k ih =>
    intro n m c i h1 h0 hn c0 c1 e hp
    obtain ⟨n, rfl⟩ : ∃ n', n = n' + 1 := ⟨n - 1, by omega⟩
    have e3 : m h 3 = V 0 3 := e.1.2.1.trans (lb_k (by decide))
    have ci : 0 ≤ i ∧ i < 6 := by omega
    have e9 : m (h + 9) i = V 9 i := (e.tok (k := 9) (by decide) ci).trans (lb_o (by omega))
    have hpi := hp i ⟨h0, by omega⟩
    unfold qH_liveBy_l4 ct
    rw [if_pos (by omega), if_pos ci, if_pos ci, e9, hpi, wr_n (x := i + 1) (by omega) (by omega), wr_n (x := c + 1) (by omega) (by omega)]
    by_cases hs : V 9 i = p i
    · rw [if_pos hs, if_neg (fun z => z hs)]
      obtain ⟨m', u1, u2, u3⟩ := ih n m c (i + 1) (by omega) (by omega) (by omega) c0 (by omega) (by rw [← lb_same hs]; exact e) hp
      exact ⟨m', by rw [u1]; congr 2; omega, u2, u3⟩
    · rw [if_neg hs, if_pos ci, if_pos ci, if_pos hs, sBind]
      obtain ⟨m', u1, u2, u3⟩ := ih n (st m (h + 9) i (p i)) (c + 1) (i + 1) (by omega) (by omega) (by omega) (by omega) (by omega) (by rw [hv_st, ← st_lb h0]; exact e.upd) (fun t ht => by rw [st_k (by omega)]; exact hp t ht)
      exact ⟨m', by rw [u1]; congr 2; omega, u2, fun q hq => by rw [u3 q hq]; exact funext fun j => st_k hq⟩
theorem liveBy_eq {N : Int} {V m : zM} {p : Int → Int} {h : Nat} (hh : h + 10 ≤ 113) (w : WF N V) (e : HEq6 (hv m h) V) (hp : ∀ t, inT V t → m 128 t = p t) : ∃ m', qH_liveBy m h = some (ct (fun t => V 9 t ≠ p t) (V 0 3).toNat 0, m') ∧ HEq6 (hv m' h) (lb V p (V 0 3)) ∧ ∀ q : Nat, q ≠ h + 9 → m' q = m q := by
  have t0 := w.t0
  have t6 := w.t6
  unfold qH_liveBy
  obtain ⟨m', u1, u2, u3⟩ := liveBy_l hh w (V 0 3).toNat 200 m 0 0 (by omega) (by omega) (by omega) (by omega) (by omega) (by rw [lb_0]; exact e) hp
  rw [u1, sBnd2, Int.zero_add]
  exact ⟨m', rfl, u2, u3⟩
theorem settles_l {N : Int} {V : zM} {p : Int → Int} (w : WF N V) (pl : Plan V p) : ∀ (k n : Nat) (m : zM) (c i : Int), i + k = V 0 3 → 0 ≤ i → k < n → 0 ≤ c → c + k ≤ 1000 → RowIs (m 143) (lb V p i) → (∀ t, inT V t → m 148 t = p t) →
    ∃ m', qM_settles_l8 n m c i = some (c + ct (fun t => V 9 t ≠ p t) k i, m') ∧ RowIs (m' 143) (lb V p (V 0 3)) ∧ ∀ q : Nat, q ≠ 143 → m' q = m q := by
  have t6 := w.t6
  have n0 := w.n0
  have n6 := w.n6
  intro k
  induction k with
  | zero =>
    intro n m c i h1 h0 hn c0 c1 r hp
    obtain ⟨n, rfl⟩ : ∃ n', n = n' + 1 := ⟨n - 1, by omega⟩
    have rt : m 143 1 = V 0 3 := r.t.trans (lb_k (by decide))
    unfold qM_settles_l8 ct
    rw [if_neg (by omega), Int.add_zero]
    refine ⟨m, rfl, ?_, fun _ _ => rfl⟩
    rw [show V 0 3 = i by omega]; exact r
  | succ k ih =>
    intro n m c i h1 h0 hn c0 c1 r hp
    obtain ⟨n, rfl⟩ : ∃ n', n = n' + 1 := ⟨n - 1, by omega⟩
    have rt : m 143 1 = V 0 3 := r.t.trans (lb_k (by decide))
    have ci : 0 ≤ i ∧ i < 6 := by omega
    have r6 : m 143 (26 + 7 * i) = V 9 i + 1 := by
      rw [(r.tn i h0 (by rw [lb_k (by decide)]; omega)).2.2.2.2.2.2, lb_o (by omega)]
    have hpi := hp i ⟨h0, by omega⟩
    have hb : -1 ≤ p i ∧ p i < V 0 0 := by
      rcases pl.1 i ⟨h0, by omega⟩ with z | z
      · omega
      · have z1 := z.1.1; have z2 := z.1.2; omega
    unfold qM_settles_l8 qM_settles_j42 ct
    rw [if_pos (by omega), of_eq ci (by decide), sBind, if_pos ci, show 20 + 7 * i + 6 = 26 + 7 * i by omega, r6, hpi, wr_n (x := p i + 1) (by omega) (by omega), if_pos ci, puts_eq ci (by decide), sBind, show 20 + 7 * i + 6 = 26 + 7 * i by omega, wr_n (x := i + 1) (by omega) (by omega), wr_n (x := c + 0) (by omega) (by omega), if_pos ci, sBind, wr_n (x := c + 1) (by omega) (by omega)]
    have r9 : RowIs ((st m 143 (26 + 7 * i) (p i + 1)) 143) (lb V p (i + 1)) := by
      rw [← st_lb h0]
      exact home_row r (by rw [lb_k (by decide)]; exact n6) h0 st_at (fun q hq => st_i hq)
    have hp9 : ∀ t, inT V t → st m 143 (26 + 7 * i) (p i + 1) 148 t = p t := fun t ht => by rw [st_k (by decide)]; exact hp t ht
    by_cases hs : V 9 i = p i
    · rw [if_pos (by omega), if_neg (fun z => z hs)]
      obtain ⟨m', u1, u2, u3⟩ := ih n _ (c + 0) (i + 1) (by omega) (by omega) (by omega) (by omega) (by omega) r9 hp9
      exact ⟨m', by rw [u1]; congr 2; omega, u2, fun q hq => by rw [u3 q hq]; exact funext fun j => st_k hq⟩
    · rw [if_neg (by omega), if_pos hs]
      obtain ⟨m', u1, u2, u3⟩ := ih n _ (c + 1) (i + 1) (by omega) (by omega) (by omega) (by omega) (by omega) r9 hp9
      exact ⟨m', by rw [u1]; congr 2; omega, u2, fun q hq => by rw [u3 q hq]; exact funext fun j => st_k hq⟩
theorem settles_eq {N : Int} {V m : zM} {p : Int → Int} (w : WF N V) (r : RowIs (m 143) V) (hp : Stb V p) : ∃ m', qM_settles m = some (ct (fun t => V 9 t ≠ p t) (V 0 3).toNat 0, m') ∧ RowIs (m' 143) (lb V p (V 0 3)) ∧ ∀ q : Nat, q ≠ 143 → q ≠ 148 → q ≠ 149 → m' q = m q := by
  have t0 := w.t0
  have t6 := w.t6
  unfold qM_settles
  obtain ⟨m1, p1, p2, p3⟩ := findsPlan_eq w r
  obtain ⟨m', u1, u2, u3⟩ := settles_l w hp.1 (V 0 3).toNat 200 m1 0 0 (by omega) (by omega) (by omega) (by omega) (by omega) (by rw [lb_0, p3 143 (by decide) (by decide)]; exact r) (fun t ht => stb_eq w p2 hp ht)
  rw [p1, sBind, u1, sBnd2, Int.zero_add]
  exact ⟨m', rfl, u2, fun q q1 q2 q3 => by rw [u3 q q1, p3 q q2 q3]⟩
/-- as change_both2, for a turn that throws nothing and is answered at once -/
theorem change_do {N N' : Int} {μ V' : zM} {r : Int} (chg chgM : zM → Option (Int × zM)) (hI : Inv N μ) (hN : N ≤ N')
    (hc : ∀ m1 : zM, (∀ q : Nat, q < 31 → m1 q = μ q) → ∃ m2, chg m1 = some (r, m2) ∧ (∀ q : Nat, (q < 1 ∨ 11 ≤ q) → (q < 113 ∨ 136 ≤ q) → m2 q = m1 q) ∧ HEq6 (hv m2 1) V')
    (hm : ∀ m5 : zM, m5 143 = μ 143 → ∃ m6, chgM m5 = some (r, m6) ∧ (∀ q : Nat, q ≠ 143 → q ≠ 142 → (q < 146 ∨ 153 ≤ q) → m6 q = m5 q) ∧ (∀ j, j = 0 ∨ j = 6 ∨ j = 7 ∨ j = 8 ∨ j = 15 ∨ j = 17 ∨ j = 19 ∨ j = 20 → m6 142 j = m5 142 j) ∧ RowIs (m6 143) V')
    (hw : WF N' V') :
    ∃ m1 m2, qY_push μ 1 = some m1 ∧ (∀ q : Nat, q < 31 → m1 q = μ q) ∧ chg m1 = some (r, m2) ∧ ∀ m3, st m2 142 0 0 = m3 → m3 143 = μ 143 ∧ m3 142 0 = 0 ∧ ∃ m5 m6, qM_remembers m3 = some m5 ∧ m5 143 = μ 143 ∧ chgM m5 = some (r, m6) ∧ m6 142 0 = 0 ∧ Inv N' m6 := by
  have hR := hI.2.1
  obtain ⟨m1, e1, c1, c2, c3, c4⟩ := push_eq (μ := μ) hR.1 hR.2.1
  have g1 : ∀ q : Nat, q < 31 → m1 q = μ q := fun q hq => c4 q (by omega) (Or.inl (by omega))
  obtain ⟨m2, e2, f2, v2⟩ := hc m1 g1
  refine ⟨m1, m2, e1, g1, e2, fun m3 hm3 => ?_⟩
  have a1 : ∀ q : Nat, (q < 1 ∨ 11 ≤ q) → (q < 113 ∨ 136 ≤ q) → q ≠ 142 → q ≠ 156 → m3 q = m1 q := fun q h1 h4 h2 h3 => by
    rw [← hm3, ← f2 q h1 h4]
    exact funext fun j => st_k h2
  have a2 : ∀ j, j ≠ 0 → m3 142 j = m1 142 j := fun j hj => by
    rw [← hm3, st_i hj, f2 142 (by omega) (by omega)]
  have a3 : HEq6 (hv m3 1) V' := by
    rw [← hm3]
    exact HEq6.trans (HEq6.of_same fun q q1 q2 => funext fun j => st_k (by omega)) v2
  have k143 : m3 143 = μ 143 := by rw [a1 143 (by omega) (by omega) (by decide) (by decide), c4 143 (by decide) (Or.inr (by omega))]
  have k142 : ∀ j, j ≠ 0 → m3 142 j = μ 142 j := fun j hj => by rw [a2 j hj, c4 142 (by decide) (Or.inr (by omega))]
  have k0 : m3 142 0 = 0 := by rw [← hm3, st_at]
  obtain ⟨m5, e5, d1, d2, d5, d3, d4, d6⟩ := remembers_eq (μ := m3) (by rw [k142 7 (by decide)]; exact hR.2.2.1) (by rw [k142 6 (by decide), hR.2.2.2.1]; exact hR.2.1)
  have l143 : m5 143 = μ 143 := by rw [d6 143 (by decide) (by decide) (by decide), k143]
  obtain ⟨m6, e6, b1, b2, b3⟩ := hm m5 l143
  refine ⟨k143, k0, m5, m6, e5, l143, e6, ?_, ?_⟩
  · rw [b2 0 (by omega), d5 0 (by decide) (by decide), k0]
  · refine change_inv2 hI hN c1 c2 c3 c4 a1 a2 d1 d2 d5 d3 d4 d6 b1 (fun j hj => b2 j (by omega)) ?_
    have a4 : HEq6 (hv m6 1) V' := HEq6.trans (HEq6.of_same fun q q1 q2 => by rw [b1 q (by omega) (by omega) (by omega), d6 q (by omega) (by omega) (by omega)]) a3
    exact ⟨a4.wf hw, a4.row b3 hw.n6 hw.t6⟩
theorem settle_ok {N : Int} : DoOk N N qT_settle qM_settle := by
  intro μ hI
  have hB := hI.1
  have w := hB.1
  obtain ⟨m0, -, hst, -⟩ := planByAsking_eq (h := 1) (μ := μ) (V := hv μ 1) (by decide) w (HEq6.of_same fun _ _ _ => rfl)
  generalize hpp : m0 128 = p at hst
  obtain ⟨m1, m2, e1, g1, e2, k⟩ := change_do (N' := N) (μ := μ) (r := ct (fun t => hv μ 1 9 t ≠ p t) (μ 1 3).toNat 0) (V' := lb (hv μ 1) p (μ 1 3)) (fun m => Option.bind (qP_planByAsking m 1) fun m2 => qH_liveBy m2 1) (fun m => qM_settles m) hI (Int.le_refl _)
    (fun m1 g1 => by
      have e : HEq6 (hv m1 1) (hv μ 1) := HEq6.of_same fun q q1 q2 => g1 q (by omega)
      obtain ⟨m2, p1, p2, p3⟩ := planByAsking_eq (h := 1) (μ := m1) (V := hv μ 1) (by decide) w e
      obtain ⟨m3, u1, u2, u3⟩ := liveBy_eq (h := 1) (m := m2) (V := hv μ 1) (p := p) (by decide) w (HEq6.trans (HEq6.of_same fun q q1 q2 => p3 q (by omega)) e) (fun t ht => stb_eq w p2 hst ht)
      refine ⟨m3, ?_, fun q hq hq2 => by rw [u3 q (by omega), p3 q (by omega)], u2⟩
      show Option.bind (qP_planByAsking m1 1) (fun m2 => qH_liveBy m2 1) = _
      rw [p1, sBind, u1]
      rfl)
    (fun m5 l5 => by
      obtain ⟨m6, p1, p2, p3⟩ := settles_eq (m := m5) (V := hv μ 1) (p := p) w (by rw [l5]; exact hB.2) hst
      exact ⟨m6, p1, fun q q1 q2 q3 => p3 q q1 (by omega) (by omega), fun j _ => by rw [p3 142 (by decide) (by decide) (by decide)], p2⟩)
    (lb_wf w hst.1)
  have e2' : Option.bind (qP_planByAsking m1 1) (fun m2 => qH_liveBy m2 1) = some (ct (fun t => hv μ 1 9 t ≠ p t) (μ 1 3).toNat 0, m2) := e2
  obtain ⟨mp, p1, -, -⟩ := planByAsking_eq (h := 1) (μ := m1) (V := hv μ 1) (by decide) w (HEq6.of_same fun q q1 q2 => g1 q (by omega))
  rw [p1, sBind] at e2'
  obtain ⟨k143, k0, m5, m6, e5, l143, e6, z0, z2⟩ := k _ rfl
  refine ⟨ct (fun t => hv μ 1 9 t ≠ p t) (μ 1 3).toNat 0, m2, m6, ?_, ?_, z2⟩
  · unfold qT_settle
    rw [e1, sBind, p1, sBind, e2', sBnd2]
  · unfold qM_settle
    rw [sBind, e5, sBind, show qM_settles m5 = some (ct (fun t => hv μ 1 9 t ≠ p t) (μ 1 3).toNat 0, m6) from e6, sBnd2]
/-- a memory in which the planner's objects, the model's plan and what was thrown are others -/
theorem Inv.plan {N : Int} {μ m : zM} (h : Inv N μ) (hq : ∀ q : Nat, (q < 113 ∨ 136 ≤ q) → q ≠ 142 → q ≠ 148 → q ≠ 149 → q ≠ 156 → m q = μ q) (h142 : ∀ j, j ≠ 0 → m 142 j = μ 142 j) : Inv N m :=
  h.same (fun q h1 => hq q (by omega) (by omega) (by omega) (by omega) (by omega)) (fun q h1 h2 => hq q (by omega) (by omega) (by omega) (by omega) (by omega)) ⟨hq 143 (by omega) (by omega) (by omega) (by omega) (by omega), hq 144 (by omega) (by omega) (by omega) (by omega) (by omega), hq 145 (by omega) (by omega) (by omega) (by omega) (by omega), hq 153 (by omega) (by omega) (by omega) (by omega) (by omega), hq 154 (by omega) (by omega) (by omega) (by omega) (by omega)⟩ ⟨h142 6 (by decide), h142 7 (by decide), h142 8 (by decide), h142 15 (by decide), h142 17 (by decide), h142 19 (by decide), h142 20 (by decide)⟩
theorem planned_gen {N : Int} {v : Int} {C M : zM → Option (Int × zM)} {T : zM → Option zM} {o : Nat} (ho : o = 128 ∨ o = 131)
    (hT : ∀ (μ V : zM), WF N V → HEq6 (hv μ 1) V → ∃ m, T μ = some m ∧ Stb V (m o) ∧ ∀ q : Nat, (q < 113 ∨ 136 ≤ q) → m q = μ q)
    (hC : ∀ μ, C μ = bndT (tcall (qT_presentSlot μ v) fun a1 m1 => Option.bind (T m1) fun m2 => if 0 ≤ a1 ∧ a1 < 6 then tcall (qT_requireGiven m2 (m2 o a1)) fun a3 m3 => some (.inl a3, m3) else none) (fun x m => some (0, st m 156 0 x)) (fun (e : Nat) m => if e = 0 then some (1, m) else none))
    (hM : ∀ m, M m = qM_plannedFlat m v) : OpOk N N C M := by
  intro μ hI
  have hB := hI.1
  have w := hB.1
  have t0 : 0 ≤ μ 1 3 := w.t0
  have t6 : μ 1 3 ≤ 6 := w.t6
  have k9 : ∀ (m : zM) (x : Int), (st m 142 0 x) 143 = m 143 := fun m x => funext fun j => st_k (by decide)
  have hs := fi_spec (w := μ (1 + 3)) (v := v) (μ 1 3).toNat 0 (by omega)
  have hp : ∀ m : zM, m 143 = μ 143 → qM_place m v = some (fi (μ (1 + 3)) v (μ 1 3).toNat 0) := fun m hm => place_eq (V := hv μ 1) (by rw [hm]; exact hB.2) t0 t6
  rw [hC]
  unfold qT_presentSlot
  rw [slotOf_eq t0 t6, sBind]
  generalize fi (μ (1 + 3)) v (μ 1 3).toNat 0 = s at hs hp
  by_cases hf : s = -1
  · rw [if_pos hf, sTcr, sBndTr, if_pos rfl]
    refine ⟨1, μ, 0, st (st μ 142 0 0) 142 0 1, rfl, ?_, st_at, fun h => absurd h (by decide), thrown_inv (thrown_inv hI (Int.le_refl N)) (Int.le_refl N)⟩
    rw [hM]
    unfold qM_plannedFlat
    rw [sBind, hp _ (k9 _ _), sBind, if_pos (show s < 0 by omega), fails_eq, sBnd2]
  have s0 : 0 ≤ s ∧ s < μ 1 3 := by omega
  have is : inT (hv μ 1) s := s0
  obtain ⟨m1, p1, p2, p3⟩ := hT μ (hv μ 1) w (HEq6.of_same fun _ _ _ => rfl)
  have m143 : m1 143 = μ 143 := p3 143 (by omega)
  rw [if_neg hf, sTcl, p1, sBind, if_pos (show 0 ≤ s ∧ s < 6 by omega)]
  unfold qT_requireGiven
  have hpl := p2.1.1 s is
  by_cases hg : m1 o s = -1
  · rw [if_pos hg, sTcr, sBndTr, if_pos rfl]
    obtain ⟨m4, u1, u2, u3⟩ := findsPlan_eq (V := hv μ 1) (μ := st m1 142 0 0) w (by rw [k9, m143]; exact hB.2)
    have hs4 : m4 148 s = -1 := (stb_eq w u2 p2 is).trans hg
    have x143 : m4 143 = μ 143 := by rw [u3 143 (by decide) (by decide), k9, m143]
    refine ⟨1, m1, 0, st m4 142 0 1, rfl, ?_, st_at, fun h => absurd h (by decide), hI.plan (fun q q1 q2 q3 q4 q5 => ?_) (fun j hj => ?_)⟩
    · rw [hM]
      unfold qM_plannedFlat
      rw [sBind, hp _ (by rw [k9, m143]), sBind, if_neg (show ¬ s < 0 by omega), u1, sBind, hp _ x143, sBind, if_pos (show 0 ≤ s ∧ s < 6 by omega), hs4, if_pos (by decide), fails_eq, sBnd2]
    · rw [← p3 q q1, show m1 q = m4 q by rw [u3 q q3 q4]; exact (funext fun j => st_k q2).symm]; exact funext fun j => st_k q2
    · rw [st_i hj, u3 142 (by decide) (by decide), st_i hj, p3 142 (by omega)]
  · have hg2 := hpl.resolve_left hg
    have hg3 := hg2.1.1
    rw [if_neg hg, sTcl, sBndTl]
    obtain ⟨m4, u1, u2, u3⟩ := findsPlan_eq (V := hv μ 1) (μ := st (st m1 156 0 (m1 o s)) 142 0 0) w (by rw [k9, show (st m1 156 0 (m1 o s)) 143 = m1 143 from funext fun j => st_k (by decide), m143]; exact hB.2)
    have hs4 : m4 148 s = m1 o s := stb_eq w u2 p2 is
    have y143 : (st (st m1 156 0 (m1 o s)) 142 0 0) 143 = μ 143 := by rw [k9, show (st m1 156 0 (m1 o s)) 143 = m1 143 from funext fun j => st_k (by decide), m143]
    have x143 : m4 143 = μ 143 := by rw [u3 143 (by decide) (by decide), y143]
    refine ⟨0, st m1 156 0 (m1 o s), m1 o s, m4, rfl, ?_, by rw [u3 142 (by decide) (by decide), st_at], fun _ => by rw [u3 156 (by decide) (by decide), st_k (by decide), st_at], hI.plan (fun q q1 q2 q3 q4 q5 => ?_) (fun j hj => ?_)⟩
    · rw [hM]
      unfold qM_plannedFlat
      rw [sBind, hp _ y143, sBind, if_neg (show ¬ s < 0 by omega), u1, sBind, hp _ x143, sBind, if_pos (show 0 ≤ s ∧ s < 6 by omega), hs4, if_neg (by omega), sBind, if_pos (show 0 ≤ s ∧ s < 6 by omega), hs4]
    · rw [u3 q q3 q4, ← p3 q q1]; exact funext fun j => by rw [st_k q2, st_k q5]
    · rw [u3 142 (by decide) (by decide), st_i hj, st_k (by decide), p3 142 (by omega)]
theorem plannedFlat_ok {N : Int} {v : Int} : OpOk N N (fun μ => qL_plannedFlat μ v) (fun μ => qM_plannedFlat μ v) :=
  planned_gen (T := fun μ => qP_planByAsking μ 1) (o := 128) (v := v) (Or.inl rfl) (fun μ V w e => by
    obtain ⟨m, p1, p2, p3⟩ := planByAsking_eq (h := 1) (by decide) w e
    exact ⟨m, p1, p2, fun q hq => p3 q (by omega)⟩) (fun _ => rfl) (fun _ => rfl)
