/-! ===== B: leaving a flat, on both sides ===== -/
theorem leaveC_l {N : Int} {h : Nat} {x : Int} : ∀ (k n : Nat) (μ : zM) (f c : Int), WF N (hv μ h) → Free (hv μ h) f → c + k = 36 → 0 ≤ c → k < n →
    ∃ e9 m, qH_leaveHome_l23 h x n μ f c = some (e9, m) ∧ (e9 = .inl (chn x k (hv μ h) f c).2 ∨ e9 = .inr (chn x k (hv μ h) f c).2) ∧ hv m h = (chn x k (hv μ h) f c).1 ∧ ∀ q : Nat, q ≠ h + 9 → m q = μ q := by
  intro k
  induction k with
  | zero =>
    intro n μ f c w hf hk h0 hn
    obtain ⟨n, rfl⟩ : ∃ n', n = n' + 1 := ⟨n - 1, by omega⟩
    unfold qH_leaveHome_l23
    refine ⟨.inr c, μ, ?_, Or.inr rfl, rfl, fun _ _ => rfl⟩
    by_cases h1 : f = -1
    · rw [if_pos h1]
    · rw [if_neg h1, if_neg (by omega)]
  | succ k ih =>
    intro n μ f c w hf hk h0 hn
    obtain ⟨n, rfl⟩ : ∃ n', n = n' + 1 := ⟨n - 1, by omega⟩
    have t6 : μ h 3 ≤ 6 := w.t6
    unfold qH_leaveHome_l23 chn
    by_cases h1 : f = -1
    · rw [if_pos h1, if_pos h1]
      exact ⟨.inr c, μ, rfl, Or.inr rfl, rfl, fun _ _ => rfl⟩
    rw [if_neg h1, if_neg h1, if_pos (by omega)]
    have h2 := hf.resolve_left h1
    rw [candidateFor_eq w h2.1, sBind]
    by_cases hc : cand (hv μ h) f x = -1
    · rw [if_pos hc, if_pos hc]
      exact ⟨.inl c, μ, rfl, Or.inl rfl, rfl, fun _ _ => rfl⟩
    rw [if_neg hc, if_neg hc]
    have hs := (cand_spec (V := hv μ h) (f := f) (x := x) w.t0).resolve_left hc
    have hs2 : cand (hv μ h) f x < μ h 3 := hs.2.1
    generalize hcc : cand (hv μ h) f x = a at hs hs2
    rw [if_pos (by omega), if_pos (by omega), sBind, wr_n (by omega) (by omega)]
    have hv9 : hv (st μ (h + 9) a f) h = st (hv μ h) 9 a f := hv_st
    obtain ⟨e9, m, p1, p2, p3, p4⟩ := ih n (st μ (h + 9) a f) (μ (h + 9) a) (c + 1) (by rw [hv9]; exact home_wf w ⟨by omega, h2.1.2⟩ (fun j j0 j1 _ z => absurd z (h2.2 j j0 j1))) (by rw [hv9]; exact free_step w hf h1 ⟨hs.1, hs.2.1⟩) (by omega) (by omega) (by omega)
    rw [hv9] at p2 p3
    exact ⟨e9, m, p1, p2, p3, fun q hq => by rw [p4 q hq]; exact funext fun j => st_k hq⟩
theorem leaveM_l {N : Int} {x : Int} : ∀ (k n : Nat) (m : zM) (V : zM) (f c : Int), WF N V → RowIs (m 143) V → Free V f → pot V x ≤ k → 0 ≤ c → c + k ≤ 36 → k < n →
    ∃ e9 m', qM_leaves_l27 x n m f c = some (e9, m') ∧ (e9 = .inl (chn x k V f c).2 ∨ e9 = .inr (chn x k V f c).2) ∧ RowIs (m' 143) (chn x k V f c).1 ∧ ∀ q : Nat, q ≠ 143 → m' q = m q := by
  intro k
  induction k with
  | zero =>
    intro n m V f c w r hf hp h0 hk hn
    obtain ⟨n, rfl⟩ : ∃ n', n = n' + 1 := ⟨n - 1, by omega⟩
    unfold qM_leaves_l27
    by_cases h1 : f = -1
    · rw [if_pos (by omega)]
      exact ⟨.inr c, m, rfl, Or.inr rfl, r, fun _ _ => rfl⟩
    have h2 := hf.resolve_left h1
    rw [if_neg (by omega), candidate_eq w r h2.1, sBind]
    rcases cand_spec (V := V) (f := f) (x := x) w.t0 with hc | hc
    · rw [if_pos (by omega)]
      exact ⟨.inl c, m, rfl, Or.inl rfl, r, fun _ _ => rfl⟩
    · have s1 := pot_step ⟨hc.1, hc.2.1⟩ hc.2.2 h2.1
      have s2 := pot_nn (V := st V 9 (cand V f x) f) (x := x)
      omega
  | succ k ih =>
    intro n m V f c w r hf hp h0 hk hn
    obtain ⟨n, rfl⟩ : ∃ n', n = n' + 1 := ⟨n - 1, by omega⟩
    have t6 := w.t6
    have n6 := w.n6
    unfold qM_leaves_l27 chn
    by_cases h1 : f = -1
    · rw [if_pos (by omega), if_pos h1]
      exact ⟨.inr c, m, rfl, Or.inr rfl, r, fun _ _ => rfl⟩
    have h2 := hf.resolve_left h1
    rw [if_neg (show ¬ f < 0 by omega), if_neg h1, candidate_eq w r h2.1, sBind]
    by_cases hc : cand V f x = -1
    · rw [if_pos (by omega), if_pos hc]
      exact ⟨.inl c, m, rfl, Or.inl rfl, r, fun _ _ => rfl⟩
    have hs := (cand_spec (V := V) (f := f) (x := x) w.t0).resolve_left hc
    rw [if_neg (by omega), if_neg hc]
    generalize hcc : cand V f x = a at hs
    have hm := (w.tn a hs.1 hs.2.1).2.2.2.2.2
    have rm := (r.tn a hs.1 hs.2.1).2.2.2.2.2.2
    rw [of_eq (by omega) (by decide), sBind, show 20 + 7 * a + 6 = 26 + 7 * a by omega, rm, wr_n (x := f + 1) (by omega) (by omega), puts_eq (by omega) (by decide), sBind, show 20 + 7 * a + 6 = 26 + 7 * a by omega, wr_n (by omega) (by omega), wr_n (by omega) (by omega), show V 9 a + 1 - 1 = V 9 a by omega]
    have p9 := pot_step ⟨hs.1, hs.2.1⟩ hs.2.2 h2.1
    obtain ⟨e9, m', p1, p2, p3, p4⟩ := ih n (st m 143 (26 + 7 * a) (f + 1)) (st V 9 a f) (V 9 a) (c + 1) (home_wf w ⟨by omega, h2.1.2⟩ (fun j j0 j1 _ z => absurd z (h2.2 j j0 j1))) (home_row r n6 hs.1 st_at (fun i hi => st_i hi)) (free_step w hf h1 ⟨hs.1, hs.2.1⟩) (by omega) (by omega) (by omega) (by omega)
    exact ⟨e9, m', p1, p2, p3, fun q hq => by rw [p4 q hq]; exact funext fun j => st_k hq⟩
section VNO
variable {V : zM} {s v : Int}
theorem notice_wf {N : Int} (h : WF N V) (hv9 : 0 ≤ v ∧ v ≤ 1) : WF N (st V 8 s v) := by
  have e : ∀ (k : Nat) (j : Int), k ≠ 8 → st V 8 s v k j = V k j := fun k j hk => st_k hk
  refine ⟨by rw [e 0 _ (by decide)]; exact h.n0, by rw [e 0 _ (by decide)]; exact h.n6, by rw [e 0 _ (by decide)]; exact h.t0, by rw [e 0 _ (by decide)]; exact h.t6, fun j h0 h1 => ?_, fun j h0 h1 => ?_, fun i j h0 hij h1 => ?_, fun j h0 h1 => ?_, fun i j h0 hij h1 => ?_, by rw [e 0 _ (by decide)]; exact h.nx, by rw [e 0 _ (by decide)]; exact h.mo, by rw [e 0 _ (by decide)]; exact h.ev, by rw [e 0 _ (by decide)]; exact h.pd, by rw [e 0 _ (by decide)]; exact h.rc, by rw [e 0 _ (by decide)]; exact h.gn, by rw [e 0 _ (by decide), e 0 _ (by decide), e 0 _ (by decide), e 0 _ (by decide), ps_congr (w' := V 7) (fun j _ _ => e 7 j (by decide))]; exact h.sm⟩
  · rw [e 0 _ (by decide)] at h1
    rw [e 1 _ (by decide), e 2 _ (by decide)]
    exact h.fl j h0 h1
  · rw [e 0 _ (by decide)] at h1
    rw [e 3 _ (by decide), e 0 _ (by decide)]
    exact h.id j h0 h1
  · rw [e 0 _ (by decide)] at h1
    rw [e 3 _ (by decide), e 3 _ (by decide)]
    exact h.inc i j h0 hij h1
  · rw [e 0 _ (by decide)] at h1
    rw [e 4 _ (by decide), e 5 _ (by decide), e 6 _ (by decide), e 7 _ (by decide), e 9 _ (by decide), e 0 _ (by decide)]
    obtain ⟨a1, a2, a3, a4, a5, a6⟩ := h.tn j h0 h1
    by_cases hj : j = s
    · rw [hj, st_at]; rw [hj] at a1 a2 a3 a4 a6; exact ⟨a1, a2, a3, a4, hv9, a6⟩
    · rw [st_i hj]; exact ⟨a1, a2, a3, a4, a5, a6⟩
  · rw [e 0 _ (by decide)] at h1
    rw [e 9 _ (by decide), e 9 _ (by decide)]
    exact h.hm i j h0 hij h1
theorem notice_row {w w' : Int → Int} (h : RowIs w V) (n6 : V 0 0 ≤ 6) (hs : 0 ≤ s) (w1 : w' (25 + 7 * s) = v) (wo : ∀ i, i ≠ 25 + 7 * s → w' i = w i) : RowIs w' (st V 8 s v) := by
  have e : ∀ (k : Nat) (j : Int), k ≠ 8 → st V 8 s v k j = V k j := fun k j hk => st_k hk
  refine ⟨by rw [e 0 _ (by decide), wo 0 (by omega)]; exact h.n, by rw [e 0 _ (by decide), wo 1 (by omega)]; exact h.t, by rw [e 0 _ (by decide), wo 2 (by omega)]; exact h.nx, by rw [e 0 _ (by decide), wo 3 (by omega)]; exact h.mo, by rw [e 0 _ (by decide), wo 4 (by omega)]; exact h.ev, by rw [e 0 _ (by decide), wo 5 (by omega)]; exact h.pd, by rw [e 0 _ (by decide), wo 6 (by omega)]; exact h.gn, by rw [e 0 _ (by decide), wo 7 (by omega)]; exact h.rc, fun j h0 h1 => ?_, fun j h0 h1 => ?_⟩
  · rw [e 0 _ (by decide)] at h1
    rw [e 1 _ (by decide), e 2 _ (by decide), wo (8 + 2 * j) (by omega), wo (9 + 2 * j) (by omega)]
    exact h.fl j h0 h1
  · rw [e 0 _ (by decide)] at h1
    rw [e 3 _ (by decide), e 4 _ (by decide), e 5 _ (by decide), e 6 _ (by decide), e 7 _ (by decide), e 9 _ (by decide)]
    rw [wo (20 + 7 * j) (by omega), wo (21 + 7 * j) (by omega), wo (22 + 7 * j) (by omega), wo (23 + 7 * j) (by omega), wo (24 + 7 * j) (by omega), wo (26 + 7 * j) (by omega)]
    obtain ⟨a1, a2, a3, a4, a5, a6, a7⟩ := h.tn j h0 h1
    by_cases hj : j = s
    · rw [hj, st_at]; rw [hj] at a1 a2 a3 a4 a5 a7; exact ⟨a1, a2, a3, a4, a5, w1, a7⟩
    · rw [st_i hj, wo (25 + 7 * j) (by omega)]; exact ⟨a1, a2, a3, a4, a5, a6, a7⟩
end VNO
/-- a tenant has left: the view, and the chain's length -/
def vLeave (V : zM) (x : Int) : zM × Int := chn x 36 (st (st V 9 x (-1)) 8 x 0) (V 9 x) 0
section VLV
variable {V : zM} {x : Int}
theorem left_wf {N : Int} (w : WF N V) (hx : 0 ≤ x ∧ x < V 0 3) : WF N (st (st V 9 x (-1)) 8 x 0) ∧ Free (st (st V 9 x (-1)) 8 x 0) (V 9 x) := by
  have n0 := w.n0
  refine ⟨notice_wf (home_wf w ⟨by omega, by omega⟩ (fun _ _ _ _ _ => rfl)) (by decide), ?_⟩
  have hm := (w.tn x hx.1 hx.2).2.2.2.2.2
  by_cases h9 : V 9 x = -1
  · exact Or.inl h9
  · refine Or.inr ⟨⟨by omega, by rw [st_k (by decide), st_k (by decide)]; exact hm.2⟩, fun j j0 j1 => ?_⟩
    rw [st_k (by decide), st_k (by decide)] at j1
    rw [st_k (by decide)]
    by_cases hj : j = x
    · rw [hj, st_at]; exact fun z => h9 z.symm
    · rw [st_i hj]
      intro z
      by_cases hl : j < x
      · exact h9 (z ▸ w.hm j x j0 hl hx.2 z)
      · exact h9 (w.hm x j hx.1 (by omega) j1 z.symm)
theorem leave_wf {N : Int} (w : WF N V) (hx : 0 ≤ x ∧ x < V 0 3) : WF N (vLeave V x).1 := chn_wf 36 (left_wf w hx).1 (left_wf w hx).2
theorem leave_k {q : Nat} {j : Int} (h8 : q ≠ 8) (h9 : q ≠ 9) : (vLeave V x).1 q j = V q j := by
  unfold vLeave
  rw [chn_k 36 h9, st_k h8, st_k h9]
theorem leave_n : 0 ≤ (vLeave V x).2 ∧ (vLeave V x).2 ≤ 36 := by
  have := chn_n (x := x) 36 (V := st (st V 9 x (-1)) 8 x 0) (f := V 9 x) (n := 0)
  unfold vLeave
  omega
end VLV
theorem leaveHome_gen {N : Int} {μ V : zM} {h : Nat} {x : Int} (w : WF N V) (hx : 0 ≤ x ∧ x < V 0 3) (h6 : V 0 3 ≤ 6) (h9 : μ (h + 9) x = V 9 x) (he : st (st (hv μ h) 9 x (-1)) 8 x 0 = st (st V 9 x (-1)) 8 x 0) : ∃ m, qH_leaveHome μ h x = some ((vLeave V x).2, m) ∧ hv m h = (vLeave V x).1 ∧ ∀ q : Nat, q ≠ h + 8 → q ≠ h + 9 → m q = μ q := by
  unfold qH_leaveHome
  have c : 0 ≤ x ∧ x < 6 := by omega
  rw [if_pos c, if_pos c, sBind, if_pos c, sBind]
  have e9 : hv (st (st μ (h + 9) x (-1)) (h + 8) x 0) h = st (st V 9 x (-1)) 8 x 0 := by rw [hv_st, hv_st]; exact he
  have l := left_wf w hx
  obtain ⟨e1, m, p1, p2, p3, p4⟩ := leaveC_l (N := N) (h := h) (x := x) 36 200 (st (st μ (h + 9) x (-1)) (h + 8) x 0) (V 9 x) 0 (by rw [e9]; exact l.1) (by rw [e9]; exact l.2) (by omega) (by omega) (by omega)
  rw [e9] at p2 p3
  refine ⟨m, ?_, p3, fun q h8 h9 => by rw [p4 q h9]; exact funext fun j => by rw [st_k h8, st_k h9]⟩
  rw [h9, p1]
  rcases p2 with rfl | rfl
  · rfl
  · rfl
theorem leaveHome_eq {N : Int} {μ : zM} {h : Nat} {x : Int} (w : WF N (hv μ h)) (hx : 0 ≤ x ∧ x < μ h 3) : ∃ m, qH_leaveHome μ h x = some ((vLeave (hv μ h) x).2, m) ∧ hv m h = (vLeave (hv μ h) x).1 ∧ ∀ q : Nat, q ≠ h + 8 → q ≠ h + 9 → m q = μ q :=
  leaveHome_gen w hx w.t6 rfl rfl
theorem leaves_gen {N : Int} {m V : zM} {x : Int} (w : WF N V) (rm : m 143 (26 + 7 * x) = V 9 x + 1) (r2 : RowIs ((st (st m 143 (26 + 7 * x) 0) 143 (25 + 7 * x) 0) 143) (st (st V 9 x (-1)) 8 x 0)) (hx : 0 ≤ x ∧ x < V 0 3) : ∃ m', qM_leaves m x = some ((vLeave V x).2, m') ∧ RowIs (m' 143) (vLeave V x).1 ∧ ∀ q : Nat, q ≠ 143 → m' q = m q := by
  have t6 := w.t6
  have n6 := w.n6
  have hm := (w.tn x hx.1 hx.2).2.2.2.2.2
  unfold qM_leaves
  rw [of_eq (by omega) (by decide), sBind, puts_eq (by omega) (by decide), sBind, puts_eq (by omega) (by decide), sBind, show 20 + 7 * x + 6 = 26 + 7 * x by omega, show 20 + 7 * x + 5 = 25 + 7 * x by omega, rm, wr_n (by omega) (by omega), show V 9 x + 1 - 1 = V 9 x by omega]
  have l := left_wf w hx
  obtain ⟨e1, m', p1, p2, p3, p4⟩ := leaveM_l (N := N) (x := x) 36 200 _ _ (V 9 x) 0 l.1 r2 l.2 (pot_36 l.1) (by omega) (by omega) (by omega)
  refine ⟨m', ?_, p3, fun q hq => by rw [p4 q hq]; exact funext fun j => by rw [st_k hq, st_k hq]⟩
  rw [p1]
  rcases p2 with rfl | rfl
  · rfl
  · rfl
theorem leaves_eq {N : Int} {m V : zM} {x : Int} (w : WF N V) (r : RowIs (m 143) V) (hx : 0 ≤ x ∧ x < V 0 3) : ∃ m', qM_leaves m x = some ((vLeave V x).2, m') ∧ RowIs (m' 143) (vLeave V x).1 ∧ ∀ q : Nat, q ≠ 143 → m' q = m q :=
  leaves_gen w (r.tn x hx.1 hx.2).2.2.2.2.2.2 (notice_row (home_row r w.n6 hx.1 (w' := (st m 143 (26 + 7 * x) 0) 143) st_at (fun i hi => st_i hi)) (by rw [st_k (by decide)]; exact w.n6) hx.1 st_at (fun i hi => st_i hi)) hx
