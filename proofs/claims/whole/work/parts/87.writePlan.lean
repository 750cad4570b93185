/-! ===== B: writePlan, charAt, type ===== -/
def wten (V : zM) (p : Int → Int) (i : Int) : List Int := (if 0 < i then [32] else []) ++ (nl (V 3 i) ++ [62] ++ (if p i = -1 then [45] else nl (p i)))
def wts (V : zM) (p : Int → Int) : Nat → Int → List Int
  | 0, _ => []
  | k+1, i => wten V p i ++ wts V p k (i + 1)
theorem wten_len {N : Int} {V : zM} {p : Int → Int} {i : Int} (hN : N ≤ 1000000000) (w : WF N V) (pl : Plan V p) (hi : inT V i) : (wten V p i).length ≤ 13 ∧ chr (wten V p i) := by
  have n6 := w.n6
  have hid := id_max hN w hi
  have h1 := nl_len hid.2.1
  have h3 : (if p i = -1 then [45] else nl (p i)).length ≤ 1 ∧ chr (if p i = -1 then [45] else nl (p i)) := by
    by_cases h9 : p i = -1
    · rw [if_pos h9]; exact ⟨Nat.le_refl _, chr_one (by decide)⟩
    · have h4 := ((pl.1 i hi).resolve_left h9).1
      rw [if_neg h9]
      exact ⟨nl_len (v := p i) (d := 0) (by have := h4.2; show p i < 10; omega), nl_chr⟩
  have h5 : (if 0 < i then [(32 : Int)] else []).length ≤ 1 ∧ chr (if 0 < i then [(32 : Int)] else []) := by
    by_cases h9 : 0 < i
    · rw [if_pos h9]; exact ⟨Nat.le_refl _, chr_one (by decide)⟩
    · rw [if_neg h9]; exact ⟨Nat.zero_le _, fun c hc => absurd hc List.not_mem_nil⟩
  unfold wten
  refine ⟨?_, chr_app h5.2 (chr_app (chr_app nl_chr (chr_one (by decide))) h3.2)⟩
  simp only [List.length_append, List.length_cons, List.length_nil]
  omega
theorem wts_len {N : Int} {V : zM} {p : Int → Int} (hN : N ≤ 1000000000) (w : WF N V) (pl : Plan V p) : ∀ (k : Nat) (i : Int), i + k = V 0 3 → 0 ≤ i → (wts V p k i).length ≤ 13 * k ∧ chr (wts V p k i)
  | 0, _, _, _ => ⟨Nat.le_refl _, fun c hc => absurd hc List.not_mem_nil⟩
  | k+1, i, h1, h0 => by
    have ih := wts_len hN w pl k (i + 1) (by omega) (by omega)
    have hl := wten_len hN w pl (i := i) ⟨h0, by omega⟩
    unfold wts
    rw [List.length_append]
    exact ⟨by omega, chr_app hl.2 ih.2⟩
theorem tenC_eq {N : Int} {V μ : zM} {p : Int → Int} {i : Int} {rec : zM → Int → Option zM} (hN : N ≤ 1000000000) (w : WF N V) (pl : Plan V p) (e : HEq6 (hv μ 1) V) (hp : μ 128 i = p i) (hi : inT V i) (hL : 0 ≤ μ 140 1 ∧ μ 140 1 ≤ 108) : ∃ m, qT_writePlan_j45 rec μ i = rec m (i + 1) ∧ App 140 1 141 μ m (nl (V 3 i) ++ [62] ++ (if p i = -1 then [45] else nl (p i))) := by
  have n6 := w.n6
  have t6 := w.t6
  have hi0 := hi.1
  have hi1 := hi.2
  have c : 0 ≤ i ∧ i < 6 := by omega
  have hid := id_max hN w hi
  have h1 := nl_len hid.2.1
  have e3 : μ 4 i = V 3 i := e.tok (k := 3) (by decide) c
  unfold qT_writePlan_j45
  obtain ⟨m1, p1, a1⟩ := appendNumber_eq (μ := μ) (t := 140) (v := V 3 i) (d := 9) hid.1 hid.2.1 (by decide) hid.2.2 hL.1 (by omega)
  have l1 := a1.1
  rw [if_pos c, e3, p1, sBind, appendX_eq (c := 62) ⟨by omega, by omega⟩ (by decide), sBind]
  have a2 := app_one (a := 140) (b := 141) (la := 1) (μ := m1) (c := 62) (by decide)
  generalize st (st m1 141 (m1 140 1) 62) 140 1 (m1 140 1 + 1) = m2 at a2
  have l2 : m2 140 1 = m1 140 1 + 1 := a2.1
  have q2 : m2 128 i = p i := by rw [a2.2.2.2.1 128 (by decide) (by decide), a1.2.2.2.1 128 (by decide) (by decide), hp]
  rw [if_pos c, q2, wr_n (by omega) (by omega)]
  by_cases h9 : p i = -1
  · rw [if_pos h9, if_pos h9, appendX_eq (c := 45) ⟨by omega, by omega⟩ (by decide), sBind]
    exact ⟨_, rfl, app_trans (app_trans a1 a2) (app_one (by decide))⟩
  · have h4 := ((pl.1 i hi).resolve_left h9).1
    have h40 := h4.1
    have h41 := h4.2
    rw [if_neg h9, if_neg h9, if_pos c]
    obtain ⟨m3, p3, a3⟩ := appendNumber_eq (μ := m2) (t := 140) (v := p i) (d := 0) h40 (show p i < 10 by omega) (by decide) (by omega) (by omega) (by omega)
    rw [p3, sBind]
    exact ⟨m3, rfl, app_trans (app_trans a1 a2) a3⟩
theorem planC_l {N : Int} {V : zM} {p : Int → Int} (hN : N ≤ 1000000000) (w : WF N V) (pl : Plan V p) : ∀ (k n : Nat) (μ : zM) (i : Int), i + k = V 0 3 → 0 ≤ i → k < n → HEq6 (hv μ 1) V → (∀ t, inT V t → μ 128 t = p t) → 0 ≤ μ 140 1 → μ 140 1 + 13 * k ≤ 120 → ∃ m, qT_writePlan_l21 n μ i = some m ∧ App 140 1 141 μ m (wts V p k i) := by
  have t6 := w.t6
  intro k
  induction k with
  | zero =>
    intro n μ i h1 h0 hn e hp hL0 hL
    obtain ⟨n, rfl⟩ : ∃ n', n = n' + 1 := ⟨n - 1, by omega⟩
    have e3 : μ 1 3 = V 0 3 := e.1.2.1
    unfold qT_writePlan_l21
    rw [if_neg (by omega)]
    exact ⟨μ, rfl, app_nil⟩
  | succ k ih =>
    intro n μ i h1 h0 hn e hp hL0 hL
    obtain ⟨n, rfl⟩ : ∃ n', n = n' + 1 := ⟨n - 1, by omega⟩
    have e3 : μ 1 3 = V 0 3 := e.1.2.1
    have ii : inT V i := ⟨h0, by omega⟩
    have wl9 := (wten_len hN w pl ii).1
    unfold qT_writePlan_l21 wts
    rw [if_pos (by omega)]
    have go : ∀ (m0 : zM) (ws : List Int), App 140 1 141 μ m0 ws → ws = (if 0 < i then [32] else []) → ∃ m, qT_writePlan_j45 (qT_writePlan_l21 n) m0 i = some m ∧ App 140 1 141 μ m (wten V p i ++ wts V p k (i + 1)) := fun m0 ws a0 hws => by
      have l0 := a0.1
      have hwl : ws.length ≤ 1 := by
        rw [hws]
        split
        · exact Nat.le_refl _
        · exact Nat.zero_le _
      obtain ⟨m1, p1, a1⟩ := tenC_eq (rec := qT_writePlan_l21 n) hN w pl (a0.heq e) (by rw [a0.2.2.2.1 128 (by decide) (by decide)]; exact hp i ii) ii ⟨by omega, by omega⟩
      have a2 := app_trans a0 a1
      rw [hws] at a2
      have a3 : App 140 1 141 μ m1 (wten V p i) := a2
      have l3 := a3.1
      obtain ⟨m, u1, u2⟩ := ih n m1 (i + 1) (by omega) (by omega) (by omega) (a3.heq e) (fun t ht => by rw [a3.2.2.2.1 128 (by decide) (by decide)]; exact hp t ht) (by omega) (by omega)
      exact ⟨m, by rw [p1, u1], app_trans a3 u2⟩
    by_cases hi : 0 < i
    · rw [if_pos hi, appendX_eq (c := 32) ⟨hL0, by omega⟩ (by decide), sBind]
      exact go _ [32] (app_one (by decide)) (by rw [if_pos hi])
    · rw [if_neg hi]
      exact go μ [] app_nil (by rw [if_neg hi])
theorem tenM_eq {N : Int} {V μ : zM} {p : Int → Int} {i : Int} {rec : zM → Int → Option zM} (hN : N ≤ 1000000000) (w : WF N V) (pl : Plan V p) (r : RowIs (μ 143) V) (hp : μ 148 i = p i) (hi : inT V i) (hL : 0 ≤ μ 142 15 ∧ μ 142 15 ≤ 108) : ∃ m, qM_writePlan_j36 rec μ i = rec m (i + 1) ∧ App 142 15 153 μ m (nl (V 3 i) ++ [62] ++ (if p i = -1 then [45] else nl (p i))) := by
  have n6 := w.n6
  have t6 := w.t6
  have hi0 := hi.1
  have hi1 := hi.2
  have c : 0 ≤ i ∧ i < 6 := by omega
  have hid := id_max hN w hi
  have h1 := nl_len hid.2.1
  unfold qM_writePlan_j36
  obtain ⟨m1, p1, a1⟩ := writesNumber_eq (μ := μ) (v := V 3 i) (d := 9) hid.1 hid.2.1 (by decide) hid.2.2 hL.1 (by omega)
  have l1 := a1.1
  rw [of_eq c (by decide), sBind, Int.add_zero, (r.tn i hi0 hi1).1, p1, sBind, writes_eq (c := 62) ⟨by omega, by omega⟩ (by decide), sBind]
  have a2 := app_one (a := 142) (b := 153) (la := 15) (μ := m1) (c := 62) (by decide)
  generalize st (st m1 153 (m1 142 15) 62) 142 15 (m1 142 15 + 1) = m2 at a2
  have l2 : m2 142 15 = m1 142 15 + 1 := a2.1
  have q2 : m2 148 i = p i := by rw [a2.2.2.2.1 148 (by decide) (by decide), a1.2.2.2.1 148 (by decide) (by decide), hp]
  rw [if_pos c, q2, wr_n (by omega) (by omega)]
  by_cases h9 : p i = -1
  · rw [if_pos (by omega), if_pos h9, writes_eq (c := 45) ⟨by omega, by omega⟩ (by decide), sBind]
    exact ⟨_, rfl, app_trans (app_trans a1 a2) (app_one (by decide))⟩
  · have h4 := ((pl.1 i hi).resolve_left h9).1
    have h40 := h4.1
    have h41 := h4.2
    rw [if_neg (by omega), if_neg h9, if_pos c]
    obtain ⟨m3, p3, a3⟩ := writesNumber_eq (μ := m2) (v := p i) (d := 0) h40 (show p i < 10 by omega) (by decide) (by omega) (by omega) (by omega)
    rw [p3, sBind]
    exact ⟨m3, rfl, app_trans (app_trans a1 a2) a3⟩
theorem planM_l {N : Int} {V : zM} {p : Int → Int} (hN : N ≤ 1000000000) (w : WF N V) (pl : Plan V p) : ∀ (k n : Nat) (μ : zM) (i : Int), i + k = V 0 3 → 0 ≤ i → k < n → RowIs (μ 143) V → (∀ t, inT V t → μ 148 t = p t) → 0 ≤ μ 142 15 → μ 142 15 + 13 * k ≤ 120 → ∃ m, qM_writePlan_l16 n μ i = some m ∧ App 142 15 153 μ m (wts V p k i) := by
  have t6 := w.t6
  intro k
  induction k with
  | zero =>
    intro n μ i h1 h0 hn r hp hL0 hL
    obtain ⟨n, rfl⟩ : ∃ n', n = n' + 1 := ⟨n - 1, by omega⟩
    have rt := r.t
    unfold qM_writePlan_l16
    rw [if_neg (by omega)]
    exact ⟨μ, rfl, app_nil⟩
  | succ k ih =>
    intro n μ i h1 h0 hn r hp hL0 hL
    obtain ⟨n, rfl⟩ : ∃ n', n = n' + 1 := ⟨n - 1, by omega⟩
    have rt := r.t
    have ii : inT V i := ⟨h0, by omega⟩
    have wl9 := (wten_len hN w pl ii).1
    unfold qM_writePlan_l16 wts
    rw [if_pos (by omega)]
    have go : ∀ (m0 : zM) (ws : List Int), App 142 15 153 μ m0 ws → ws = (if 0 < i then [32] else []) → ∃ m, qM_writePlan_j36 (qM_writePlan_l16 n) m0 i = some m ∧ App 142 15 153 μ m (wten V p i ++ wts V p k (i + 1)) := fun m0 ws a0 hws => by
      have l0 := a0.1
      have hwl : ws.length ≤ 1 := by
        rw [hws]
        split
        · exact Nat.le_refl _
        · exact Nat.zero_le _
      obtain ⟨m1, p1, a1⟩ := tenM_eq (rec := qM_writePlan_l16 n) hN w pl (AppM.row a0 r) (by rw [a0.2.2.2.1 148 (by decide) (by decide)]; exact hp i ii) ii ⟨by omega, by omega⟩
      have a2 := app_trans a0 a1
      rw [hws] at a2
      have a3 : App 142 15 153 μ m1 (wten V p i) := a2
      have l3 := a3.1
      obtain ⟨m, u1, u2⟩ := ih n m1 (i + 1) (by omega) (by omega) (by omega) (AppM.row a3 r) (fun t ht => by rw [a3.2.2.2.1 148 (by decide) (by decide)]; exact hp t ht) (by omega) (by omega)
      exact ⟨m, by rw [p1, u1], app_trans a3 u2⟩
    by_cases hi : 0 < i
    · rw [if_pos hi, writes_eq (c := 32) ⟨hL0, by omega⟩ (by decide), sBind]
      exact go _ [32] (app_one (by decide)) (by rw [if_pos hi])
    · rw [if_neg hi]
      exact go μ [] app_nil (by rw [if_neg hi])
theorem writePlan_ok {N : Int} (hN : N ≤ 1000000000) : DoOk N N qT_writePlan qM_writePlan := by
  intro μ hI
  have hB := hI.1
  have w := hB.1
  have t0 : 0 ≤ μ 1 3 := w.t0
  have t6 : μ 1 3 ≤ 6 := w.t6
  obtain ⟨m1, p1, hst, p3⟩ := planByAsking_eq (h := 1) (μ := μ) (V := hv μ 1) (by decide) w (HEq6.of_same fun _ _ _ => rfl)
  generalize hm2 : st m1 140 1 0 = m2
  have f2 : ∀ q : Nat, q ≠ 140 → m2 q = m1 q := fun q hq => by rw [← hm2]; exact funext fun j => st_k hq
  have l2 : m2 140 1 = 0 := by rw [← hm2, st_at]
  have wl9 := wts_len hN w hst.1 (μ 1 3).toNat 0 (show (0 : Int) + ((μ 1 3).toNat : Nat) = μ 1 3 by omega) (by omega)
  obtain ⟨m8, p8, a8⟩ := planC_l hN w hst.1 (μ 1 3).toNat 200 m2 0 (show (0 : Int) + ((μ 1 3).toNat : Nat) = μ 1 3 by omega) (by omega) (by omega) (HEq6.of_same fun q q1 q2 => by rw [f2 q (by omega), p3 q (by omega)]) (fun t ht => by rw [f2 128 (by decide)]) (by omega) (by omega)
  generalize hws : wts (hv μ 1) (m1 128) (μ 1 3).toNat 0 = ws at a8 wl9
  have wsl : ws.length ≤ 120 := by omega
  have lC : m8 140 1 = ws.length := by rw [a8.1, l2, Int.zero_add]
  have f8 : ∀ q : Nat, (q < 113 ∨ 136 ≤ q) → q ≠ 140 → q ≠ 141 → m8 q = μ q := fun q h0 h1 h2 => by rw [a8.2.2.2.1 q h1 h2, f2 q h1, p3 q (by omega)]
  -- the model
  generalize hmA : st m8 142 0 0 = mA
  have fA : ∀ q : Nat, q ≠ 142 → mA q = m8 q := fun q h1 => by rw [← hmA]; exact funext fun j => st_k h1
  have a142 : ∀ j, j ≠ 0 → mA 142 j = μ 142 j := fun j hj => by rw [← hmA, st_i hj, f8 142 (by omega) (by decide) (by decide)]
  have rA : RowIs (mA 143) (hv μ 1) := by rw [fA 143 (by decide), f8 143 (by omega) (by decide) (by decide)]; exact hB.2
  obtain ⟨m4, u1, u2, u3⟩ := findsPlan_eq w rA
  generalize hmB : st m4 142 15 0 = mB
  have fB : ∀ q : Nat, q ≠ 142 → mB q = m4 q := fun q h1 => by rw [← hmB]; exact funext fun j => st_k h1
  have b142 : ∀ j, j ≠ 15 → mB 142 j = mA 142 j := fun j hj => by rw [← hmB, st_i hj, u3 142 (by decide) (by decide)]
  have b15 : mB 142 15 = 0 := by rw [← hmB, st_at]
  have rB : RowIs (mB 143) (hv μ 1) := by rw [fB 143 (by decide), u3 143 (by decide) (by decide)]; exact rA
  obtain ⟨mZ, qZ, cZ⟩ := planM_l hN w hst.1 (μ 1 3).toNat 200 mB 0 (show (0 : Int) + ((μ 1 3).toNat : Nat) = μ 1 3 by omega) (by omega) (by omega) rB (fun t ht => by rw [fB 148 (by decide)]; exact stb_eq w u2 hst ht) (by omega) (by omega)
  rw [hws] at cZ
  have lM : mZ 142 15 = ws.length := by rw [cZ.1, b15, Int.zero_add]
  have fZ : ∀ q : Nat, q ≠ 142 → q ≠ 153 → q ≠ 148 → q ≠ 149 → mZ q = m8 q := fun q h1 h2 h3 h4 => by rw [cZ.2.2.2.1 q h1 h2, fB q h1, u3 q h3 h4, fA q h1]
  refine ⟨ws.length, m8, mZ, ?_, ?_, hI.line (ws := ws) (fun q hq => by rw [fZ q (by omega) (by omega) (by omega) (by omega), f8 q (by omega) (by omega) (by omega)]) (fun j h0 h15 => by rw [cZ.2.2.2.2 j h15, b142 j h15, a142 j h0]) (by rw [fZ 140 (by decide) (by decide) (by decide) (by decide)]; exact lC) lM (fun i hi => ?_) (fun i hi => ?_) wl9.2 wsl⟩
  · unfold qT_writePlan qX_clear
    rw [p1, sBind, sBind, sBind, hm2, p8, sBind, lC]
  · unfold qM_writePlan
    rw [sBind, hmA, u1, sBind, sBind, hmB, qZ, sBind, lM]
  · have := a8.2.2.1 i hi
    rw [l2, Int.zero_add] at this
    rw [fZ 141 (by decide) (by decide) (by decide) (by decide)]
    exact this
  · have := cZ.2.2.1 i hi
    rw [b15, Int.zero_add] at this
    exact this
theorem charAt_ok {N : Int} {v : Int} : OpOk N N (fun μ => qL_charAt μ v) (fun μ => qM_charAt μ v) := by
  intro μ hI
  obtain ⟨hL, hLM, hch, -⟩ := hI.2.2.2
  show ∃ a9 m1 x m2, qL_charAt μ v = some (a9, m1) ∧ qM_charAt m1 v = some (x, m2) ∧ m2 142 0 = a9 ∧ (a9 = 0 → m2 156 0 = x) ∧ Inv N m2
  unfold qL_charAt qT_charAt qT_charAt_j15
  have bad : ¬ (0 ≤ v ∧ v < μ 140 1) → qM_charAt μ v = some (0, st (st μ 142 0 0) 142 0 1) := fun h => by
    unfold qM_charAt
    rw [sBind, st_i (show (15 : Int) ≠ 0 by decide), hLM, wr_n (by omega) (by omega), between_eq, sBind, if_neg (show ¬ (0 ≤ v ∧ v ≤ μ 140 1 - 1) by omega), if_pos rfl, fails_eq, sBnd2]
    rfl
  have badI : Inv N (st (st μ 142 0 0) 142 0 1) := thrown_inv (thrown_inv hI (Int.le_refl N)) (Int.le_refl N)
  by_cases h0 : v < 0
  · rw [if_pos h0, sBndTr, if_pos rfl]
    exact ⟨1, μ, 0, _, rfl, bad (by omega), st_at, fun h => absurd h (by decide), badI⟩
  rw [if_neg h0]
  by_cases h1 : v < μ 140 1
  · obtain ⟨c1, c2, c3⟩ := hch v (by omega) h1
    rw [if_pos h1, if_pos (by omega), if_pos ⟨c2, c3⟩, sBndTl]
    refine ⟨0, _, μ 141 v, _, rfl, ?_, st_at, fun _ => by rw [st_k (by decide), st_at], asked_inv (x := μ 141 v) hI⟩
    unfold qM_charAt
    rw [sBind, st_i (show (15 : Int) ≠ 0 by decide), st_k (show (142 : Nat) ≠ 156 by decide), hLM, wr_n (by omega) (by omega), between_eq, sBind, if_pos (show 0 ≤ v ∧ v ≤ μ 140 1 - 1 by omega), if_neg (show ¬ (1 : Int) = 0 by decide), if_pos (by omega), st_k (show (153 : Nat) ≠ 142 by decide), st_k (show (153 : Nat) ≠ 156 by decide), c1, if_pos ⟨c2, c3⟩]
  · rw [if_neg h1, sBndTr, if_pos rfl]
    exact ⟨1, μ, 0, _, rfl, bad (by omega), st_at, fun h => absurd h (by decide), badI⟩
theorem type_ok {N : Int} {c : Int} (hc : 0 ≤ c ∧ c ≤ 65535) : OpOk N N (fun μ => qL_type μ c) (fun μ => qM_type μ c) := by
  intro μ hI
  obtain ⟨t1, t2, t3, hL, hLM, hch, t4, t5⟩ := hI.2.2.2
  show ∃ a9 m1 x m2, qL_type μ c = some (a9, m1) ∧ qM_type m1 c = some (x, m2) ∧ m2 142 0 = a9 ∧ (a9 = 0 → m2 156 0 = x) ∧ Inv N m2
  unfold qL_type qT_type
  by_cases h60 : μ 138 1 < 60
  · rw [if_pos h60, appendX_eq ⟨hL.1, by omega⟩ hc, sBind, sBndTl, st_at]
    generalize hmZ : st (st (st (st (st (st μ (138 + 1) (μ 138 1) c) 138 1 (μ 138 1 + 1)) 156 0 (μ 138 1 + 1)) 142 0 0) 154 (μ 138 1) c) 142 17 (μ 138 1 + 1) = mZ
    have fq : ∀ q : Nat, q ≠ 138 → q ≠ 139 → q ≠ 142 → q ≠ 154 → q ≠ 156 → mZ q = μ q := fun q h1 h2 h3 h4 h5 => by
      rw [← hmZ]; exact funext fun j => by rw [st_k h3, st_k h4, st_k h3, st_k h5, st_k h1, st_k h2]
    have f142 : ∀ j, j ≠ 0 → j ≠ 17 → mZ 142 j = μ 142 j := fun j h0 h17 => by
      rw [← hmZ, st_i h17, st_k (by decide), st_i h0, st_k (by decide), st_k (by decide), st_k (by decide)]
    have f17 : mZ 142 17 = μ 138 1 + 1 := by rw [← hmZ, st_at]
    have f138 : mZ 138 1 = μ 138 1 + 1 := by rw [← hmZ, st_k (by decide), st_k (by decide), st_k (by decide), st_k (by decide), st_at]
    have f139 : ∀ j, mZ 139 j = if j = μ 138 1 then c else μ 139 j := fun j => by
      rw [← hmZ, st_k (by decide), st_k (by decide), st_k (by decide), st_k (by decide), st_k (by decide)]
      by_cases hj : j = μ 138 1
      · rw [if_pos hj, hj, st_at]
      · rw [if_neg hj, st_i hj]
    have f154 : ∀ j, mZ 154 j = if j = μ 138 1 then c else μ 154 j := fun j => by
      rw [← hmZ, st_k (by decide)]
      by_cases hj : j = μ 138 1
      · rw [if_pos hj, hj, st_at]
      · rw [if_neg hj, st_i hj, st_k (by decide), st_k (by decide), st_k (by decide), st_k (by decide)]
    refine ⟨0, _, μ 138 1 + 1, mZ, rfl, ?_, by rw [← hmZ, st_i (by decide), st_k (by decide), st_at], fun _ => by rw [← hmZ, st_k (by decide), st_k (by decide), st_k (by decide), st_at], ?_⟩
    · unfold qM_type
      have g17 : (st (st (st (st μ (138 + 1) (μ 138 1) c) 138 1 (μ 138 1 + 1)) 156 0 (μ 138 1 + 1)) 142 0 0) 142 17 = μ 138 1 := by rw [st_i (by decide), st_k (by decide), st_k (by decide), st_k (by decide), hLM]
      rw [sBind, g17, if_neg (by omega), if_pos ⟨⟨hL.1, by omega⟩, hc⟩, sBind, st_k (show (142 : Nat) ≠ 154 by decide), g17, wr_n (by omega) (by omega), sBind, hmZ, f17]
    · obtain ⟨hB, hR, hS, hT⟩ := hI
      have hm : ∀ (g : Nat) (w : Int → Int), g < 104 → Both N μ g w → Both N mZ g w := fun g w hg b => b.move (HEq6.of_same fun q q1 q2 => fq q (by omega) (by omega) (by omega) (by omega) (by omega)) (fun _ _ _ => rfl)
      have k31 : mZ 31 = μ 31 := fq 31 (by decide) (by decide) (by decide) (by decide) (by decide)
      have k0 : mZ 0 = μ 0 := fq 0 (by decide) (by decide) (by decide) (by decide) (by decide)
      refine ⟨?_, ⟨?_, ?_, ?_, ?_, fun j h0 h9 => ?_⟩, ⟨?_, ?_, fun z => ?_⟩, ?_, ?_, ?_, by omega, by omega, fun j j0 j1 => ?_, ?_, ?_⟩
      · rw [fq 143 (by decide) (by decide) (by decide) (by decide) (by decide)]; exact hm _ _ (by omega) hB
      · rw [k31]; exact hR.1
      · rw [k31]; exact hR.2.1
      · rw [f142 7 (by decide) (by decide)]; exact hR.2.2.1
      · rw [f142 6 (by decide) (by decide), k31]; exact hR.2.2.2.1
      · rw [k31] at h9 ⊢
        rw [f142 7 (by decide) (by decide), fq 144 (by decide) (by decide) (by decide) (by decide) (by decide)]
        exact hm _ _ (by omega) (hR.2.2.2.2 j h0 h9)
      · rw [k0]; exact hS.1
      · rw [f142 8 (by decide) (by decide), k0]; exact hS.2.1
      · rw [k0] at z
        rw [fq 145 (by decide) (by decide) (by decide) (by decide) (by decide)]
        exact hm _ _ (by omega) (hS.2.2 z)
      · rw [fq 140 (by decide) (by decide) (by decide) (by decide) (by decide)]; exact t1
      · rw [f142 15 (by decide) (by decide), fq 140 (by decide) (by decide) (by decide) (by decide) (by decide)]; exact t2
      · rw [fq 140 (by decide) (by decide) (by decide) (by decide) (by decide), fq 141 (by decide) (by decide) (by decide) (by decide) (by decide), fq 153 (by decide) (by decide) (by decide) (by decide) (by decide)]; exact t3
      · rw [f139, f154]
        by_cases hj : j = μ 138 1
        · rw [if_pos hj, if_pos hj]; exact ⟨rfl, hc⟩
        · rw [if_neg hj, if_neg hj]; exact hch j j0 (by omega)
      · rw [f142 19 (by decide) (by decide), k0]; exact t4
      · rw [f142 20 (by decide) (by decide), k0, fq 136 (by decide) (by decide) (by decide) (by decide) (by decide)]; exact t5
  · rw [if_neg h60, sBndTr, if_pos rfl]
    refine ⟨1, μ, 0, st (st μ 142 0 0) 142 0 1, rfl, ?_, st_at, fun h => absurd h (by decide), thrown_inv (thrown_inv hI (Int.le_refl N)) (Int.le_refl N)⟩
    unfold qM_type
    rw [sBind, st_i (show (17 : Int) ≠ 0 by decide), hLM, if_pos (by omega), fails_eq, sBnd2]
