/-! ===== B: isConsistent ===== -/
theorem ycmp_eq {a b : Int} : ycmp a b = 0 ↔ a = b := by
  unfold ycmp
  by_cases h1 : b < a
  · rw [if_pos h1]; omega
  · rw [if_neg h1]
    by_cases h2 : a = b
    · rw [if_pos h2]; omega
    · rw [if_neg h2]; omega
theorem soundF_l {N : Int} {μ : zM} {h : Nat} (w : WF N (hv μ h)) : ∀ (k n : Nat) (i : Int), i + k = μ h 0 → 0 ≤ i → k < n → qH_isSound_l30 μ h n i = some (.inr ()) := by
  have n6 : μ h 0 ≤ 6 := w.n6
  intro k
  induction k with
  | zero =>
    intro n i h1 h0 hn
    obtain ⟨n, rfl⟩ : ∃ n', n = n' + 1 := ⟨n - 1, by omega⟩
    unfold qH_isSound_l30
    rw [if_neg (by omega)]
  | succ k ih =>
    intro n i h1 h0 hn
    obtain ⟨n, rfl⟩ : ∃ n', n = n' + 1 := ⟨n - 1, by omega⟩
    have hf : (0 ≤ μ (h + 1) i ∧ μ (h + 1) i ≤ 5) ∧ 1 ≤ μ (h + 2) i ∧ μ (h + 2) i ≤ 99 := w.fl i h0 (show i < μ h 0 by omega)
    unfold qH_isSound_l30
    have c : 0 ≤ i ∧ i < 6 := by omega
    rw [if_pos (by omega), if_pos c, within_eq, sBind, if_pos hf.1, if_neg (show ¬ (1 : Int) = 0 by decide), if_pos c, within_eq, sBind, if_pos hf.2, if_neg (show ¬ (1 : Int) = 0 by decide), wr_n (by omega) (by omega)]
    exact ih n (i + 1) (by omega) (by omega) (by omega)
theorem soundT_l {N : Int} {μ : zM} {h : Nat} (w : WF N (hv μ h)) : ∀ (k n : Nat) (i : Int), i + k = μ h 3 → 0 ≤ i → k < n → qH_isSound_l77 μ h n i = some (.inr ()) := by
  have n6 : μ h 0 ≤ 6 := w.n6
  have t0 : 0 ≤ μ h 3 := w.t0
  have t6 : μ h 3 ≤ 6 := w.t6
  intro k
  induction k with
  | zero =>
    intro n i h1 h0 hn
    obtain ⟨n, rfl⟩ : ∃ n', n = n' + 1 := ⟨n - 1, by omega⟩
    unfold qH_isSound_l77
    rw [if_neg (by omega)]
  | succ k ih =>
    intro n i h1 h0 hn
    obtain ⟨n, rfl⟩ : ∃ n', n = n' + 1 := ⟨n - 1, by omega⟩
    have c : 0 ≤ i ∧ i < 6 := by omega
    have hi : i < μ h 3 := by omega
    have hid : 0 ≤ μ (h + 3) i ∧ μ (h + 3) i < μ h 4 := w.id i h0 hi
    obtain ⟨a4, a5, a6, a7, a8, a9⟩ : (1 ≤ μ (h + 4) i ∧ μ (h + 4) i ≤ 50) ∧ (0 ≤ μ (h + 5) i ∧ μ (h + 5) i ≤ 5) ∧ (1 ≤ μ (h + 6) i ∧ μ (h + 6) i ≤ 40) ∧ (0 ≤ μ (h + 7) i ∧ μ (h + 7) i ≤ N) ∧ (0 ≤ μ (h + 8) i ∧ μ (h + 8) i ≤ 1) ∧ -1 ≤ μ (h + 9) i ∧ μ (h + 9) i < μ h 0 := w.tn i h0 hi
    have j16 : ∀ s : Int, s < μ (h + 3) i → qH_isTenantSound_j16 μ h i s = some 1 := fun s hs => by
      unfold qH_isTenantSound_j16
      rw [if_pos c, if_pos hs, if_pos c, if_pos hid.2, if_pos c, within_eq, sBind, if_pos a4, if_neg (show ¬ (1 : Int) = 0 by decide), if_pos c, within_eq, sBind, if_pos a5, if_neg (show ¬ (1 : Int) = 0 by decide), if_pos c, within_eq, sBind, if_pos a6, if_neg (show ¬ (1 : Int) = 0 by decide), if_pos c, if_neg (by omega), if_pos c, within_eq, sBind, if_pos a8, if_neg (show ¬ (1 : Int) = 0 by decide)]
    have ts : qH_isTenantSound μ h i = some 1 := by
      unfold qH_isTenantSound
      by_cases hi0 : i = 0
      · rw [if_pos hi0]; exact j16 (-1) (by omega)
      · have hinc : μ (h + 3) (i - 1) < μ (h + 3) i := w.inc (i - 1) i (by omega) (by omega) hi
        rw [if_neg hi0, wr_n (by omega) (by omega), if_pos (by omega)]
        exact j16 _ hinc
    have hs : qH_isHomeSound μ h i = some 1 := by
      unfold qH_isHomeSound
      rw [if_pos c]
      by_cases h9 : μ (h + 9) i = -1
      · rw [if_pos h9]
      · rw [if_neg h9, hasFlat_eq, sBind, if_pos (show 0 ≤ μ (h + 9) i ∧ μ (h + 9) i < μ h 0 by omega), if_neg (show ¬ (1 : Int) = 0 by decide), slotIn_eq t0 t6, sBind]
        have hfi : fi (μ (h + 9)) (μ (h + 9) i) (μ h 3).toNat 0 = i := by
          rcases fi_spec (w := μ (h + 9)) (v := μ (h + 9) i) (μ h 3).toNat 0 (by omega) with ⟨y1, y2, y3⟩ | ⟨y1, y2⟩
          · generalize fi (μ (h + 9)) (μ (h + 9) i) (μ h 3).toNat 0 = u at y1 y2 y3
            by_cases hlt : u < i
            · have : μ (h + 9) u = -1 := w.hm u i y1 hlt hi y3
              omega
            · by_cases hgt : i < u
              · have : μ (h + 9) i = -1 := w.hm i u h0 hgt (show u < μ h 3 by omega) y3.symm
                omega
              · omega
          · exact absurd rfl (y2 i h0 (by omega))
        rw [hfi, if_pos rfl]
    unfold qH_isSound_l77
    rw [if_pos hi, ts, sBind, if_neg (show ¬ (1 : Int) = 0 by decide), hs, sBind, if_neg (show ¬ (1 : Int) = 0 by decide), wr_n (by omega) (by omega)]
    exact ih n (i + 1) (by omega) (by omega) (by omega)
theorem isSound_eq {N : Int} {μ : zM} {h : Nat} (hN : N ≤ 1000000000) (w : WF N (hv μ h)) : qH_isSound μ h = some 1 := by
  have n0 : 0 ≤ μ h 0 := w.n0
  have n6 : μ h 0 ≤ 6 := w.n6
  have t0 : 0 ≤ μ h 3 := w.t0
  have t6 : μ h 3 ≤ 6 := w.t6
  unfold qH_isSound
  rw [within_eq, sBind, if_pos (show 0 ≤ μ h 0 ∧ μ h 0 ≤ 6 from ⟨n0, n6⟩), if_neg (show ¬ (1 : Int) = 0 by decide), within_eq, sBind, if_pos (show 0 ≤ μ h 3 ∧ μ h 3 ≤ 6 from ⟨t0, t6⟩), if_neg (show ¬ (1 : Int) = 0 by decide), soundF_l w (μ h 0).toNat 200 0 (by omega) (by omega) (by omega), sBndSr, soundT_l w (μ h 3).toNat 200 0 (by omega) (by omega) (by omega), sBndSr, sumOfParts_eq hN w, sBind, if_pos (ycmp_eq.mpr rfl)]
theorem agree_l {m : zM} {h : Nat} (t6 : m h 3 ≤ 6) (he : ∀ t, 0 ≤ t → t < m h 3 → m 128 t = m 131 t) : ∀ (k n : Nat) (i : Int), i + k = m h 3 → 0 ≤ i → k < n → qP_doWaysAgree_l13 m h n i = some (.inr ()) := by
  intro k
  induction k with
  | zero =>
    intro n i h1 h0 hn
    obtain ⟨n, rfl⟩ : ∃ n', n = n' + 1 := ⟨n - 1, by omega⟩
    unfold qP_doWaysAgree_l13
    rw [if_neg (by omega)]
  | succ k ih =>
    intro n i h1 h0 hn
    obtain ⟨n, rfl⟩ : ∃ n', n = n' + 1 := ⟨n - 1, by omega⟩
    have c : 0 ≤ i ∧ i < 6 := by omega
    unfold qP_doWaysAgree_l13
    rw [if_pos (by omega), if_pos c, if_pos c, if_pos (he i h0 (by omega)), wr_n (by omega) (by omega)]
    exact ih n (i + 1) (by omega) (by omega) (by omega)
theorem doWaysAgree_eq {N : Int} {V μ : zM} {p : Int → Int} {h : Nat} (hh : h + 10 ≤ 113) (w : WF N V) (e : HEq6 (hv μ h) V) (hp : Stb V p) : ∃ m, qP_doWaysAgree μ h = some (1, m) ∧ ∀ q : Nat, (q < 113 ∨ 132 ≤ q) → m q = μ q := by
  have t0 := w.t0
  have t6 := w.t6
  unfold qP_doWaysAgree
  obtain ⟨m1, p1, p2, p3, p4⟩ := tryAll_eq hh w e hp
  obtain ⟨m2, u1, u2, u3⟩ := planByAsking_eq (μ := m1) hh w (HEq6.trans (HEq6.of_same fun q q1 q2 => p4 q (by omega)) e)
  have e3 : m2 h 3 = V 0 3 := by rw [u3 h (by omega), p4 h (by omega)]; exact e.1.2.1
  rw [p1, sBind, u1, sBind, agree_l (by omega) (fun t h0 h1 => by rw [u3 131 (by omega), p3 t ⟨h0, by omega⟩]; exact stb_eq w u2 hp ⟨h0, by omega⟩) (V 0 3).toNat 200 0 (by omega) (by omega) (by omega), sBndSr, u3 113 (by omega), p2, if_neg (by decide)]
  exact ⟨m2, rfl, fun q hq => by rw [u3 q (by omega), p4 q (by omega)]⟩
theorem isConsistent_ok {N : Int} (hN : N ≤ 1000000000) : DoOk N N qT_isConsistent qM_isConsistent := by
  intro μ hI
  have hB := hI.1
  have w := hB.1
  obtain ⟨p, hp⟩ := stb_ex (μ := μ) w (HEq6.of_same fun _ _ _ => rfl)
  have e1 : HEq6 (hv (wls μ 133 6 (cr (hv μ 1))) 1) (hv μ 1) := HEq6.of_same fun q q1 q2 => wls_k (by omega)
  obtain ⟨m3, p1, p2⟩ := countBySets_eq (h := 1) (V := hv μ 1) (by decide) w e1
  obtain ⟨m4, u1, u2⟩ := doWaysAgree_eq (h := 1) (μ := m3) (V := hv μ 1) (by decide) w (HEq6.trans (HEq6.of_same fun q q1 q2 => p2 q (by omega)) e1) hp
  have fr : ∀ q : Nat, (q < 113 ∨ 136 ≤ q) → m4 q = μ q := fun q hq => by rw [u2 q (by omega), p2 q (by omega), wls_k (by omega)]
  have r : RowIs ((st m4 142 0 0) 143) (hv μ 1) := by rw [show (st m4 142 0 0) 143 = m4 143 from funext fun j => st_k (by decide), fr 143 (by omega)]; exact hB.2
  refine ⟨1, m4, st m4 142 0 0, ?_, ?_, thrown_inv (hI.gen (fun q hq => fr q (by omega)) (fun j _ => by rw [fr 142 (by omega)])) (Int.le_refl _)⟩
  · unfold qT_isConsistent
    rw [isSound_eq hN w, sBind, if_neg (show ¬ (1 : Int) = 0 by decide), countByTrying_eq (h := 1) (by decide) w (HEq6.of_same fun _ _ _ => rfl), sBnd2, p1, sBnd2, if_pos rfl, u1, sBnd2, if_neg (show ¬ (1 : Int) = 0 by decide)]
  · unfold qM_isConsistent
    rw [sBind, purses_eq hN w r, sBind, partsM_eq hN w r, r.rc, if_pos rfl]
