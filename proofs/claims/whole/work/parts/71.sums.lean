/-! ===== B: tenantByPurse, creak, receivedByParts ===== -/
theorem purse1_l {μ : zM} {h : Nat} {t : Int} (h6 : μ h 3 ≤ 6) (ht : 0 ≤ t ∧ t < 6) : ∀ (k n : Nat) (a i : Int), i + k = μ h 3 → 0 ≤ i → 0 ≤ a → a + k ≤ 1000 → k < n → qH_rankByPurse_l4 μ h t n a i = some (a + ct (fun u => μ (h + 7) t < μ (h + 7) u ∨ (μ (h + 7) u = μ (h + 7) t ∧ u < t)) k i) := by
  intro k
  induction k with
  | zero =>
    intro n a i h1 h0 a0 a1 hn
    obtain ⟨n, rfl⟩ : ∃ n', n = n' + 1 := ⟨n - 1, by omega⟩
    unfold qH_rankByPurse_l4 ct
    rw [if_neg (by omega), Int.add_zero]
  | succ k ih =>
    intro n a i h1 h0 a0 a1 hn
    obtain ⟨n, rfl⟩ : ∃ n', n = n' + 1 := ⟨n - 1, by omega⟩
    have c : 0 ≤ i ∧ i < 6 := by omega
    unfold qH_rankByPurse_l4 ct
    rw [if_pos (by omega), if_pos c, if_pos ht, if_pos c, if_pos ht, wr_n (x := i + 1) (by omega) (by omega), wr_n (x := a + 1) (by omega) (by omega)]
    have yes := ih n (a + 1) (i + 1) (by omega) (by omega) (by omega) (by omega) (by omega)
    have no := ih n a (i + 1) (by omega) (by omega) (by omega) (by omega) (by omega)
    by_cases h1 : μ (h + 7) t < μ (h + 7) i
    · rw [if_pos h1, if_pos (Or.inl h1), yes]; congr 1; omega
    · rw [if_neg h1]
      by_cases h2 : μ (h + 7) i = μ (h + 7) t
      · rw [if_pos h2]
        by_cases h3 : i < t
        · rw [if_pos h3, if_pos (Or.inr ⟨h2, h3⟩), yes]; congr 1; omega
        · rw [if_neg h3, if_neg (by omega), no]; congr 1; omega
      · rw [if_neg h2, if_neg (by omega), no]; congr 1; omega
def rp (V : zM) (t : Int) : Int := ct (fun u => V 7 t < V 7 u ∨ (V 7 u = V 7 t ∧ u < t)) (V 0 3).toNat 0
theorem rankByPurse_eq {μ : zM} {h : Nat} {t : Int} (h0 : 0 ≤ μ h 3) (h6 : μ h 3 ≤ 6) (ht : 0 ≤ t ∧ t < 6) : qH_rankByPurse μ h t = some (rp (hv μ h) t) := by
  unfold qH_rankByPurse
  rw [purse1_l h6 ht (μ h 3).toNat 200 0 0 (by omega) (by omega) (by omega) (by omega) (by omega), sBind, Int.zero_add]
  rfl
theorem purse2_l {μ : zM} {v : Int} (t0 : 0 ≤ μ 1 3) (h6 : μ 1 3 ≤ 6) : ∀ (k n : Nat) (i : Int), i + k = μ 1 3 → 0 ≤ i → k < n → qT_tenantByPurse_l2 μ v n i = some (if fi (fun t => rp (hv μ 1) t) v k i = -1 then .inr () else .inl (μ 4 (fi (fun t => rp (hv μ 1) t) v k i))) := by
  intro k
  induction k with
  | zero =>
    intro n i h1 h0 hn
    obtain ⟨n, rfl⟩ : ∃ n', n = n' + 1 := ⟨n - 1, by omega⟩
    unfold qT_tenantByPurse_l2 fi
    rw [if_neg (by omega), if_pos rfl]
  | succ k ih =>
    intro n i h1 h0 hn
    obtain ⟨n, rfl⟩ : ∃ n', n = n' + 1 := ⟨n - 1, by omega⟩
    unfold qT_tenantByPurse_l2 fi
    rw [if_pos (by omega), rankByPurse_eq t0 h6 ⟨h0, by omega⟩, sBind, wr_n (by omega) (by omega)]
    by_cases hw : rp (hv μ 1) i = v
    · rw [if_pos hw, if_pos (by omega), if_pos hw, if_neg (show ¬ i = -1 by omega)]
    · rw [if_neg hw, if_neg hw]
      exact ih n (i + 1) (by omega) (by omega) (by omega)
theorem purse3_l {μ V : zM} {v t : Int} (r : RowIs (μ 143) V) (h6 : V 0 3 ≤ 6) (ht : 0 ≤ t ∧ t < V 0 3) : ∀ (k n : Nat) (a i : Int), i + k = V 0 3 → 0 ≤ i → 0 ≤ a → a + k ≤ 1000 → k < n → qM_tenantByPurse_l22 μ v t n a i = some (a + ct (fun u => V 7 t < V 7 u ∨ (V 7 u = V 7 t ∧ u < t)) k i) := by
  have rt := r.t
  have pt := (r.tn t ht.1 ht.2).2.2.2.2.1
  intro k
  induction k with
  | zero =>
    intro n a i h1 h0 a0 a1 hn
    obtain ⟨n, rfl⟩ : ∃ n', n = n' + 1 := ⟨n - 1, by omega⟩
    unfold qM_tenantByPurse_l22 ct
    rw [if_neg (by omega), Int.add_zero]
  | succ k ih =>
    intro n a i h1 h0 a0 a1 hn
    obtain ⟨n, rfl⟩ : ∃ n', n = n' + 1 := ⟨n - 1, by omega⟩
    have pi := (r.tn i h0 (by omega)).2.2.2.2.1
    unfold qM_tenantByPurse_l22 ct
    rw [if_pos (by omega), of_eq (t := i) (by omega) (by decide), of_eq (t := t) (by omega) (by decide), sBind, sBind, sBind, sBind, show 20 + 7 * i + 4 = 24 + 7 * i by omega, show 20 + 7 * t + 4 = 24 + 7 * t by omega, pi, pt, wr_n (x := i + 1) (by omega) (by omega), wr_n (x := a + 1) (by omega) (by omega), wr_n (x := a + 0) (by omega) (by omega)]
    have yes := ih n (a + 1) (i + 1) (by omega) (by omega) (by omega) (by omega) (by omega)
    have no := ih n (a + 0) (i + 1) (by omega) (by omega) (by omega) (by omega) (by omega)
    by_cases h1 : V 7 t < V 7 i
    · rw [if_pos h1, if_pos (Or.inl h1), yes]; congr 1; omega
    · rw [if_neg h1]
      by_cases h2 : V 7 i = V 7 t
      · rw [if_pos h2]
        by_cases h3 : i < t
        · rw [if_pos h3, if_pos (Or.inr ⟨h2, h3⟩), yes]; congr 1; omega
        · rw [if_neg h3, if_neg (by omega), no]; congr 1; omega
      · rw [if_neg h2, if_neg (by omega), no]; congr 1; omega
theorem purse4_l {μ V : zM} {v : Int} (r : RowIs (μ 143) V) (t0 : 0 ≤ V 0 3) (h6 : V 0 3 ≤ 6) : ∀ (k n : Nat) (i : Int), i + k = V 0 3 → 0 ≤ i → k < n → qM_tenantByPurse_l7 μ v n i = some (if fi (fun t => rp V t) v k i = -1 then .inr () else .inl (V 3 (fi (fun t => rp V t) v k i))) := by
  have rt := r.t
  intro k
  induction k with
  | zero =>
    intro n i h1 h0 hn
    obtain ⟨n, rfl⟩ : ∃ n', n = n' + 1 := ⟨n - 1, by omega⟩
    unfold qM_tenantByPurse_l7 fi
    rw [if_neg (by omega), if_pos rfl]
  | succ k ih =>
    intro n i h1 h0 hn
    obtain ⟨n, rfl⟩ : ∃ n', n = n' + 1 := ⟨n - 1, by omega⟩
    unfold qM_tenantByPurse_l7 fi
    rw [if_pos (by omega), purse3_l r h6 ⟨h0, by omega⟩ (V 0 3).toNat 200 0 0 (by omega) (by omega) (by omega) (by omega) (by omega), sBind, Int.zero_add, wr_n (by omega) (by omega), of_eq (by omega) (by decide), sBind, Int.add_zero, (r.tn i h0 (by omega)).1]
    show (if rp V i = v then _ else _) = _
    by_cases hw : rp V i = v
    · rw [if_pos hw, if_pos hw, if_neg (show ¬ i = -1 by omega)]
    · rw [if_neg hw, if_neg hw]
      exact ih n (i + 1) (by omega) (by omega) (by omega)
theorem tenantByPurse_ok {N : Int} {v : Int} : OpOk N N (fun μ => qL_tenantByPurse μ v) (fun μ => qM_tenantByPurse μ v) := by
  intro μ hI
  have hB := hI.1
  have w := hB.1
  have t0 : 0 ≤ μ 1 3 := w.t0
  have t6 : μ 1 3 ≤ 6 := w.t6
  have k9 : ∀ (m : zM) (x : Int), (st m 142 0 x) 143 = m 143 := fun m x => funext fun j => st_k (by decide)
  have k8 : ∀ x : Int, (st μ 156 0 x) 143 = μ 143 := fun x => funext fun j => st_k (by decide)
  show ∃ a9 m1 x m2, qL_tenantByPurse μ v = some (a9, m1) ∧ qM_tenantByPurse m1 v = some (x, m2) ∧ m2 142 0 = a9 ∧ (a9 = 0 → m2 156 0 = x) ∧ Inv N m2
  unfold qL_tenantByPurse qT_tenantByPurse
  rw [purse2_l t0 t6 (μ 1 3).toNat 200 0 (by omega) (by omega) (by omega)]
  have hM : ∀ m : zM, m 143 = μ 143 → qM_tenantByPurse_l7 m v 200 0 = some (if fi (fun t => rp (hv μ 1) t) v (μ 1 3).toNat 0 = -1 then .inr () else .inl (μ 4 (fi (fun t => rp (hv μ 1) t) v (μ 1 3).toNat 0))) := fun m hm =>
    purse4_l (V := hv μ 1) (by rw [hm]; exact hB.2) t0 t6 (μ 1 3).toNat 200 0 (by show (0 : Int) + _ = μ 1 3; omega) (by omega) (by omega)
  generalize fi (fun t => rp (hv μ 1) t) v (μ 1 3).toNat 0 = g at hM
  by_cases hg : g = -1
  · rw [if_pos hg, sBndSr, sBndTr, if_pos rfl]
    refine ⟨1, μ, 0, st (st μ 142 0 0) 142 0 1, rfl, ?_, st_at, fun h => absurd h (by decide), thrown_inv (thrown_inv hI (Int.le_refl N)) (Int.le_refl N)⟩
    unfold qM_tenantByPurse
    rw [sBind, hM _ (k9 _ _), if_pos hg, sBndSr, fails_eq, sBnd2]
  · rw [if_neg hg, sBndSl, sBndTl]
    refine ⟨0, _, μ 4 g, _, rfl, ?_, st_at, fun _ => ?_, asked_inv (x := μ 4 g) hI⟩
    · unfold qM_tenantByPurse
      rw [sBind, hM _ (by rw [k9, k8]), if_neg hg, sBndSl]
    · rw [st_k (by decide), st_at]
/-! the creaking of floors -/
def cw (V : zM) (f t : Int) : Int := if V 9 t ≠ -1 ∧ V 1 (V 9 t) = f then V 4 t else 0
def cr (V : zM) (f : Int) : Int := ps (cw V f) (V 0 3).toNat
theorem cw_in {N : Int} {V : zM} {f t : Int} (w : WF N V) (ht : 0 ≤ t ∧ t < V 0 3) : 0 ≤ cw V f t ∧ cw V f t ≤ 50 := by
  have h := (w.tn t ht.1 ht.2).1
  unfold cw
  split <;> omega
theorem ps_in {w : Int → Int} {B : Int} {k : Nat} (h : ∀ j : Int, 0 ≤ j → j < k → 0 ≤ w j ∧ w j ≤ B) : 0 ≤ ps w k ∧ ps w k ≤ B * k := ⟨ps_nn fun j j0 j1 => (h j j0 j1).1, ps_max fun j j0 j1 => (h j j0 j1).2⟩
theorem creakC_l {N : Int} {μ : zM} {h : Nat} {f : Int} (w : WF N (hv μ h)) : ∀ (k n i : Nat), (i : Int) + k = μ h 3 → k < n → qH_creakOn_l4 μ h f n (ps (cw (hv μ h) f) i) i = some (ps (cw (hv μ h) f) (i + k)) := by
  have t6 : μ h 3 ≤ 6 := w.t6
  have n6 : μ h 0 ≤ 6 := w.n6
  intro k
  induction k with
  | zero =>
    intro n i h1 hn
    obtain ⟨n, rfl⟩ : ∃ n', n = n' + 1 := ⟨n - 1, by omega⟩
    unfold qH_creakOn_l4
    rw [if_neg (by omega)]
    rfl
  | succ k ih =>
    intro n i h1 hn
    obtain ⟨n, rfl⟩ : ∃ n', n = n' + 1 := ⟨n - 1, by omega⟩
    have hm : -1 ≤ μ (h + 9) i ∧ μ (h + 9) i < μ h 0 := (w.tn i (by omega) (show (i : Int) < μ h 3 by omega)).2.2.2.2.2
    have hw4 : 1 ≤ μ (h + 4) i ∧ μ (h + 4) i ≤ 50 := (w.tn i (by omega) (show (i : Int) < μ h 3 by omega)).1
    have hb := ps_in (w := cw (hv μ h) f) (B := 50) (k := i) (fun j j0 j1 => cw_in w ⟨j0, show j < μ h 3 by omega⟩)
    have nx := ih n (i + 1) (by omega) (by omega)
    rw [show i + 1 + k = i + (k + 1) by omega] at nx
    have hps : ps (cw (hv μ h) f) (i + 1) = ps (cw (hv μ h) f) i + cw (hv μ h) f i := rfl
    have hcw : cw (hv μ h) f i = if μ (h + 9) i ≠ -1 ∧ μ (h + 1) (μ (h + 9) i) = f then μ (h + 4) i else 0 := rfl
    rw [hps] at nx
    unfold qH_creakOn_l4
    rw [if_pos (by omega), if_pos (by omega), show (i : Int) + 1 = ((i + 1 : Nat) : Int) by omega, wr_n (x := ((i + 1 : Nat) : Int)) (by omega) (by omega)]
    by_cases h9 : μ (h + 9) i = -1
    · rw [if_pos h9]
      rw [hcw, if_neg (fun z => z.1 h9), Int.add_zero] at nx
      exact nx
    · rw [if_neg h9, if_pos (by omega)]
      by_cases h8 : μ (h + 1) (μ (h + 9) i) = f
      · rw [if_pos h8, if_pos (by omega), wr_n (by omega) (by omega)]
        rw [hcw, if_pos ⟨h9, h8⟩] at nx
        exact nx
      · rw [if_neg h8]
        rw [hcw, if_neg (fun z => h8 z.2), Int.add_zero] at nx
        exact nx
theorem creakOn_eq {N : Int} {μ : zM} {h : Nat} {f : Int} (w : WF N (hv μ h)) : qH_creakOn μ h f = some (cr (hv μ h) f) := by
  have t0 : 0 ≤ μ h 3 := w.t0
  have t6 : μ h 3 ≤ 6 := w.t6
  unfold qH_creakOn
  have hl := creakC_l (f := f) w (μ h 3).toNat 200 0 (by omega) (by omega)
  rw [show ps (cw (hv μ h) f) 0 = 0 from rfl, show ((0 : Nat) : Int) = 0 from rfl, Nat.zero_add] at hl
  rw [hl, sBind]
  rfl
/-- the six creaks laid into the object 150 as far as tenant i -/
def crM (V μ : zM) (i : Nat) : zM := fun q j => if q = 150 then (if 0 ≤ j ∧ j < 6 then ps (cw V j) i else μ q j) else μ q j
theorem crM_k {V μ : zM} {i q : Nat} (h : q ≠ 150) : crM V μ i q = μ q := funext fun j => by unfold crM; rw [if_neg h]
theorem crM_at {V μ : zM} {i : Nat} {j : Int} (h : 0 ≤ j ∧ j < 6) : crM V μ i 150 j = ps (cw V j) i := by unfold crM; rw [if_pos rfl, if_pos h]
theorem creak1_l {V μ : zM} : ∀ (k n : Nat) (i : Int) (m : zM), i + k = 6 → 0 ≤ i → (∀ q : Nat, q ≠ 150 → m q = μ q) → (∀ j, 0 ≤ j → j < i → m 150 j = 0) → (∀ j, ¬ (0 ≤ j ∧ j < i) → m 150 j = μ 150 j) → k < n → qM_findsCreaks_l2 n m i = some (crM V μ 0) := by
  intro k
  induction k with
  | zero =>
    intro n i m h1 h0 hq hz ho hn
    obtain ⟨n, rfl⟩ : ∃ n', n = n' + 1 := ⟨n - 1, by omega⟩
    unfold qM_findsCreaks_l2
    rw [if_neg (by omega)]
    congr 1
    funext q j
    unfold crM
    by_cases h150 : q = 150
    · rw [if_pos h150, h150]
      by_cases hj : 0 ≤ j ∧ j < 6
      · rw [if_pos hj, hz j hj.1 (by omega)]; rfl
      · rw [if_neg hj, ho j (by omega)]
    · rw [if_neg h150, hq q h150]
  | succ k ih =>
    intro n i m h1 h0 hq hz ho hn
    obtain ⟨n, rfl⟩ : ∃ n', n = n' + 1 := ⟨n - 1, by omega⟩
    unfold qM_findsCreaks_l2
    rw [if_pos (by omega), if_pos (by omega), sBind, wr_n (by omega) (by omega)]
    refine ih n (i + 1) _ (by omega) (by omega) (fun q h => by rw [← hq q h]; exact funext fun j => st_k h) (fun j j0 j1 => ?_) (fun j hj => ?_) (by omega)
    · by_cases hj : j = i
      · rw [hj, st_at]
      · rw [st_i hj]; exact hz j j0 (by omega)
    · rw [st_i (by omega)]; exact ho j (by omega)
theorem creak2_l {N : Int} {V μ : zM} (w : WF N V) (r : RowIs (μ 143) V) : ∀ (k n i : Nat), (i : Int) + k = V 0 3 → k < n → qM_findsCreaks_l23 n (crM V μ i) i = some (crM V μ (i + k)) := by
  have t6 := w.t6
  have n6 := w.n6
  have rt := r.t
  intro k
  induction k with
  | zero =>
    intro n i h1 hn
    obtain ⟨n, rfl⟩ : ∃ n', n = n' + 1 := ⟨n - 1, by omega⟩
    unfold qM_findsCreaks_l23
    rw [crM_k (by decide), if_neg (by omega)]
    rfl
  | succ k ih =>
    intro n i h1 hn
    obtain ⟨n, rfl⟩ : ∃ n', n = n' + 1 := ⟨n - 1, by omega⟩
    have hi : 0 ≤ (i : Int) ∧ (i : Int) < V 0 3 := by omega
    have hm := (w.tn i hi.1 hi.2).2.2.2.2.2
    have hw4 := (w.tn i hi.1 hi.2).1
    obtain ⟨-, r1, -, -, -, -, r6⟩ := r.tn i hi.1 hi.2
    have nx := ih n (i + 1) (by omega) (by omega)
    rw [show i + 1 + k = i + (k + 1) by omega, show ((i + 1 : Nat) : Int) = (i : Int) + 1 by omega] at nx
    unfold qM_findsCreaks_l23
    have o : ∀ c : Int, 0 ≤ c ∧ c ≤ 6 → qM_of (crM V μ i) i c = some (μ 143 (20 + 7 * i + c)) := fun c hc => by rw [of_eq (by omega) hc, crM_k (by decide)]
    rw [crM_k (q := 143) (by decide), if_pos (by omega), o 6 (by decide), sBind, o 1 (by decide), show 20 + 7 * (i : Int) + 6 = 26 + 7 * i by omega, show 20 + 7 * (i : Int) + 1 = 21 + 7 * i by omega, r6, r1, wr_n (x := (i : Int) + 1) (by omega) (by omega)]
    have stp : ∀ j : Int, 0 ≤ j ∧ j < 6 → ps (cw V j) (i + 1) = ps (cw V j) i + cw V j i := fun j _ => rfl
    by_cases h9 : V 9 i = -1
    · rw [if_neg (by omega)]
      have heq : crM V μ i = crM V μ (i + 1) := by
        funext q j
        unfold crM
        by_cases hq : q = 150
        · rw [if_pos hq, if_pos hq]
          by_cases hj : 0 ≤ j ∧ j < 6
          · rw [if_pos hj, if_pos hj, stp j hj]
            unfold cw
            rw [if_neg (show ¬ (V 9 (i : Int) ≠ -1 ∧ V 1 (V 9 (i : Int)) = j) from fun z => z.1 h9), Int.add_zero]
          · rw [if_neg hj, if_neg hj]
        · rw [if_neg hq, if_neg hq]
      rw [heq]
      exact nx
    · have hf := w.fl (V 9 i) (by omega) hm.2
      have hb := ps_in (w := cw V (V 1 (V 9 i))) (B := 50) (k := i) (fun j j0 j1 => cw_in w ⟨j0, by omega⟩)
      rw [if_pos (by omega), sBind, wr_n (by omega) (by omega), show V 9 (i : Int) + 1 - 1 = V 9 i by omega, flat_eq (by omega) (by decide), sBind, crM_k (q := 143) (by decide), Int.add_zero, (r.fl (V 9 i) (by omega) hm.2).1, if_pos (by omega), sBind, if_pos (by omega), crM_at (by omega), wr_n (by omega) (by omega), sBind]
      have heq : st (crM V μ i) 150 (V 1 (V 9 i)) (ps (cw V (V 1 (V 9 i))) i + V 4 i) = crM V μ (i + 1) := by
        funext q j
        unfold st crM
        by_cases hq : q = 150
        · rw [if_pos hq, if_pos hq, if_pos hq]
          by_cases hj : j = V 1 (V 9 i)
          · rw [if_pos hj, if_pos (by omega), stp j (by omega), hj]
            unfold cw
            rw [if_pos (show (V 9 (i : Int) ≠ -1 ∧ V 1 (V 9 (i : Int)) = V 1 (V 9 (i : Int))) from ⟨h9, rfl⟩)]
          · rw [if_neg hj]
            by_cases hj6 : 0 ≤ j ∧ j < 6
            · rw [if_pos hj6, if_pos hj6, stp j hj6]
              have : cw V j i = 0 := by unfold cw; rw [if_neg (fun z => hj z.2.symm)]
              omega
            · rw [if_neg hj6, if_neg hj6]
        · rw [if_neg hq, if_neg hq, if_neg hq]
      rw [heq]
      exact nx
theorem findsCreaks_eq {N : Int} {V μ : zM} (w : WF N V) (r : RowIs (μ 143) V) : qM_findsCreaks μ = some (crM V μ (V 0 3).toNat) := by
  have t0 := w.t0
  have t6 := w.t6
  unfold qM_findsCreaks
  rw [creak1_l (V := V) (μ := μ) 6 200 0 μ (by omega) (by omega) (fun _ _ => rfl) (fun j j0 j1 => by omega) (fun _ _ => rfl) (by omega), sBind]
  have h := creak2_l w r (V 0 3).toNat 200 0 (by omega) (by omega)
  rw [show ((0 : Nat) : Int) = 0 from rfl, Nat.zero_add] at h
  rw [h, sBind]
theorem crM_inv {N : Int} {V μ : zM} {i : Nat} (h : Inv N μ) : Inv N (crM V μ i) :=
  h.same (fun q hq => crM_k (by omega)) (fun q h1 h2 => crM_k (by omega)) ⟨crM_k (by decide), crM_k (by decide), crM_k (by decide), crM_k (by decide), crM_k (by decide)⟩ (by rw [crM_k (by decide)]; exact ⟨rfl, rfl, rfl, rfl, rfl, rfl, rfl⟩)
theorem creak_ok {N : Int} {f : Int} : OpOk N N (fun μ => qL_creak μ f) (fun μ => qM_creak μ f) := by
  intro μ hI
  have hB := hI.1
  have w := hB.1
  have k9 : ∀ (m : zM) (x : Int), (st m 142 0 x) 143 = m 143 := fun m x => funext fun j => st_k (by decide)
  have k8 : ∀ x : Int, (st μ 156 0 x) 143 = μ 143 := fun x => funext fun j => st_k (by decide)
  show ∃ a9 m1 x m2, qL_creak μ f = some (a9, m1) ∧ qM_creak m1 f = some (x, m2) ∧ m2 142 0 = a9 ∧ (a9 = 0 → m2 156 0 = x) ∧ Inv N m2
  unfold qL_creak qT_creak qT_requireFloor
  rw [within_eq, sBind]
  by_cases hf : 0 ≤ f ∧ f ≤ 5
  case neg =>
    rw [if_neg hf, if_pos rfl, sTcr, sBndTr, if_pos rfl]
    refine ⟨1, μ, 0, st (st μ 142 0 0) 142 0 1, rfl, ?_, st_at, fun h => absurd h (by decide), thrown_inv (thrown_inv hI (Int.le_refl N)) (Int.le_refl N)⟩
    unfold qM_creak
    rw [sBind, between_eq, sBind, if_neg hf, if_pos rfl, fails_eq, sBnd2]
  rw [if_pos hf, if_neg (show ¬ (1 : Int) = 0 by decide), sTcl, creakOn_eq w, sBind, sBndTl]
  have h3 : (st (st μ 156 0 (cr (hv μ 1) f)) 142 0 0) 143 = μ 143 := by rw [k9, k8]
  refine ⟨0, _, cr (hv μ 1) f, crM (hv μ 1) (st (st μ 156 0 (cr (hv μ 1) f)) 142 0 0) (μ 1 3).toNat, rfl, ?_, ?_, fun _ => ?_, crM_inv (asked_inv hI)⟩
  · unfold qM_creak
    rw [sBind, between_eq, sBind, if_pos hf, if_neg (show ¬ (1 : Int) = 0 by decide), findsCreaks_eq (V := hv μ 1) w (by rw [h3]; exact hB.2), sBind, if_pos (by omega), crM_at (by omega)]
    rfl
  · rw [crM_k (by decide), st_at]
  · rw [crM_k (by decide), st_k (by decide), st_at]
/-! the sum of the parts -/
theorem parts_l {N : Int} {μ : zM} {h : Nat} (hN : N ≤ 1000000000) (w : WF N (hv μ h)) : ∀ (k n i : Nat), (i : Int) + k = μ h 3 → k < n → qH_sumOfParts_l13 μ h n (μ h 16 + μ h 14 + ps (μ (h + 7)) i) i = some (μ h 16 + μ h 14 + ps (μ (h + 7)) (i + k)) := by
  have t6 : μ h 3 ≤ 6 := w.t6
  have sm : μ h 15 = μ h 14 + μ h 16 + ps (μ (h + 7)) (μ h 3).toNat := w.sm
  have rc : 0 ≤ μ h 15 ∧ μ h 15 ≤ N := w.rc
  have pd : 0 ≤ μ h 14 ∧ μ h 14 ≤ N := w.pd
  have gn : 0 ≤ μ h 16 ∧ μ h 16 ≤ N := w.gn
  have pu : ∀ j : Int, 0 ≤ j → j < μ h 3 → 0 ≤ μ (h + 7) j ∧ μ (h + 7) j ≤ N := fun j j0 j1 => (w.tn j j0 j1).2.2.2.1
  intro k
  induction k with
  | zero =>
    intro n i h1 hn
    obtain ⟨n, rfl⟩ : ∃ n', n = n' + 1 := ⟨n - 1, by omega⟩
    unfold qH_sumOfParts_l13
    rw [if_neg (by omega)]
    rfl
  | succ k ih =>
    intro n i h1 hn
    obtain ⟨n, rfl⟩ : ∃ n', n = n' + 1 := ⟨n - 1, by omega⟩
    have hb := ps_in (w := μ (h + 7)) (B := N) (k := i + 1) (fun j j0 j1 => pu j j0 (by omega))
    have hps : ps (μ (h + 7)) (i + 1) = ps (μ (h + 7)) i + μ (h + 7) i := rfl
    have nx := ih n (i + 1) (by omega) (by omega)
    rw [show i + 1 + k = i + (k + 1) by omega, hps, show ((i + 1 : Nat) : Int) = (i : Int) + 1 by omega] at nx
    have hmul : N * ((i + 1 : Nat) : Int) ≤ 6000000000 := by
      have hi : ((i + 1 : Nat) : Int) ≤ 6 := by omega
      have h1 : N * ((i + 1 : Nat) : Int) ≤ N * 6 := Int.mul_le_mul_of_nonneg_left hi (by omega)
      omega
    have pi := pu i (by omega) (by omega)
    unfold qH_sumOfParts_l13
    rw [if_pos (by omega), if_pos (by omega), if_pos (show y_inL _ from ⟨by omega, by omega⟩), wr_n (by omega) (by omega), Int.add_assoc (μ h 16 + μ h 14)]
    exact nx
theorem sumOfParts_eq {N : Int} {μ : zM} {h : Nat} (hN : N ≤ 1000000000) (w : WF N (hv μ h)) : qH_sumOfParts μ h = some (μ h 15) := by
  have t0 : 0 ≤ μ h 3 := w.t0
  have t6 : μ h 3 ≤ 6 := w.t6
  have sm : μ h 15 = μ h 14 + μ h 16 + ps (μ (h + 7)) (μ h 3).toNat := w.sm
  have pd : 0 ≤ μ h 14 ∧ μ h 14 ≤ N := w.pd
  have gn : 0 ≤ μ h 16 ∧ μ h 16 ≤ N := w.gn
  unfold qH_sumOfParts
  rw [if_pos (show y_inL _ from ⟨by omega, by omega⟩)]
  have hl := parts_l hN w (μ h 3).toNat 200 0 (by omega) (by omega)
  rw [show ps (μ (h + 7)) 0 = 0 from rfl, Int.add_zero, show ((0 : Nat) : Int) = 0 from rfl, Nat.zero_add] at hl
  rw [hl, sBind, sm]
  congr 1; omega
theorem purses_l {N : Int} {μ V : zM} (hN : N ≤ 1000000000) (w : WF N V) (r : RowIs (μ 143) V) : ∀ (k n i : Nat), (i : Int) + k = V 0 3 → k < n → qM_purses_l4 μ n (ps (V 7) i) i = some (ps (V 7) (i + k)) := by
  have t6 := w.t6
  have rt := r.t
  have sm := w.sm
  have rc := w.rc
  have pd := w.pd
  have gn := w.gn
  intro k
  induction k with
  | zero =>
    intro n i h1 hn
    obtain ⟨n, rfl⟩ : ∃ n', n = n' + 1 := ⟨n - 1, by omega⟩
    unfold qM_purses_l4
    rw [if_neg (by omega)]
    rfl
  | succ k ih =>
    intro n i h1 hn
    obtain ⟨n, rfl⟩ : ∃ n', n = n' + 1 := ⟨n - 1, by omega⟩
    have pn : ∀ j : Int, 0 ≤ j → j < V 0 3 → 0 ≤ V 7 j := fun j j0 j1 => (w.tn j j0 j1).2.2.2.1.1
    have hle : ∀ a b : Nat, (a + b : Nat) = (V 0 3).toNat → 0 ≤ ps (V 7) a ∧ ps (V 7) a ≤ ps (V 7) (a + b) := fun a b => by
      induction b with
      | zero => intro _; exact ⟨ps_nn fun j j0 j1 => pn j j0 (by omega), Int.le_refl _⟩
      | succ b _ =>
        intro hab
        refine ⟨ps_nn fun j j0 j1 => pn j j0 (by omega), ?_⟩
        have : ∀ b' : Nat, b' ≤ b + 1 → ps (V 7) a ≤ ps (V 7) (a + b') := fun b' => by
          induction b' with
          | zero => intro _; exact Int.le_refl _
          | succ b' ih2 =>
            intro hb'
            have h2 := ih2 (by omega)
            have h3 := pn (a + b' : Nat) (by omega) (by omega)
            show _ ≤ ps (V 7) (a + b') + V 7 (a + b' : Nat)
            omega
        exact this (b + 1) (Nat.le_refl _)
    have hb := hle (i + 1) k (by omega)
    rw [show i + 1 + k = (V 0 3).toNat by omega] at hb
    have hps : ps (V 7) (i + 1) = ps (V 7) i + V 7 i := rfl
    have nx := ih n (i + 1) (by omega) (by omega)
    rw [show i + 1 + k = i + (k + 1) by omega, hps, show ((i + 1 : Nat) : Int) = (i : Int) + 1 by omega] at nx
    unfold qM_purses_l4
    rw [if_pos (by omega), of_eq (by omega) (by decide), sBind, show 20 + 7 * (i : Int) + 4 = 24 + 7 * i by omega, (r.tn i (by omega) (by omega)).2.2.2.2.1, wr_n (x := (i : Int) + 1) (by omega) (by omega), wr_n (by omega) (by omega)]
    exact nx
theorem purses_eq {N : Int} {μ V : zM} (hN : N ≤ 1000000000) (w : WF N V) (r : RowIs (μ 143) V) : qM_purses μ = some (ps (V 7) (V 0 3).toNat) := by
  have t0 := w.t0
  have t6 := w.t6
  unfold qM_purses
  have hl := purses_l hN w r (V 0 3).toNat 200 0 (by omega) (by omega)
  rw [show ps (V 7) 0 = 0 from rfl, show ((0 : Nat) : Int) = 0 from rfl, Nat.zero_add] at hl
  rw [hl, sBind]
theorem partsM_eq {N : Int} {μ V : zM} (hN : N ≤ 1000000000) (w : WF N V) (r : RowIs (μ 143) V) : wr (wr (ps (V 7) (V 0 3).toNat + μ 143 6) + μ 143 5) = V 0 15 := by
  have sm := w.sm
  have rc := w.rc
  have pd := w.pd
  have gn := w.gn
  have pn : 0 ≤ ps (V 7) (V 0 3).toNat := ps_nn fun j j0 j1 => (w.tn j j0 (by omega)).2.2.2.1.1
  rw [r.gn, r.pd, wr_n (x := ps (V 7) (V 0 3).toNat + V 0 16) (by omega) (by omega), wr_n (by omega) (by omega)]
  omega
theorem receivedByParts_ok {N : Int} (hN : N ≤ 1000000000) : AskOk N qT_receivedByParts qM_receivedByParts := by
  intro μ hI
  have hB := hI.1
  have w := hB.1
  have r : RowIs ((st μ 142 0 0) 143) (hv μ 1) := by rw [show (st μ 142 0 0) 143 = μ 143 from funext fun j => st_k (by decide)]; exact hB.2
  refine ⟨μ 1 15, st μ 142 0 0, ?_, ?_, thrown_inv hI (Int.le_refl _)⟩
  · unfold qT_receivedByParts
    rw [sumOfParts_eq hN w, sBind]
  · unfold qM_receivedByParts
    rw [sBind, purses_eq hN w r, sBind, partsM_eq hN w r]
    rfl
