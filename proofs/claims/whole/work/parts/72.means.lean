/-! ===== B: meanBurden, occupancy ===== -/
theorem fp_all64 : ((List.range 1201).all fun a => (List.range 6).all fun b => decide (fp_n64 (fp_ddiv (fp_i2d (a : Int)) (fp_i2d ((b : Int) + 1))))) = true := by decide +kernel
theorem fp_mean {a b : Int} (ha : 0 ≤ a ∧ a ≤ 1200) (hb : 1 ≤ b ∧ b ≤ 6) : fp_n64 (fp_ddiv (fp_i2d a) (fp_i2d b)) := by
  have h := fp_all64
  rw [List.all_eq_true] at h
  have h1 := h a.toNat (List.mem_range.mpr (by omega))
  rw [List.all_eq_true] at h1
  have h2 := of_decide_eq_true (h1 (b - 1).toNat (List.mem_range.mpr (by omega)))
  rw [show ((a.toNat : Nat) : Int) = a by omega, show (((b - 1).toNat : Nat) : Int) + 1 = b by omega] at h2
  exact h2
theorem fp_all32 : ((List.range 7).all fun a => (List.range 6).all fun b => decide (fp_n32 (fp_fdiv (fp_i2f (a : Int)) (fp_i2f ((b : Int) + 1))) ∧ fp_n64 (fp_f2d (fp_fdiv (fp_i2f (a : Int)) (fp_i2f ((b : Int) + 1)))) ∧ fp_dcmpl (fp_f2d (fp_fdiv (fp_i2f (a : Int)) (fp_i2f ((b : Int) + 1)))) (fp_f2d (fp_fdiv (fp_i2f (a : Int)) (fp_i2f ((b : Int) + 1)))) = 0)) = true := by decide +kernel
theorem fp_occ {a b : Int} (ha : 0 ≤ a ∧ a ≤ 6) (hb : 1 ≤ b ∧ b ≤ 6) : fp_n32 (fp_fdiv (fp_i2f a) (fp_i2f b)) ∧ fp_n64 (fp_f2d (fp_fdiv (fp_i2f a) (fp_i2f b))) ∧ fp_dcmpl (fp_f2d (fp_fdiv (fp_i2f a) (fp_i2f b))) (fp_f2d (fp_fdiv (fp_i2f a) (fp_i2f b))) = 0 := by
  have h := fp_all32
  rw [List.all_eq_true] at h
  have h1 := h a.toNat (List.mem_range.mpr (by omega))
  rw [List.all_eq_true] at h1
  have h2 := of_decide_eq_true (h1 (b - 1).toNat (List.mem_range.mpr (by omega)))
  rw [show ((a.toNat : Nat) : Int) = a by omega, show (((b - 1).toNat : Nat) : Int) + 1 = b by omega] at h2
  exact h2
def bw (V : zM) (t : Int) : Int := if V 9 t = -1 then 0 else bd V t (V 9 t)
theorem bw_in {N : Int} {V : zM} {t : Int} (w : WF N V) (ht : 0 ≤ t ∧ t < V 0 3) : 0 ≤ bw V t ∧ bw V t ≤ 200 := by
  have h := (w.tn t ht.1 ht.2).2.2.2.2.2
  unfold bw
  by_cases h9 : V 9 t = -1
  · rw [if_pos h9]; omega
  · rw [if_neg h9]; exact bd_in w ht ⟨by omega, h.2⟩
theorem burdens_l {N : Int} {μ : zM} {h : Nat} (w : WF N (hv μ h)) : ∀ (k n i : Nat), (i : Int) + k = μ h 3 → k < n → qH_sumOfBurdens_l4 μ h n (ps (bw (hv μ h)) i) i = some (ps (bw (hv μ h)) (i + k)) := by
  have t6 : μ h 3 ≤ 6 := w.t6
  intro k
  induction k with
  | zero =>
    intro n i h1 hn
    obtain ⟨n, rfl⟩ : ∃ n', n = n' + 1 := ⟨n - 1, by omega⟩
    unfold qH_sumOfBurdens_l4
    rw [if_neg (by omega)]
    rfl
  | succ k ih =>
    intro n i h1 hn
    obtain ⟨n, rfl⟩ : ∃ n', n = n' + 1 := ⟨n - 1, by omega⟩
    have hi : 0 ≤ (i : Int) ∧ (i : Int) < μ h 3 := by omega
    have hm : -1 ≤ μ (h + 9) i ∧ μ (h + 9) i < μ h 0 := (w.tn i hi.1 hi.2).2.2.2.2.2
    have hb := ps_in (w := bw (hv μ h)) (B := 200) (k := i + 1) (fun j j0 j1 => bw_in w ⟨j0, show j < μ h 3 by omega⟩)
    have hps : ps (bw (hv μ h)) (i + 1) = ps (bw (hv μ h)) i + bw (hv μ h) i := rfl
    have hbw : bw (hv μ h) i = if μ (h + 9) i = -1 then 0 else bd (hv μ h) i (μ (h + 9) i) := rfl
    have nx := ih n (i + 1) (by omega) (by omega)
    rw [show i + 1 + k = i + (k + 1) by omega, show ((i + 1 : Nat) : Int) = (i : Int) + 1 by omega, hps] at nx
    unfold qH_sumOfBurdens_l4
    rw [if_pos (by omega), if_pos (by omega), wr_n (x := (i : Int) + 1) (by omega) (by omega)]
    by_cases h9 : μ (h + 9) i = -1
    · rw [if_pos h9]
      rw [hbw, if_pos h9, Int.add_zero] at nx
      exact nx
    · rw [hbw, if_neg h9] at nx hps
      rw [if_neg h9, if_pos (by omega), burdenFor_eq w hi ⟨by omega, hm.2⟩, sBind, wr_n (by omega) (by omega)]
      exact nx
theorem sumOfBurdens_eq {N : Int} {μ : zM} {h : Nat} (w : WF N (hv μ h)) : qH_sumOfBurdens μ h = some (ps (bw (hv μ h)) (μ h 3).toNat) := by
  have t0 : 0 ≤ μ h 3 := w.t0
  have t6 : μ h 3 ≤ 6 := w.t6
  unfold qH_sumOfBurdens
  have hl := burdens_l w (μ h 3).toNat 200 0 (by omega) (by omega)
  rw [show ps (bw (hv μ h)) 0 = 0 from rfl, show ((0 : Nat) : Int) = 0 from rfl, Nat.zero_add] at hl
  rw [hl, sBind]
theorem mean_l {N : Int} {μ V : zM} (w : WF N V) (r : RowIs (μ 143) V) : ∀ (k n i : Nat), (i : Int) + k = V 0 3 → k < n → qM_meanBurden_l11 μ n (ps (bw V) i) (ct (fun t => V 9 t ≠ -1) i 0) i = some (ps (bw V) (i + k), ct (fun t => V 9 t ≠ -1) (i + k) 0) := by
  have t6 := w.t6
  have rt := r.t
  have n6 := w.n6
  intro k
  induction k with
  | zero =>
    intro n i h1 hn
    obtain ⟨n, rfl⟩ : ∃ n', n = n' + 1 := ⟨n - 1, by omega⟩
    unfold qM_meanBurden_l11
    rw [if_neg (by omega)]
    rfl
  | succ k ih =>
    intro n i h1 hn
    obtain ⟨n, rfl⟩ : ∃ n', n = n' + 1 := ⟨n - 1, by omega⟩
    have hi : 0 ≤ (i : Int) ∧ (i : Int) < V 0 3 := by omega
    have hm := (w.tn i hi.1 hi.2).2.2.2.2.2
    have r6 := (r.tn i hi.1 hi.2).2.2.2.2.2.2
    have hb := ps_in (w := bw V) (B := 200) (k := i + 1) (fun j j0 j1 => bw_in w ⟨j0, by omega⟩)
    have hc := ct_nn (p := fun t => V 9 t ≠ -1) i 0
    have hps : ps (bw V) (i + 1) = ps (bw V) i + bw V i := rfl
    have hbw : bw V i = if V 9 i = -1 then 0 else bd V i (V 9 i) := rfl
    have hct := ct_last (p := fun t => V 9 t ≠ -1) i 0
    have nx := ih n (i + 1) (by omega) (by omega)
    rw [show i + 1 + k = i + (k + 1) by omega, show ((i + 1 : Nat) : Int) = (i : Int) + 1 by omega, hps, hct, Int.zero_add] at nx
    unfold qM_meanBurden_l11
    rw [if_pos (by omega), of_eq (by omega) (by decide), sBind, show 20 + 7 * (i : Int) + 6 = 26 + 7 * i by omega, r6, wr_n (x := (i : Int) + 1) (by omega) (by omega)]
    by_cases h9 : V 9 i = -1
    · rw [if_pos (by omega)]
      rw [hbw, if_pos h9, Int.add_zero, if_neg (fun z => z h9), Int.add_zero] at nx
      exact nx
    · rw [hbw, if_neg h9] at nx hps
      rw [if_pos h9] at nx
      rw [if_neg (by omega), sBind, wr_n (x := V 9 (i : Int) + 1 - 1) (by omega) (by omega), show V 9 (i : Int) + 1 - 1 = V 9 i by omega, burdenOf_eq w r hi ⟨by omega, hm.2⟩, sBind, wr_n (by omega) (by omega), wr_n (by omega) (by omega)]
      exact nx
theorem meanM_eq {N : Int} {μ V : zM} (w : WF N V) (r : RowIs (μ 143) V) : qM_meanBurden_l11 μ 200 0 0 0 = some (ps (bw V) (V 0 3).toNat, ct (fun t => V 9 t ≠ -1) (V 0 3).toNat 0) := by
  have t0 := w.t0
  have t6 := w.t6
  have hl := mean_l w r (V 0 3).toNat 200 0 (by omega) (by omega)
  rw [show ps (bw V) 0 = 0 from rfl, show ct (fun t => V 9 t ≠ -1) 0 0 = 0 from rfl, show ((0 : Nat) : Int) = 0 from rfl, Nat.zero_add] at hl
  exact hl
/-- what a question owes that answers by a real number -/
def RealOk (N : Int) (C M : zM → Option (Int × zM)) : Prop := ∀ μ, Inv N μ → ∃ a m1 x m2, C μ = some (a, m1) ∧ M m1 = some (x, m2) ∧ m2 142 0 = a ∧ (a = 0 → m2 157 0 = x) ∧ Inv N m2
theorem outD_inv {N : Int} {μ : zM} {v : Int} (hI : Inv N μ) : Inv N (st μ 157 0 v) :=
  hI.same (fun q hq => funext fun j => st_k (by omega)) (fun q h1 h2 => funext fun j => st_k (by omega)) ⟨funext fun j => st_k (by decide), funext fun j => st_k (by decide), funext fun j => st_k (by decide), funext fun j => st_k (by decide), funext fun j => st_k (by decide)⟩ ⟨st_k (by decide), st_k (by decide), st_k (by decide), st_k (by decide), st_k (by decide), st_k (by decide), st_k (by decide)⟩
theorem meanBurden_ok {N : Int} : RealOk N qL_meanBurden qM_meanBurden := by
  intro μ hI
  have hB := hI.1
  have w := hB.1
  have t0 : 0 ≤ μ 1 3 := w.t0
  have t6 : μ 1 3 ≤ 6 := w.t6
  have k9 : ∀ (m : zM) (x : Int), (st m 142 0 x) 143 = m 143 := fun m x => funext fun j => st_k (by decide)
  have k8 : ∀ x : Int, (st μ 157 0 x) 143 = μ 143 := fun x => funext fun j => st_k (by decide)
  have hM : ∀ m : zM, m 143 = μ 143 → qM_meanBurden_l11 m 200 0 0 0 = some (ps (bw (hv μ 1)) (μ 1 3).toNat, ct (fun t => hv μ 1 9 t ≠ -1) (μ 1 3).toNat 0) := fun m hm => meanM_eq (V := hv μ 1) w (by rw [hm]; exact hB.2)
  have hb := ps_in (w := bw (hv μ 1)) (B := 200) (k := (μ 1 3).toNat) (fun j j0 j1 => bw_in w ⟨j0, show j < μ 1 3 by omega⟩)
  have hc := ct_nn (p := fun t => hv μ 1 9 t ≠ -1) (μ 1 3).toNat 0
  have hh : qH_housedCount μ 1 = some (ct (fun t => hv μ 1 9 t ≠ -1) (μ 1 3).toNat 0) := housed_eq t0 t6
  unfold qL_meanBurden qT_meanBurden
  rw [hh, sBind, sumOfBurdens_eq w, sBind]
  generalize ct (fun t => hv μ 1 9 t ≠ -1) (μ 1 3).toNat 0 = c at hM hc
  generalize ps (bw (hv μ 1)) (μ 1 3).toNat = b at hM hb
  by_cases h0 : c = 0
  · rw [if_pos h0, sBndTr, if_pos rfl]
    refine ⟨1, μ, fp_i2d 0, st (st μ 142 0 0) 142 0 1, rfl, ?_, st_at, fun h => absurd h (by decide), thrown_inv (thrown_inv hI (Int.le_refl N)) (Int.le_refl N)⟩
    unfold qM_meanBurden
    rw [sBind, hM _ (k9 _ _), sBind]
    show (if c = 0 then _ else _) = _
    rw [if_pos h0, fails_eq, sBnd2]
  · have hfp := fp_mean (a := b) (b := c) (by omega) (by omega)
    rw [if_neg h0, if_pos hfp, sBndTl]
    refine ⟨0, _, fp_ddiv (fp_i2d b) (fp_i2d c), st (st μ 157 0 (fp_ddiv (fp_i2d b) (fp_i2d c))) 142 0 0, rfl, ?_, st_at, fun _ => by rw [st_k (by decide), st_at], thrown_inv (outD_inv hI) (Int.le_refl N)⟩
    unfold qM_meanBurden
    rw [sBind, hM _ (by rw [k9, k8]), sBind]
    show (if c = 0 then _ else if fp_n64 (fp_ddiv (fp_i2d b) (fp_i2d c)) then some (fp_ddiv (fp_i2d b) (fp_i2d c), _) else none) = _
    rw [if_neg h0, if_pos hfp]
theorem occM_l {μ V : zM} (hr9 : RowIs (μ 143) V) (t0 : 0 ≤ V 0 3) (t6 : V 0 3 ≤ 6) (n6 : V 0 0 ≤ 6) : ∀ (k n : Nat) (a i : Int), i + k = V 0 0 → 0 ≤ i → 0 ≤ a → a + k ≤ 1000 → k < n → qM_occupancy_l25 μ n a i = some (a + ct (fun f => fi (V 9) f (V 0 3).toNat 0 ≠ -1) k i) := by
  have rn := hr9.n
  intro k
  induction k with
  | zero =>
    intro n a i h1 h0 a0 a1 hn
    obtain ⟨n, rfl⟩ : ∃ n', n = n' + 1 := ⟨n - 1, by omega⟩
    unfold qM_occupancy_l25 ct
    rw [if_neg (by omega), Int.add_zero]
  | succ k ih =>
    intro n a i h1 h0 a0 a1 hn
    obtain ⟨n, rfl⟩ : ∃ n', n = n' + 1 := ⟨n - 1, by omega⟩
    have hs := fi_spec (w := V 9) (v := i) (V 0 3).toNat 0 (by omega)
    unfold qM_occupancy_l25 ct
    rw [if_pos (by omega), occupant_eq hr9 t0 t6 (by omega), sBind, wr_n (x := i + 1) (by omega) (by omega), wr_n (x := a + 1) (by omega) (by omega), wr_n (x := a + 0) (by omega) (by omega)]
    by_cases h9 : fi (V 9) i (V 0 3).toNat 0 = -1
    · rw [if_pos (by omega), if_neg (fun z => z h9), ih n (a + 0) (i + 1) (by omega) (by omega) (by omega) (by omega) (by omega)]
      congr 1; omega
    · rw [if_neg (by omega), if_pos h9, ih n (a + 1) (i + 1) (by omega) (by omega) (by omega) (by omega) (by omega)]
      congr 1; omega
/-- occupancy: the model answers by a float, the law's record holds the double of it -/
theorem occupancy_ok {N : Int} {μ : zM} (hI : Inv N μ) : ∃ a m1 x m2, qL_occupancy μ = some (a, m1) ∧ qM_occupancy m1 = some (x, m2) ∧ m2 142 0 = a ∧ (a = 0 → fp_n64 (fp_f2d x) ∧ m2 157 0 = fp_f2d x ∧ fp_dcmpl (fp_f2d x) (fp_f2d x) = 0) ∧ Inv N m2 := by
  have hB := hI.1
  have w := hB.1
  have t0 : 0 ≤ μ 1 3 := w.t0
  have t6 : μ 1 3 ≤ 6 := w.t6
  have n0 : 0 ≤ μ 1 0 := w.n0
  have n6 : μ 1 0 ≤ 6 := w.n6
  have hn : μ 143 0 = μ 1 0 := hB.2.n
  have k9 : ∀ (m : zM) (x : Int), (st m 142 0 x) 143 = m 143 := fun m x => funext fun j => st_k (by decide)
  have k8 : ∀ x : Int, (st μ 157 0 x) 143 = μ 143 := fun x => funext fun j => st_k (by decide)
  have hh : qH_housedCount μ 1 = some (ct (fun t => hv μ 1 9 t ≠ -1) (μ 1 3).toNat 0) := housed_eq t0 t6
  have hc := ct_nn (p := fun t => hv μ 1 9 t ≠ -1) (μ 1 3).toNat 0
  have ho : ct (fun f => fi (hv μ 1 9) f (μ 1 3).toNat 0 ≠ -1) (μ 1 0).toNat 0 = ct (fun t => hv μ 1 9 t ≠ -1) (μ 1 3).toNat 0 := occ_ct w (μ 1 3).toNat (by show ((μ 1 3).toNat : Int) ≤ μ 1 3; omega)
  have hM : ∀ m : zM, m 143 = μ 143 → qM_occupancy_l25 m 200 0 0 = some (ct (fun t => hv μ 1 9 t ≠ -1) (μ 1 3).toNat 0) := fun m hm => by
    rw [occM_l (V := hv μ 1) (by rw [hm]; exact hB.2) t0 t6 n6 (μ 1 0).toNat 200 0 0 (by show (0 : Int) + _ = μ 1 0; omega) (by omega) (by omega) (by omega) (by omega), Int.zero_add]
    exact congrArg some ho
  unfold qL_occupancy qT_occupancy
  rw [hh, sBind]
  generalize ct (fun t => hv μ 1 9 t ≠ -1) (μ 1 3).toNat 0 = c at hM hc
  by_cases h0 : μ 1 0 = 0
  · rw [if_pos h0, sBndTr, if_pos rfl]
    refine ⟨1, μ, fp_i2f 0, st (st μ 142 0 0) 142 0 1, rfl, ?_, st_at, fun h => absurd h (by decide), thrown_inv (thrown_inv hI (Int.le_refl N)) (Int.le_refl N)⟩
    unfold qM_occupancy
    rw [sBind, k9, hn, if_pos h0, fails_eq, sBnd2]
  · have hfp := fp_occ (a := c) (b := μ 1 0) (by omega) (by omega)
    rw [if_neg h0, if_pos hfp.1, sBndTl, if_pos hfp.2.1]
    refine ⟨0, _, fp_fdiv (fp_i2f c) (fp_i2f (μ 1 0)), st (st μ 157 0 (fp_f2d (fp_fdiv (fp_i2f c) (fp_i2f (μ 1 0))))) 142 0 0, rfl, ?_, st_at, fun _ => ⟨hfp.2.1, by rw [st_k (by decide), st_at], hfp.2.2⟩, thrown_inv (outD_inv hI) (Int.le_refl N)⟩
    unfold qM_occupancy
    have h3 : ∀ x, (st (st μ 157 0 x) 142 0 0) 143 = μ 143 := fun x => by rw [k9, k8]
    rw [sBind, h3, hn, if_neg h0, hM _ (h3 _), sBind, if_pos hfp.1]
