/-! ===== B: questions that count ===== -/
theorem ct_last {p : Int → Prop} [DecidablePred p] : ∀ (k : Nat) (i : Int), ct p (k + 1) i = ct p k i + (if p (i + k) then 1 else 0)
  | 0, i => by
    unfold ct
    rw [show i + ((0 : Nat) : Int) = i by omega]
    unfold ct
    omega
  | k+1, i => by
    have h := ct_last (p := p) k (i + 1)
    have h2 : ct p (k + 1 + 1) i = (if p i then 1 else 0) + ct p (k + 1) (i + 1) := rfl
    have h3 : ct p (k + 1) i = (if p i then 1 else 0) + ct p k (i + 1) := rfl
    rw [h2, h3, h, show i + 1 + (k : Int) = i + ((k + 1 : Nat) : Int) by omega]
    omega
theorem ct_add1 {p q : Int → Prop} [DecidablePred p] [DecidablePred q] {x : Int} : ∀ (k : Nat) (i : Int), i ≤ x → x < i + k → ¬ p x → q x → (∀ j, j ≠ x → (q j ↔ p j)) → ct q k i = ct p k i + 1
  | 0, i, h0, h1, _, _, _ => by omega
  | k+1, i, h0, h1, h2, h3, h4 => by
    unfold ct
    by_cases hx : i = x
    · rw [ct_congr (p := q) (q := p) k (i + 1) (fun j j0 _ => h4 j (by omega)), hx, if_pos h3, if_neg h2]; omega
    · rw [ct_add1 (p := p) (q := q) k (i + 1) (by omega) (by omega) h2 h3 h4]
      have h5 := h4 i hx
      by_cases hp : p i
      · rw [if_pos hp, if_pos (h5.mpr hp)]; omega
      · rw [if_neg hp, if_neg (fun z => hp (h5.mp z))]; omega
theorem fi_no {w : Int → Int} {v : Int} (hv9 : v ≠ -1 ∨ True) (k : Nat) : fi w v k 0 = -1 ↔ ∀ j : Int, 0 ≤ j → j < k → w j ≠ v := by
  have h := fi_spec (w := w) (v := v) k 0 (Int.le_refl 0)
  constructor
  · intro h1
    rcases h with h | h
    · omega
    · intro j j0 j1; exact h.2 j j0 (by omega)
  · intro h1
    rcases h with h | h
    · exact absurd h.2.2 (h1 _ h.1 (by omega))
    · exact h.1
/-- as many flats are lived in as tenants have a home -/
theorem occ_ct {N : Int} {V : zM} (w : WF N V) : ∀ k : Nat, (k : Int) ≤ V 0 3 → ct (fun f => fi (V 9) f k 0 ≠ -1) (V 0 0).toNat 0 = ct (fun t => V 9 t ≠ -1) k 0
  | 0, _ => by
    have h : ∀ n : Nat, ∀ i : Int, ct (fun f => fi (V 9) f 0 0 ≠ -1) n i = 0 := fun n => by
      induction n with
      | zero => intro i; rfl
      | succ n ih => intro i; unfold ct; rw [ih, if_neg (fun z => z rfl)]; rfl
    rw [h]; rfl
  | k+1, hk => by
    have n0 := w.n0
    have ih := occ_ct w k (by omega)
    rw [ct_last, ← ih]
    rw [show (0 : Int) + (k : Int) = k by omega]
    have hho := (w.tn k (by omega) (by omega)).2.2.2.2.2
    have hs : ∀ f : Int, fi (V 9) f (k + 1) 0 ≠ -1 ↔ (fi (V 9) f k 0 ≠ -1 ∨ V 9 k = f) := fun f => by
      rw [Ne, Ne, fi_no (Or.inr trivial) (k + 1), fi_no (Or.inr trivial) k]
      constructor
      · intro h
        by_cases h9 : V 9 k = f
        · exact Or.inr h9
        · refine Or.inl fun h2 => h fun j j0 j1 => ?_
          by_cases hj : j = k
          · rw [hj]; exact h9
          · exact h2 j j0 (by omega)
      · rintro (h | h)
        · exact fun h2 => h fun j j0 j1 => h2 j j0 (by omega)
        · exact fun h2 => h2 k (by omega) (by omega) h
    by_cases h9 : V 9 k = -1
    · rw [if_neg (fun z => z h9), Int.add_zero]
      refine ct_congr _ _ fun f f0 f1 => ?_
      rw [hs f]
      constructor
      · rintro (h | h)
        · exact h
        · omega
      · exact Or.inl
    · rw [if_pos h9]
      refine ct_add1 (x := V 9 k) _ _ (by omega) (by omega) ?_ ((hs _).mpr (Or.inr rfl)) (fun f hf => ?_)
      · show ¬ fi (V 9) (V 9 k) k 0 ≠ -1
        intro h
        rw [Ne, fi_no (Or.inr trivial) k] at h
        exact h fun j j0 j1 z => h9 (z ▸ w.hm j k j0 j1 (by omega) z)
      · rw [hs f]
        constructor
        · rintro (h | h)
          · exact h
          · exact absurd h.symm hf
        · exact Or.inl
theorem housed_l {μ : zM} {h : Nat} (h6 : μ h 3 ≤ 6) : ∀ (k n : Nat) (a i : Int), i + k = μ h 3 → 0 ≤ i → 0 ≤ a → a + k ≤ 1000 → k < n → qH_housedCount_l4 μ h n a i = some (a + ct (fun t => μ (h + 9) t ≠ -1) k i) := by
  intro k
  induction k with
  | zero =>
    intro n a i h1 h0 a0 a1 hn
    obtain ⟨n, rfl⟩ : ∃ n', n = n' + 1 := ⟨n - 1, by omega⟩
    unfold qH_housedCount_l4 ct
    rw [if_neg (by omega), Int.add_zero]
  | succ k ih =>
    intro n a i h1 h0 a0 a1 hn
    obtain ⟨n, rfl⟩ : ∃ n', n = n' + 1 := ⟨n - 1, by omega⟩
    unfold qH_housedCount_l4 ct
    rw [if_pos (by omega), if_pos (by omega), wr_n (x := i + 1) (by omega) (by omega), wr_n (x := a + 1) (by omega) (by omega)]
    by_cases h9 : μ (h + 9) i = -1
    · rw [if_pos h9, if_neg (fun z => z h9), ih n a (i + 1) (by omega) (by omega) a0 (by omega) (by omega)]
      congr 1; omega
    · rw [if_neg h9, if_pos h9, ih n (a + 1) (i + 1) (by omega) (by omega) (by omega) (by omega) (by omega)]
      congr 1; omega
theorem housed_eq {μ : zM} {h : Nat} (h0 : 0 ≤ μ h 3) (h6 : μ h 3 ≤ 6) : qH_housedCount μ h = some (ct (fun t => μ (h + 9) t ≠ -1) (μ h 3).toNat 0) := by
  unfold qH_housedCount
  rw [housed_l h6 (μ h 3).toNat 200 0 0 (by omega) (by omega) (by omega) (by omega) (by omega), sBind, Int.zero_add]
theorem vacant_l {μ V : zM} (hr9 : RowIs (μ 143) V) (t0 : 0 ≤ V 0 3) (t6 : V 0 3 ≤ 6) (n6 : V 0 0 ≤ 6) : ∀ (k n : Nat) (a i : Int), i + k = V 0 0 → 0 ≤ i → 0 ≤ a → a + k ≤ 1000 → k < n → qM_vacantFlats_l9 μ n a i = some (a + ct (fun f => fi (V 9) f (V 0 3).toNat 0 = -1) k i) := by
  have rn := hr9.n
  intro k
  induction k with
  | zero =>
    intro n a i h1 h0 a0 a1 hn
    obtain ⟨n, rfl⟩ : ∃ n', n = n' + 1 := ⟨n - 1, by omega⟩
    unfold qM_vacantFlats_l9 ct
    rw [if_neg (by omega), Int.add_zero]
  | succ k ih =>
    intro n a i h1 h0 a0 a1 hn
    obtain ⟨n, rfl⟩ : ∃ n', n = n' + 1 := ⟨n - 1, by omega⟩
    have hs := fi_spec (w := V 9) (v := i) (V 0 3).toNat 0 (by omega)
    unfold qM_vacantFlats_l9 ct
    rw [if_pos (by omega), occupant_eq hr9 t0 t6 (by omega), sBind, wr_n (x := i + 1) (by omega) (by omega), wr_n (x := a + 1) (by omega) (by omega), wr_n (x := a + 0) (by omega) (by omega)]
    by_cases h9 : fi (V 9) i (V 0 3).toNat 0 = -1
    · rw [if_pos (by omega), if_pos h9, ih n (a + 1) (i + 1) (by omega) (by omega) (by omega) (by omega) (by omega)]
      congr 1; omega
    · rw [if_neg (by omega), if_neg h9, ih n (a + 0) (i + 1) (by omega) (by omega) (by omega) (by omega) (by omega)]
      congr 1; omega
theorem ct_not {p : Int → Prop} [DecidablePred p] : ∀ (k : Nat) (i : Int), ct (fun j => ¬ p j) k i + ct p k i = k
  | 0, _ => by unfold ct; omega
  | k+1, i => by
    have h := ct_not (p := p) k (i + 1)
    unfold ct
    by_cases hp : p i
    · rw [if_neg (fun z => z hp), if_pos hp]; omega
    · rw [if_pos hp, if_neg hp]; omega
theorem vacantFlats_ok {N : Int} : AskOk N qT_vacantFlats qM_vacantFlats := by
  intro μ hI
  have hB := hI.1
  have w := hB.1
  have t0 : 0 ≤ μ 1 3 := w.t0
  have t6 : μ 1 3 ≤ 6 := w.t6
  have n0 : 0 ≤ μ 1 0 := w.n0
  have n6 : μ 1 0 ≤ 6 := w.n6
  have k9 : (st μ 142 0 0) 143 = μ 143 := funext fun j => st_k (by decide)
  have hc : ct (fun f => fi (hv μ 1 9) f (μ 1 3).toNat 0 ≠ -1) (μ 1 0).toNat 0 = ct (fun t => hv μ 1 9 t ≠ -1) (μ 1 3).toNat 0 := occ_ct w (μ 1 3).toNat (by show ((μ 1 3).toNat : Int) ≤ μ 1 3; omega)
  have hn := ct_not (p := fun f => fi (hv μ 1 9) f (μ 1 3).toNat 0 = -1) (μ 1 0).toNat 0
  have h2 : ct (fun f => ¬ fi (hv μ 1 9) f (μ 1 3).toNat 0 = -1) (μ 1 0).toNat 0 = ct (fun t => hv μ 1 9 t ≠ -1) (μ 1 3).toNat 0 := hc
  have hnn := ct_nn (p := fun t => hv μ 1 9 t ≠ -1) (μ 1 3).toNat 0
  refine ⟨μ 1 0 - ct (fun t => hv μ 1 9 t ≠ -1) (μ 1 3).toNat 0, st μ 142 0 0, ?_, ?_, thrown_inv hI (Int.le_refl _)⟩
  · unfold qT_vacantFlats
    rw [housed_eq t0 t6, sBind]
    show some (wr (μ 1 0 - ct (fun t => hv μ 1 9 t ≠ -1) (μ 1 3).toNat 0)) = _
    rw [wr_n (by omega) (by omega)]
  · unfold qM_vacantFlats
    rw [sBind, vacant_l (V := hv μ 1) (by rw [k9]; exact hB.2) t0 t6 n6 (μ 1 0).toNat 200 0 0 (by show (0 : Int) + _ = μ 1 0; omega) (by omega) (by omega) (by omega) (by omega), sBind, Int.zero_add]
    show some (ct (fun f => fi (hv μ 1 9) f (μ 1 3).toNat 0 = -1) (μ 1 0).toNat 0, _) = _
    rw [show ct (fun f => fi (hv μ 1 9) f (μ 1 3).toNat 0 = -1) (μ 1 0).toNat 0 = μ 1 0 - ct (fun t => hv μ 1 9 t ≠ -1) (μ 1 3).toNat 0 by omega]
/-! the ranks of flats -/
theorem rank_l {N : Int} {μ : zM} {h : Nat} {t f : Int} (w : WF N (hv μ h)) (ht : 0 ≤ t ∧ t < μ h 3) (hf : 0 ≤ f ∧ f < μ h 0) : ∀ (k n : Nat) (a i : Int), i + k = μ h 0 → 0 ≤ i → 0 ≤ a → a + k ≤ 1000 → k < n → qH_rankFor_l5 μ h t f n a i = some (a + ct (fun g => pf (hv μ h) t g f) k i) := by
  have n6 : μ h 0 ≤ 6 := w.n6
  intro k
  induction k with
  | zero =>
    intro n a i h1 h0 a0 a1 hn
    obtain ⟨n, rfl⟩ : ∃ n', n = n' + 1 := ⟨n - 1, by omega⟩
    unfold qH_rankFor_l5 ct
    rw [if_neg (by omega), Int.add_zero]
  | succ k ih =>
    intro n a i h1 h0 a0 a1 hn
    obtain ⟨n, rfl⟩ : ∃ n', n = n' + 1 := ⟨n - 1, by omega⟩
    unfold qH_rankFor_l5 ct
    rw [if_pos (by omega), prefersFlat_eq w ht ⟨h0, by omega⟩ hf, sBind, wr_n (x := i + 1) (by omega) (by omega), wr_n (x := a + 1) (by omega) (by omega)]
    by_cases hp : pf (hv μ h) t i f
    · rw [if_pos hp, if_neg (show ¬ (1 : Int) = 0 by decide), ih n (a + 1) (i + 1) (by omega) (by omega) (by omega) (by omega) (by omega)]
      congr 1; omega
    · rw [if_neg hp, if_pos rfl, ih n a (i + 1) (by omega) (by omega) (by omega) (by omega) (by omega)]
      congr 1; omega
theorem rankFor_eq {N : Int} {μ : zM} {h : Nat} {t f : Int} (w : WF N (hv μ h)) (ht : 0 ≤ t ∧ t < μ h 3) (hf : 0 ≤ f ∧ f < μ h 0) : qH_rankFor μ h t f = some (rk (hv μ h) t f) := by
  have n6 : μ h 0 ≤ 6 := w.n6
  unfold qH_rankFor
  rw [rank_l w ht hf (μ h 0).toNat 200 0 0 (by omega) (by omega) (by omega) (by omega) (by omega), sBind, Int.zero_add]
  rfl
theorem flatAt1_l {N : Int} {μ V : zM} {t v f : Int} (w : WF N V) (r : RowIs (μ 143) V) (ht : 0 ≤ t ∧ t < V 0 3) (hf : 0 ≤ f ∧ f < V 0 0) : ∀ (k n : Nat) (a i : Int), i + k = V 0 0 → 0 ≤ i → 0 ≤ a → a + k ≤ 1000 → k < n → qM_flatAt_l18 μ t v f n a i = some (a + ct (fun g => pf V t g f) k i) := by
  have n6 := w.n6
  have rn := r.n
  intro k
  induction k with
  | zero =>
    intro n a i h1 h0 a0 a1 hn
    obtain ⟨n, rfl⟩ : ∃ n', n = n' + 1 := ⟨n - 1, by omega⟩
    unfold qM_flatAt_l18 ct
    rw [if_neg (by omega), Int.add_zero]
  | succ k ih =>
    intro n a i h1 h0 a0 a1 hn
    obtain ⟨n, rfl⟩ : ∃ n', n = n' + 1 := ⟨n - 1, by omega⟩
    unfold qM_flatAt_l18 ct
    rw [if_pos (by omega), prefers_eq w r ht ⟨h0, by omega⟩ hf.2, sBind, wr_n (x := i + 1) (by omega) (by omega), wr_n (x := a + 1) (by omega) (by omega), wr_n (x := a + 0) (by omega) (by omega)]
    have no : ¬ pf V t i f → qM_flatAt_l18 μ t v f n (a + 0) (i + 1) = some (a + ((if pf V t i f then 1 else 0) + ct (fun g => pf V t g f) k (i + 1))) := fun z => by
      rw [if_neg z, ih n (a + 0) (i + 1) (by omega) (by omega) (by omega) (by omega) (by omega)]
      congr 1; omega
    by_cases hi : i = f
    · rw [if_pos hi]; exact no (by rw [hi]; exact pf_irr)
    rw [if_neg hi]
    by_cases hp : pf V t i f
    · rw [if_pos (Or.inr hp), if_neg (show ¬ (1 : Int) = 0 by decide), if_pos hp, ih n (a + 1) (i + 1) (by omega) (by omega) (by omega) (by omega) (by omega)]
      congr 1; omega
    · rw [if_neg (show ¬ (f < 0 ∨ pf V t i f) from fun z => by
        rcases z with z | z
        · omega
        · exact hp z), if_pos rfl]; exact no hp
theorem flatAt2_l {N : Int} {μ V : zM} {t v : Int} (w : WF N V) (r : RowIs (μ 143) V) (ht : 0 ≤ t ∧ t < V 0 3) : ∀ (k n : Nat) (i : Int), i + k = V 0 0 → 0 ≤ i → k < n → qM_flatAt_l2 μ t v n i = some (if fi (fun f => rk V t f) v k i = -1 then .inr () else .inl (fi (fun f => rk V t f) v k i)) := by
  have n6 := w.n6
  have rn := r.n
  intro k
  induction k with
  | zero =>
    intro n i h1 h0 hn
    obtain ⟨n, rfl⟩ : ∃ n', n = n' + 1 := ⟨n - 1, by omega⟩
    unfold qM_flatAt_l2 fi
    rw [if_neg (by omega), if_pos rfl]
  | succ k ih =>
    intro n i h1 h0 hn
    obtain ⟨n, rfl⟩ : ∃ n', n = n' + 1 := ⟨n - 1, by omega⟩
    unfold qM_flatAt_l2 fi
    rw [if_pos (by omega), flatAt1_l w r ht ⟨h0, by omega⟩ (V 0 0).toNat 200 0 0 (by omega) (by omega) (by omega) (by omega) (by omega), sBind, Int.zero_add, wr_n (by omega) (by omega)]
    show (if rk V t i = v then _ else _) = _
    by_cases hw : rk V t i = v
    · rw [if_pos hw, if_pos hw, if_neg (show ¬ i = -1 by omega)]
    · rw [if_neg hw, if_neg hw]
      exact ih n (i + 1) (by omega) (by omega) (by omega)
def fAt (V : zM) (t v : Int) : Int := fi (fun f => rk V t f) v (V 0 0).toNat 0
theorem flatAt_eq {N : Int} {μ V : zM} {t v : Int} (w : WF N V) (r : RowIs (μ 143) V) (ht : 0 ≤ t ∧ t < V 0 3) : qM_flatAt μ t v = some (fAt V t v) := by
  have n0 := w.n0
  have n6 := w.n6
  unfold qM_flatAt fAt
  rw [flatAt2_l w r ht (V 0 0).toNat 200 0 (by omega) (by omega) (by omega)]
  by_cases hf : fi (fun f => rk V t f) v (V 0 0).toNat 0 = -1
  · rw [if_pos hf, sBndSr, hf]
  · rw [if_neg hf, sBndSl]
theorem byRank_l {N : Int} {μ : zM} {t v : Int} (w : WF N (hv μ 1)) (ht : 0 ≤ t ∧ t < μ 1 3) : ∀ (k n : Nat) (i : Int), i + k = μ 1 0 → 0 ≤ i → k < n → qT_flatByRank_l9 μ v t n i = some (if fi (fun f => rk (hv μ 1) t f) v k i = -1 then .inr () else .inl (fi (fun f => rk (hv μ 1) t f) v k i)) := by
  have n6 : μ 1 0 ≤ 6 := w.n6
  intro k
  induction k with
  | zero =>
    intro n i h1 h0 hn
    obtain ⟨n, rfl⟩ : ∃ n', n = n' + 1 := ⟨n - 1, by omega⟩
    unfold qT_flatByRank_l9 fi
    rw [if_neg (by omega), if_pos rfl]
  | succ k ih =>
    intro n i h1 h0 hn
    obtain ⟨n, rfl⟩ : ∃ n', n = n' + 1 := ⟨n - 1, by omega⟩
    unfold qT_flatByRank_l9 fi
    rw [if_pos (by omega), rankFor_eq w ht ⟨h0, by omega⟩, sBind, wr_n (by omega) (by omega)]
    by_cases hw : rk (hv μ 1) t i = v
    · rw [if_pos hw, if_pos hw, if_neg (show ¬ i = -1 by omega)]
    · rw [if_neg hw, if_neg hw]
      exact ih n (i + 1) (by omega) (by omega) (by omega)
theorem flatByRank_ok {N : Int} {v k : Int} : OpOk N N (fun μ => qL_flatByRank μ v k) (fun μ => qM_flatByRank μ v k) := by
  intro μ hI
  have hB := hI.1
  have w := hB.1
  have t0 : 0 ≤ μ 1 3 := w.t0
  have t6 : μ 1 3 ≤ 6 := w.t6
  have n0 : 0 ≤ μ 1 0 := w.n0
  have n6 : μ 1 0 ≤ 6 := w.n6
  have k9 : ∀ (m : zM) (x : Int), (st m 142 0 x) 143 = m 143 := fun m x => funext fun j => st_k (by decide)
  have k8 : ∀ x : Int, (st μ 156 0 x) 143 = μ 143 := fun x => funext fun j => st_k (by decide)
  have hs := fi_spec (w := μ (1 + 3)) (v := v) (μ 1 3).toNat 0 (by omega)
  have hp : ∀ m : zM, m 143 = μ 143 → qM_place m v = some (fi (μ (1 + 3)) v (μ 1 3).toNat 0) := fun m hm => place_eq (V := hv μ 1) (by rw [hm]; exact hB.2) t0 t6
  show ∃ a9 m1 x m2, qL_flatByRank μ v k = some (a9, m1) ∧ qM_flatByRank m1 v k = some (x, m2) ∧ m2 142 0 = a9 ∧ (a9 = 0 → m2 156 0 = x) ∧ Inv N m2
  unfold qL_flatByRank qT_flatByRank qT_presentSlot
  rw [slotOf_eq t0 t6, sBind]
  generalize fi (μ (1 + 3)) v (μ 1 3).toNat 0 = s at hs hp
  by_cases hf : s = -1
  · rw [if_pos hf, sTcr, sBndTr, if_pos rfl]
    refine ⟨1, μ, 0, st (st μ 142 0 0) 142 0 1, rfl, ?_, st_at, fun h => absurd h (by decide), thrown_inv (thrown_inv hI (Int.le_refl N)) (Int.le_refl N)⟩
    unfold qM_flatByRank qM_flatByRank_j26
    rw [sBind, hp _ (k9 _ _), sBind, if_pos (show s < 0 by omega), fails_eq, sBnd2]
  have s0 : 0 ≤ s ∧ s < μ 1 3 := by omega
  have hfa : ∀ m : zM, m 143 = μ 143 → qM_flatAt m s k = some (fAt (hv μ 1) s k) := fun m hm => flatAt_eq (V := hv μ 1) w (by rw [hm]; exact hB.2) s0
  have hfs := fi_spec (w := fun f => rk (hv μ 1) s f) (v := k) (μ 1 0).toNat 0 (by omega)
  rw [if_neg hf, sTcl, byRank_l w s0 (μ 1 0).toNat 200 0 (by omega) (by omega) (by omega)]
  change ∀ m : zM, m 143 = μ 143 → qM_flatAt m s k = some (fi (fun f => rk (hv μ 1) s f) k (μ 1 0).toNat 0) at hfa
  generalize fi (fun f => rk (hv μ 1) s f) k (μ 1 0).toNat 0 = g at hfa hfs
  by_cases hg : g = -1
  · rw [if_pos hg, sBndSr, sBndTr, if_pos rfl]
    refine ⟨1, μ, 0, st (st μ 142 0 0) 142 0 1, rfl, ?_, st_at, fun h => absurd h (by decide), thrown_inv (thrown_inv hI (Int.le_refl N)) (Int.le_refl N)⟩
    unfold qM_flatByRank qM_flatByRank_j26
    rw [sBind, hp _ (k9 _ _), sBind, if_neg (show ¬ s < 0 by omega), sBind, hfa _ (k9 _ _), sBind, if_pos (show g < 0 by omega), fails_eq, sBnd2]
  · rw [if_neg hg, sBndSl, sBndTl]
    refine ⟨0, _, g, _, rfl, ?_, st_at, fun _ => ?_, asked_inv (x := g) hI⟩
    · have h3 : (st (st μ 156 0 g) 142 0 0) 143 = μ 143 := by rw [k9, k8]
      unfold qM_flatByRank
      rw [sBind, hp _ h3, sBind, if_neg (show ¬ s < 0 by omega), sBind, hfa _ h3, sBind, if_neg (show ¬ g < 0 by omega), sBind, hfa _ h3, sBind]
    · rw [st_k (by decide), st_at]
