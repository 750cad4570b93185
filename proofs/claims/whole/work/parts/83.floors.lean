/-! ===== B: possibleFloors ===== -/
abbrev pfl (V : zM) (x f : Int) : Prop := 0 < cn (uX V x) (alX V x) (V 0 3).toNat 0 (sb (cr V) f (uV V x))
abbrev fxV (V : zM) (x g t f : Int) : Prop := (t = x ∧ f = g) ∨ (t ≠ x ∧ alV V t f)
theorem pfl_iff {V : zM} {x f : Int} (hx : inT V x) (h9 : V 9 x ≠ -1) (hf : 0 ≤ f ∧ f < 6) : pfl V x f ↔ ∃ v : Int, 0 ≤ v ∧ v < ((pn (V 0 3).toNat : Nat) : Int) ∧ chk (uV V) (alV V) (V 0 3).toNat 0 (cr V) v = 1 ∧ dg 6 x.toNat v = f := by
  have x0 := hx.1
  have x1 := hx.2
  have hfix := cn_fix (u := uV V) (u' := uX V x) (al := alV V) (al' := alX V x) (fx := fxV V x f) (x := x) (g := f) hf (Or.inl h9)
    (fun t g ht => ⟨fun z => z.imp (fun y => y.1) id, fun z => z.imp (fun y => ⟨y, ht⟩) id⟩) (fun t ht => by unfold uX; rw [if_neg ht]) (by unfold uX; rw [if_pos rfl])
    (fun g => ⟨fun z => z.resolve_left (fun y => y.2 rfl), Or.inr⟩) (fun t g ht => ⟨fun z => by
      rcases z with z | z
      · exact absurd z.1 ht
      · exact z.2, fun z => Or.inr ⟨ht, z⟩⟩) (fun g => ⟨fun z => by
      rcases z with z | z
      · exact z.2
      · exact absurd rfl z.1, fun z => Or.inl ⟨rfl, z⟩⟩) (V 0 3).toNat 0 (cr V)
  rw [if_pos (by omega)] at hfix
  have hck := fun v => chk_fix (u := uV V) (al := alV V) (fx := fxV V x f) (x := x) (g := f) (Or.inl h9)
    (fun t g ht => ⟨fun z => by
      rcases z with z | z
      · exact absurd z.1 ht
      · exact z.2, fun z => Or.inr ⟨ht, z⟩⟩) (fun g => ⟨fun z => by
      rcases z with z | z
      · exact z.2
      · exact absurd rfl z.1, fun z => Or.inl ⟨rfl, z⟩⟩) (V 0 3).toNat 0 (cr V) v
  show 0 < cn (uX V x) (alX V x) (V 0 3).toNat 0 (sb (cr V) f (uV V x)) ↔ _
  rw [← hfix, ← chk_cn, ps_pos _ (fun v _ _ => (chk_in _ _ _ _).1)]
  constructor
  · rintro ⟨v, v0, v1, v2⟩
    have h1 := chk_in (u := uV V) (al := alV V) (V 0 3).toNat 0 (cr V) v
    rw [hck v, Int.sub_zero] at v2
    by_cases hd : dg 6 x.toNat v = f
    · rw [if_neg (fun z => z.2.2 hd)] at v2
      exact ⟨v, v0, v1, by omega, hd⟩
    · rw [if_pos ⟨x0, by omega, hd⟩] at v2
      omega
  · rintro ⟨v, v0, v1, v2, v3⟩
    refine ⟨v, v0, v1, ?_⟩
    rw [hck v, Int.sub_zero, if_neg (fun z => z.2.2 v3), v2]
    decide
theorem floorsC_l {N : Int} {V : zM} {x : Int} {h : Nat} (hh : h + 10 ≤ 113) (w : WF N V) (hx : inT V x) (h9 : V 9 x ≠ -1) (m : zM) (e : HEq6 (hv m h) V) (hs : ∀ j : Int, 0 ≤ j → j < 6 → m 133 j = cr V j) : ∀ (k n : Nat) (a i : Int), i + k = 6 → 0 ≤ i → 0 ≤ a → a + k ≤ 1000 → k < n →
    qS_countFloors_l30 h x (uV V x) n m a i = some (a + ct (pfl V x) k i, m) := by
  have t6 := w.t6
  have t0 := w.t0
  have x0 := hx.1
  have x1 := hx.2
  have hu := uV_nn w x
  have hsum : ps (m 133) 6 = ps (uV V) (V 0 3).toNat := by rw [ps_congr (w' := cr V) (fun j j0 j1 => hs j j0 (by omega)), cr_sum w]
  have hux : ps (uX V x) (V 0 3).toNat = ps (uV V) (V 0 3).toNat - uV V x := by
    rw [ps_upd (w := uV V) (w' := uX V x) (s := x) (g := -uV V x) x0 (by omega) (by unfold uX; rw [if_pos rfl]; omega) (fun j hj => by unfold uX; rw [if_neg hj])]
    omega
  intro k
  induction k with
  | zero =>
    intro n a i h1 h0 a0 a1 hn
    obtain ⟨n, rfl⟩ : ∃ n', n = n' + 1 := ⟨n - 1, by omega⟩
    unfold qS_countFloors_l30 ct
    rw [if_neg (by omega), Int.add_zero]
  | succ k ih =>
    intro n a i h1 h0 a0 a1 hn
    obtain ⟨n, rfl⟩ : ∃ n', n = n' + 1 := ⟨n - 1, by omega⟩
    have ci : 0 ≤ i ∧ i < 6 := by omega
    have hcr := cr_in (f := i) w
    unfold qS_countFloors_l30 ct
    rw [if_pos ci.2, if_pos ci, hs i ci.1 ci.2, wr_n (x := i + 1) (by omega) (by omega)]
    by_cases hlt : cr V i < uV V x
    · rw [if_pos hlt, ih n a (i + 1) (by omega) (by omega) a0 (by omega) (by omega), if_neg (show ¬ pfl V x i from fun z => by
        have := cn_neg (u := uX V x) (al := alX V x) (fun t => (uX_nn w t).1) (V 0 3).toNat 0 (sb (cr V) i (uV V x)) i ci.1 ci.2 (by rw [sbf_at]; omega)
        have z9 : 0 < cn (uX V x) (alX V x) (V 0 3).toNat 0 (sb (cr V) i (uV V x)) := z
        omega), Int.zero_add]
    · rw [if_neg hlt, if_pos ci, if_pos ci, sBind, wr_n (x := cr V i - uV V x) (by omega) (by omega)]
      have hm2 : (st m 133 i (cr V i - uV V x)) 133 = sb (m 133) i (uV V x) := funext fun j => by
        by_cases hj : j = i
        · rw [hj, st_at, sbf_at, hs i ci.1 ci.2]
        · rw [st_i hj, sb_o hj]
      rw [spread_ok (x := x) hh w (V 0 3).toNat 20 0 (by omega) (by omega) (by omega) (st m 133 i (cr V i - uV V x)) (HEq6.trans (HEq6.of_same fun q q1 q2 => funext fun j => st_k (by omega)) e) (fun j j0 j1 => by
        have := cr_in (f := j) w
        rw [hm2]
        by_cases hj : j = i
        · rw [hj, sbf_at, hs i ci.1 ci.2]; omega
        · rw [sb_o hj, hs j j0 j1]; omega) (by
        rw [hm2, ps_upd (w := m 133) (w' := sb (m 133) i (uV V x)) (s := i) (g := -uV V x) ci.1 (by omega) (by rw [sbf_at]; omega) (fun j hj => sb_o hj), hsum, ps_congr (w := fun i => uX V x (0 + i)) (w' := uX V x) (fun j _ _ => by rw [Int.zero_add]), hux]; omega), sBnd2, hm2]
      have hcn : cn (uX V x) (alX V x) (V 0 3).toNat 0 (sb (m 133) i (uV V x)) = cn (uX V x) (alX V x) (V 0 3).toNat 0 (sb (cr V) i (uV V x)) := cn_congr _ _ (sb_congr hs)
      have hback : st (st m 133 i (cr V i - uV V x)) 133 i (wr ((st m 133 i (cr V i - uV V x)) 133 i + uV V x)) = m := by
        rw [st_at, show cr V i - uV V x + uV V x = cr V i by omega, wr_n (by omega) (by omega), st_st]
        funext q j
        unfold st
        by_cases hq : q = 133
        · rw [if_pos hq]
          by_cases hj : j = i
          · rw [if_pos hj, hq, hj, hs i ci.1 ci.2]
          · rw [if_neg hj]
        · rw [if_neg hq]
      rw [hcn]
      by_cases hp : pfl V x i
      · rw [if_pos hp, if_pos hp]
        unfold qS_countFloors_j79
        rw [if_pos ci, if_pos ci, sBind, hback, wr_n (x := i + 1) (by omega) (by omega), wr_n (x := a + 1) (by omega) (by omega), ih n (a + 1) (i + 1) (by omega) (by omega) (by omega) (by omega) (by omega)]
        congr 2; omega
      · rw [if_neg hp, if_neg hp]
        unfold qS_countFloors_j79
        rw [if_pos ci, if_pos ci, sBind, hback, wr_n (x := i + 1) (by omega) (by omega), wr_n (x := a + 0) (by omega) (by omega), ih n (a + 0) (i + 1) (by omega) (by omega) (by omega) (by omega) (by omega)]
        congr 2; omega
theorem bits_all3 : ((List.range 64).all fun v => (List.range 6).all fun d => (List.range 6).all fun f => decide (dg 2 f (yor (v : Int) (yshl 1 (d : Int))) = if f = d then 1 else dg 2 f (v : Int))) = true := by decide +kernel
theorem bits3 {v : Int} {d f : Nat} (hv9 : 0 ≤ v ∧ v < 64) (hd : d < 6) (hf : f < 6) : dg 2 f (yor v (yshl 1 d)) = if f = d then 1 else dg 2 f v := by
  have h := bits_all3
  rw [List.all_eq_true] at h
  have h1 := h v.toNat (List.mem_range.mpr (by omega))
  rw [List.all_eq_true] at h1
  have h2 := h1 d (List.mem_range.mpr hd)
  rw [List.all_eq_true] at h2
  have h3 := of_decide_eq_true (h2 f (List.mem_range.mpr hf))
  rw [show ((v.toNat : Nat) : Int) = v by omega] at h3
  exact h3
theorem floorsM_l {N : Int} {V μ : zM} {x : Int} (w : WF N V) (r : RowIs (μ 143) V) (hx : inT V x) : ∀ (k n i : Nat) (m : zM) (b : Int), i + k = pn (V 0 3).toNat → k < n → (∀ q : Nat, q ≠ 151 → q ≠ 152 → m q = μ q) → (0 ≤ b ∧ b < 64) →
    (∀ f : Nat, f < 6 → (dg 2 f b = 1 ↔ ∃ v : Int, 0 ≤ v ∧ v < i ∧ chk (uV V) (alV V) (V 0 3).toNat 0 (μ 150) v = 1 ∧ dg 6 x.toNat v = f)) →
    ∃ b' m', qM_possibleFloors_l42 x n m b i = some (b', m') ∧ (∀ q : Nat, q ≠ 151 → q ≠ 152 → m' q = μ q) ∧ (0 ≤ b' ∧ b' < 64) ∧ ∀ f : Nat, f < 6 → (dg 2 f b' = 1 ↔ ∃ v : Int, 0 ≤ v ∧ v < ((pn (V 0 3).toNat : Nat) : Int) ∧ chk (uV V) (alV V) (V 0 3).toNat 0 (μ 150) v = 1 ∧ dg 6 x.toNat v = f) := by
  have t0 := w.t0
  have t6 := w.t6
  have x0 := hx.1
  have x1 := hx.2
  have hM := pn_pw (V 0 3).toNat
  have hmx := pw_max (B := 6) (by decide) (k := (V 0 3).toNat) (by omega)
  intro k
  induction k with
  | zero =>
    intro n i m b h1 hn hq hb hd
    obtain ⟨n, rfl⟩ : ∃ n', n = n' + 1 := ⟨n - 1, by omega⟩
    unfold qM_possibleFloors_l42
    rw [numbers_eq (V := V) (by rw [hq 143 (by decide) (by decide)]; exact r) t0 t6, sBind, if_neg (by omega)]
    refine ⟨b, m, rfl, hq, hb, ?_⟩
    rw [← show i = pn (V 0 3).toNat by omega]
    exact hd
  | succ k ih =>
    intro n i m b h1 hn hq hb hd
    obtain ⟨n, rfl⟩ : ∃ n', n = n' + 1 := ⟨n - 1, by omega⟩
    obtain ⟨m4, u1, u2, u3⟩ := isCensus_eq (v := i) w (show RowIs (m 143) V by rw [hq 143 (by decide) (by decide)]; exact r) (by omega) (by omega)
    rw [hq 150 (by decide) (by decide)] at u1 u3
    have hci := chk_in (u := uV V) (al := alV V) (V 0 3).toNat 0 (μ 150) i
    unfold qM_possibleFloors_l42
    rw [numbers_eq (V := V) (by rw [hq 143 (by decide) (by decide)]; exact r) t0 t6, sBind, if_pos (by omega), u1, sBnd2, wr_n (x := (i : Int) + 1) (by omega) (by omega), show (i : Int) + 1 = ((i + 1 : Nat) : Int) by omega]
    have hq4 : ∀ q : Nat, q ≠ 151 → q ≠ 152 → m4 q = μ q := fun q q1 q2 => by rw [u2 q q1 q2, hq q q1 q2]
    by_cases hz : chk (uV V) (alV V) (V 0 3).toNat 0 (μ 150) i = 0
    · rw [if_pos hz]
      refine ih n (i + 1) m4 b (by omega) (by omega) hq4 hb (fun f hf => ?_)
      rw [hd f hf]
      constructor
      · rintro ⟨v, v0, v1, v2⟩
        exact ⟨v, v0, by omega, v2⟩
      · rintro ⟨v, v0, v1, v2, v3⟩
        by_cases hvi : v = i
        · rw [hvi, hz] at v2; omega
        · exact ⟨v, v0, by omega, v2, v3⟩
    · have h1' : chk (uV V) (alV V) (V 0 3).toNat 0 (μ 150) i = 1 := by omega
      have h152 := u3 h1' x.toNat (by omega)
      rw [show ((x.toNat : Nat) : Int) = x by omega] at h152
      have hdi := dg_in (B := 6) (by decide) x.toNat i
      rw [if_neg hz, if_pos (by omega), h152]
      have hdd : dg 6 x.toNat i = (((dg 6 x.toNat i).toNat : Nat) : Int) := by omega
      rw [hdd]
      have hb9 := bits1 hb (j := (dg 6 x.toNat i).toNat) (by omega)
      refine ih n (i + 1) m4 _ (by omega) (by omega) hq4 hb9.2.1 (fun f hf => ?_)
      rw [bits3 hb (by omega) hf]
      by_cases hfd : f = (dg 6 x.toNat i).toNat
      · rw [if_pos hfd]
        exact ⟨fun _ => ⟨i, by omega, by omega, h1', by omega⟩, fun _ => rfl⟩
      · rw [if_neg hfd, hd f hf]
        constructor
        · rintro ⟨v, v0, v1, v2⟩
          exact ⟨v, v0, by omega, v2⟩
        · rintro ⟨v, v0, v1, v2, v3⟩
          by_cases hvi : v = i
          · rw [hvi] at v3; omega
          · exact ⟨v, v0, by omega, v2, v3⟩
theorem bitsum_l {m : zM} {b : Int} (hb : 0 ≤ b ∧ b < 64) : ∀ (k n i : Nat) (a : Int), i + k = 6 → 0 ≤ a → a + k ≤ 1000 → k < n → qM_possibleFloors_l83 m b n a i = some (a + ct (fun f => dg 2 f.toNat b = 1) k i) := by
  intro k
  induction k with
  | zero =>
    intro n i a h1 a0 a1 hn
    obtain ⟨n, rfl⟩ : ∃ n', n = n' + 1 := ⟨n - 1, by omega⟩
    unfold qM_possibleFloors_l83 ct
    rw [if_neg (by omega), Int.add_zero]
  | succ k ih =>
    intro n i a h1 a0 a1 hn
    obtain ⟨n, rfl⟩ : ∃ n', n = n' + 1 := ⟨n - 1, by omega⟩
    have hd := dg_in (B := 2) (by decide) i b
    unfold qM_possibleFloors_l83 ct
    rw [if_pos (by omega), (bits1 hb (show i < 6 by omega)).1, wr_n (x := (i : Int) + 1) (by omega) (by omega), show (i : Int) + 1 = ((i + 1 : Nat) : Int) by omega, wr_n (by omega) (by omega), ih n (i + 1) (a + dg 2 i b) (by omega) (by omega) (by omega) (by omega), show ((i : Int)).toNat = i by omega]
    congr 1
    by_cases hb1 : dg 2 i b = 1
    · rw [if_pos hb1, hb1]; omega
    · rw [if_neg hb1, show dg 2 i b = 0 by omega]; omega
theorem possibleFloors_ok {N : Int} {v : Int} : OpOk N N (fun μ => qL_possibleFloors μ v) (fun μ => qM_possibleFloors μ v) := by
  intro μ hI
  have hB := hI.1
  have w := hB.1
  have t0 : 0 ≤ μ 1 3 := w.t0
  have t6 : μ 1 3 ≤ 6 := w.t6
  have k9 : ∀ (m : zM) (x : Int), (st m 142 0 x) 143 = m 143 := fun m x => funext fun j => st_k (by decide)
  have hs := fi_spec (w := μ (1 + 3)) (v := v) (μ 1 3).toNat 0 (by omega)
  have hp : ∀ m : zM, m 143 = μ 143 → qM_place m v = some (fi (μ (1 + 3)) v (μ 1 3).toNat 0) := fun m hm => place_eq (V := hv μ 1) (by rw [hm]; exact hB.2) t0 t6
  show ∃ a9 m1 x m2, qL_possibleFloors μ v = some (a9, m1) ∧ qM_possibleFloors m1 v = some (x, m2) ∧ m2 142 0 = a9 ∧ (a9 = 0 → m2 156 0 = x) ∧ Inv N m2
  unfold qL_possibleFloors qT_possibleFloors qT_presentSlot
  rw [slotOf_eq t0 t6, sBind]
  generalize fi (μ (1 + 3)) v (μ 1 3).toNat 0 = s at hs hp
  by_cases hf : s = -1
  · rw [if_pos hf, sTcr, sBndTr, if_pos rfl]
    refine ⟨1, μ, 0, st (st μ 142 0 0) 142 0 1, rfl, ?_, st_at, fun h => absurd h (by decide), thrown_inv (thrown_inv hI (Int.le_refl N)) (Int.le_refl N)⟩
    unfold qM_possibleFloors
    rw [sBind, hp _ (k9 _ _), sBind, if_pos (show s < 0 by omega), fails_eq, sBnd2]
  have s0 : 0 ≤ s ∧ s < μ 1 3 := by omega
  have is : inT (hv μ 1) s := s0
  have hh : μ 143 (26 + 7 * s) = μ (1 + 9) s + 1 := (hB.2.tn s s0.1 s0.2).2.2.2.2.2.2
  rw [if_neg hf, sTcl]
  unfold qS_countFloors
  rw [if_pos (show 0 ≤ s ∧ s < 6 by omega)]
  by_cases h9 : μ (1 + 9) s = -1
  · rw [if_pos h9, sBnd2, sBndTl]
    have h3 : (st (st μ 156 0 0) 142 0 0) 143 = μ 143 := by rw [k9]; exact funext fun j => st_k (by decide)
    refine ⟨0, _, 0, _, rfl, ?_, st_at, fun _ => ?_, asked_inv (x := 0) hI⟩
    · unfold qM_possibleFloors
      rw [sBind, hp _ h3, sBind, if_neg (show ¬ s < 0 by omega), of_eq (by omega) (by decide), sBind, h3, show 20 + 7 * s + 6 = 26 + 7 * s by omega, hh, if_pos (by omega)]
    · rw [st_k (by decide), st_at]
  · have hu : uV (hv μ 1) s = μ (1 + 4) s := by unfold uV; rw [if_pos (show (0 ≤ s ∧ s < hv μ 1 0 3) ∧ hv μ 1 9 s ≠ -1 from ⟨s0, h9⟩)]; rfl
    have e1 : HEq6 (hv (wls μ 133 6 (cr (hv μ 1))) 1) (hv μ 1) := HEq6.of_same fun q q1 q2 => wls_k (by omega)
    have hk4 : (wls μ 133 6 (cr (hv μ 1))) (1 + 4) s = μ (1 + 4) s := by rw [wls_k (by decide)]
    rw [if_neg h9, measure_eq (h := 1) (by decide) w (HEq6.of_same fun _ _ _ => rfl), sBind, if_pos (show 0 ≤ s ∧ s < 6 by omega), hk4, ← hu, floorsC_l (h := 1) (by decide) w is h9 _ e1 (fun j j0 j1 => wls_at ⟨j0, j1⟩) 6 200 0 0 (by decide) (by decide) (by decide) (by decide) (by decide), sBnd2, sBnd2, sBndTl, Int.zero_add]
    generalize hx9 : ct (pfl (hv μ 1) s) 6 0 = x9
    generalize hm2 : wls μ 133 6 (cr (hv μ 1)) = m2
    have b2 : ∀ q : Nat, q ≠ 133 → m2 q = μ q := fun q hq => by rw [← hm2, wls_k hq]
    have h3 : (st (st m2 156 0 x9) 142 0 0) 143 = μ 143 := by rw [k9, ← b2 143 (by decide)]; exact funext fun j => st_k (by decide)
    have hr9 : RowIs ((st (st m2 156 0 x9) 142 0 0) 143) (hv μ 1) := by rw [h3]; exact hB.2
    have hr8 : RowIs ((crM (hv μ 1) (st (st m2 156 0 x9) 142 0 0) (μ 1 3).toNat) 143) (hv μ 1) := by rw [crM_k (by decide)]; exact hr9
    have h46 : pn (μ 1 3).toNat ≤ 46656 := by
      have hc : (μ 1 3).toNat = 0 ∨ (μ 1 3).toNat = 1 ∨ (μ 1 3).toNat = 2 ∨ (μ 1 3).toNat = 3 ∨ (μ 1 3).toNat = 4 ∨ (μ 1 3).toNat = 5 ∨ (μ 1 3).toNat = 6 := by omega
      rcases hc with hc | hc | hc | hc | hc | hc | hc <;> rw [hc] <;> decide
    obtain ⟨b, m7, u1, u2, u3, u4⟩ := floorsM_l (x := s) w hr8 is (pn (μ 1 3).toNat) 60000 0 _ 0 (Nat.zero_add _) (by omega) (fun _ _ _ => rfl) (by decide) (fun f hf9 => by
      have hz : ∀ f : Nat, dg 2 f 0 = 0 := fun f => by
        induction f with
        | zero => rfl
        | succ f ihf => exact ihf
      rw [hz]
      exact ⟨fun z => absurd z (by decide), fun ⟨v, v0, v1, _⟩ => by omega⟩)
    have hcnt : ct (fun f => dg 2 f.toNat b = 1) 6 0 = x9 := by
      rw [← hx9]
      refine ct_congr _ _ fun f f0 f1 => ?_
      rw [pfl_iff is h9 ⟨f0, by omega⟩, u4 f.toNat (by omega), show ((f.toNat : Nat) : Int) = f by omega]
      have hchk : ∀ v, chk (uV (hv μ 1)) (alV (hv μ 1)) (hv μ 1 0 3).toNat 0 ((crM (hv μ 1) (st (st m2 156 0 x9) 142 0 0) (μ 1 3).toNat) 150) v = chk (uV (hv μ 1)) (alV (hv μ 1)) (hv μ 1 0 3).toNat 0 (cr (hv μ 1)) v := fun v => chk_congr _ _ _ fun j j0 j1 => crM_at ⟨j0, j1⟩
      constructor
      · rintro ⟨v, v0, v1, v2, v3⟩
        exact ⟨v, v0, v1, by rw [← hchk]; exact v2, v3⟩
      · rintro ⟨v, v0, v1, v2, v3⟩
        exact ⟨v, v0, v1, by rw [hchk]; exact v2, v3⟩
    have hsum := bitsum_l (m := m7) u3 6 200 0 0 (by decide) (by decide) (by decide) (by decide)
    rw [show ((0 : Nat) : Int) = 0 from rfl, Int.zero_add, hcnt] at hsum
    have u1' : qM_possibleFloors_l42 s 60000 (crM (hv μ 1) (st (st m2 156 0 x9) 142 0 0) (μ 1 3).toNat) 0 0 = some (b, m7) := u1
    refine ⟨0, st m2 156 0 x9, x9, m7, rfl, ?_, ?_, fun _ => ?_, hI.gen (fun q hq => ?_) (fun j hj => ?_)⟩
    · unfold qM_possibleFloors
      rw [sBind, hp _ h3, sBind, if_neg (show ¬ s < 0 by omega), of_eq (by omega) (by decide), sBind, h3, show 20 + 7 * s + 6 = 26 + 7 * s by omega, hh, if_neg (by omega), findsCreaks_eq (V := hv μ 1) w hr9, sBind]
      show bnd2 (qM_possibleFloors_l42 s 60000 (crM (hv μ 1) (st (st m2 156 0 x9) 142 0 0) (μ 1 3).toNat) 0 0) _ = _
      rw [u1', sBnd2, hsum, sBind]
    · rw [u2 142 (by decide) (by decide), crM_k (by decide), st_at]
    · rw [u2 156 (by decide) (by decide), crM_k (by decide), st_k (by decide), st_at]
    · rw [u2 q (by omega) (by omega), crM_k (by omega), ← b2 q (by omega)]; exact funext fun j => by rw [st_k (by omega), st_k (by omega)]
    · rw [u2 142 (by decide) (by decide), crM_k (by decide), st_i hj, st_k (by decide), b2 142 (by decide)]
