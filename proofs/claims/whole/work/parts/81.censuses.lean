/-! ===== B: censuses, on both sides ===== -/
/-- a memory in which only the workers' objects are others -/
theorem Inv.gen {N : Int} {μ m : zM} (h : Inv N μ) (hq : ∀ q : Nat, (q < 113 ∨ (136 ≤ q ∧ q < 142) ∨ (143 ≤ q ∧ q < 146) ∨ q = 153 ∨ q = 154) → m q = μ q) (h142 : ∀ j, j ≠ 0 → m 142 j = μ 142 j) : Inv N m :=
  h.same (fun q h1 => hq q (by omega)) (fun q h1 h2 => hq q (by omega)) ⟨hq 143 (by omega), hq 144 (by omega), hq 145 (by omega), hq 153 (by omega), hq 154 (by omega)⟩ ⟨h142 6 (by decide), h142 7 (by decide), h142 8 (by decide), h142 15 (by decide), h142 17 (by decide), h142 19 (by decide), h142 20 (by decide)⟩
/-- a list of numbers laid into the object k as far as n -/
def wls (μ : zM) (k : Nat) (n : Int) (w : Int → Int) : zM := fun q j => if q = k then (if 0 ≤ j ∧ j < n then w j else μ q j) else μ q j
theorem wls_k {μ : zM} {k q : Nat} {n : Int} {w : Int → Int} (h : q ≠ k) : wls μ k n w q = μ q := funext fun j => by unfold wls; rw [if_neg h]
theorem wls_at {μ : zM} {k : Nat} {n j : Int} {w : Int → Int} (h : 0 ≤ j ∧ j < n) : wls μ k n w k j = w j := by unfold wls; rw [if_pos rfl, if_pos h]
theorem wls_0 {μ : zM} {k : Nat} {w : Int → Int} : wls μ k 0 w = μ := by
  funext q j
  unfold wls
  by_cases hq : q = k
  · rw [if_pos hq, if_neg (by omega)]
  · rw [if_neg hq]
theorem st_wls {μ : zM} {k : Nat} {i : Int} {w : Int → Int} (h0 : 0 ≤ i) : st (wls μ k i w) k i (w i) = wls μ k (i + 1) w := by
  funext q j
  unfold st wls
  by_cases hq : q = k
  · rw [if_pos hq, if_pos hq, if_pos hq]
    by_cases hj : j = i
    · rw [if_pos hj, if_pos (by omega), hj]
    · rw [if_neg hj]
      by_cases h1 : 0 ≤ j ∧ j < i
      · rw [if_pos h1, if_pos (by omega)]
      · rw [if_neg h1, if_neg (by omega)]
  · rw [if_neg hq, if_neg hq, if_neg hq]
theorem h6cr {N : Int} {V V' : zM} (e : HEq6 V V') (w : WF N V) {f : Int} : cr V f = cr V' f := by
  have t6 := w.t6
  have n6 := w.n6
  unfold cr
  rw [← e.1.2.1]
  refine ps_congr fun t h0 h1 => ?_
  have ht : 0 ≤ t ∧ t < 6 := by omega
  have hh := (w.tn t h0 (by omega)).2.2.2.2.2
  unfold cw
  rw [← e.tok (k := 9) (by decide) ht, ← e.tok (k := 4) (by decide) ht]
  by_cases h9 : V 9 t = -1
  · rw [if_neg (fun z => z.1 h9), if_neg (fun z => z.1 h9)]
  · rw [e.tok (k := 1) (j := V 9 t) (by decide) (by omega)]
theorem measure_l {N : Int} {V μ : zM} {h : Nat} (hh : h + 10 ≤ 113) (w : WF N V) (e : HEq6 (hv μ h) V) : ∀ (k n : Nat) (i : Int), i + k = 6 → 0 ≤ i → k < n → qS_measure_l2 h n (wls μ 133 i (cr V)) i = some (wls μ 133 6 (cr V)) := by
  intro k
  induction k with
  | zero =>
    intro n i h1 h0 hn
    obtain ⟨n, rfl⟩ : ∃ n', n = n' + 1 := ⟨n - 1, by omega⟩
    unfold qS_measure_l2
    rw [if_neg (by omega), show i = 6 by omega]
  | succ k ih =>
    intro n i h1 h0 hn
    obtain ⟨n, rfl⟩ : ∃ n', n = n' + 1 := ⟨n - 1, by omega⟩
    have e1 : HEq6 (hv (wls μ 133 i (cr V)) h) V := HEq6.trans (HEq6.of_same fun q q1 q2 => wls_k (by omega)) e
    unfold qS_measure_l2
    rw [if_pos (by omega), creakOn_eq (e1.wf w), sBind, if_pos (by omega), sBind, h6cr e1 (e1.wf w), st_wls h0, wr_n (by omega) (by omega)]
    exact ih n (i + 1) (by omega) (by omega) (by omega)
theorem measure_eq {N : Int} {V μ : zM} {h : Nat} (hh : h + 10 ≤ 113) (w : WF N V) (e : HEq6 (hv μ h) V) : qS_measure μ h = some (wls μ 133 6 (cr V)) := by
  unfold qS_measure
  have hl := measure_l hh w e 6 200 0 (by omega) (by omega) (by omega)
  rw [wls_0] at hl
  rw [hl, sBind]
def uV (V : zM) (t : Int) : Int := if (0 ≤ t ∧ t < V 0 3) ∧ V 9 t ≠ -1 then V 4 t else 0
abbrev alV (V : zM) (t f : Int) : Prop := V 9 t ≠ -1 ∨ f = 0
def uX (V : zM) (x t : Int) : Int := if t = x then 0 else uV V t
abbrev alX (V : zM) (x t f : Int) : Prop := (V 9 t ≠ -1 ∧ t ≠ x) ∨ f = 0
theorem uV_nn {N : Int} {V : zM} (w : WF N V) (t : Int) : 0 ≤ uV V t ∧ uV V t ≤ 50 := by
  unfold uV
  by_cases h : (0 ≤ t ∧ t < V 0 3) ∧ V 9 t ≠ -1
  · have := (w.tn t h.1.1 h.1.2).1
    rw [if_pos h]; omega
  · rw [if_neg h]; omega
theorem uX_nn {N : Int} {V : zM} {x : Int} (w : WF N V) (t : Int) : 0 ≤ uX V x t ∧ uX V x t ≤ 50 := by
  have := uV_nn w t
  unfold uX
  split <;> omega
theorem ps_one {c X : Int} (hc : 0 ≤ c) : ∀ n : Nat, ps (fun f => if f = c then X else 0) n = if c < n then X else 0 := fun n => by
  induction n with
  | zero => unfold ps; rw [if_neg (by omega)]
  | succ n ih =>
    show ps (fun f => if f = c then X else 0) n + (if (n : Int) = c then X else 0) = _
    rw [ih]
    by_cases hcn : (n : Int) = c
    · rw [if_neg (by omega), if_pos hcn, if_pos (by omega)]; omega
    · rw [if_neg hcn]
      by_cases h9 : c < n
      · rw [if_pos h9, if_pos (by omega)]; omega
      · rw [if_neg h9, if_neg (by omega)]; rfl
theorem cr_sum {N : Int} {V : zM} (w : WF N V) : ps (cr V) 6 = ps (uV V) (V 0 3).toNat := by
  have t0 := w.t0
  have h1 : ps (cr V) 6 = ps (fun f => ps (fun t => cw V f t) (V 0 3).toNat) 6 := rfl
  rw [h1, ← ps_swap (g := fun f t => cw V f t) 6 (V 0 3).toNat]
  refine ps_congr fun t h0 h1 => ?_
  have hh := (w.tn t h0 (by omega)).2.2.2.2.2
  unfold uV
  by_cases h9 : V 9 t = -1
  · rw [if_neg (fun z => z.2 h9)]
    exact (ps_congr (w' := fun _ => 0) fun f _ _ => by unfold cw; rw [if_neg (fun z => z.1 h9)]).trans (ps_zero 6)
  · rw [if_pos ⟨⟨h0, by omega⟩, h9⟩]
    have hf := w.fl (V 9 t) (by omega) hh.2
    rw [ps_congr (w := fun f => cw V f t) (w' := fun f => if f = V 1 (V 9 t) then V 4 t else 0) (fun f _ _ => by
      unfold cw
      by_cases hfe : f = V 1 (V 9 t)
      · rw [if_pos hfe, if_pos ⟨h9, hfe.symm⟩]
      · rw [if_neg hfe, if_neg (fun z => hfe z.2.symm)]), ps_one hf.1.1, if_pos (by omega)]
theorem cn_ext {u u' : Int → Int} {al al' : Int → Int → Prop} [∀ t f, Decidable (al t f)] [∀ t f, Decidable (al' t f)] : ∀ (k : Nat) (t : Int) (s : Int → Int), (∀ i, t ≤ i → i < t + k → u i = u' i ∧ ∀ f, al i f ↔ al' i f) → cn u al k t s = cn u' al' k t s
  | 0, _, _, _ => rfl
  | k+1, t, s, h => by
    unfold cn
    obtain ⟨h1, h2⟩ := h t (Int.le_refl _) (by omega)
    refine ps_congr fun f _ _ => ?_
    rw [h1, cn_ext k (t + 1) _ (fun i i0 i1 => h i (by omega) (by omega))]
    by_cases hf : al t f
    · rw [if_pos hf, if_pos ((h2 f).mp hf)]
    · rw [if_neg hf, if_neg (fun z => hf ((h2 f).mpr z))]
theorem cn_skip {u : Int → Int} {al : Int → Int → Prop} [∀ t f, Decidable (al t f)] {k : Nat} {t : Int} {s : Int → Int} (h1 : u t = 0) (h2 : ∀ f, al t f ↔ f = 0) : cn u al (k + 1) t s = cn u al k (t + 1) s := by
  show ps (fun f => if al t f then cn u al k (t + 1) (sb s f (u t)) else 0) 6 = cn u al k (t + 1) s
  rw [ps_congr (w' := fun f => if f = 0 then cn u al k (t + 1) s else 0) (fun f _ _ => by
    by_cases hf : f = 0
    · rw [if_pos ((h2 f).mpr hf), if_pos hf, hf, h1, sb_0]
    · rw [if_neg (fun z => hf ((h2 f).mp z)), if_neg hf]), ps_one (Int.le_refl 0), if_pos (by decide)]
def SpOk (V : zM) (x : Int) (h : Nat) (k : Nat) (t : Int) (f : zM → Nat → Int → Int → Option (Int × zM)) : Prop :=
  ∀ m, HEq6 (hv m h) V → (∀ j : Int, 0 ≤ j → j < 6 → 0 ≤ m 133 j ∧ m 133 j ≤ 1000) → ps (m 133) 6 = ps (fun i => uX V x (t + i)) k → f m h t x = some (cn (uX V x) (alX V x) k t (m 133), m)
theorem spread1_l {N : Int} {V : zM} {x : Int} {h k : Nat} {t : Int} {f : zM → Nat → Int → Int → Option (Int × zM)} (hh : h + 10 ≤ 113) (w : WF N V) (hk : k < 6) (ht : 0 ≤ t ∧ t < 6) (hf : SpOk V x h k (t + 1) f) (m : zM) (e : HEq6 (hv m h) V) (hs : ∀ j : Int, 0 ≤ j → j < 6 → 0 ≤ m 133 j ∧ m 133 j ≤ 1000)
    (hsum : ps (m 133) 6 = ps (fun i => uX V x (t + i)) (k + 1)) : ∀ (kk n i : Nat), i + kk = 6 → kk < n → qS_spread_l49 f h t x (uX V x t) n m (ps (fun g => cn (uX V x) (alX V x) k (t + 1) (sb (m 133) g (uX V x t))) i) i = some (ps (fun g => cn (uX V x) (alX V x) k (t + 1) (sb (m 133) g (uX V x t))) 6, m) := by
  have hu := uX_nn (x := x) w
  have hut := hu t
  have hpw := pw_max (B := 6) (by decide) (k := k) (by omega)
  have hsp : ps (fun i => uX V x (t + i)) (k + 1) = uX V x t + ps (fun i => uX V x (t + 1 + i)) k := by
    rw [show k + 1 = 1 + k by omega, ps_split 1 k]
    show 0 + uX V x (t + ((0 : Nat) : Int)) + ps (fun d => uX V x (t + (((1 : Nat) : Int) + d))) k = _
    rw [show t + ((0 : Nat) : Int) = t by omega, Int.zero_add]
    congr 1
    exact ps_congr fun d _ _ => by rw [show t + (((1 : Nat) : Int) + d) = t + 1 + d by omega]
  intro kk
  induction kk with
  | zero =>
    intro n i h1 hn
    obtain ⟨n, rfl⟩ : ∃ n', n = n' + 1 := ⟨n - 1, by omega⟩
    unfold qS_spread_l49
    rw [if_neg (by omega), show i = 6 by omega]
  | succ kk ih =>
    intro n i h1 hn
    obtain ⟨n, rfl⟩ : ∃ n', n = n' + 1 := ⟨n - 1, by omega⟩
    have ci : 0 ≤ (i : Int) ∧ (i : Int) < 6 := by omega
    have hsi := hs i ci.1 ci.2
    have nx := ih n (i + 1) (by omega) (by omega)
    have hacc := ps_in (w := fun g => cn (uX V x) (alX V x) k (t + 1) (sb (m 133) g (uX V x t))) (B := 117649) (k := i + 1) (fun j _ _ => by
      have := cn_nn (u := uX V x) (al := alX V x) k (t + 1) (sb (m 133) j (uX V x t))
      show 0 ≤ cn (uX V x) (alX V x) k (t + 1) (sb (m 133) j (uX V x t)) ∧ cn (uX V x) (alX V x) k (t + 1) (sb (m 133) j (uX V x t)) ≤ 117649
      omega)
    have hps : ps (fun g => cn (uX V x) (alX V x) k (t + 1) (sb (m 133) g (uX V x t))) (i + 1) = ps (fun g => cn (uX V x) (alX V x) k (t + 1) (sb (m 133) g (uX V x t))) i + cn (uX V x) (alX V x) k (t + 1) (sb (m 133) i (uX V x t)) := rfl
    rw [show ((i + 1 : Nat) : Int) = (i : Int) + 1 by omega] at nx
    unfold qS_spread_l49
    rw [if_pos ci.2, if_pos ci, wr_n (x := (i : Int) + 1) (by omega) (by omega)]
    by_cases hlt : m 133 i < uX V x t
    · rw [if_pos hlt]
      rw [hps, cn_neg (fun t => (hu t).1) k (t + 1) _ i ci.1 ci.2 (by rw [sbf_at]; omega), Int.add_zero] at nx
      exact nx
    · rw [if_neg hlt, if_pos ci, if_pos ci, sBind, wr_n (x := m 133 i - uX V x t) (by omega) (by omega), wr_n (x := t + 1) (by omega) (by omega)]
      have hm2 : (st m 133 i (m 133 i - uX V x t)) 133 = sb (m 133) i (uX V x t) := funext fun j => by
        by_cases hj : j = i
        · rw [hj, st_at, sbf_at]
        · rw [st_i hj, sb_o hj]
      rw [hf (st m 133 i (m 133 i - uX V x t)) (HEq6.trans (HEq6.of_same fun q q1 q2 => funext fun j => st_k (by omega)) e) (fun j j0 j1 => by
        rw [hm2]
        have := hs j j0 j1
        by_cases hj : j = i
        · rw [hj, sbf_at]; omega
        · rw [sb_o hj]; exact this) (by
        rw [hm2, ps_upd (w := m 133) (w' := sb (m 133) i (uX V x t)) (s := i) (g := -uX V x t) ci.1 (by omega) (by rw [sbf_at]; omega) (fun j hj => sb_o hj), hsum, hsp]; omega), sBnd2, hm2, if_pos ci, if_pos ci, sBind, sbf_at, show m 133 (i : Int) - uX V x t + uX V x t = m 133 i by omega, wr_n (x := m 133 (i : Int)) (by omega) (by omega), st_st]
      have hback : st m 133 i (m 133 i) = m := by
        funext q j
        unfold st
        by_cases hq : q = 133
        · rw [if_pos hq]
          by_cases hj : j = i
          · rw [if_pos hj, hq, hj]
          · rw [if_neg hj]
        · rw [if_neg hq]
      rw [hback, ← hps, wr_n (by omega) (by omega)]
      exact nx
theorem spread_ok {N : Int} {V : zM} {x : Int} {h : Nat} (hh : h + 10 ≤ 113) (w : WF N V) : ∀ (k n : Nat) (t : Int), t + k = V 0 3 → 0 ≤ t → k < n → SpOk V x h k t (qS_spread n) := by
  have t6 := w.t6
  intro k
  induction k with
  | zero =>
    intro n t h1 h0 hn m e hs hsum
    obtain ⟨n, rfl⟩ : ∃ n', n = n' + 1 := ⟨n - 1, by omega⟩
    have e3 : m h 3 = V 0 3 := e.1.2.1
    unfold qS_spread qS_spread_b
    rw [if_neg (by omega)]
    have hz : cn (uX V x) (alX V x) 0 t (m 133) = 1 := (zb_1 6).mpr fun j j0 j1 => by
      have := ps_le (w := m 133) (k := 6) (fun i i0 i1 => (hs i i0 (by omega)).1) j j0 (by omega)
      have h2 := hs j j0 (by omega)
      have h3 : ps (m 133) 6 = 0 := hsum
      omega
    rw [hz]
  | succ k ih =>
    intro n t h1 h0 hn m e hs hsum
    obtain ⟨n, rfl⟩ : ∃ n', n = n' + 1 := ⟨n - 1, by omega⟩
    have e3 : m h 3 = V 0 3 := e.1.2.1
    have c : 0 ≤ t ∧ t < 6 := by omega
    have e9 : m (h + 9) t = V 9 t := e.tok (k := 9) (by decide) c
    have e4 : m (h + 4) t = V 4 t := e.tok (k := 4) (by decide) c
    have hf := ih n (t + 1) (by omega) (by omega) (by omega)
    have hsp : ps (fun i => uX V x (t + i)) (k + 1) = uX V x t + ps (fun i => uX V x (t + 1 + i)) k := by
      rw [show k + 1 = 1 + k by omega, ps_split 1 k]
      show 0 + uX V x (t + ((0 : Nat) : Int)) + ps (fun d => uX V x (t + (((1 : Nat) : Int) + d))) k = _
      rw [show t + ((0 : Nat) : Int) = t by omega, Int.zero_add]
      congr 1
      exact ps_congr fun d _ _ => by rw [show t + (((1 : Nat) : Int) + d) = t + 1 + d by omega]
    have skip : uX V x t = 0 → (∀ f, alX V x t f ↔ f = 0) → qS_spread_j25 (qS_spread n) m h t x = some (cn (uX V x) (alX V x) (k + 1) t (m 133), m) := fun z1 z2 => by
      unfold qS_spread_j25
      rw [wr_n (by omega) (by omega), hf m e hs (by rw [hsum, hsp, z1]; omega), sBnd2, cn_skip z1 z2]
    unfold qS_spread qS_spread_b
    rw [if_pos (by omega), if_pos c, e9]
    by_cases h9 : V 9 t = -1
    · rw [if_pos h9]
      refine skip ?_ (fun f => ⟨fun z => ?_, fun z => Or.inr z⟩)
      · unfold uX uV
        rw [if_neg (show ¬ ((0 ≤ t ∧ t < V 0 3) ∧ V 9 t ≠ -1) from fun z => z.2 h9)]
        split <;> rfl
      · rcases z with z | z
        · exact absurd h9 z.1
        · exact z
    rw [if_neg h9]
    by_cases htx : t = x
    · rw [if_pos htx]
      refine skip ?_ (fun f => ⟨fun z => ?_, fun z => Or.inr z⟩)
      · unfold uX; rw [if_pos htx]
      · rcases z with z | z
        · exact absurd htx z.2
        · exact z
    rw [if_neg htx, if_pos c, e4]
    have hut : uX V x t = V 4 t := by unfold uX uV; rw [if_neg htx, if_pos ⟨⟨h0, by omega⟩, h9⟩]
    rw [← hut]
    have hl := spread1_l hh w (show k < 6 by omega) c hf m e hs hsum 6 200 0 (by omega) (by omega)
    rw [show ps (fun g => cn (uX V x) (alX V x) k (t + 1) (sb (m 133) g (uX V x t))) 0 = 0 from rfl, show ((0 : Nat) : Int) = 0 from rfl] at hl
    rw [hl, sBnd2]
    have hcn : cn (uX V x) (alX V x) (k + 1) t (m 133) = ps (fun f => if alX V x t f then cn (uX V x) (alX V x) k (t + 1) (sb (m 133) f (uX V x t)) else 0) 6 := rfl
    rw [hcn, ps_congr (w := fun f => if alX V x t f then cn (uX V x) (alX V x) k (t + 1) (sb (m 133) f (uX V x t)) else 0) (w' := fun g => cn (uX V x) (alX V x) k (t + 1) (sb (m 133) g (uX V x t))) (fun f _ _ => if_pos (Or.inl ⟨h9, htx⟩))]
theorem cr_in {N : Int} {V : zM} {f : Int} (w : WF N V) : 0 ≤ cr V f ∧ cr V f ≤ 300 := by
  have t0 := w.t0
  have t6 := w.t6
  have := ps_in (w := cw V f) (B := 50) (k := (V 0 3).toNat) (fun j j0 j1 => cw_in w ⟨j0, by omega⟩)
  unfold cr
  omega
/-- the number of censuses -/
def cens (V : zM) : Int := cn (uV V) (alV V) (V 0 3).toNat 0 (cr V)
theorem countByTrying_eq {N : Int} {V μ : zM} {h : Nat} (hh : h + 10 ≤ 113) (w : WF N V) (e : HEq6 (hv μ h) V) : qS_countByTrying μ h = some (cens V, wls μ 133 6 (cr V)) := by
  have t0 := w.t0
  have t6 := w.t6
  unfold qS_countByTrying
  rw [measure_eq hh w e, sBind]
  have h133 : ∀ j : Int, 0 ≤ j → j < 6 → (wls μ 133 6 (cr V)) 133 j = cr V j := fun j j0 j1 => wls_at ⟨j0, j1⟩
  rw [spread_ok (x := -1) hh w (V 0 3).toNat 20 0 (by omega) (by omega) (by omega) (wls μ 133 6 (cr V)) (HEq6.trans (HEq6.of_same fun q q1 q2 => wls_k (by omega)) e) (fun j j0 j1 => by
    rw [h133 j j0 j1]
    have := cr_in (f := j) w
    omega) (by
    rw [ps_congr (w := (wls μ 133 6 (cr V)) 133) (w' := cr V) (fun j j0 j1 => h133 j j0 (by omega)), cr_sum w]
    exact ps_congr fun j j0 j1 => by rw [Int.zero_add]; unfold uX; rw [if_neg (by omega)]), sBnd2]
  congr 2
  unfold cens
  rw [cn_congr _ _ h133]
  refine cn_ext _ _ _ fun i i0 i1 => ⟨by unfold uX; rw [if_neg (by omega)], fun f => ⟨fun z => z.imp (fun y => y.1) id, fun z => z.imp (fun y => ⟨y, by omega⟩) id⟩⟩
/-! the model's way: all numbers' digits -/
theorem numbers_l {V m : zM} (r : RowIs (m 143) V) (t6 : V 0 3 ≤ 6) : ∀ (k n i : Nat), (i : Int) + k = V 0 3 → k < n → qM_numbers_l4 m n (pw 6 i) i = some (pw 6 (i + k)) := by
  have rt := r.t
  intro k
  induction k with
  | zero =>
    intro n i h1 hn
    obtain ⟨n, rfl⟩ : ∃ n', n = n' + 1 := ⟨n - 1, by omega⟩
    unfold qM_numbers_l4
    rw [if_neg (by omega)]
    rfl
  | succ k ih =>
    intro n i h1 hn
    obtain ⟨n, rfl⟩ : ∃ n', n = n' + 1 := ⟨n - 1, by omega⟩
    have hb := pw_max (B := 6) (by decide) (k := i + 1) (by omega)
    have hb2 := (pw_in (B := 6) (by decide) (i + 1)).1
    have nx := ih n (i + 1) (by omega) (by omega)
    rw [show i + 1 + k = i + (k + 1) by omega, show ((i + 1 : Nat) : Int) = (i : Int) + 1 by omega] at nx
    unfold qM_numbers_l4
    rw [if_pos (by omega), wr_n (x := (i : Int) + 1) (by omega) (by omega)]
    show qM_numbers_l4 m n (wr (pw 6 (i + 1))) _ = _
    rw [wr_n (by omega) (by omega)]
    exact nx
theorem numbers_eq {V m : zM} (r : RowIs (m 143) V) (t0 : 0 ≤ V 0 3) (t6 : V 0 3 ≤ 6) : qM_numbers m = some (pw 6 (V 0 3).toNat) := by
  unfold qM_numbers
  have hl := numbers_l r t6 (V 0 3).toNat 200 0 (by omega) (by omega)
  rw [show pw 6 0 = 1 from rfl, show ((0 : Nat) : Int) = 0 from rfl, Nat.zero_add] at hl
  rw [hl, sBind]
theorem census0_l {μ : zM} {v : Int} : ∀ (k n : Nat) (i : Int) (m : zM), i + k = 6 → 0 ≤ i → (∀ q : Nat, q ≠ 151 → m q = μ q) → (∀ j, 0 ≤ j → j < i → m 151 j = 0) → k < n → ∃ m', qM_isCensus_l4 v n m i = some m' ∧ (∀ q : Nat, q ≠ 151 → m' q = μ q) ∧ (∀ j, 0 ≤ j → j < 6 → m' 151 j = 0) := by
  intro k
  induction k with
  | zero =>
    intro n i m h1 h0 hq hz hn
    obtain ⟨n, rfl⟩ : ∃ n', n = n' + 1 := ⟨n - 1, by omega⟩
    unfold qM_isCensus_l4
    rw [if_neg (by omega)]
    exact ⟨m, rfl, hq, fun j j0 j6 => hz j j0 (by omega)⟩
  | succ k ih =>
    intro n i m h1 h0 hq hz hn
    obtain ⟨n, rfl⟩ : ∃ n', n = n' + 1 := ⟨n - 1, by omega⟩
    unfold qM_isCensus_l4
    rw [if_pos (by omega), if_pos (by omega), sBind, wr_n (by omega) (by omega)]
    refine ih n (i + 1) _ (by omega) (by omega) (fun q h2 => by rw [← hq q h2]; exact funext fun j => st_k h2) (fun j j0 j1 => ?_) (by omega)
    by_cases hj : j = i
    · rw [hj, st_at]
    · rw [st_i hj]; exact hz j j0 (by omega)
theorem census1_l {N : Int} {V : zM} (w : WF N V) : ∀ (k n : Nat) (m : zM) (v t : Int), t + k = V 0 3 → 0 ≤ t → 0 ≤ v → v ≤ 1000000 → k < n → RowIs (m 143) V → (∀ j : Int, 0 ≤ j → j < 6 → 0 ≤ m 151 j ∧ m 151 j ≤ 50 * t) →
    ∃ e9 m', qM_isCensus_l25 n m v t = some (e9, m') ∧ (∀ q : Nat, q ≠ 151 → q ≠ 152 → m' q = m q) ∧
      ((e9 = .inl 0 ∧ chk (uV V) (alV V) k t (fun j => m 150 j - m 151 j) v = 0) ∨ (e9 = .inr () ∧ chk (uV V) (alV V) k t (fun j => m 150 j - m 151 j) v = zb (fun j => m' 150 j - m' 151 j) 6 ∧ (∀ i, i < t → m' 152 i = m 152 i) ∧ ∀ j : Nat, j < k → m' 152 (t + j) = dg 6 j v)) := by
  have t6 := w.t6
  intro k
  induction k with
  | zero =>
    intro n m v t h1 h0 hv0 hv9 hn r hs
    obtain ⟨n, rfl⟩ : ∃ n', n = n' + 1 := ⟨n - 1, by omega⟩
    have rt := r.t
    unfold qM_isCensus_l25
    rw [if_neg (by omega)]
    exact ⟨.inr (), m, rfl, fun _ _ _ => rfl, Or.inr ⟨rfl, rfl, fun _ _ => rfl, fun j hj => by omega⟩⟩
  | succ k ih =>
    intro n m v t h1 h0 hv0 hv9 hn r hs
    obtain ⟨n, rfl⟩ : ∃ n', n = n' + 1 := ⟨n - 1, by omega⟩
    have rt := r.t
    have c : 0 ≤ t ∧ t < 6 := by omega
    obtain ⟨-, r1, -, -, -, -, r6⟩ := r.tn t h0 (by omega)
    have hho := (w.tn t h0 (by omega)).2.2.2.2.2
    have hw4 := (w.tn t h0 (by omega)).1
    have hmod : 0 ≤ v % 6 ∧ v % 6 < 6 := by omega
    have hdiv : 0 ≤ v / 6 ∧ v / 6 ≤ v := by omega
    unfold qM_isCensus_l25
    rw [if_pos (by omega), if_pos c, sBind, Int.tmod_eq_emod_of_nonneg hv0, Int.tdiv_eq_ediv_of_nonneg hv0, wr_n (x := v / 6) (by omega) (by omega)]
    generalize hm3 : st m 152 t (v % 6) = m3
    have b1 : m3 152 t = v % 6 := by rw [← hm3, st_at]
    have b2 : ∀ i, i ≠ t → m3 152 i = m 152 i := fun i hi => by rw [← hm3, st_i hi]
    have b3 : ∀ q : Nat, q ≠ 152 → m3 q = m q := fun q hq => by rw [← hm3]; exact funext fun j => st_k hq
    have r3 : RowIs (m3 143) V := by rw [b3 143 (by decide)]; exact r
    unfold qM_isCensus_j71
    rw [of_eq c (by decide), sBind, show 20 + 7 * t + 6 = 26 + 7 * t by omega, b3 143 (by decide), r6, sBind, if_pos c, b1, wr_n (x := t + 1) (by omega) (by omega), of_eq c (by decide), b3 143 (by decide), show 20 + 7 * t + 1 = 21 + 7 * t by omega, r1, sBind]
    have hch : chk (uV V) (alV V) (k + 1) t (fun j => m 150 j - m 151 j) v = if alV V t (v % 6) then chk (uV V) (alV V) k (t + 1) (sb (fun j => m 150 j - m 151 j) (v % 6) (uV V t)) (v / 6) else 0 := rfl
    by_cases h9 : V 9 t = -1
    · have hu : uV V t = 0 := by unfold uV; rw [if_neg (fun z => z.2 h9)]
      rw [if_pos (by omega)]
      by_cases hd : 0 < v % 6
      · rw [if_pos hd]
        refine ⟨.inl 0, m3, rfl, fun q q1 q2 => b3 q q2, Or.inl ⟨rfl, ?_⟩⟩
        rw [hch, if_neg (fun z => by
          rcases z with z | z
          · exact z h9
          · omega)]
      · rw [if_neg hd, if_neg (by omega)]
        obtain ⟨e9, m', u1, u2, u3⟩ := ih n m3 (v / 6) (t + 1) (by omega) (by omega) (by omega) (by omega) (by omega) r3 (fun j j0 j1 => by rw [b3 151 (by decide)]; have := hs j j0 j1; omega)
        refine ⟨e9, m', u1, fun q q1 q2 => by rw [u2 q q1 q2, b3 q q2], ?_⟩
        rw [hch, if_pos (Or.inr (by omega)), hu, sb_0]
        rw [b3 150 (by decide), b3 151 (by decide)] at u3
        rcases u3 with y | ⟨y1, y2, y3, y4⟩
        · exact Or.inl y
        · refine Or.inr ⟨y1, y2, fun i hi => by rw [y3 i (by omega), b2 i (by omega)], fun j hj => ?_⟩
          cases j with
          | zero => rw [show t + ((0 : Nat) : Int) = t by omega, y3 t (by omega), b1]; rfl
          | succ j => rw [show t + ((j + 1 : Nat) : Int) = t + 1 + (j : Int) by omega, y4 j (by omega)]; rfl
    · have hu : uV V t = V 4 t := by unfold uV; rw [if_pos ⟨⟨h0, by omega⟩, h9⟩]
      have hsd := hs (v % 6) hmod.1 hmod.2
      rw [if_neg (by omega), if_pos (by omega), if_pos c, if_pos hmod, if_pos hmod, sBind, b3 151 (by decide), wr_n (by omega) (by omega)]
      generalize hm7 : st m3 151 (v % 6) (m 151 (v % 6) + V 4 t) = m7
      have c3 : ∀ q : Nat, q ≠ 151 → m7 q = m3 q := fun q hq => by rw [← hm7]; exact funext fun j => st_k hq
      obtain ⟨e9, m', u1, u2, u3⟩ := ih n m7 (v / 6) (t + 1) (by omega) (by omega) (by omega) (by omega) (by omega) (by rw [c3 143 (by decide)]; exact r3) (fun j j0 j1 => by
        have := hs j j0 j1
        by_cases hj : j = v % 6
        · rw [hj, ← hm7, st_at]; omega
        · rw [← hm7, st_i hj, b3 151 (by decide)]; omega)
      refine ⟨e9, m', u1, fun q q1 q2 => by rw [u2 q q1 q2, c3 q q1, b3 q q2], ?_⟩
      have hsb : (fun j => m7 150 j - m7 151 j) = sb (fun j => m 150 j - m 151 j) (v % 6) (V 4 t) := funext fun j => by
        rw [c3 150 (by decide), b3 150 (by decide)]
        by_cases hj : j = v % 6
        · rw [hj, ← hm7, st_at, sbf_at]; omega
        · rw [← hm7, st_i hj, b3 151 (by decide), sb_o hj]
      rw [hch, if_pos (Or.inl h9), hu, ← hsb]
      rcases u3 with y | ⟨y1, y2, y3, y4⟩
      · exact Or.inl y
      · refine Or.inr ⟨y1, y2, fun i hi => by rw [y3 i (by omega), c3 152 (by decide), b2 i (by omega)], fun j hj => ?_⟩
        cases j with
        | zero => rw [show t + ((0 : Nat) : Int) = t by omega, y3 t (by omega), c3 152 (by decide), b1]; rfl
        | succ j => rw [show t + ((j + 1 : Nat) : Int) = t + 1 + (j : Int) by omega, y4 j (by omega)]; rfl
theorem census2_l {m : zM} : ∀ (k n : Nat) (i : Int), i + k = 6 → 0 ≤ i → k < n → (qM_isCensus_l109 m n i = some (.inr ()) ∧ ∀ j, i ≤ j → j < 6 → m 150 j - m 151 j = 0) ∨ (qM_isCensus_l109 m n i = some (.inl 0) ∧ ∃ j, 0 ≤ j ∧ j < 6 ∧ m 150 j - m 151 j ≠ 0) := by
  intro k
  induction k with
  | zero =>
    intro n i h1 h0 hn
    obtain ⟨n, rfl⟩ : ∃ n', n = n' + 1 := ⟨n - 1, by omega⟩
    unfold qM_isCensus_l109
    rw [if_neg (by omega)]
    exact Or.inl ⟨rfl, fun j j0 j1 => by omega⟩
  | succ k ih =>
    intro n i h1 h0 hn
    obtain ⟨n, rfl⟩ : ∃ n', n = n' + 1 := ⟨n - 1, by omega⟩
    have c : 0 ≤ i ∧ i < 6 := by omega
    unfold qM_isCensus_l109
    rw [if_pos c.2, if_pos c, if_pos c, wr_n (by omega) (by omega)]
    by_cases he : m 151 i = m 150 i
    · rw [if_pos he]
      rcases ih n (i + 1) (by omega) (by omega) (by omega) with ⟨x1, x2⟩ | x
      · refine Or.inl ⟨x1, fun j j0 j1 => ?_⟩
        by_cases hj : j = i
        · rw [hj]; omega
        · exact x2 j (by omega) j1
      · exact Or.inr x
    · rw [if_neg he]
      exact Or.inr ⟨rfl, i, c.1, c.2, by omega⟩
theorem isCensus_eq {N : Int} {V m : zM} {v : Int} (w : WF N V) (r : RowIs (m 143) V) (hv0 : 0 ≤ v) (hv9 : v ≤ 1000000) : ∃ m', qM_isCensus m v = some (chk (uV V) (alV V) (V 0 3).toNat 0 (m 150) v, m') ∧ (∀ q : Nat, q ≠ 151 → q ≠ 152 → m' q = m q) ∧ (chk (uV V) (alV V) (V 0 3).toNat 0 (m 150) v = 1 → ∀ j : Nat, j < (V 0 3).toNat → m' 152 j = dg 6 j v) := by
  have t0 := w.t0
  have t6 := w.t6
  unfold qM_isCensus
  obtain ⟨m2, p1, p2, p3⟩ := census0_l (μ := m) (v := v) 6 200 0 m (by omega) (by omega) (fun _ _ => rfl) (fun j j0 j1 => by omega) (by omega)
  obtain ⟨e9, m8, u1, u2, u3⟩ := census1_l w (V 0 3).toNat 200 m2 v 0 (by omega) (by omega) hv0 hv9 (by omega) (by rw [p2 143 (by decide)]; exact r) (fun j j0 j1 => by rw [p3 j j0 j1]; omega)
  have hck : chk (uV V) (alV V) (V 0 3).toNat 0 (fun j => m2 150 j - m2 151 j) v = chk (uV V) (alV V) (V 0 3).toNat 0 (m 150) v := chk_congr _ _ _ fun j j0 j1 => by rw [p3 j j0 j1, p2 150 (by decide)]; omega
  have fr : ∀ q : Nat, q ≠ 151 → q ≠ 152 → m8 q = m q := fun q q1 q2 => by rw [u2 q q1 q2, p2 q q1]
  rw [hck] at u3
  rw [p1, sBind, u1]
  rcases u3 with ⟨rfl, y1⟩ | ⟨rfl, y1, y2, y3⟩
  · rw [sBndS2l, y1]
    exact ⟨m8, rfl, fr, fun z => absurd z (by decide)⟩
  · rw [sBndS2r]
    rcases census2_l (m := m8) 6 200 0 (by omega) (by omega) (by omega) with ⟨x1, x2⟩ | ⟨x1, j, x2, x3, x4⟩
    · rw [x1, sBndSr, y1, (zb_1 (s := fun j => m8 150 j - m8 151 j) 6).mpr (fun j j0 j1 => x2 j j0 (by omega))]
      exact ⟨m8, rfl, fr, fun _ j hj => by have := y3 j hj; rw [Int.zero_add] at this; exact this⟩
    · have h0 : zb (fun j => m8 150 j - m8 151 j) 6 = 0 := by
        have h1 := zb_in (s := fun j => m8 150 j - m8 151 j) 6
        by_cases h2 : zb (fun j => m8 150 j - m8 151 j) 6 = 1
        · exact absurd ((zb_1 6).mp h2 j x2 (by omega)) x4
        · omega
      rw [x1, sBndSl, y1, h0]
      exact ⟨m8, rfl, fr, fun z => absurd z (by decide)⟩
theorem censuses_l {N : Int} {V μ : zM} (w : WF N V) (r : RowIs (μ 143) V) : ∀ (k n i : Nat) (m : zM), i + k = pn (V 0 3).toNat → k < n → (∀ q : Nat, q ≠ 151 → q ≠ 152 → m q = μ q) →
    ∃ m', qM_censuses_l13 n m (ps (fun v => chk (uV V) (alV V) (V 0 3).toNat 0 (μ 150) v) i) i = some (ps (fun v => chk (uV V) (alV V) (V 0 3).toNat 0 (μ 150) v) (pn (V 0 3).toNat), m') ∧ ∀ q : Nat, q ≠ 151 → q ≠ 152 → m' q = μ q := by
  have t0 := w.t0
  have t6 := w.t6
  have hM := pn_pw (V 0 3).toNat
  have hmx := pw_max (B := 6) (by decide) (k := (V 0 3).toNat) (by omega)
  intro k
  induction k with
  | zero =>
    intro n i m h1 hn hq
    obtain ⟨n, rfl⟩ : ∃ n', n = n' + 1 := ⟨n - 1, by omega⟩
    unfold qM_censuses_l13
    rw [numbers_eq (V := V) (by rw [hq 143 (by decide) (by decide)]; exact r) t0 t6, sBind, if_neg (by omega), show i = pn (V 0 3).toNat by omega]
    exact ⟨m, rfl, hq⟩
  | succ k ih =>
    intro n i m h1 hn hq
    obtain ⟨n, rfl⟩ : ∃ n', n = n' + 1 := ⟨n - 1, by omega⟩
    obtain ⟨m4, u1, u2, -⟩ := isCensus_eq (v := i) w (show RowIs (m 143) V by rw [hq 143 (by decide) (by decide)]; exact r) (by omega) (by omega)
    rw [hq 150 (by decide) (by decide)] at u1
    have hacc := ps_in (w := fun v => chk (uV V) (alV V) (V 0 3).toNat 0 (μ 150) v) (B := 1) (k := i) (fun j _ _ => chk_in _ _ _ _)
    have hci := chk_in (u := uV V) (al := alV V) (V 0 3).toNat 0 (μ 150) i
    have nx := ih n (i + 1) m4 (by omega) (by omega) (fun q q1 q2 => by rw [u2 q q1 q2, hq q q1 q2])
    have hps : ps (fun v => chk (uV V) (alV V) (V 0 3).toNat 0 (μ 150) v) (i + 1) = ps (fun v => chk (uV V) (alV V) (V 0 3).toNat 0 (μ 150) v) i + chk (uV V) (alV V) (V 0 3).toNat 0 (μ 150) i := rfl
    rw [hps, show ((i + 1 : Nat) : Int) = (i : Int) + 1 by omega] at nx
    unfold qM_censuses_l13
    rw [numbers_eq (V := V) (by rw [hq 143 (by decide) (by decide)]; exact r) t0 t6, sBind, if_pos (by omega), u1, sBnd2, wr_n (x := (i : Int) + 1) (by omega) (by omega), wr_n (x := ps (fun v => chk (uV V) (alV V) (V 0 3).toNat 0 (μ 150) v) i + 0) (by omega) (by omega), wr_n (x := ps (fun v => chk (uV V) (alV V) (V 0 3).toNat 0 (μ 150) v) i + 1) (by omega) (by omega)]
    by_cases hz : chk (uV V) (alV V) (V 0 3).toNat 0 (μ 150) i = 0
    · rw [if_pos hz]; rw [hz] at nx; exact nx
    · rw [if_neg hz]; rw [show chk (uV V) (alV V) (V 0 3).toNat 0 (μ 150) i = 1 by omega] at nx; exact nx
theorem censusesM_eq {N : Int} {V μ : zM} (w : WF N V) (r : RowIs (μ 143) V) : ∃ m, qM_censuses μ = some (cens V, m) ∧ (∀ q : Nat, q ≠ 142 → q ≠ 150 → q ≠ 151 → q ≠ 152 → m q = μ q) ∧ ∀ j, j ≠ 0 → m 142 j = μ 142 j := by
  have t0 := w.t0
  have t6 := w.t6
  have hM := pn_pw (V 0 3).toNat
  have hmx := pw_max (B := 6) (by decide) (k := (V 0 3).toNat) (by omega)
  have h46 : pn (V 0 3).toNat ≤ 46656 := by
    have hc : (V 0 3).toNat = 0 ∨ (V 0 3).toNat = 1 ∨ (V 0 3).toNat = 2 ∨ (V 0 3).toNat = 3 ∨ (V 0 3).toNat = 4 ∨ (V 0 3).toNat = 5 ∨ (V 0 3).toNat = 6 := by omega
    rcases hc with hc | hc | hc | hc | hc | hc | hc <;> rw [hc] <;> decide
  have r1 : RowIs ((st μ 142 0 0) 143) V := by rw [show (st μ 142 0 0) 143 = μ 143 from funext fun j => st_k (by decide)]; exact r
  have r2 : RowIs ((crM V (st μ 142 0 0) (V 0 3).toNat) 143) V := by rw [crM_k (by decide)]; exact r1
  obtain ⟨m, u1, u2⟩ := censuses_l w r2 (pn (V 0 3).toNat) 60000 0 (crM V (st μ 142 0 0) (V 0 3).toNat) (by omega) (by omega) (fun _ _ _ => rfl)
  rw [show ps (fun v => chk (uV V) (alV V) (V 0 3).toNat 0 ((crM V (st μ 142 0 0) (V 0 3).toNat) 150) v) 0 = 0 from rfl, chk_cn, show ((0 : Nat) : Int) = 0 from rfl, cn_congr (s' := cr V) _ _ (fun j j0 j1 => crM_at ⟨j0, j1⟩)] at u1
  refine ⟨m, ?_, fun q q1 q2 q3 q4 => by rw [u2 q q3 q4, crM_k q2]; exact funext fun j => st_k q1, fun j hj => by rw [u2 142 (by decide) (by decide), crM_k (by decide), st_i hj]⟩
  unfold qM_censuses
  rw [sBind, findsCreaks_eq w r1, sBind, u1, sBnd2]
  rfl
theorem censuses_ok {N : Int} : DoOk N N qT_censuses qM_censuses := by
  intro μ hI
  have hB := hI.1
  have w := hB.1
  obtain ⟨m, u1, u2, u3⟩ := censusesM_eq (V := hv μ 1) (μ := wls μ 133 6 (cr (hv μ 1))) w (by rw [wls_k (by decide)]; exact hB.2)
  refine ⟨cens (hv μ 1), _, m, ?_, u1, hI.gen (fun q hq => by rw [u2 q (by omega) (by omega) (by omega) (by omega), wls_k (by omega)]) (fun j hj => by rw [u3 j hj, wls_k (by decide)])⟩
  unfold qT_censuses
  rw [countByTrying_eq (h := 1) (by decide) w (HEq6.of_same fun _ _ _ => rfl), sBnd2]
