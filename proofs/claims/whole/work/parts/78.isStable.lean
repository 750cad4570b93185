/-! ===== B: plannedFlatByPlans, isStable, stablePlans ===== -/
theorem stb_congr {V : zM} {p q : Int → Int} (h : Stb V p) (he : ∀ t, inT V t → q t = p t) : Stb V q := by
  obtain ⟨⟨h1, h2⟩, h3⟩ := h
  refine ⟨⟨fun t ht => by rw [he t ht]; exact h1 t ht, fun t u ht hu => by rw [he t ht, he u hu]; exact h2 t u ht hu⟩, fun t f ht hf ha hl => ?_⟩
  rw [he t ht] at hl
  obtain ⟨u, u1, u2, u3⟩ := h3 t f ht hf ha hl
  exact ⟨u, u1, by rw [he u u1]; exact u2, u3⟩
theorem stb_ex {N : Int} {V μ : zM} (w : WF N V) (e : HEq6 (hv μ 1) V) : ∃ p, Stb V p := by
  obtain ⟨m, -, h, -⟩ := planByAsking_eq (h := 1) (by decide) w e
  exact ⟨_, h⟩
theorem plannedFlatByPlans_ok {N : Int} {v : Int} : OpOk N N (fun μ => qL_plannedFlatByPlans μ v) (fun μ => qM_plannedFlatByPlans μ v) :=
  planned_gen (T := fun μ => qP_planByPlans μ 1) (o := 131) (v := v) (Or.inr rfl) (fun μ V w e => by
    obtain ⟨p, hp⟩ := stb_ex w e
    obtain ⟨m, p1, p2, p3, p4⟩ := tryAll_eq (h := 1) (by decide) w e hp
    refine ⟨m, ?_, stb_congr hp p3, fun q hq => p4 q (by omega)⟩
    show qP_planByPlans μ 1 = _
    unfold qP_planByPlans
    rw [p1, sBind]) (fun _ => rfl) (fun m => by
    show qM_plannedFlatByPlans m v = _
    unfold qM_plannedFlatByPlans
    cases qM_plannedFlat m v with
    | none => rfl
    | some x => rfl)
theorem houseStable_l {N : Int} {V : zM} {h : Nat} (hh : h + 10 ≤ 113) (w : WF N V) : ∀ (k n : Nat) (m : zM) (v : Int), v + k = V 0 3 → 0 ≤ v → k < n → HEq6 (hv m h) V → Tab V m → PP V (V 9) v → HoldP V (V 9) (m 129) v → (∀ t, 0 ≤ t → t < v → m 128 t = V 9 t) →
    ∃ e9 m', qP_isHouseStable_l7 h n m v = some (e9, m') ∧ (∀ q : Nat, q ≠ 128 → q ≠ 129 → m' q = m q) ∧
      ((e9 = .inr () ∧ PP V (V 9) (V 0 3) ∧ HoldP V (V 9) (m' 129) (V 0 3) ∧ ∀ t, inT V t → m' 128 t = V 9 t) ∨ (e9 = .inl 0 ∧ ¬ Stb V (V 9))) := by
  have t6 := w.t6
  have n6 := w.n6
  intro k
  induction k with
  | zero =>
    intro n m v h1 h0 hn e tb pp ho hq
    obtain ⟨n, rfl⟩ : ∃ n', n = n' + 1 := ⟨n - 1, by omega⟩
    have e3 : m h 3 = V 0 3 := e.1.2.1
    have hvT : v = V 0 3 := by omega
    unfold qP_isHouseStable_l7
    rw [if_neg (by omega)]
    exact ⟨.inr (), m, rfl, fun _ _ _ => rfl, Or.inl ⟨rfl, hvT ▸ pp, hvT ▸ ho, fun t ht => hq t ht.1 (by have := ht.2; omega)⟩⟩
  | succ k ih =>
    intro n m v h1 h0 hn e tb pp ho hq
    obtain ⟨n, rfl⟩ : ∃ n', n = n' + 1 := ⟨n - 1, by omega⟩
    have e3 : m h 3 = V 0 3 := e.1.2.1
    have iv : inT V v := ⟨h0, by omega⟩
    have cv : 0 ≤ v ∧ v < 6 := by omega
    have hho := (w.tn v h0 (by omega)).2.2.2.2.2
    have e9 : m (h + 9) v = V 9 v := e.tok (k := 9) (by decide) cv
    have e7 : m (h + 7) v = V 7 v := e.tok (k := 7) (by decide) cv
    have hne : V 9 v ≠ -1 → ∀ u, 0 ≤ u → u < v → V 9 u ≠ V 9 v := fun z u u0 u1 y => z (y ▸ w.hm u v u0 u1 (by omega) y)
    -- the rest of a turn, once the holder is written
    have go : ∀ m1 : zM, (∀ q : Nat, q ≠ 129 → m1 q = m q) → (V 9 v = -1 ∨ (inF V (V 9 v) ∧ ¬ V 7 v < V 2 (V 9 v))) → HoldP V (V 9) (m1 129) (v + 1) →
        ∃ e9 m', qP_isHouseStable_j45 (qP_isHouseStable_l7 h n) m1 h v (V 9 v) = some (e9, m') ∧ (∀ q : Nat, q ≠ 128 → q ≠ 129 → m' q = m q) ∧
          ((e9 = .inr () ∧ PP V (V 9) (V 0 3) ∧ HoldP V (V 9) (m' 129) (V 0 3) ∧ ∀ t, inT V t → m' 128 t = V 9 t) ∨ (e9 = .inl 0 ∧ ¬ Stb V (V 9))) := fun m1 g1 hc ho1 => by
      unfold qP_isHouseStable_j45
      rw [if_pos cv, sBind]
      generalize hm2 : st m1 128 v (V 9 v) = m2
      have b0 : ∀ q : Nat, q ≠ 128 → q ≠ 129 → m2 q = m q := fun q q1 q2 => by rw [← hm2, ← g1 q q2]; exact funext fun j => st_k q1
      have b129 : m2 129 = m1 129 := by rw [← hm2]; exact funext fun j => st_k (by decide)
      have b128 : ∀ t, 0 ≤ t → t < v + 1 → m2 128 t = V 9 t := fun t t0 t1 => by
        by_cases ht : t = v
        · rw [ht, ← hm2, st_at]
        · rw [← hm2, st_i ht, g1 128 (by decide)]; exact hq t t0 (by omega)
      have e2 : HEq6 (hv m2 h) V := HEq6.trans (HEq6.of_same fun q q1 q2 => b0 q (by omega) (by omega)) e
      have tb2 : Tab V m2 := fun t f ht hf => by
        have u0 := ht.1
        have u1 := ht.2
        have ok := tb t f ht hf
        unfold tabOk at ok ⊢
        rw [b0 _ (by omega) (by omega), b0 _ (by omega) (by omega)]
        exact ok
      have hcl : ∀ u, 0 ≤ u → u < v → (Clash V (m2 128) v u ↔ Clash V (V 9) v u) := fun u u0 u1 => by
        unfold Clash
        rw [b128 u u0 (by omega), b128 v h0 (by omega), wt_congr (b128 v h0 (by omega)), wt_congr (b128 u u0 (by omega))]
      rcases clashes_eq w e2 tb2 iv (fun t t0 t1 => by
        rw [b128 t t0 (by omega)]
        by_cases ht : t = v
        · rw [ht]; exact hc.imp id fun z => z.1
        · exact (pp.1 t t0 (by omega)).imp id fun z => z.1) with ⟨x1, x2⟩ | ⟨x1, u, x2, x3, x4⟩
      · rw [x1, sBind, if_pos rfl, wr_n (by omega) (by omega)]
        obtain ⟨e9', m', u1, u2, u3⟩ := ih n m2 (v + 1) (by omega) (by omega) (by omega) e2 tb2 (pp_next pp h0 hc hne (fun u u0 u1 z => x2 u u0 u1 ((hcl u u0 u1).mpr z))) (by rw [b129]; exact ho1) b128
        exact ⟨e9', m', u1, fun q q1 q2 => by rw [u2 q q1 q2, b0 q q1 q2], u3⟩
      · rw [x1, sBind, if_neg (show ¬ (1 : Int) = 0 by decide)]
        exact ⟨.inl 0, m2, rfl, b0, Or.inr ⟨rfl, fun z => pp_clash (stb_pp z (show v + 1 ≤ V 0 3 by omega)) x2 x3 ((hcl u x2 x3).mp x4)⟩⟩
    unfold qP_isHouseStable_l7
    rw [if_pos (by omega), if_pos cv, e9]
    by_cases h9 : V 9 v = -1
    · rw [if_pos h9]
      refine go m (fun _ _ => rfl) (Or.inl h9) (fun f hf => ?_)
      rcases ho f hf with ⟨y1, y2⟩ | ⟨y1, y2, y3⟩
      · refine Or.inl ⟨y1, fun t t0 t1 => ?_⟩
        by_cases ht : t = v
        · rw [ht, h9]; have := hf.1; omega
        · exact y2 t t0 (by omega)
      · exact Or.inr ⟨y1, by omega, y3⟩
    · have jf : inF V (V 9 v) := ⟨by omega, hho.2⟩
      have cf : 0 ≤ V 9 v ∧ V 9 v < 6 := by omega
      have e2 : m (h + 2) (V 9 v) = V 2 (V 9 v) := e.tok (k := 2) (by decide) cf
      rw [if_neg h9, canAfford_eq cv cf, sBind, e7, e2]
      by_cases ha : V 7 v < V 2 (V 9 v)
      · rw [if_pos ha, if_pos rfl]
        refine ⟨.inl 0, m, rfl, fun _ _ _ => rfl, Or.inr ⟨rfl, fun z => ?_⟩⟩
        exact ((z.1.1 v iv).resolve_left h9).2 ha
      · rw [if_neg ha, if_neg (show ¬ (1 : Int) = 0 by decide), if_pos cf, sBind]
        refine go (st m 129 (V 9 v) v) (fun q hq => funext fun j => st_k hq) (Or.inr ⟨jf, ha⟩) (fun f hf => ?_)
        by_cases hfv : f = V 9 v
        · rw [hfv, st_at]
          exact Or.inr ⟨h0, by omega, rfl⟩
        · rw [st_i hfv]
          rcases ho f hf with ⟨y1, y2⟩ | ⟨y1, y2, y3⟩
          · refine Or.inl ⟨y1, fun t t0 t1 => ?_⟩
            by_cases ht : t = v
            · rw [ht]; exact fun z => hfv z.symm
            · exact y2 t t0 (by omega)
          · exact Or.inr ⟨y1, by omega, y3⟩
theorem houseStable_eq {N : Int} {V μ : zM} {h : Nat} (hh : h + 10 ≤ 113) (w : WF N V) (e : HEq6 (hv μ h) V) : ∃ b m, qP_isHouseStable μ h = some (b, m) ∧ (∀ q : Nat, (q < 113 ∨ 132 ≤ q) → m q = μ q) ∧ ((b = 1 ∧ Stb V (V 9)) ∨ (b = 0 ∧ ¬ Stb V (V 9))) := by
  have n6 := w.n6
  have t0 := w.t0
  have t6 := w.t6
  unfold qP_isHouseStable
  obtain ⟨m1, p1, p2, p3, p4⟩ := begin_eq hh w e
  obtain ⟨e9, m2, u1, u2, u3⟩ := houseStable_l hh w (V 0 3).toNat 200 m1 0 (by omega) (by omega) (by omega) (HEq6.trans (HEq6.of_same fun q q1 q2 => p4 q (by omega)) e) p2 ⟨fun t t0 t1 => by omega, fun t u t0 t1 => by omega, fun a b a0 a1 => by omega⟩
    (fun f hf => Or.inl ⟨by have := hf.2; exact (p3 f hf.1 (by omega)).2, fun t t0 t1 => by omega⟩) (fun t t0 t1 => by omega)
  have fr : ∀ q : Nat, (q < 113 ∨ 132 ≤ q) → m2 q = μ q := fun q hq => by rw [u2 q (by omega) (by omega), p4 q (by omega)]
  rw [p1, sBind, u1]
  rcases u3 with ⟨rfl, x1, x2, x3⟩ | ⟨rfl, x1⟩
  · rw [sBndS2r]
    have tb2 : Tab V m2 := fun t f ht hf => by
      have h0 := ht.1
      have h1 := ht.2
      have ok := p2 t f ht hf
      unfold tabOk at ok ⊢
      rw [u2 _ (by omega) (by omega), u2 _ (by omega) (by omega)]
      exact ok
    rcases freeWanted_eq w (HEq6.trans (HEq6.of_same fun q q1 q2 => fr q (by omega)) e) tb2 (fun t ht => by rw [x3 t ht]; exact (x1.1 t ht.1 ht.2).imp id fun z => z.1) with ⟨y1, y2⟩ | ⟨y1, f, t, y2, y3, y4, y5⟩
    · rw [y1, sBind, if_pos rfl]
      exact ⟨1, m2, rfl, fr, Or.inl ⟨rfl, pp_stb x1 x2 (fun f t hf ht h9 hw => y2 f t hf ht h9 ((wt_congr (x3 t ht)).mpr hw))⟩⟩
    · rw [y1, sBind, if_neg (show ¬ (1 : Int) = 0 by decide)]
      refine ⟨0, m2, rfl, fr, Or.inr ⟨rfl, fun z => ?_⟩⟩
      have hw := (wt_congr (x3 t y4)).mp y5
      obtain ⟨u, v1, v2, v3⟩ := z.2 t f y4 y2 hw.1 hw.2
      rcases x2 f y2 with ⟨z1, z2⟩ | ⟨z1, z2, z3⟩
      · exact z2 u v1.1 v1.2 v2
      · omega
  · rw [sBndS2l]
    exact ⟨0, m2, rfl, fr, Or.inr ⟨rfl, x1⟩⟩
theorem isPlan_l {N : Int} {V m : zM} (w : WF N V) (r : RowIs (m 143) V) (hq : ∀ t, inT V t → -1 ≤ m 148 t) : ∀ (k n : Nat) (i : Int), i + k = V 0 3 → 0 ≤ i → k < n →
    (qM_isPlan_l2 m n i = some (.inr ()) ∧ ∀ t, inT V t → i ≤ t → m 148 t = -1 ∨ ((inF V (m 148 t) ∧ ¬ V 7 t < V 2 (m 148 t)) ∧ fi (m 148) (m 148 t) (V 0 3).toNat 0 = t)) ∨ (qM_isPlan_l2 m n i = some (.inl 0) ∧ ¬ Plan V (m 148)) := by
  have n6 := w.n6
  have t0 := w.t0
  have t6 := w.t6
  have rt := r.t
  have rn := r.n
  intro k
  induction k with
  | zero =>
    intro n i h1 h0 hn
    obtain ⟨n, rfl⟩ : ∃ n', n = n' + 1 := ⟨n - 1, by omega⟩
    unfold qM_isPlan_l2
    rw [if_neg (by omega)]
    exact Or.inl ⟨rfl, fun t ht hle => by have := ht.2; omega⟩
  | succ k ih =>
    intro n i h1 h0 hn
    obtain ⟨n, rfl⟩ : ∃ n', n = n' + 1 := ⟨n - 1, by omega⟩
    have it : inT V i := ⟨h0, by omega⟩
    have ci : 0 ≤ i ∧ i < 6 := by omega
    have hqi := hq i it
    have nx : (m 148 i = -1 ∨ ((inF V (m 148 i) ∧ ¬ V 7 i < V 2 (m 148 i)) ∧ fi (m 148) (m 148 i) (V 0 3).toNat 0 = i)) → (qM_isPlan_l2 m n (i + 1) = some (.inr ()) ∧ ∀ t, inT V t → i ≤ t → m 148 t = -1 ∨ ((inF V (m 148 t) ∧ ¬ V 7 t < V 2 (m 148 t)) ∧ fi (m 148) (m 148 t) (V 0 3).toNat 0 = t)) ∨ (qM_isPlan_l2 m n (i + 1) = some (.inl 0) ∧ ¬ Plan V (m 148)) := fun hx => by
      rcases ih n (i + 1) (by omega) (by omega) (by omega) with ⟨x1, x2⟩ | x
      · refine Or.inl ⟨x1, fun t ht hle => ?_⟩
        by_cases hti : t = i
        · rw [hti]; exact hx
        · exact x2 t ht (by omega)
      · exact Or.inr x
    unfold qM_isPlan_l2
    rw [if_pos (by omega), if_pos ci, wr_n (by omega) (by omega)]
    by_cases h9 : m 148 i < 0
    · rw [if_pos h9]; exact nx (Or.inl (by omega))
    rw [if_neg h9, if_pos ci, rn]
    by_cases hn9 : m 148 i < V 0 0
    · have jf : inF V (m 148 i) := ⟨by omega, hn9⟩
      rw [if_pos hn9, if_pos ci, affords_eq r it t6 jf n6, sBind]
      by_cases ha : V 7 i < V 2 (m 148 i)
      · rw [if_pos ha, if_pos rfl]
        exact Or.inr ⟨rfl, fun z => ((z.1 i it).resolve_left (by omega)).2 ha⟩
      · rw [if_neg ha, if_neg (show ¬ (1 : Int) = 0 by decide), if_pos ci, plannedIn_eq (by omega) (by omega), sBind, rt]
        by_cases hfi : fi (m 148) (m 148 i) (V 0 3).toNat 0 = i
        · rw [if_pos hfi]; exact nx (Or.inr ⟨⟨jf, ha⟩, hfi⟩)
        · rw [if_neg hfi]
          refine Or.inr ⟨rfl, fun z => ?_⟩
          rcases fi_spec (w := m 148) (v := m 148 i) (V 0 3).toNat 0 (by omega) with ⟨y1, y2, y3⟩ | ⟨y1, y2⟩
          · have := z.2 _ i ⟨y1, by omega⟩ it y3 hfi
            omega
          · exact y2 i h0 (by omega) rfl
    · rw [if_neg hn9]
      refine Or.inr ⟨rfl, fun z => ?_⟩
      have := ((z.1 i it).resolve_left (by omega)).1.2
      omega
theorem isPlan_eq {N : Int} {V m : zM} (w : WF N V) (r : RowIs (m 143) V) (hq : ∀ t, inT V t → -1 ≤ m 148 t) : (qM_isPlan m = some 1 ∧ Plan V (m 148)) ∨ (qM_isPlan m = some 0 ∧ ¬ Plan V (m 148)) := by
  have t0 := w.t0
  have t6 := w.t6
  unfold qM_isPlan
  rcases isPlan_l w r hq (V 0 3).toNat 200 0 (by omega) (by omega) (by omega) with ⟨x1, x2⟩ | ⟨x1, x2⟩
  · rw [x1, sBndSr]
    refine Or.inl ⟨rfl, fun t ht => (x2 t ht ht.1).imp id fun z => z.1, fun t u ht hu he hne => ?_⟩
    rcases x2 t ht ht.1 with y | ⟨-, y⟩
    · exact y
    · rcases x2 u hu hu.1 with z | ⟨-, z⟩
      · rw [he]; exact z
      · rw [he, z] at y; exact absurd y.symm hne
  · rw [x1, sBndSl]
    exact Or.inr ⟨rfl, x2⟩
def Blk (V : zM) (q : Int → Int) (t f : Int) : Prop := (¬ V 7 t < V 2 f ∧ (q t = -1 ∨ pf V t f (q t))) ∧ ¬ ∃ u, inT V u ∧ q u = f ∧ pr V u t
theorem stab1_l {N : Int} {V m : zM} {t : Int} (w : WF N V) (r : RowIs (m 143) V) (pl : Plan V (m 148)) (ht : inT V t) : ∀ (k n : Nat) (i : Int), i + k = V 0 0 → 0 ≤ i → k < n →
    (qM_isStablePlan_l23 m t n i = some (.inr ()) ∧ ∀ f, inF V f → i ≤ f → ¬ Blk V (m 148) t f) ∨ (qM_isStablePlan_l23 m t n i = some (.inl 0) ∧ ∃ f, inF V f ∧ Blk V (m 148) t f) := by
  have n6 := w.n6
  have t0 := w.t0
  have t6 := w.t6
  have rt := r.t
  have rn := r.n
  have ht0 := ht.1
  have ht1 := ht.2
  have ci : 0 ≤ t ∧ t < 6 := by omega
  intro k
  induction k with
  | zero =>
    intro n i h1 h0 hn
    obtain ⟨n, rfl⟩ : ∃ n', n = n' + 1 := ⟨n - 1, by omega⟩
    unfold qM_isStablePlan_l23
    rw [if_neg (by omega)]
    exact Or.inl ⟨rfl, fun f hf hle => by have := hf.2; omega⟩
  | succ k ih =>
    intro n i h1 h0 hn
    obtain ⟨n, rfl⟩ : ∃ n', n = n' + 1 := ⟨n - 1, by omega⟩
    have jf : inF V i := ⟨h0, by omega⟩
    have nx : ¬ Blk V (m 148) t i → (qM_isStablePlan_l23 m t n (i + 1) = some (.inr ()) ∧ ∀ f, inF V f → i ≤ f → ¬ Blk V (m 148) t f) ∨ (qM_isStablePlan_l23 m t n (i + 1) = some (.inl 0) ∧ ∃ f, inF V f ∧ Blk V (m 148) t f) := fun hx => by
      rcases ih n (i + 1) (by omega) (by omega) (by omega) with ⟨x1, x2⟩ | x
      · refine Or.inl ⟨x1, fun f hf hle => ?_⟩
        by_cases hfi : f = i
        · rw [hfi]; exact hx
        · exact x2 f hf (by omega)
      · exact Or.inr x
    have hpt : m 148 t = -1 ∨ inF V (m 148 t) := (pl.1 t ht).imp id fun z => z.1
    have hpt2 : m 148 t < V 0 0 := by
      rcases hpt with z | z
      · omega
      · exact z.2
    unfold qM_isStablePlan_l23
    rw [if_pos (by omega), if_pos ci, wr_n (by omega) (by omega)]
    by_cases hs : i = m 148 t
    · rw [if_pos hs]
      refine nx (fun z => ?_)
      rcases z.1.2 with y | y
      · omega
      · rw [← hs] at y; exact pf_irr y
    rw [if_neg hs, affords_eq r ht t6 jf n6, sBind]
    by_cases ha : V 7 t < V 2 i
    · rw [if_pos ha, if_pos rfl]
      exact nx (fun z => z.1.1 ha)
    rw [if_neg ha, if_neg (show ¬ (1 : Int) = 0 by decide), if_pos ci, prefers_eq w r ht jf hpt2, sBind]
    by_cases hp : m 148 t < 0 ∨ pf V t i (m 148 t)
    · rw [if_pos hp, if_neg (show ¬ (1 : Int) = 0 by decide), plannedIn_eq (by omega) (by omega), sBind, rt]
      have hl : m 148 t = -1 ∨ pf V t i (m 148 t) := by
        rcases hp with z | z
        · rcases hpt with y | y
          · exact Or.inl y
          · have := y.1; omega
        · exact Or.inr z
      have hus := fi_spec (w := m 148) (v := i) (V 0 3).toNat 0 (by omega)
      generalize fi (m 148) i (V 0 3).toNat 0 = u at hus
      rcases hus with ⟨y1, y2, y3⟩ | ⟨y1, y2⟩
      · have iu : inT V u := ⟨y1, by omega⟩
        rw [if_neg (by omega), isPreferred_eq w r ht iu, sBind]
        by_cases hq : pr V t u
        · rw [if_pos hq, if_neg (show ¬ (1 : Int) = 0 by decide)]
          refine Or.inr ⟨rfl, i, jf, ⟨ha, hl⟩, fun z => ?_⟩
          obtain ⟨u2, z1, z2, z3⟩ := z
          by_cases huu : u2 = u
          · rw [huu] at z3; exact pr_anti hq z3
          · have := pl.2 u2 u z1 iu (z2.trans y3.symm) huu
            omega
        · rw [if_neg hq, if_pos rfl]
          refine nx (fun z => z.2 ⟨u, iu, y3, pr_tri (fun z => hs (by rw [z]; exact y3.symm)) hq⟩)
      · rw [if_pos (by omega)]
        refine Or.inr ⟨rfl, i, jf, ⟨ha, hl⟩, fun z => ?_⟩
        obtain ⟨u2, z1, z2, z3⟩ := z
        exact y2 u2 z1.1 (by have := z1.2; omega) z2
    · rw [if_neg hp, if_pos rfl]
      exact nx (fun z => hp (z.1.2.imp (fun y => by omega) id))
theorem stab2_l {N : Int} {V m : zM} (w : WF N V) (r : RowIs (m 143) V) (pl : Plan V (m 148)) : ∀ (k n : Nat) (i : Int), i + k = V 0 3 → 0 ≤ i → k < n →
    (qM_isStablePlan_l11 m n i = some (.inr ()) ∧ ∀ t f, inT V t → i ≤ t → inF V f → ¬ Blk V (m 148) t f) ∨ (qM_isStablePlan_l11 m n i = some (.inl 0) ∧ ∃ t f, inT V t ∧ inF V f ∧ Blk V (m 148) t f) := by
  have n0 := w.n0
  have n6 := w.n6
  have t6 := w.t6
  have rt := r.t
  intro k
  induction k with
  | zero =>
    intro n i h1 h0 hn
    obtain ⟨n, rfl⟩ : ∃ n', n = n' + 1 := ⟨n - 1, by omega⟩
    unfold qM_isStablePlan_l11
    rw [if_neg (by omega)]
    exact Or.inl ⟨rfl, fun t f ht hle => by have := ht.2; omega⟩
  | succ k ih =>
    intro n i h1 h0 hn
    obtain ⟨n, rfl⟩ : ∃ n', n = n' + 1 := ⟨n - 1, by omega⟩
    have it : inT V i := ⟨h0, by omega⟩
    unfold qM_isStablePlan_l11
    rw [if_pos (by omega), wr_n (by omega) (by omega)]
    rcases stab1_l w r pl it (V 0 0).toNat 200 0 (by omega) (by omega) (by omega) with ⟨x1, x2⟩ | ⟨x1, f, x2, x3⟩
    · rw [x1, sBndSr]
      rcases ih n (i + 1) (by omega) (by omega) (by omega) with ⟨y1, y2⟩ | y
      · refine Or.inl ⟨y1, fun t f ht hle hf => ?_⟩
        by_cases hti : t = i
        · rw [hti]; exact x2 f hf hf.1
        · exact y2 t f ht (by omega) hf
      · exact Or.inr y
    · rw [x1, sBndSl]
      exact Or.inr ⟨rfl, i, f, it, x2, x3⟩
theorem isStablePlan_eq {N : Int} {V m : zM} (w : WF N V) (r : RowIs (m 143) V) (hq : ∀ t, inT V t → -1 ≤ m 148 t) : (qM_isStablePlan m = some 1 ∧ Stb V (m 148)) ∨ (qM_isStablePlan m = some 0 ∧ ¬ Stb V (m 148)) := by
  have t0 := w.t0
  have t6 := w.t6
  unfold qM_isStablePlan
  rcases isPlan_eq w r hq with ⟨x1, x2⟩ | ⟨x1, x2⟩
  · rw [x1, sBind, if_neg (show ¬ (1 : Int) = 0 by decide)]
    rcases stab2_l w r x2 (V 0 3).toNat 200 0 (by omega) (by omega) (by omega) with ⟨y1, y2⟩ | ⟨y1, t, f, y2, y3, y4⟩
    · rw [y1, sBndSr]
      refine Or.inl ⟨rfl, x2, fun t f ht hf ha hl => ?_⟩
      exact Classical.byContradiction fun z => y2 t f ht ht.1 hf ⟨⟨ha, hl⟩, z⟩
    · rw [y1, sBndSl]
      exact Or.inr ⟨rfl, fun z => y4.2 (z.2 t f y2 y3 y4.1.1 y4.1.2)⟩
  · rw [x1, sBind, if_pos rfl]
    exact Or.inr ⟨rfl, fun z => x2 z.1⟩
theorem homes_l {N : Int} {V μ : zM} (w : WF N V) (r : RowIs (μ 143) V) : ∀ (k n : Nat) (m : zM) (i : Int), i + k = V 0 3 → 0 ≤ i → k < n → (∀ q : Nat, q ≠ 148 → m q = μ q) → (∀ t, 0 ≤ t → t < i → m 148 t = V 9 t) → ∃ m', qM_isStable_l7 n m i = some m' ∧ (∀ q : Nat, q ≠ 148 → m' q = μ q) ∧ ∀ t, inT V t → m' 148 t = V 9 t := by
  have n6 := w.n6
  have t6 := w.t6
  have rt := r.t
  intro k
  induction k with
  | zero =>
    intro n m i h1 h0 hn hq hp
    obtain ⟨n, rfl⟩ : ∃ n', n = n' + 1 := ⟨n - 1, by omega⟩
    unfold qM_isStable_l7
    rw [hq 143 (by decide), if_neg (by omega)]
    exact ⟨m, rfl, hq, fun t ht => hp t ht.1 (by have := ht.2; omega)⟩
  | succ k ih =>
    intro n m i h1 h0 hn hq hp
    obtain ⟨n, rfl⟩ : ∃ n', n = n' + 1 := ⟨n - 1, by omega⟩
    have hho := (w.tn i h0 (by omega)).2.2.2.2.2
    have rm := (r.tn i h0 (by omega)).2.2.2.2.2.2
    unfold qM_isStable_l7
    rw [hq 143 (by decide), if_pos (by omega), of_eq (by omega) (by decide), sBind, if_pos (by omega), sBind, hq 143 (by decide), show 20 + 7 * i + 6 = 26 + 7 * i by omega, rm, wr_n (by omega) (by omega), wr_n (by omega) (by omega), show V 9 i + 1 - 1 = V 9 i by omega]
    refine ih n _ (i + 1) (by omega) (by omega) (by omega) (fun q h => by rw [← hq q h]; exact funext fun j => st_k h) (fun t t0 t1 => ?_)
    by_cases hti : t = i
    · rw [hti, st_at]
    · rw [st_i hti]; exact hp t t0 (by omega)
theorem isStable_ok {N : Int} : DoOk N N qT_isStable qM_isStable := by
  intro μ hI
  have hB := hI.1
  have w := hB.1
  have t0 : 0 ≤ μ 1 3 := w.t0
  have t6 : μ 1 3 ≤ 6 := w.t6
  obtain ⟨b, m1, p1, p2, p3⟩ := houseStable_eq (h := 1) (μ := μ) (V := hv μ 1) (by decide) w (HEq6.of_same fun _ _ _ => rfl)
  have h143 : (st m1 142 0 0) 143 = μ 143 := by rw [← p2 143 (by omega)]; exact funext fun j => st_k (by decide)
  obtain ⟨m4, u1, u2, u3⟩ := homes_l (V := hv μ 1) (μ := st m1 142 0 0) w (by rw [h143]; exact hB.2) (μ 1 3).toNat 200 (st m1 142 0 0) 0 (by show (0 : Int) + _ = μ 1 3; omega) (by omega) (by omega) (fun _ _ => rfl) (fun t t0 t1 => by omega)
  have hi : Inv N m4 := hI.plan (fun q q1 q2 q3 q4 q5 => by rw [u2 q q3, ← p2 q (by omega)]; exact funext fun j => st_k q2) (fun j hj => by rw [u2 142 (by decide), st_i hj, p2 142 (by omega)])
  have hst : ∃ c, qM_isStablePlan m4 = some c ∧ ((c = 1 ∧ Stb (hv μ 1) (hv μ 1 9)) ∨ (c = 0 ∧ ¬ Stb (hv μ 1) (hv μ 1 9))) := by
    rcases isStablePlan_eq (V := hv μ 1) (m := m4) w (by rw [u2 143 (by decide), h143]; exact hB.2) (fun t ht => by rw [u3 t ht]; exact (w.tn t ht.1 ht.2).2.2.2.2.2.1) with ⟨x1, x2⟩ | ⟨x1, x2⟩
    · exact ⟨1, x1, Or.inl ⟨rfl, stb_congr x2 fun t ht => (u3 t ht).symm⟩⟩
    · exact ⟨0, x1, Or.inr ⟨rfl, fun z => x2 (stb_congr z fun t ht => u3 t ht)⟩⟩
  obtain ⟨c, c1, c2⟩ := hst
  have hbc : b = c ∧ 0 ≤ b ∧ b < 2 := by
    rcases p3 with ⟨x1, x2⟩ | ⟨x1, x2⟩
    · rcases c2 with ⟨y1, y2⟩ | ⟨y1, y2⟩
      · omega
      · exact absurd x2 y2
    · rcases c2 with ⟨y1, y2⟩ | ⟨y1, y2⟩
      · exact absurd y2 x2
      · omega
  refine ⟨b, m1, m4, ?_, ?_, hi⟩
  · unfold qT_isStable
    rw [p1, sBnd2, if_pos hbc.2]
  · unfold qM_isStable
    rw [sBind, u1, sBind, c1, sBind, if_pos (by omega), hbc.1]
