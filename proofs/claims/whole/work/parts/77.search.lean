/-! ===== B: the class searches all plans ===== -/
def Wt (V : zM) (q : Int → Int) (t f : Int) : Prop := ¬ V 7 t < V 2 f ∧ (q t = -1 ∨ pf V t f (q t))
theorem wt_congr {V : zM} {q q' : Int → Int} {t f : Int} (h : q t = q' t) : Wt V q t f ↔ Wt V q' t f := by unfold Wt; rw [h]
theorem wantsP_eq {N : Int} {V m : zM} {h : Nat} {t f : Int} (w : WF N V) (e : HEq6 (hv m h) V) (tb : Tab V m) (ht : inT V t) (hf : inF V f) (hq : m 128 t = -1 ∨ inF V (m 128 t)) : ∃ b : Int, qP_wants m h t f = some b ∧ ((b = 1 ∧ Wt V (m 128) t f) ∨ (b = 0 ∧ ¬ Wt V (m 128) t f)) := by
  have t6 := w.t6
  have n6 := w.n6
  have ht0 := ht.1
  have ht1 := ht.2
  have hf0 := hf.1
  have hf1 := hf.2
  have ct9 : 0 ≤ t ∧ t < 6 := by omega
  have cf : 0 ≤ f ∧ f < 6 := by omega
  have e7 : m (h + 7) t = V 7 t := e.tok (k := 7) (by decide) ct9
  have e2 : m (h + 2) f = V 2 f := e.tok (k := 2) (by decide) cf
  have rin := rk_in (V := V) (t := t) hf
  unfold qP_wants
  rw [canAfford_eq ct9 cf, sBind, e7, e2]
  by_cases ha : V 7 t < V 2 f
  · rw [if_pos ha, if_pos rfl]
    exact ⟨0, rfl, Or.inr ⟨rfl, fun z => z.1 ha⟩⟩
  rw [if_neg ha, if_neg (show ¬ (1 : Int) = 0 by decide), if_pos ct9, if_pos cf, if_pos ct9]
  unfold qP_rankOf
  rw [(tb t f ht hf).1]
  by_cases hq1 : m 128 t = -1
  · rw [if_pos hq1, sBind, if_pos (by omega)]
    exact ⟨1, rfl, Or.inl ⟨rfl, ha, Or.inl hq1⟩⟩
  · have hq2 := hq.resolve_left hq1
    have hq3 := hq2.1
    have hq4 := hq2.2
    rw [if_neg hq1, if_pos ct9, if_pos (show 0 ≤ m 128 t ∧ m 128 t < 6 by omega), sBind, (tb t _ ht hq2).1]
    by_cases hr9 : rk V t f < rk V t (m 128 t)
    · rw [if_pos hr9]
      exact ⟨1, rfl, Or.inl ⟨rfl, ha, Or.inr ((rk_iff hf hq2).mp hr9)⟩⟩
    · rw [if_neg hr9]
      refine ⟨0, rfl, Or.inr ⟨rfl, fun z => ?_⟩⟩
      rcases z.2 with y | y
      · exact hq1 y
      · exact hr9 ((rk_iff hf hq2).mpr y)
theorem freeW1_l {N : Int} {V m : zM} {h : Nat} {f : Int} (w : WF N V) (e : HEq6 (hv m h) V) (tb : Tab V m) (hf : inF V f) (hq : ∀ t, inT V t → m 128 t = -1 ∨ inF V (m 128 t)) : ∀ (k n : Nat) (i : Int), i + k = V 0 3 → 0 ≤ i → k < n →
    (qP_isFreeFlatWanted_l12 m h f n i = some (.inr ()) ∧ ∀ t, inT V t → i ≤ t → m 129 f = -1 → ¬ Wt V (m 128) t f) ∨ (qP_isFreeFlatWanted_l12 m h f n i = some (.inl 1) ∧ m 129 f = -1 ∧ ∃ t, inT V t ∧ Wt V (m 128) t f) := by
  have n6 := w.n6
  have t6 := w.t6
  have e3 : m h 3 = V 0 3 := e.1.2.1
  have hf0 := hf.1
  have hf1 := hf.2
  intro k
  induction k with
  | zero =>
    intro n i h1 h0 hn
    obtain ⟨n, rfl⟩ : ∃ n', n = n' + 1 := ⟨n - 1, by omega⟩
    unfold qP_isFreeFlatWanted_l12
    rw [if_neg (by omega)]
    exact Or.inl ⟨rfl, fun t ht hle => by have := ht.2; omega⟩
  | succ k ih =>
    intro n i h1 h0 hn
    obtain ⟨n, rfl⟩ : ∃ n', n = n' + 1 := ⟨n - 1, by omega⟩
    have it : inT V i := ⟨h0, by omega⟩
    unfold qP_isFreeFlatWanted_l12
    rw [if_pos (by omega), if_pos (show 0 ≤ f ∧ f < 6 by omega)]
    by_cases h9 : m 129 f = -1
    · rw [if_pos h9]
      obtain ⟨b, b1, b2⟩ := wantsP_eq w e tb it hf (hq i it)
      rw [b1, sBind, wr_n (by omega) (by omega)]
      rcases b2 with ⟨b2, b3⟩ | ⟨b2, b3⟩
      · rw [b2, if_neg (by decide)]
        exact Or.inr ⟨rfl, h9, i, it, b3⟩
      · rw [b2, if_pos rfl]
        rcases ih n (i + 1) (by omega) (by omega) (by omega) with ⟨x1, x2⟩ | x
        · refine Or.inl ⟨x1, fun t ht hle h8 => ?_⟩
          by_cases hti : t = i
          · rw [hti]; exact b3
          · exact x2 t ht (by omega) h8
        · exact Or.inr x
    · rw [if_neg h9]
      exact Or.inl ⟨rfl, fun t _ _ z => absurd z h9⟩
theorem freeW2_l {N : Int} {V m : zM} {h : Nat} (w : WF N V) (e : HEq6 (hv m h) V) (tb : Tab V m) (hq : ∀ t, inT V t → m 128 t = -1 ∨ inF V (m 128 t)) : ∀ (k n : Nat) (i : Int), i + k = V 0 0 → 0 ≤ i → k < n →
    (qP_isFreeFlatWanted_l2 m h n i = some (.inr ()) ∧ ∀ f t, inF V f → i ≤ f → inT V t → m 129 f = -1 → ¬ Wt V (m 128) t f) ∨ (qP_isFreeFlatWanted_l2 m h n i = some (.inl 1) ∧ ∃ f t, inF V f ∧ m 129 f = -1 ∧ inT V t ∧ Wt V (m 128) t f) := by
  have n6 := w.n6
  have t0 := w.t0
  have t6 := w.t6
  have e0 : m h 0 = V 0 0 := e.1.1
  intro k
  induction k with
  | zero =>
    intro n i h1 h0 hn
    obtain ⟨n, rfl⟩ : ∃ n', n = n' + 1 := ⟨n - 1, by omega⟩
    unfold qP_isFreeFlatWanted_l2
    rw [if_neg (by omega)]
    exact Or.inl ⟨rfl, fun f t hf hle => by have := hf.2; omega⟩
  | succ k ih =>
    intro n i h1 h0 hn
    obtain ⟨n, rfl⟩ : ∃ n', n = n' + 1 := ⟨n - 1, by omega⟩
    have jf : inF V i := ⟨h0, by omega⟩
    unfold qP_isFreeFlatWanted_l2
    rw [if_pos (by omega), wr_n (by omega) (by omega)]
    rcases freeW1_l w e tb jf hq (V 0 3).toNat 200 0 (by omega) (by omega) (by omega) with ⟨x1, x2⟩ | ⟨x1, x2, t, x3, x4⟩
    · rw [x1, sBndSr]
      rcases ih n (i + 1) (by omega) (by omega) (by omega) with ⟨y1, y2⟩ | y
      · refine Or.inl ⟨y1, fun f t hf hle ht h8 => ?_⟩
        by_cases hfi : f = i
        · rw [hfi] at h8 ⊢; exact x2 t ht ht.1 h8
        · exact y2 f t hf (by omega) ht h8
      · exact Or.inr y
    · rw [x1, sBndSl]
      exact Or.inr ⟨rfl, i, t, jf, x2, x3, x4⟩
theorem freeWanted_eq {N : Int} {V m : zM} {h : Nat} (w : WF N V) (e : HEq6 (hv m h) V) (tb : Tab V m) (hq : ∀ t, inT V t → m 128 t = -1 ∨ inF V (m 128 t)) :
    (qP_isFreeFlatWanted m h = some 0 ∧ ∀ f t, inF V f → inT V t → m 129 f = -1 → ¬ Wt V (m 128) t f) ∨ (qP_isFreeFlatWanted m h = some 1 ∧ ∃ f t, inF V f ∧ m 129 f = -1 ∧ inT V t ∧ Wt V (m 128) t f) := by
  have n0 := w.n0
  have n6 := w.n6
  unfold qP_isFreeFlatWanted
  rcases freeW2_l w e tb hq (V 0 0).toNat 200 0 (by omega) (by omega) (by omega) with ⟨x1, x2⟩ | ⟨x1, x2⟩
  · rw [x1, sBndSr]
    exact Or.inl ⟨rfl, fun f t hf ht => x2 f t hf hf.1 ht⟩
  · rw [x1, sBndSl]
    exact Or.inr ⟨rfl, x2⟩
/-- the stronger of two wants the weaker one's flat -/
def Clash (V : zM) (q : Int → Int) (a b : Int) : Prop := (pr V a b ∧ q b ≠ -1 ∧ Wt V q a (q b)) ∨ (¬ pr V a b ∧ q a ≠ -1 ∧ Wt V q b (q a))
theorem clashes_l {N : Int} {V m : zM} {h : Nat} {v : Int} (w : WF N V) (e : HEq6 (hv m h) V) (tb : Tab V m) (hv9 : inT V v) (hq : ∀ t, 0 ≤ t → t ≤ v → m 128 t = -1 ∨ inF V (m 128 t)) : ∀ (k n : Nat) (i : Int), i + k = v → 0 ≤ i → k < n →
    (qP_clashes_l2 m h v n i = some (.inr ()) ∧ ∀ u, i ≤ u → u < v → ¬ Clash V (m 128) v u) ∨ (qP_clashes_l2 m h v n i = some (.inl 1) ∧ ∃ u, 0 ≤ u ∧ u < v ∧ Clash V (m 128) v u) := by
  have n6 := w.n6
  have t6 := w.t6
  have v0 := hv9.1
  have v1 := hv9.2
  intro k
  induction k with
  | zero =>
    intro n i h1 h0 hn
    obtain ⟨n, rfl⟩ : ∃ n', n = n' + 1 := ⟨n - 1, by omega⟩
    unfold qP_clashes_l2
    rw [if_neg (by omega)]
    exact Or.inl ⟨rfl, fun u h2 h3 => by omega⟩
  | succ k ih =>
    intro n i h1 h0 hn
    obtain ⟨n, rfl⟩ : ∃ n', n = n' + 1 := ⟨n - 1, by omega⟩
    have ii : inT V i := ⟨h0, by omega⟩
    have hiv : ¬ i = v := by omega
    have cv : 0 ≤ v ∧ v < 6 := by omega
    have ci : 0 ≤ i ∧ i < 6 := by omega
    have hprv := h6pr e cv ci
    have nx : ¬ Clash V (m 128) v i → (qP_clashes_l2 m h v n (i + 1) = some (.inr ()) ∧ ∀ u, i ≤ u → u < v → ¬ Clash V (m 128) v u) ∨ (qP_clashes_l2 m h v n (i + 1) = some (.inl 1) ∧ ∃ u, 0 ≤ u ∧ u < v ∧ Clash V (m 128) v u) := fun hc => by
      rcases ih n (i + 1) (by omega) (by omega) (by omega) with ⟨x1, x2⟩ | x
      · refine Or.inl ⟨x1, fun u h2 h3 => ?_⟩
        by_cases hui : u = i
        · rw [hui]; exact hc
        · exact x2 u (by omega) h3
      · exact Or.inr x
    unfold qP_clashes_l2
    rw [if_pos (by omega), isPreferredTo_eq cv ci, sBind]
    by_cases hp : pr V v i
    · rw [if_pos (hprv.mpr hp), if_neg (by decide)]
      unfold qP_clashes_j21 qP_clashes_j34
      rw [if_pos rfl, if_pos ci, wr_n (by omega) (by omega)]
      by_cases hn1 : m 128 i = -1
      · rw [if_pos hn1]
        exact nx (fun z => by rcases z with z | z; exact z.2.1 hn1; exact z.1 hp)
      · rw [if_neg hn1, if_pos ci]
        obtain ⟨b, b1, b2⟩ := wantsP_eq w e tb hv9 ((hq i h0 (by omega)).resolve_left hn1) (hq v v0 (Int.le_refl _))
        rw [b1, sBind]
        rcases b2 with ⟨b2, b3⟩ | ⟨b2, b3⟩
        · rw [b2, if_neg (by decide)]
          exact Or.inr ⟨rfl, i, h0, by omega, Or.inl ⟨hp, hn1, b3⟩⟩
        · rw [b2, if_pos rfl]
          exact nx (fun z => by rcases z with z | z; exact b3 z.2.2; exact z.1 hp)
    · rw [if_neg (fun z => hp (hprv.mp z)), if_pos rfl]
      unfold qP_clashes_j21 qP_clashes_j34
      rw [if_neg hiv, if_pos cv, wr_n (by omega) (by omega)]
      by_cases hn1 : m 128 v = -1
      · rw [if_pos hn1]
        exact nx (fun z => by rcases z with z | z; exact hp z.1; exact z.2.1 hn1)
      · rw [if_neg hn1, if_pos cv]
        obtain ⟨b, b1, b2⟩ := wantsP_eq w e tb ii ((hq v v0 (Int.le_refl _)).resolve_left hn1) (hq i h0 (by omega))
        rw [b1, sBind]
        rcases b2 with ⟨b2, b3⟩ | ⟨b2, b3⟩
        · rw [b2, if_neg (by decide)]
          exact Or.inr ⟨rfl, i, h0, by omega, Or.inr ⟨hp, hn1, b3⟩⟩
        · rw [b2, if_pos rfl]
          exact nx (fun z => by rcases z with z | z; exact hp z.1; exact b3 z.2.2)
theorem clashes_eq {N : Int} {V m : zM} {h : Nat} {v : Int} (w : WF N V) (e : HEq6 (hv m h) V) (tb : Tab V m) (hv9 : inT V v) (hq : ∀ t, 0 ≤ t → t ≤ v → m 128 t = -1 ∨ inF V (m 128 t)) :
    (qP_clashes m h v = some 0 ∧ ∀ u, 0 ≤ u → u < v → ¬ Clash V (m 128) v u) ∨ (qP_clashes m h v = some 1 ∧ ∃ u, 0 ≤ u ∧ u < v ∧ Clash V (m 128) v u) := by
  have t6 := w.t6
  have v0 := hv9.1
  have v1 := hv9.2
  unfold qP_clashes
  rcases clashes_l w e tb hv9 hq v.toNat 200 0 (by omega) (by omega) (by omega) with ⟨x1, x2⟩ | ⟨x1, x2⟩
  · rw [x1, sBndSr]; exact Or.inl ⟨rfl, x2⟩
  · rw [x1, sBndSl]; exact Or.inr ⟨rfl, x2⟩
/-- what the first v tenants' part of a plan keeps -/
def PP (V : zM) (q : Int → Int) (v : Int) : Prop := (∀ t, 0 ≤ t → t < v → q t = -1 ∨ (inF V (q t) ∧ ¬ V 7 t < V 2 (q t))) ∧ (∀ t u, 0 ≤ t → t < v → 0 ≤ u → u < v → q t = q u → t ≠ u → q t = -1) ∧ ∀ a b, 0 ≤ a → a < v → 0 ≤ b → b < v → pr V a b → q b ≠ -1 → ¬ Wt V q a (q b)
def HoldP (V : zM) (q o : Int → Int) (v : Int) : Prop := ∀ f, inF V f → (o f = -1 ∧ ∀ t, 0 ≤ t → t < v → q t ≠ f) ∨ (0 ≤ o f ∧ o f < v ∧ q (o f) = f)
theorem pp_congr {V : zM} {q q' : Int → Int} {v : Int} (h : PP V q v) (he : ∀ t, 0 ≤ t → t < v → q' t = q t) : PP V q' v := by
  obtain ⟨h1, h2, h3⟩ := h
  refine ⟨fun t t0 t1 => by rw [he t t0 t1]; exact h1 t t0 t1, fun t u t0 t1 u0 u1 => by rw [he t t0 t1, he u u0 u1]; exact h2 t u t0 t1 u0 u1, fun a b a0 a1 b0 b1 hp hb => ?_⟩
  rw [he b b0 b1] at hb ⊢
  rw [wt_congr (he a a0 a1)]
  exact h3 a b a0 a1 b0 b1 hp hb
theorem stb_pp {V : zM} {p : Int → Int} {v : Int} (h : Stb V p) (hv9 : v ≤ V 0 3) : PP V p v := by
  refine ⟨fun t t0 t1 => h.1.1 t ⟨t0, by omega⟩, fun t u t0 t1 u0 u1 => h.1.2 t u ⟨t0, by omega⟩ ⟨u0, by omega⟩, fun a b a0 a1 b0 b1 hp hb hw => ?_⟩
  have ib : inT V b := ⟨b0, by omega⟩
  obtain ⟨u, u1, u2, u3⟩ := h.2 a (p b) ⟨a0, by omega⟩ ((h.1.1 b ib).resolve_left hb).1 hw.1 hw.2
  by_cases hub : u = b
  · rw [hub] at u3; exact pr_anti hp u3
  · exact hb ((u2 ▸ h.1.2 u b u1 ib u2 hub : p b = -1))
theorem pp_clash {V : zM} {q : Int → Int} {v : Int} (h : PP V q (v + 1)) {u : Int} (u0 : 0 ≤ u) (u1 : u < v) : ¬ Clash V q v u := by
  intro hc
  rcases hc with ⟨c1, c2, c3⟩ | ⟨c1, c2, c3⟩
  · exact h.2.2 v u (by omega) (by omega) u0 (by omega) c1 c2 c3
  · exact h.2.2 u v u0 (by omega) (by omega) (by omega) (pr_tri (by omega) c1) c2 c3
theorem pp_next {V : zM} {q : Int → Int} {v : Int} (h : PP V q v) (v0 : 0 ≤ v) (h1 : q v = -1 ∨ (inF V (q v) ∧ ¬ V 7 v < V 2 (q v))) (h2 : q v ≠ -1 → ∀ u, 0 ≤ u → u < v → q u ≠ q v) (h3 : ∀ u, 0 ≤ u → u < v → ¬ Clash V q v u) : PP V q (v + 1) := by
  obtain ⟨a1, a2, a3⟩ := h
  refine ⟨fun t t0 t1 => ?_, fun t u t0 t1 u0 u1 he hne => ?_, fun a b a0 a9 b0 b1 hp hb hw => ?_⟩
  · by_cases ht : t = v
    · rw [ht]; exact h1
    · exact a1 t t0 (by omega)
  · by_cases ht : t = v
    · by_cases hq : q v = -1
      · rw [ht]; exact hq
      · exact absurd (he.symm.trans (by rw [ht])) (h2 hq u u0 (by omega))
    · by_cases hu : u = v
      · by_cases hq : q v = -1
        · rw [he, hu]; exact hq
        · exact absurd (he.trans (by rw [hu])) (h2 hq t t0 (by omega))
      · exact a2 t u t0 (by omega) u0 (by omega) he hne
  · by_cases ha : a = v
    · have hbv : b ≠ v := fun z => pr_irr (V := V) (t := v) (by rw [ha, z] at hp; exact hp)
      rw [ha] at hp hw
      exact h3 b b0 (by omega) (Or.inl ⟨hp, hb, hw⟩)
    · by_cases hbv : b = v
      · rw [hbv] at hp hb hw
        exact h3 a a0 (by omega) (Or.inr ⟨fun z => pr_anti hp z, hb, hw⟩)
      · exact a3 a b a0 (by omega) b0 (by omega) hp hb hw
theorem pp_stb {V : zM} {q o : Int → Int} (h : PP V q (V 0 3)) (ho : HoldP V q o (V 0 3)) (hf : ∀ f t, inF V f → inT V t → o f = -1 → ¬ Wt V q t f) : Stb V q := by
  refine ⟨⟨fun t ht => h.1 t ht.1 ht.2, fun t u ht hu => h.2.1 t u ht.1 ht.2 hu.1 hu.2⟩, fun t f ht jf af hl => ?_⟩
  rcases ho f jf with ⟨o1, o2⟩ | ⟨o1, o2, o3⟩
  · exact absurd ⟨af, hl⟩ (hf f t jf ht o1)
  · refine ⟨o f, ⟨o1, o2⟩, o3, ?_⟩
    have hne : o f ≠ t := fun z => by
      rw [z] at o3
      rcases hl with y | y
      · rw [y] at o3; have := jf.1; omega
      · rw [o3] at y; exact pf_irr y
    by_cases hp : pr V (o f) t
    · exact hp
    · refine absurd ?_ (h.2.2 t (o f) ht.1 ht.2 o1 o2 (pr_tri hne hp) (by rw [o3]; have := jf.1; omega))
      rw [o3]
      exact ⟨af, hl⟩
/-- what the search for the tenants from v on does to the record -/
def Found (V : zM) (p : Int → Int) (ag : Prop) (m m' : zM) : Prop := (ag → m' 113 6 = 1 ∧ ∀ t, inT V t → m' 131 t = p t) ∧ (¬ ag → m' 113 6 = m 113 6 ∧ m' 131 = m 131)
def Agr (q p : Int → Int) (v : Int) : Prop := ∀ t, 0 ≤ t → t < v → q t = p t
def SFr (m m' : zM) : Prop := ∀ q : Nat, q ≠ 113 → q ≠ 128 → q ≠ 129 → q ≠ 131 → m' q = m q
theorem SFr.tab {V m m' : zM} (h : SFr m m') (t6 : V 0 3 ≤ 6) (tb : Tab V m) : Tab V m' := fun t f ht hf => by
  have h0 := ht.1
  have h1 := ht.2
  have ok := tb t f ht hf
  unfold tabOk at ok ⊢
  rw [h _ (by omega) (by omega) (by omega) (by omega), h _ (by omega) (by omega) (by omega) (by omega)]
  exact ok
theorem SFr.heq {V m m' : zM} {h : Nat} (hf : SFr m m') (hh : h + 10 ≤ 113) (e : HEq6 (hv m h) V) : HEq6 (hv m' h) V := HEq6.trans (HEq6.of_same fun q q1 q2 => hf q (by omega) (by omega) (by omega) (by omega)) e
def SearchOk (V : zM) (p : Int → Int) (h : Nat) (v : Int) (f : zM → Nat → Int → Option zM) : Prop :=
  ∀ m, HEq6 (hv m h) V → Tab V m → PP V (m 128) v → HoldP V (m 128) (m 129) v → (Agr (m 128) p v → m 113 6 = 0) →
    ∃ m', f m h v = some m' ∧ (∀ t, 0 ≤ t → t < v → m' 128 t = m 128 t) ∧ (∀ g, inF V g → m' 129 g = m 129 g) ∧ SFr m m' ∧ Found V p (Agr (m 128) p v) m m'
theorem tryRest_eq {N : Int} {V : zM} {p : Int → Int} {h : Nat} {v c : Int} {f : zM → Nat → Int → Option zM} (hh : h + 10 ≤ 113) (w : WF N V) (hp : Stb V p) (hv9 : inT V v) (hf : SearchOk V p h (v + 1) f) (m : zM)
    (e : HEq6 (hv m h) V) (tb : Tab V m) (pp : PP V (m 128) v) (hc : c = -1 ∨ (inF V c ∧ ¬ V 7 v < V 2 c ∧ ∀ u, 0 ≤ u → u < v → m 128 u ≠ c))
    (ho : ∀ g, inF V g → (m 129 g = -1 ∧ g ≠ c ∧ ∀ t, 0 ≤ t → t < v → m 128 t ≠ g) ∨ (0 ≤ m 129 g ∧ m 129 g < v ∧ m 128 (m 129 g) = g) ∨ (g = c ∧ m 129 g = v)) (h0 : Agr (m 128) p v ∧ c = p v → m 113 6 = 0) :
    ∃ m', qP_tryRest f m h v c = some m' ∧ (∀ t, 0 ≤ t → t < v → m' 128 t = m 128 t) ∧ (∀ g, inF V g → m' 129 g = m 129 g) ∧ SFr m m' ∧ Found V p (Agr (m 128) p v ∧ c = p v) m m' := by
  have t6 := w.t6
  have v0 := hv9.1
  have v1 := hv9.2
  unfold qP_tryRest
  rw [if_pos (show 0 ≤ v ∧ v < 6 by omega), sBind]
  generalize hm1 : st m 128 v c = m1
  have b1 : m1 128 v = c := by rw [← hm1, st_at]
  have b2 : ∀ t, t ≠ v → m1 128 t = m 128 t := fun t ht => by rw [← hm1, st_i ht]
  have b3 : ∀ q : Nat, q ≠ 128 → m1 q = m q := fun q hq => by rw [← hm1]; exact funext fun j => st_k hq
  have sf : SFr m m1 := fun q _ h2 _ _ => b3 q h2
  have e1 := sf.heq hh e
  have tb1 := sf.tab t6 tb
  have pp1 : PP V (m1 128) v := pp_congr pp (fun t t0 t1 => b2 t (by omega))
  have hc1 : m1 128 v = -1 ∨ (inF V (m1 128 v) ∧ ¬ V 7 v < V 2 (m1 128 v)) := by rw [b1]; exact hc.imp id fun z => ⟨z.1, z.2.1⟩
  have agr : Agr (m1 128) p (v + 1) ↔ Agr (m 128) p v ∧ c = p v := by
    constructor
    · intro a
      exact ⟨fun t t0 t1 => by rw [← b2 t (by omega)]; exact a t t0 (by omega), by rw [← b1]; exact a v v0 (by omega)⟩
    · rintro ⟨a, b⟩ t t0 t1
      by_cases ht : t = v
      · rw [ht, b1]; exact b
      · rw [b2 t ht]; exact a t t0 (by omega)
  rcases clashes_eq w e1 tb1 hv9 (fun t t0 t1 => by
    by_cases ht : t = v
    · rw [ht]; exact hc1.imp id fun z => z.1
    · exact (pp1.1 t t0 (by omega)).imp id fun z => z.1) with ⟨x1, x2⟩ | ⟨x1, u, x2, x3, x4⟩
  · have pp2 : PP V (m1 128) (v + 1) := pp_next pp1 v0 hc1 (fun hne u u0 u1 => by
      rw [b1] at hne ⊢
      rw [b2 u (by omega)]
      exact (hc.resolve_left hne).2.2 u u0 u1) x2
    have ho2 : HoldP V (m1 128) (m1 129) (v + 1) := fun g hg => by
      rw [b3 129 (by decide)]
      rcases ho g hg with ⟨y1, y2, y3⟩ | ⟨y1, y2, y3⟩ | ⟨y1, y2⟩
      · refine Or.inl ⟨y1, fun t t0 t1 => ?_⟩
        by_cases ht : t = v
        · rw [ht, b1]; exact fun z => y2 z.symm
        · rw [b2 t ht]; exact y3 t t0 (by omega)
      · exact Or.inr ⟨y1, by omega, by rw [b2 _ (by omega)]; exact y3⟩
      · exact Or.inr ⟨by omega, by omega, by rw [y2, b1, y1]⟩
    obtain ⟨m', u1, u2, u3, u4, u5, u6⟩ := hf m1 e1 tb1 pp2 ho2 (fun a => by rw [b3 113 (by decide)]; exact h0 (agr.mp a))
    rw [x1, sBind, if_pos rfl, wr_n (by omega) (by omega), u1, sBind]
    refine ⟨m', rfl, fun t t0 t1 => by rw [u2 t t0 (by omega), b2 t (by omega)], fun g hg => by rw [u3 g hg, b3 129 (by decide)], fun q q1 q2 q3 q4 => by rw [u4 q q1 q2 q3 q4, b3 q q2], fun a => u5 (agr.mpr a), fun a => ?_⟩
    have := u6 (fun z => a (agr.mp z))
    rw [b3 113 (by decide), b3 131 (by decide)] at this
    exact this
  · rw [x1, sBind, if_neg (show ¬ (1 : Int) = 0 by decide)]
    refine ⟨m1, rfl, fun t t0 t1 => b2 t (by omega), fun g hg => by rw [b3 129 (by decide)], sf, fun a => ?_, fun _ => ⟨by rw [b3 113 (by decide)], b3 131 (by decide)⟩⟩
    have a2 := agr.mpr a
    exact absurd x4 (pp_clash (pp_congr (stb_pp hp (show v + 1 ≤ V 0 3 by omega)) (fun t t0 t1 => a2 t t0 t1)) x2 x3)
theorem tryFlats_l {N : Int} {V : zM} {p : Int → Int} {h : Nat} {v : Int} {f : zM → Nat → Int → Option zM} (hh : h + 10 ≤ 113) (w : WF N V) (hp : Stb V p) (hv9 : inT V v) (hf : SearchOk V p h (v + 1) f) : ∀ (k n : Nat) (m : zM) (i : Int), i + k = V 0 0 → 0 ≤ i → k < n →
    HEq6 (hv m h) V → Tab V m → PP V (m 128) v → HoldP V (m 128) (m 129) v → (Agr (m 128) p v → i ≤ p v → m 113 6 = 0) →
    ∃ m', qP_tryFlats_l31 f h v n m i = some m' ∧ (∀ t, 0 ≤ t → t < v → m' 128 t = m 128 t) ∧ (∀ g, inF V g → m' 129 g = m 129 g) ∧ SFr m m' ∧ Found V p (Agr (m 128) p v ∧ i ≤ p v) m m' := by
  have t6 := w.t6
  have n6 := w.n6
  have v0 := hv9.1
  have v1 := hv9.2
  intro k
  induction k with
  | zero =>
    intro n m i h1 h0 hn e tb pp ho hz
    obtain ⟨n, rfl⟩ : ∃ n', n = n' + 1 := ⟨n - 1, by omega⟩
    have e0 : m h 0 = V 0 0 := e.1.1
    unfold qP_tryFlats_l31
    rw [if_neg (by omega)]
    refine ⟨m, rfl, fun _ _ _ => rfl, fun _ _ => rfl, fun _ _ _ _ _ => rfl, fun a => ?_, fun _ => ⟨rfl, rfl⟩⟩
    have hpv := hp.1.1 v hv9
    rcases hpv with y | y
    · omega
    · have := y.1.2; omega
  | succ k ih =>
    intro n m i h1 h0 hn e tb pp ho hz
    obtain ⟨n, rfl⟩ : ∃ n', n = n' + 1 := ⟨n - 1, by omega⟩
    have e0 : m h 0 = V 0 0 := e.1.1
    have jf : inF V i := ⟨h0, by omega⟩
    have ci : 0 ≤ i ∧ i < 6 := by omega
    have cv : 0 ≤ v ∧ v < 6 := by omega
    have e7 : m (h + 7) v = V 7 v := e.tok (k := 7) (by decide) cv
    have e2 : m (h + 2) i = V 2 i := e.tok (k := 2) (by decide) ci
    unfold qP_tryFlats_l31
    rw [if_pos (by omega), if_pos ci, wr_n (by omega) (by omega)]
    -- a flat that is passed over is not the one
    have pass : (Agr (m 128) p v → p v ≠ i) → ∃ m', qP_tryFlats_l31 f h v n m (i + 1) = some m' ∧ (∀ t, 0 ≤ t → t < v → m' 128 t = m 128 t) ∧ (∀ g, inF V g → m' 129 g = m 129 g) ∧ SFr m m' ∧ Found V p (Agr (m 128) p v ∧ i ≤ p v) m m' := fun hne => by
      obtain ⟨m', u1, u2, u3, u4, u5, u6⟩ := ih n m (i + 1) (by omega) (by omega) (by omega) e tb pp ho (fun a b => hz a (by omega))
      exact ⟨m', u1, u2, u3, u4, fun a => u5 ⟨a.1, by have := hne a.1; omega⟩, fun a => u6 (fun z => a ⟨z.1, by omega⟩)⟩
    rcases ho i jf with ⟨o1, o2⟩ | ⟨o1, o2, o3⟩
    · rw [if_pos o1, canAfford_eq cv ci, sBind, e7, e2]
      by_cases ha : V 7 v < V 2 i
      · rw [if_pos ha, if_pos rfl]
        refine pass (fun _ z => ?_)
        rcases hp.1.1 v hv9 with y | y
        · omega
        · rw [z] at y; exact y.2 ha
      · rw [if_neg ha, if_neg (show ¬ (1 : Int) = 0 by decide), if_pos ci, sBind]
        generalize hm1 : st m 129 i v = m1
        have b1 : m1 129 i = v := by rw [← hm1, st_at]
        have b2 : ∀ g, g ≠ i → m1 129 g = m 129 g := fun g hg => by rw [← hm1, st_i hg]
        have b3 : ∀ q : Nat, q ≠ 129 → m1 q = m q := fun q hq => by rw [← hm1]; exact funext fun j => st_k hq
        have sf : SFr m m1 := fun q _ _ h3 _ => b3 q h3
        obtain ⟨m2, u1, u2, u3, u4, u5, u6⟩ := tryRest_eq (c := i) hh w hp hv9 hf m1 (sf.heq hh e) (sf.tab t6 tb) (by rw [b3 128 (by decide)]; exact pp) (Or.inr ⟨jf, ha, by rw [b3 128 (by decide)]; exact o2⟩)
          (fun g hg => by
            rw [b3 128 (by decide)]
            by_cases hgi : g = i
            · exact Or.inr (Or.inr ⟨hgi, by rw [hgi, b1]⟩)
            · rw [b2 g hgi]
              rcases ho g hg with y | y
              · exact Or.inl ⟨y.1, hgi, y.2⟩
              · exact Or.inr (Or.inl y)) (fun a => by rw [b3 128 (by decide)] at a; rw [b3 113 (by decide)]; exact hz a.1 (by omega))
        rw [b3 128 (by decide)] at u2 u5 u6
        rw [b3 113 (by decide), b3 131 (by decide)] at u6
        rw [u1, sBind, if_pos ci, sBind]
        generalize hm3 : st m2 129 i (-1) = m3
        have c3 : ∀ q : Nat, q ≠ 129 → m3 q = m2 q := fun q hq => by rw [← hm3]; exact funext fun j => st_k hq
        have c129 : ∀ g, inF V g → m3 129 g = m 129 g := fun g hg => by
          by_cases hgi : g = i
          · rw [hgi, ← hm3, st_at, o1]
          · rw [← hm3, st_i hgi, u3 g hg, b2 g hgi]
        have c128 : ∀ t, 0 ≤ t → t < v → m3 128 t = m 128 t := fun t t0 t1 => by rw [c3 128 (by decide)]; exact u2 t t0 t1
        have sf3 : SFr m m3 := fun q q1 q2 q3 q4 => by rw [c3 q q3, u4 q q1 q2 q3 q4, b3 q q3]
        have agr : Agr (m3 128) p v ↔ Agr (m 128) p v := ⟨fun a t t0 t1 => by rw [← c128 t t0 t1]; exact a t t0 t1, fun a t t0 t1 => by rw [c128 t t0 t1]; exact a t t0 t1⟩
        obtain ⟨m', v1', v2, v3, v4, v5, v6⟩ := ih n m3 (i + 1) (by omega) (by omega) (by omega) (sf3.heq hh e) (sf3.tab t6 tb) (pp_congr pp c128) (fun g hg => by
            rw [c129 g hg]
            rcases ho g hg with y | y
            · exact Or.inl ⟨y.1, fun t t0 t1 => by rw [c128 t t0 t1]; exact y.2 t t0 t1⟩
            · exact Or.inr ⟨y.1, y.2.1, by rw [c128 _ y.1 y.2.1]; exact y.2.2⟩) (fun a b => by
            rw [c3 113 (by decide), (u6 (fun z => by omega)).1]
            exact hz (agr.mp a) (by omega))
        refine ⟨m', v1', fun t t0 t1 => by rw [v2 t t0 t1, c128 t t0 t1], fun g hg => by rw [v3 g hg, c129 g hg], fun q q1 q2 q3 q4 => by rw [v4 q q1 q2 q3 q4, sf3 q q1 q2 q3 q4], fun a => ?_, fun a => ?_⟩
        · by_cases hpi : i = p v
          · have x := u5 ⟨a.1, hpi⟩
            have y := v6 (fun z => by omega)
            rw [c3 113 (by decide), c3 131 (by decide)] at y
            exact ⟨y.1.trans x.1, fun t ht => by rw [y.2]; exact x.2 t ht⟩
          · exact v5 ⟨agr.mpr a.1, by omega⟩
        · have x := u6 (fun z => a ⟨z.1, by omega⟩)
          have y := v6 (fun z => a ⟨agr.mp z.1, by omega⟩)
          rw [c3 113 (by decide), c3 131 (by decide)] at y
          exact ⟨y.1.trans x.1, y.2.trans x.2⟩
    · rw [if_neg (show ¬ m 129 i = -1 by omega)]
      refine pass (fun a z => ?_)
      have h5 := a _ o1 o2
      rw [o3] at h5
      have := hp.1.2 (m 129 i) v ⟨o1, by omega⟩ hv9 (h5.symm.trans z.symm) (by omega)
      omega
theorem search_ok {N : Int} {V : zM} {p : Int → Int} {h : Nat} (hh : h + 10 ≤ 113) (w : WF N V) (hp : Stb V p) : ∀ (k n : Nat) (v : Int), v + k = V 0 3 → 0 ≤ v → k < n → SearchOk V p h v (qP_tryFlats n) := by
  have n0 := w.n0
  have n6 := w.n6
  have t6 := w.t6
  intro k
  induction k with
  | zero =>
    intro n v h1 h0 hn m e tb pp ho hz
    obtain ⟨n, rfl⟩ : ∃ n', n = n' + 1 := ⟨n - 1, by omega⟩
    have e3 : m h 3 = V 0 3 := e.1.2.1
    have hvT : v = V 0 3 := by omega
    rw [hvT] at pp ho hz ⊢
    unfold qP_tryFlats qP_tryFlats_b
    rw [if_neg (by omega)]
    have frz := freeWanted_eq w e tb (fun t ht => (pp.1 t ht.1 ht.2).imp id fun z => z.1)
    by_cases hag : Agr (m 128) p (V 0 3)
    · rcases frz with ⟨x1, x2⟩ | ⟨x1, f, t, x2, x3, x4, x5⟩
      · rw [x1, sBind, if_pos rfl]
        unfold qP_keepStable qP_keepStable_j26
        have hz0 := hz hag
        rw [sBind, st_at, hz0, wr_n (by decide) (by decide), if_pos (by decide), sBind, sBind]
        refine ⟨cpy (st m 113 6 (0 + 1)) 128 131 6, rfl, fun t _ _ => by rw [cpy_k (by decide), st_k (by decide)], fun g _ => by rw [cpy_k (by decide), st_k (by decide)], fun q q1 q2 q3 q4 => funext fun j => by rw [cpy_k q4, st_k q1], fun _ => ⟨by rw [cpy_k (by decide), st_at]; rfl, fun t ht => ?_⟩, fun a => absurd hag a⟩
        have := ht.2
        rw [cpy_at ⟨ht.1, by omega⟩, st_k (by decide)]
        exact hag t ht.1 ht.2
      · exfalso
        have hw : Wt V p t f := (wt_congr (hag t x4.1 x4.2)).mp x5
        obtain ⟨u, u1, u2, u3⟩ := hp.2 t f x4 x2 hw.1 hw.2
        rcases ho f x2 with ⟨y1, y2⟩ | ⟨y1, y2, y3⟩
        · exact y2 u u1.1 u1.2 ((hag u u1.1 u1.2).trans u2)
        · omega
    · rcases frz with ⟨x1, x2⟩ | ⟨x1, x2⟩
      · exact absurd (fun t t0 t1 => stb_eq w (pp_stb pp ho x2) hp ⟨t0, t1⟩) hag
      · rw [x1, sBind, if_neg (show ¬ (1 : Int) = 0 by decide)]
        exact ⟨m, rfl, fun _ _ _ => rfl, fun _ _ => rfl, fun _ _ _ _ _ => rfl, fun a => absurd a hag, fun _ => ⟨rfl, rfl⟩⟩
  | succ k ih =>
    intro n v h1 h0 hn m e tb pp ho hz
    obtain ⟨n, rfl⟩ : ∃ n', n = n' + 1 := ⟨n - 1, by omega⟩
    have e3 : m h 3 = V 0 3 := e.1.2.1
    have hv9 : inT V v := ⟨h0, by omega⟩
    have hf := ih n (v + 1) (by omega) (by omega) (by omega)
    unfold qP_tryFlats qP_tryFlats_b
    rw [if_pos (by omega)]
    obtain ⟨m1, u1, u2, u3, u4, u5, u6⟩ := tryRest_eq (c := -1) hh w hp hv9 hf m e tb pp (Or.inl rfl) (fun g hg => by
      rcases ho g hg with y | y
      · exact Or.inl ⟨y.1, by have := hg.1; omega, y.2⟩
      · exact Or.inr (Or.inl y)) (fun a => hz a.1)
    have agr : Agr (m1 128) p v ↔ Agr (m 128) p v := ⟨fun a t t0 t1 => by rw [← u2 t t0 t1]; exact a t t0 t1, fun a t t0 t1 => by rw [u2 t t0 t1]; exact a t t0 t1⟩
    obtain ⟨m', v1, v2, v3, v4, v5, v6⟩ := tryFlats_l hh w hp hv9 hf (V 0 0).toNat 200 m1 0 (by omega) (by omega) (by omega) (u4.heq hh e) (u4.tab t6 tb) (pp_congr pp u2) (fun g hg => by
        rw [u3 g hg]
        rcases ho g hg with y | y
        · exact Or.inl ⟨y.1, fun t t0 t1 => by rw [u2 t t0 t1]; exact y.2 t t0 t1⟩
        · exact Or.inr ⟨y.1, y.2.1, by rw [u2 _ y.1 y.2.1]; exact y.2.2⟩) (fun a b => by
        rw [(u6 (fun z => by omega)).1]
        exact hz (agr.mp a))
    rw [u1, sBind, v1, sBind]
    refine ⟨m', rfl, fun t t0 t1 => by rw [v2 t t0 t1, u2 t t0 t1], fun g hg => by rw [v3 g hg, u3 g hg], fun q q1 q2 q3 q4 => by rw [v4 q q1 q2 q3 q4, u4 q q1 q2 q3 q4], fun a => ?_, fun a => ?_⟩
    · rcases hp.1.1 v hv9 with hpv | hpv
      · have x := u5 ⟨a, hpv.symm⟩
        have y := v6 (fun z => by omega)
        exact ⟨y.1.trans x.1, fun t ht => by rw [y.2]; exact x.2 t ht⟩
      · exact v5 ⟨agr.mpr a, hpv.1.1⟩
    · have x := u6 (fun z => a z.1)
      have y := v6 (fun z => a (agr.mp z.1))
      exact ⟨y.1.trans x.1, y.2.trans x.2⟩
theorem tryAll_eq {N : Int} {V μ : zM} {p : Int → Int} {h : Nat} (hh : h + 10 ≤ 113) (w : WF N V) (e : HEq6 (hv μ h) V) (hp : Stb V p) : ∃ m, qP_tryAll μ h = some m ∧ m 113 6 = 1 ∧ (∀ t, inT V t → m 131 t = p t) ∧ ∀ q : Nat, (q < 113 ∨ 132 ≤ q) → m q = μ q := by
  have n6 := w.n6
  have t0 := w.t0
  have t6 := w.t6
  unfold qP_tryAll
  obtain ⟨m1, p1, p2, p3, p4⟩ := begin_eq hh w e
  rw [p1, sBind, fill_eq (by decide), sBind, sBind]
  generalize hm2 : st (fl m1 131 (6 : Nat) (-1)) 113 6 0 = m2
  have b1 : ∀ q : Nat, q ≠ 113 → q ≠ 131 → m2 q = m1 q := fun q q1 q2 => by rw [← hm2]; exact funext fun j => by rw [st_k q1, fl_k q2]
  have b2 : m2 113 6 = 0 := by rw [← hm2, st_at]
  obtain ⟨m', u1, u2, u3, u4, u5, u6⟩ := search_ok hh w hp (V 0 3).toNat 20 0 (by omega) (by omega) (by omega) m2 (HEq6.trans (HEq6.of_same fun q q1 q2 => by rw [b1 q (by omega) (by omega), p4 q (by omega)]) e)
    (fun t f ht hf => by
      have h0 := ht.1
      have h1 := ht.2
      have ok := p2 t f ht hf
      unfold tabOk at ok ⊢
      rw [b1 _ (by omega) (by omega), b1 _ (by omega) (by omega)]
      exact ok) ⟨fun t t0 t1 => by omega, fun t u t0 t1 => by omega, fun a b a0 a1 => by omega⟩
    (fun f hf => Or.inl ⟨by have := hf.2; rw [b1 129 (by decide) (by decide)]; exact (p3 f hf.1 (by omega)).2, fun t t0 t1 => by omega⟩) (fun _ => b2)
  have ag : Agr (m2 128) p 0 := fun t t0 t1 => by omega
  rw [u1, sBind]
  exact ⟨m', rfl, (u5 ag).1, (u5 ag).2, fun q hq => by rw [u4 q (by omega) (by omega) (by omega) (by omega), b1 q (by omega) (by omega), p4 q (by omega)]⟩
