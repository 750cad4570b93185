/-! ===== B: who takes a flat that is free; the chain ===== -/
abbrev wants (V : zM) (f x t : Int) : Prop := t ≠ x ∧ ¬ V 7 t < V 2 f ∧ (V 9 t = -1 ∨ pf V t f (V 9 t))
def cd (V : zM) (f x : Int) : Nat → Int → Int → Int
  | 0, b, _ => b
  | k+1, b, t => cd V f x k (if wants V f x t then (if b = -1 ∨ pr V t b then t else b) else b) (t + 1)
def cand (V : zM) (f x : Int) : Int := cd V f x (V 0 3).toNat (-1) 0
theorem cd_spec {V : zM} {f x : Int} : ∀ (k : Nat) (b i : Int), 0 ≤ i → (b = -1 ∨ (0 ≤ b ∧ b < i ∧ wants V f x b)) → cd V f x k b i = -1 ∨ (0 ≤ cd V f x k b i ∧ cd V f x k b i < i + k ∧ wants V f x (cd V f x k b i))
  | 0, b, i, h0, h => by unfold cd; rcases h with h | h; exact Or.inl h; exact Or.inr ⟨h.1, by omega, h.2.2⟩
  | k+1, b, i, h0, h => by
    unfold cd
    have h1 := cd_spec (V := V) (f := f) (x := x) k (if wants V f x i then (if b = -1 ∨ pr V i b then i else b) else b) (i + 1) (by omega) (by
      by_cases hw : wants V f x i
      · rw [if_pos hw]
        by_cases hb : b = -1 ∨ pr V i b
        · rw [if_pos hb]; exact Or.inr ⟨h0, by omega, hw⟩
        · rw [if_neg hb]; rcases h with h | h; exact Or.inl h; exact Or.inr ⟨h.1, by omega, h.2.2⟩
      · rw [if_neg hw]; rcases h with h | h; exact Or.inl h; exact Or.inr ⟨h.1, by omega, h.2.2⟩)
    rcases h1 with h1 | h1
    · exact Or.inl h1
    · exact Or.inr ⟨h1.1, by omega, h1.2.2⟩
theorem cand_spec {V : zM} {f x : Int} (t0 : 0 ≤ V 0 3) : cand V f x = -1 ∨ (0 ≤ cand V f x ∧ cand V f x < V 0 3 ∧ wants V f x (cand V f x)) := by
  have h := cd_spec (V := V) (f := f) (x := x) (V 0 3).toNat (-1) 0 (by omega) (Or.inl rfl)
  unfold cand
  rcases h with h | h
  · exact Or.inl h
  · exact Or.inr ⟨h.1, by omega, h.2.2⟩
theorem candC_l {N : Int} {μ : zM} {h : Nat} {f x : Int} (w : WF N (hv μ h)) (hf : 0 ≤ f ∧ f < μ h 0) : ∀ (k n : Nat) (b i : Int), i + k = μ h 3 → 0 ≤ i → -1 ≤ b → b < i → k < n → qH_candidateFor_l5 μ h f x n b i = some (cd (hv μ h) f x k b i) := by
  have n6 : μ h 0 ≤ 6 := w.n6
  have t6 : μ h 3 ≤ 6 := w.t6
  intro k
  induction k with
  | zero =>
    intro n b i h1 h0 hb0 hb1 hn
    obtain ⟨n, rfl⟩ : ∃ n', n = n' + 1 := ⟨n - 1, by omega⟩
    unfold qH_candidateFor_l5 cd
    rw [if_neg (by omega)]
  | succ k ih =>
    intro n b i h1 h0 hb0 hb1 hn
    obtain ⟨n, rfl⟩ : ∃ n', n = n' + 1 := ⟨n - 1, by omega⟩
    have hm : -1 ≤ μ (h + 9) i ∧ μ (h + 9) i < μ h 0 := (w.tn i h0 (show i < μ h 3 by omega)).2.2.2.2.2
    have i0 := ih n b (i + 1) (by omega) (by omega) hb0 (by omega) (by omega)
    have i1 := ih n i (i + 1) (by omega) (by omega) (by omega) (by omega) (by omega)
    have j0 : ∀ b9 i9 : Int, qH_candidateFor_j62 (qH_candidateFor_l5 μ h f x n) μ h f x b9 i9 = qH_candidateFor_l5 μ h f x n b9 (wr (i9 + 1)) := fun b9 i9 => by
      unfold qH_candidateFor_j62 qH_candidateFor_j63; rw [if_pos rfl]
    have j1 : qH_candidateFor_j58 (qH_candidateFor_l5 μ h f x n) μ h f x b i = qH_candidateFor_l5 μ h f x n (if b = -1 ∨ pr (hv μ h) i b then i else b) (wr (i + 1)) := by
      unfold qH_candidateFor_j58 qH_candidateFor_j63
      rw [if_neg (by decide)]
      by_cases hb : b = -1
      · rw [if_pos hb, if_pos (Or.inl hb)]
      · rw [if_neg hb, isPreferredTo_eq (by omega) (by omega), sBind]
        by_cases hp : pr (hv μ h) i b
        · rw [if_pos hp, if_neg (by decide), if_pos (Or.inr hp)]
        · rw [if_neg hp, if_pos rfl, if_neg (fun z => by rcases z with z | z; exact hb z; exact hp z)]
    unfold qH_candidateFor_l5 cd
    rw [if_pos (by omega), j0, j1, wr_n (by omega) (by omega), canAfford_eq (by omega) (by omega), sBind]
    have no : ¬ wants (hv μ h) f x i → cd (hv μ h) f x k (if wants (hv μ h) f x i then (if b = -1 ∨ pr (hv μ h) i b then i else b) else b) (i + 1) = cd (hv μ h) f x k b (i + 1) := fun z => by rw [if_neg z]
    have yes : wants (hv μ h) f x i → qH_candidateFor_l5 μ h f x n (if b = -1 ∨ pr (hv μ h) i b then i else b) (i + 1) = some (cd (hv μ h) f x k (if wants (hv μ h) f x i then (if b = -1 ∨ pr (hv μ h) i b then i else b) else b) (i + 1)) := fun z => by
      rw [if_pos z]
      by_cases hb : b = -1 ∨ pr (hv μ h) i b
      · rw [if_pos hb]; exact i1
      · rw [if_neg hb]; exact i0
    by_cases hx : i = x
    · rw [if_pos hx, i0, no (fun z => z.1 hx)]
    rw [if_neg hx]
    by_cases ha : μ (h + 7) i < μ (h + 2) f
    · rw [if_pos ha, if_pos rfl, i0, no (fun z => z.2.1 ha)]
    rw [if_neg ha, if_neg (show ¬ (1 : Int) = 0 by decide), if_pos (show 0 ≤ i ∧ i < 6 by omega)]
    by_cases h9 : μ (h + 9) i = -1
    · rw [if_pos h9, yes ⟨hx, ha, Or.inl h9⟩]
    rw [if_neg h9, if_pos (show 0 ≤ i ∧ i < 6 by omega), prefersFlat_eq w ⟨h0, by omega⟩ hf ⟨by omega, hm.2⟩, sBind]
    by_cases hp : pf (hv μ h) i f (μ (h + 9) i)
    · rw [if_pos hp, if_neg (by decide), yes ⟨hx, ha, Or.inr hp⟩]
    · rw [if_neg hp, if_pos rfl, i0, no (fun z => by rcases z.2.2 with z | z; exact h9 z; exact hp z)]
theorem candidateFor_eq {N : Int} {μ : zM} {h : Nat} {f x : Int} (w : WF N (hv μ h)) (hf : 0 ≤ f ∧ f < μ h 0) : qH_candidateFor μ h f x = some (cand (hv μ h) f x) := by
  have t0 : 0 ≤ μ h 3 := w.t0
  have t6 : μ h 3 ≤ 6 := w.t6
  unfold qH_candidateFor
  rw [candC_l w hf (μ h 3).toNat 200 (-1) 0 (by omega) (by omega) (by omega) (by omega) (by omega), sBind]
  rfl
theorem candM_l {N : Int} {μ V : zM} {f x : Int} (w : WF N V) (r : RowIs (μ 143) V) (hf : 0 ≤ f ∧ f < V 0 0) : ∀ (k n : Nat) (b i : Int), i + k = V 0 3 → 0 ≤ i → -1 ≤ b → b < i → k < n → qM_candidate_l5 μ f x n b i = some (cd V f x k b i) := by
  have n6 := w.n6
  have t6 := w.t6
  have rt := r.t
  intro k
  induction k with
  | zero =>
    intro n b i h1 h0 hb0 hb1 hn
    obtain ⟨n, rfl⟩ : ∃ n', n = n' + 1 := ⟨n - 1, by omega⟩
    unfold qM_candidate_l5 cd
    rw [if_neg (by omega)]
  | succ k ih =>
    intro n b i h1 h0 hb0 hb1 hn
    obtain ⟨n, rfl⟩ : ∃ n', n = n' + 1 := ⟨n - 1, by omega⟩
    have hm := (w.tn i h0 (by omega)).2.2.2.2.2
    have rm := (r.tn i h0 (by omega)).2.2.2.2.2.2
    have i0 := ih n b (i + 1) (by omega) (by omega) hb0 (by omega) (by omega)
    have i1 := ih n i (i + 1) (by omega) (by omega) (by omega) (by omega) (by omega)
    unfold qM_candidate_l5 cd
    rw [if_pos (by omega), wr_n (x := i + 1) (by omega) (by omega), affords_eq r ⟨h0, by omega⟩ t6 hf n6, sBind, of_eq (by omega) (by decide), sBind, show 20 + 7 * i + 6 = 26 + 7 * i by omega, rm, wr_n (by omega) (by omega), show V 9 i + 1 - 1 = V 9 i by omega, prefers_eq w r ⟨h0, by omega⟩ hf hm.2, sBind]
    have no : ¬ wants V f x i → cd V f x k (if wants V f x i then (if b = -1 ∨ pr V i b then i else b) else b) (i + 1) = cd V f x k b (i + 1) := fun z => by rw [if_neg z]
    by_cases hx : i = x
    · rw [if_pos hx, i0, no (fun z => z.1 hx)]
    rw [if_neg hx]
    by_cases ha : V 7 i < V 2 f
    · rw [if_pos ha, if_pos rfl, i0, no (fun z => z.2.1 ha)]
    rw [if_neg ha, if_neg (show ¬ (1 : Int) = 0 by decide)]
    by_cases hp : V 9 i < 0 ∨ pf V i f (V 9 i)
    · rw [if_pos hp, if_neg (show ¬ (1 : Int) = 0 by decide), if_pos (show wants V f x i from ⟨hx, ha, by rcases hp with z | z; exact Or.inl (by omega); exact Or.inr z⟩)]
      by_cases hb : b < 0
      · rw [if_pos hb, if_pos (Or.inl (by omega)), i1]
      · rw [if_neg hb, isPreferred_eq w r ⟨h0, by omega⟩ ⟨by omega, by omega⟩, sBind]
        by_cases hq : pr V i b
        · rw [if_pos hq, if_neg (by decide), if_pos (Or.inr hq), i1]
        · rw [if_neg hq, if_pos rfl, if_neg (fun z => by rcases z with z | z; omega; exact hq z), i0]
    · rw [if_neg hp, if_pos rfl, i0, no (fun z => hp (by rcases z.2.2 with z | z; exact Or.inl (by omega); exact Or.inr z))]
theorem candidate_eq {N : Int} {μ V : zM} {f x : Int} (w : WF N V) (r : RowIs (μ 143) V) (hf : 0 ≤ f ∧ f < V 0 0) : qM_candidate μ f x = some (cand V f x) := by
  have t0 := w.t0
  have t6 := w.t6
  unfold qM_candidate
  rw [candM_l w r hf (V 0 3).toNat 200 (-1) 0 (by omega) (by omega) (by omega) (by omega) (by omega), sBind]
  rfl
/-- the chain behind a flat that was left -/
def chn (x : Int) : Nat → zM → Int → Int → zM × Int
  | 0, V, _, n => (V, n)
  | k+1, V, f, n => if f = -1 then (V, n) else if cand V f x = -1 then (V, n) else chn x k (st V 9 (cand V f x) f) (V 9 (cand V f x)) (n + 1)
/-- how far the tenants are from their wishes -/
def hr (V : zM) (t : Int) : Int := ct (fun g => V 9 t = -1 ∨ pf V t g (V 9 t)) (V 0 0).toNat 0
def pot (V : zM) (x : Int) : Int := ps (fun t => if t = x then 0 else hr V t) (V 0 3).toNat
def Free (V : zM) (f : Int) : Prop := f = -1 ∨ ((0 ≤ f ∧ f < V 0 0) ∧ ∀ j : Int, 0 ≤ j → j < V 0 3 → V 9 j ≠ f)
theorem pot_nn {V : zM} {x : Int} : 0 ≤ pot V x := ps_nn fun j _ _ => by
  show 0 ≤ if j = x then (0 : Int) else hr V j
  split
  · exact Int.le_refl _
  · exact (ct_nn _ _).1
theorem ps_max {w : Int → Int} {B : Int} : ∀ {k : Nat}, (∀ j : Int, 0 ≤ j → j < k → w j ≤ B) → ps w k ≤ B * k
  | 0, _ => by unfold ps; omega
  | k+1, h => by
    unfold ps
    have h1 := h k (by omega) (by omega)
    have h2 := ps_max (k := k) (fun j j0 j1 => h j j0 (by omega))
    have h3 : B * ((k + 1 : Nat) : Int) = B * (k : Int) + B := by rw [Int.natCast_add, Int.mul_add]; omega
    omega
theorem pot_36 {N : Int} {V : zM} {x : Int} (w : WF N V) : pot V x ≤ 36 := by
  have n6 := w.n6
  have t6 := w.t6
  have t0 := w.t0
  have h := ps_max (w := fun t => if t = x then 0 else hr V t) (B := 6) (k := (V 0 3).toNat) (fun j j0 j1 => by
    show (if j = x then (0 : Int) else hr V j) ≤ 6
    have := ct_nn (p := fun g => V 9 j = -1 ∨ pf V j g (V 9 j)) (V 0 0).toNat 0
    split
    · omega
    · unfold hr; omega)
  unfold pot
  omega
theorem bd_home {V : zM} {c f t g : Int} : bd (st V 9 c f) t g = bd V t g := by
  unfold bd
  rw [st_k (show (1 : Nat) ≠ 9 by decide), st_k (show (5 : Nat) ≠ 9 by decide), st_k (show (2 : Nat) ≠ 9 by decide)]
theorem pf_home {V : zM} {c f t g i : Int} : pf (st V 9 c f) t g i ↔ pf V t g i := by
  unfold pf
  rw [bd_home, bd_home]
theorem pot_step {V : zM} {x f c : Int} (hc : 0 ≤ c ∧ c < V 0 3) (hw : wants V f x c) (hf : 0 ≤ f ∧ f < V 0 0) : pot (st V 9 c f) x ≤ pot V x - 1 := by
  have e0 : ∀ j, st V 9 c f 0 j = V 0 j := fun j => st_k (by decide)
  have ho : ∀ t, t ≠ c → hr (st V 9 c f) t = hr V t := fun t ht => by
    unfold hr
    rw [e0]
    refine ct_congr _ _ fun j _ _ => ?_
    rw [st_i ht, pf_home]
  have hl : hr (st V 9 c f) c < hr V c := by
    unfold hr
    rw [e0]
    refine ct_lt _ _ (fun j _ _ z => ?_) f hf.1 (by omega) ?_ ?_
    · rw [st_at, pf_home] at z
      rcases z with z | z
      · omega
      · rcases hw.2.2 with y | y
        · exact Or.inl y
        · exact Or.inr (pf_trans z y)
    · rw [st_at, pf_home]
      exact fun z => by
        rcases z with z | z
        · omega
        · exact pf_irr z
    · exact hw.2.2
  unfold pot
  rw [e0]
  have hu := ps_upd (w := fun t => if t = x then 0 else hr V t) (w' := fun t => if t = x then 0 else hr (st V 9 c f) t) (s := c) (g := hr (st V 9 c f) c - hr V c) (k := (V 0 3).toNat) hc.1 (by omega)
    (by
      show (if c = x then (0 : Int) else hr (st V 9 c f) c) = (if c = x then 0 else hr V c) + (hr (st V 9 c f) c - hr V c)
      rw [if_neg hw.1, if_neg hw.1]; omega)
    (fun j hj => by
      show (if j = x then (0 : Int) else hr (st V 9 c f) j) = (if j = x then 0 else hr V j)
      rw [ho j hj])
  rw [hu]
  omega
theorem free_step {N : Int} {V : zM} {f c : Int} (w : WF N V) (h : Free V f) (hf : f ≠ -1) (hc : 0 ≤ c ∧ c < V 0 3) : Free (st V 9 c f) (V 9 c) := by
  rcases h with h | ⟨h1, h2⟩
  · exact absurd h hf
  by_cases h9 : V 9 c = -1
  · exact Or.inl h9
  · have hm := (w.tn c hc.1 hc.2).2.2.2.2.2
    refine Or.inr ⟨⟨by omega, by rw [st_k (by decide)]; exact hm.2⟩, fun j j0 j1 => ?_⟩
    rw [st_k (by decide)] at j1
    by_cases hj : j = c
    · rw [hj, st_at]; exact fun z => h2 c hc.1 hc.2 z.symm
    · rw [st_i hj]
      intro z
      by_cases hl : j < c
      · exact h9 (z ▸ w.hm j c j0 hl hc.2 z)
      · exact h9 (w.hm c j hc.1 (by omega) j1 z.symm)
theorem chn_wf {N : Int} {x : Int} : ∀ (k : Nat) {V : zM} {f n : Int}, WF N V → Free V f → WF N (chn x k V f n).1
  | 0, V, f, n, w, _ => w
  | k+1, V, f, n, w, h => by
    unfold chn
    by_cases hf : f = -1
    · rw [if_pos hf]; exact w
    rw [if_neg hf]
    by_cases hc : cand V f x = -1
    · rw [if_pos hc]; exact w
    rw [if_neg hc]
    have hs := (cand_spec (V := V) (f := f) (x := x) w.t0).resolve_left hc
    have h1 := h.resolve_left hf
    refine chn_wf k (home_wf w ⟨by omega, h1.1.2⟩ (fun j j0 j1 _ z => absurd z (h1.2 j j0 j1))) (free_step w h hf ⟨hs.1, hs.2.1⟩)
theorem chn_k {x : Int} : ∀ (k : Nat) {V : zM} {f n : Int} {q : Nat} {j : Int}, q ≠ 9 → (chn x k V f n).1 q j = V q j
  | 0, _, _, _, _, _, _ => rfl
  | k+1, V, f, n, q, j, h => by
    unfold chn
    by_cases hf : f = -1
    · rw [if_pos hf]
    rw [if_neg hf]
    by_cases hc : cand V f x = -1
    · rw [if_pos hc]
    rw [if_neg hc, chn_k k h, st_k h]
theorem chn_n {x : Int} : ∀ (k : Nat) {V : zM} {f n : Int}, n ≤ (chn x k V f n).2 ∧ (chn x k V f n).2 ≤ n + k
  | 0, _, _, n => by unfold chn; constructor <;> simp
  | k+1, V, f, n => by
    unfold chn
    by_cases hf : f = -1
    · rw [if_pos hf]; constructor <;> simp <;> omega
    rw [if_neg hf]
    by_cases hc : cand V f x = -1
    · rw [if_pos hc]; constructor <;> simp <;> omega
    rw [if_neg hc]
    have := chn_n (x := x) k (V := st V 9 (cand V f x) f) (f := V 9 (cand V f x)) (n := n + 1)
    omega
