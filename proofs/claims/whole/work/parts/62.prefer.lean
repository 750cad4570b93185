/-! ===== B: preferring, counting ===== -/
abbrev pf (V : zM) (t f g : Int) : Prop := bd V t f < bd V t g ∨ (bd V t f = bd V t g ∧ f < g)
abbrev pr (V : zM) (t u : Int) : Prop := V 4 t < V 4 u ∨ (V 4 t = V 4 u ∧ t < u)
theorem pf_trans {V : zM} {t f g i : Int} (h1 : pf V t f g) (h2 : pf V t g i) : pf V t f i := by unfold pf at *; omega
theorem pf_irr {V : zM} {t f : Int} : ¬ pf V t f f := by unfold pf; omega
theorem pf_tri {V : zM} {t f g : Int} (h : f ≠ g) (h1 : ¬ pf V t f g) : pf V t g f := by unfold pf at *; omega
theorem pf_anti {V : zM} {t f g : Int} (h : pf V t f g) : ¬ pf V t g f := by unfold pf at *; omega
theorem pr_trans {V : zM} {t u v : Int} (h1 : pr V t u) (h2 : pr V u v) : pr V t v := by unfold pr at *; omega
theorem pr_irr {V : zM} {t : Int} : ¬ pr V t t := by unfold pr; omega
theorem pr_tri {V : zM} {t u : Int} (h : t ≠ u) (h1 : ¬ pr V t u) : pr V u t := by unfold pr at *; omega
theorem pr_anti {V : zM} {t u : Int} (h : pr V t u) : ¬ pr V u t := by unfold pr at *; omega
theorem bd_in {N : Int} {V : zM} {t f : Int} (w : WF N V) (ht : 0 ≤ t ∧ t < V 0 3) (hf : 0 ≤ f ∧ f < V 0 0) : 0 ≤ bd V t f ∧ bd V t f ≤ 200 := by
  have a1 := w.fl f hf.1 hf.2
  have a2 := (w.tn t ht.1 ht.2).2.1
  unfold bd
  split <;> omega
theorem prefersFlat_eq {N : Int} {μ : zM} {h : Nat} {t f g : Int} (w : WF N (hv μ h)) (ht : 0 ≤ t ∧ t < μ h 3) (hf : 0 ≤ f ∧ f < μ h 0) (hg : 0 ≤ g ∧ g < μ h 0) : qH_prefersFlat μ h t f g = some (if pf (hv μ h) t f g then 1 else 0) := by
  unfold qH_prefersFlat
  rw [burdenFor_eq w ht hf, sBind, burdenFor_eq w ht hg, sBind]
  unfold pf
  by_cases h1 : bd (hv μ h) t f < bd (hv μ h) t g
  · rw [if_pos h1, if_pos (Or.inl h1)]
  · rw [if_neg h1]
    by_cases h2 : bd (hv μ h) t f = bd (hv μ h) t g
    · rw [if_pos h2]
      by_cases h3 : f < g
      · rw [if_pos h3, if_pos (Or.inr ⟨h2, h3⟩)]
      · rw [if_neg h3, if_neg (by omega)]
    · rw [if_neg h2, if_neg (by omega)]
theorem prefers_eq {N : Int} {μ V : zM} {t f g : Int} (w : WF N V) (r : RowIs (μ 143) V) (ht : 0 ≤ t ∧ t < V 0 3) (hf : 0 ≤ f ∧ f < V 0 0) (hg : g < V 0 0) : qM_prefers μ t f g = some (if g < 0 ∨ pf V t f g then 1 else 0) := by
  unfold qM_prefers
  by_cases h0 : g < 0
  · rw [if_pos h0, if_pos (Or.inl h0)]
  rw [if_neg h0, burdenOf_eq w r ht ⟨by omega, hg⟩, sBind, burdenOf_eq w r ht hf, sBind]
  have b1 := bd_in w ht hf
  have b2 := bd_in w ht (f := g) ⟨by omega, hg⟩
  rw [wr_n (by omega) (by omega)]
  unfold pf
  by_cases h1 : 0 < bd V t g - bd V t f
  · rw [if_pos h1, if_pos (by omega)]
  · rw [if_neg h1]
    by_cases h2 : bd V t g - bd V t f = 0
    · rw [if_pos h2]
      by_cases h3 : f < g
      · rw [if_pos h3, if_pos (by omega)]
      · rw [if_neg h3, if_neg (by omega)]
    · rw [if_neg h2, if_neg (by omega)]
theorem isPreferredTo_eq {μ : zM} {h : Nat} {t u : Int} (ht : 0 ≤ t ∧ t < 6) (hu : 0 ≤ u ∧ u < 6) : qH_isPreferredTo μ h t u = some (if pr (hv μ h) t u then 1 else 0) := by
  unfold qH_isPreferredTo pr
  rw [if_pos ht, if_pos hu, if_pos ht, if_pos hu]
  show _ = some (if μ (h + 4) t < μ (h + 4) u ∨ (μ (h + 4) t = μ (h + 4) u ∧ t < u) then (1 : Int) else 0)
  by_cases h1 : μ (h + 4) t < μ (h + 4) u
  · rw [if_pos h1, if_pos (Or.inl h1)]
  · rw [if_neg h1]
    by_cases h2 : μ (h + 4) t = μ (h + 4) u
    · rw [if_pos h2]
      by_cases h3 : t < u
      · rw [if_pos h3, if_pos (Or.inr ⟨h2, h3⟩)]
      · rw [if_neg h3, if_neg (by omega)]
    · rw [if_neg h2, if_neg (by omega)]
theorem id_lt {N : Int} {V : zM} {t u : Int} (w : WF N V) (ht : 0 ≤ t ∧ t < V 0 3) (hu : 0 ≤ u ∧ u < V 0 3) : V 3 t < V 3 u ↔ t < u := by
  constructor
  · intro h
    by_cases h1 : t < u
    · exact h1
    · by_cases h2 : u < t
      · have := w.inc u t hu.1 h2 ht.2; omega
      · have h3 : t = u := by omega
        rw [h3] at h; omega
  · intro h; exact w.inc t u ht.1 h hu.2
theorem isPreferred_eq {N : Int} {μ V : zM} {t u : Int} (w : WF N V) (r : RowIs (μ 143) V) (ht : 0 ≤ t ∧ t < V 0 3) (hu : 0 ≤ u ∧ u < V 0 3) : qM_isPreferred μ t u = some (if pr V t u then 1 else 0) := by
  have t6 := w.t6
  obtain ⟨r1, r2, -⟩ := r.tn t ht.1 ht.2
  obtain ⟨q1, q2, -⟩ := r.tn u hu.1 hu.2
  have a1 := (w.tn t ht.1 ht.2).1
  have a2 := (w.tn u hu.1 hu.2).1
  have hid := id_lt w ht hu
  unfold qM_isPreferred
  rw [of_eq (by omega) (by decide), sBind, of_eq (by omega) (by decide), sBind, show 20 + 7 * t + 1 = 21 + 7 * t by omega, show 20 + 7 * u + 1 = 21 + 7 * u by omega, r2, q2, wr_n (by omega) (by omega), of_eq (by omega) (by decide), of_eq (by omega) (by decide), Int.add_zero, Int.add_zero, r1, q1, sBind, sBind]
  unfold pr
  by_cases h1 : 0 < V 4 u - V 4 t
  · rw [if_pos h1, if_pos (by omega)]
  · rw [if_neg h1]
    by_cases h2 : V 4 u - V 4 t = 0
    · rw [if_pos h2]
      by_cases h3 : V 3 t < V 3 u
      · rw [if_pos h3, if_pos (Or.inr ⟨by omega, hid.mp h3⟩)]
      · rw [if_neg h3, if_neg (fun z => by
          rcases z with z | z
          · omega
          · exact h3 (hid.mpr z.2))]
    · rw [if_neg h2, if_neg (by omega)]
/-- how many of k places from i on have it -/
def ct (p : Int → Prop) [DecidablePred p] : Nat → Int → Int
  | 0, _ => 0
  | k+1, i => (if p i then 1 else 0) + ct p k (i + 1)
theorem ct_nn {p : Int → Prop} [DecidablePred p] : ∀ (k : Nat) (i : Int), 0 ≤ ct p k i ∧ ct p k i ≤ k
  | 0, _ => by unfold ct; omega
  | k+1, i => by
    unfold ct
    have := ct_nn (p := p) k (i + 1)
    split <;> omega
theorem ct_le {p q : Int → Prop} [DecidablePred p] [DecidablePred q] : ∀ (k : Nat) (i : Int), (∀ j, i ≤ j → j < i + k → p j → q j) → ct p k i ≤ ct q k i
  | 0, _, _ => Int.le_refl _
  | k+1, i, h => by
    unfold ct
    have h1 := ct_le (p := p) (q := q) k (i + 1) (fun j j0 j1 => h j (by omega) (by omega))
    by_cases hp : p i
    · rw [if_pos hp, if_pos (h i (by omega) (by omega) hp)]; omega
    · rw [if_neg hp]; split <;> omega
theorem ct_lt {p q : Int → Prop} [DecidablePred p] [DecidablePred q] : ∀ (k : Nat) (i : Int), (∀ j, i ≤ j → j < i + k → p j → q j) → ∀ x, i ≤ x → x < i + k → ¬ p x → q x → ct p k i < ct q k i
  | 0, _, _, _, h0, h1, _, _ => by omega
  | k+1, i, h, x, h0, h1, h2, h3 => by
    unfold ct
    by_cases hx : x = i
    · rw [hx] at h2 h3
      have h4 := ct_le (p := p) (q := q) k (i + 1) (fun j j0 j1 => h j (by omega) (by omega))
      rw [if_neg h2, if_pos h3]; omega
    · have h4 := ct_lt (p := p) (q := q) k (i + 1) (fun j j0 j1 => h j (by omega) (by omega)) x (by omega) (by omega) h2 h3
      by_cases hp : p i
      · rw [if_pos hp, if_pos (h i (by omega) (by omega) hp)]; omega
      · rw [if_neg hp]; split <;> omega
theorem ct_congr {p q : Int → Prop} [DecidablePred p] [DecidablePred q] : ∀ (k : Nat) (i : Int), (∀ j, i ≤ j → j < i + k → (p j ↔ q j)) → ct p k i = ct q k i
  | 0, _, _ => rfl
  | k+1, i, h => by
    unfold ct
    rw [ct_congr (p := p) (q := q) k (i + 1) (fun j j0 j1 => h j (by omega) (by omega))]
    have h1 := h i (by omega) (by omega)
    by_cases hp : p i
    · rw [if_pos hp, if_pos (h1.mp hp)]
    · rw [if_neg hp, if_neg (fun z => hp (h1.mpr z))]
/-- a tenant's rank of a flat -/
def rk (V : zM) (t f : Int) : Int := ct (fun g => pf V t g f) (V 0 0).toNat 0
theorem rk_in {V : zM} {t f : Int} (hf : 0 ≤ f ∧ f < V 0 0) : 0 ≤ rk V t f ∧ rk V t f < V 0 0 := by
  have h1 := ct_nn (p := fun g => pf V t g f) (V 0 0).toNat 0
  have h2 := ct_lt (p := fun g => pf V t g f) (q := fun _ => True) (V 0 0).toNat 0 (fun _ _ _ _ => trivial) f hf.1 (by omega) pf_irr trivial
  have h3 := ct_nn (p := fun _ => True) (V 0 0).toNat 0
  unfold rk
  omega
theorem rk_lt {V : zM} {t f g : Int} (hf : 0 ≤ f ∧ f < V 0 0) (h : pf V t f g) : rk V t f < rk V t g :=
  ct_lt _ _ (fun _ _ _ z => pf_trans z h) f hf.1 (by omega) pf_irr h
theorem rk_iff {V : zM} {t f g : Int} (hf : 0 ≤ f ∧ f < V 0 0) (hg : 0 ≤ g ∧ g < V 0 0) : rk V t f < rk V t g ↔ pf V t f g := by
  constructor
  · intro h
    by_cases h1 : pf V t f g
    · exact h1
    · by_cases h2 : f = g
      · rw [h2] at h; omega
      · have := rk_lt hg (pf_tri h2 h1); omega
  · exact rk_lt hf
theorem rk_inj {V : zM} {t f g : Int} (hf : 0 ≤ f ∧ f < V 0 0) (hg : 0 ≤ g ∧ g < V 0 0) (h : rk V t f = rk V t g) : f = g := by
  by_cases h2 : f = g
  · exact h2
  · by_cases h1 : pf V t f g
    · have := rk_lt hf h1; omega
    · have := rk_lt hg (pf_tri h2 h1); omega
