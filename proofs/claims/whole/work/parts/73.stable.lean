/-! ===== B: stable plans; there is but one ===== -/
/-- a place among n that holds a value, for n different values below n -/
theorem pig : ∀ (n : Nat) (w : Int → Int), (∀ i : Int, 0 ≤ i → i < n → 0 ≤ w i ∧ w i < n) → (∀ i j : Int, 0 ≤ i → i < j → j < n → w i ≠ w j) → ∀ r : Int, 0 ≤ r → r < n → ∃ i : Int, 0 ≤ i ∧ i < n ∧ w i = r
  | 0, _, _, _, r, h0, h1 => by omega
  | n+1, w, hr9, hd, r, h0, h1 => by
    by_cases hn : w n = r
    · exact ⟨n, by omega, by omega, hn⟩
    have hwn := hr9 n (by omega) (by omega)
    have key := pig n (fun i => if w i = n then w n else w i) (fun i i0 i1 => by
      have h2 := hr9 i i0 (by omega)
      have h3 := hd i n i0 i1 (by omega)
      show 0 ≤ (if w i = n then w n else w i) ∧ (if w i = n then w n else w i) < n
      split <;> omega) (fun i j i0 i1 j1 => by
      have h2 := hd i j i0 i1 (by omega)
      have h3 := hd i n i0 (by omega) (by omega)
      have h4 := hd j n (by omega) j1 (by omega)
      show (if w i = n then w n else w i) ≠ (if w j = n then w n else w j)
      split <;> split <;> omega)
    by_cases hrn : r = n
    · obtain ⟨i, i0, i1, i2⟩ := key (w n) hwn.1 (by omega)
      have i3 : (if w i = n then w n else w i) = w n := i2
      have h3 := hd i n i0 i1 (by omega)
      by_cases h4 : w i = n
      · exact ⟨i, i0, by omega, by omega⟩
      · rw [if_neg h4] at i3; exact absurd i3 h3
    · obtain ⟨i, i0, i1, i2⟩ := key r h0 (by omega)
      have i3 : (if w i = n then w n else w i) = r := i2
      by_cases h4 : w i = n
      · rw [if_pos h4] at i3; exact absurd i3 hn
      · rw [if_neg h4] at i3; exact ⟨i, i0, by omega, i3⟩
theorem rk_sur {V : zM} {t r : Int} (n0 : 0 ≤ V 0 0) (h0 : 0 ≤ r) (h1 : r < V 0 0) : ∃ f, (0 ≤ f ∧ f < V 0 0) ∧ rk V t f = r := by
  obtain ⟨f, f0, f1, f2⟩ := pig (V 0 0).toNat (fun f => rk V t f) (fun i i0 i1 => by
    have := rk_in (V := V) (t := t) (f := i) ⟨i0, by omega⟩
    exact ⟨this.1, by omega⟩) (fun i j i0 i1 j1 h => by
    have := rk_inj (V := V) (t := t) (f := i) (g := j) ⟨i0, by omega⟩ ⟨by omega, by omega⟩ h
    omega) r h0 (by omega)
  exact ⟨f, ⟨f0, by omega⟩, f2⟩
def inT (V : zM) (t : Int) : Prop := 0 ≤ t ∧ t < V 0 3
def inF (V : zM) (f : Int) : Prop := 0 ≤ f ∧ f < V 0 0
/-- a plan: each tenant has no flat or one it can pay, no flat has two -/
def Plan (V : zM) (p : Int → Int) : Prop := (∀ t, inT V t → p t = -1 ∨ (inF V (p t) ∧ ¬ V 7 t < V 2 (p t))) ∧ ∀ t u, inT V t → inT V u → p t = p u → t ≠ u → p t = -1
def Stb (V : zM) (p : Int → Int) : Prop := Plan V p ∧ ∀ t f, inT V t → inF V f → ¬ V 7 t < V 2 f → (p t = -1 ∨ pf V t f (p t)) → ∃ u, inT V u ∧ p u = f ∧ pr V u t
theorem stb_half {V : zM} {p q : Int → Int} {t : Int} (hp : Stb V p) (hq : Stb V q) (ht : inT V t) (ih : ∀ u, inT V u → pr V u t → p u = q u) (h1 : p t ≠ -1) (h2 : q t = -1 ∨ pf V t (p t) (q t)) : False := by
  obtain ⟨h3, h4⟩ := (hp.1.1 t ht).resolve_left h1
  obtain ⟨u, u1, u2, u3⟩ := hq.2 t (p t) ht h3 h4 h2
  have hu := ih u u1 u3
  have hne : u ≠ t := fun z => pr_irr (z ▸ u3)
  have := hp.1.2 u t u1 ht (hu.trans u2) hne
  exact h1 ((hu.trans u2).symm.trans this)
theorem stb_uniq {V : zM} {p q : Int → Int} (t6 : V 0 3 ≤ 6) (w4 : ∀ t, inT V t → 0 ≤ V 4 t) (hp : Stb V p) (hq : Stb V q) : ∀ (m : Nat) (t : Int), inT V t → 8 * V 4 t + t < m → p t = q t
  | 0, t, ht, h => by have := w4 t ht; have := ht.1; omega
  | m+1, t, ht, h => by
    have ih : ∀ u, inT V u → pr V u t → p u = q u := fun u hu hr9 => stb_uniq t6 w4 hp hq m u hu (by
      have h1 := hu.1
      have h2 := hu.2
      have h3 := ht.1
      have h4 := ht.2
      unfold pr at hr9
      omega)
    have ih2 : ∀ u, inT V u → pr V u t → q u = p u := fun u hu hr9 => (ih u hu hr9).symm
    by_cases h1 : p t = -1
    · by_cases h2 : q t = -1
      · rw [h1, h2]
      · exact (stb_half hq hp ht ih2 h2 (Or.inl h1)).elim
    · by_cases h2 : q t = -1
      · exact (stb_half hp hq ht ih h1 (Or.inl h2)).elim
      · by_cases h3 : p t = q t
        · exact h3
        · by_cases h4 : pf V t (p t) (q t)
          · exact (stb_half hp hq ht ih h1 (Or.inr h4)).elim
          · exact (stb_half hq hp ht ih2 h2 (Or.inr (pf_tri h3 h4))).elim
theorem stb_eq {N : Int} {V : zM} {p q : Int → Int} (w : WF N V) (hp : Stb V p) (hq : Stb V q) {t : Int} (ht : inT V t) : p t = q t :=
  stb_uniq w.t6 (fun u hu => by have := (w.tn u hu.1 hu.2).1.1; omega) hp hq (8 * V 4 t + t + 1).toNat t ht (by
    have := (w.tn t ht.1 ht.2).1.1
    have := ht.1
    omega)
/-- how far the asking has come: p the plan, a how many flats each has asked -/
def Ask (V : zM) (p a : Int → Int) : Prop := (∀ t, inT V t → 0 ≤ a t ∧ a t ≤ V 0 0) ∧ (∀ t, inT V t → p t = -1 ∨ (inF V (p t) ∧ rk V t (p t) = a t - 1 ∧ ¬ V 7 t < V 2 (p t))) ∧
  (∀ t u, inT V t → inT V u → p t = p u → t ≠ u → p t = -1) ∧ ∀ t f, inT V t → inF V f → rk V t f < a t → p t ≠ f → ¬ V 7 t < V 2 f → ∃ u, inT V u ∧ p u = f ∧ pr V u t
theorem ask_congr {V : zM} {p p' a a' : Int → Int} (h : Ask V p a) (hp : ∀ t, inT V t → p' t = p t) (ha : ∀ t, inT V t → a' t = a t) : Ask V p' a' := by
  obtain ⟨h1, h2, h3, h4⟩ := h
  refine ⟨fun t ht => by rw [ha t ht]; exact h1 t ht, fun t ht => by rw [ha t ht, hp t ht]; exact h2 t ht, fun t u ht hu => by rw [hp t ht, hp u hu]; exact h3 t u ht hu, fun t f ht hf => ?_⟩
  rw [ha t ht, hp t ht]
  intro a1 a2 a3
  obtain ⟨u, u1, u2, u3⟩ := h4 t f ht hf a1 a2 a3
  exact ⟨u, u1, by rw [hp u u1]; exact u2, u3⟩
theorem ask_0 {V : zM} {p a : Int → Int} (n0 : 0 ≤ V 0 0) (hp : ∀ t, inT V t → p t = -1) (ha : ∀ t, inT V t → a t = 0) : Ask V p a := by
  refine ⟨fun t ht => by rw [ha t ht]; omega, fun t ht => Or.inl (hp t ht), fun t u ht hu _ _ => hp t ht, fun t f ht hf h1 _ _ => ?_⟩
  rw [ha t ht] at h1
  have := (rk_in (V := V) (t := t) hf).1
  omega
theorem ask_fin {V : zM} {p a : Int → Int} (h : Ask V p a) (hd : ∀ t, inT V t → p t ≠ -1 ∨ a t = V 0 0) : Stb V p := by
  obtain ⟨h1, h2, h3, h4⟩ := h
  refine ⟨⟨fun t ht => (h2 t ht).imp id fun z => ⟨z.1, z.2.2⟩, h3⟩, fun t f ht hf af hl => ?_⟩
  by_cases hn : p t = -1
  · refine h4 t f ht hf ?_ (fun z => ?_) af
    · rw [(hd t ht).resolve_left (fun z => z hn)]; exact (rk_in hf).2
    · have := hf.1; omega
  · obtain ⟨g1, g2, g3⟩ := (h2 t ht).resolve_left hn
    have hl := hl.resolve_left hn
    have := rk_lt hf hl
    refine h4 t f ht hf (by omega) (fun z => ?_) af
    rw [z] at hl
    exact pf_irr hl
def ps2 (V : zM) (a : Int → Int) : Int := ps (fun t => V 0 0 - a t) (V 0 3).toNat
/-- t asks f, its next one -/
theorem ask_step {V : zM} {p a p' a' : Int → Int} {t f : Int} (h : Ask V p a) (ht : inT V t) (hpt : p t = -1) (hf : inF V f) (hr9 : rk V t f = a t)
    (ha : a' t = a t + 1) (hao : ∀ u, u ≠ t → a' u = a u)
    (hc : (V 7 t < V 2 f ∧ ∀ u, inT V u → p' u = p u) ∨ (¬ V 7 t < V 2 f ∧ ((∀ u, inT V u → p u ≠ f) ∧ p' t = f ∧ ∀ u, u ≠ t → p' u = p u)) ∨
      (¬ V 7 t < V 2 f ∧ ∃ u, inT V u ∧ p u = f ∧ ((pr V u t ∧ ∀ x, inT V x → p' x = p x) ∨ (¬ pr V u t ∧ p' t = f ∧ p' u = -1 ∧ ∀ x, x ≠ t → x ≠ u → p' x = p x)))) : Ask V p' a' := by
  obtain ⟨h1, h2, h3, h4⟩ := h
  have f0 := hf.1
  have f1 := hf.2
  have rin := rk_in (V := V) (t := t) hf
  have A : ∀ x, inT V x → 0 ≤ a' x ∧ a' x ≤ V 0 0 := fun x hx => by
    by_cases hxt : x = t
    · rw [hxt, ha]; omega
    · rw [hao x hxt]; exact h1 x hx
  -- an earlier rank of t is another flat than f
  have other : ∀ g, inF V g → rk V t g < a' t → g ≠ f → rk V t g < a t := fun g hg hlt hne => by
    rw [ha] at hlt
    have : rk V t g ≠ a t := fun z => hne (rk_inj hg hf (z.trans hr9.symm))
    omega
  rcases hc with ⟨c1, c2⟩ | ⟨c1, c2, c3, c4⟩ | ⟨c1, u, u1, u2, ⟨c2, c3⟩ | ⟨c2, c3, c4, c5⟩⟩
  · refine ⟨A, fun x hx => ?_, fun x y hx hy => by rw [c2 x hx, c2 y hy]; exact h3 x y hx hy, fun x g hx hg => ?_⟩
    · rw [c2 x hx]
      by_cases hxt : x = t
      · rw [hxt]; exact Or.inl hpt
      · rw [hao x hxt]; exact h2 x hx
    · rw [c2 x hx]
      intro a1 a2 a3
      have g1 : rk V x g < a x := by
        by_cases hxt : x = t
        · rw [hxt] at a1 a3 ⊢
          exact other g hg a1 (fun z => a3 (z ▸ c1))
        · rw [hao x hxt] at a1; exact a1
      obtain ⟨y, y1, y2, y3⟩ := h4 x g hx hg g1 a2 a3
      exact ⟨y, y1, by rw [c2 y y1]; exact y2, y3⟩
  · refine ⟨A, fun x hx => ?_, fun x y hx hy hxy hne => ?_, fun x g hx hg a1 a2 a3 => ?_⟩
    · by_cases hxt : x = t
      · rw [hxt, c3, ha]; exact Or.inr ⟨hf, by omega, c1⟩
      · rw [c4 x hxt, hao x hxt]; exact h2 x hx
    · by_cases hxt : x = t
      · rw [hxt, c3, c4 y (fun z => hne (hxt.trans z.symm))] at hxy
        exact absurd hxy.symm (c2 y hy)
      · rw [c4 x hxt]
        by_cases hyt : y = t
        · rw [hyt, c3, c4 x hxt] at hxy; exact absurd hxy (c2 x hx)
        · rw [c4 x hxt, c4 y hyt] at hxy; exact h3 x y hx hy hxy hne
    · have g2 : ∃ y, inT V y ∧ p y = g ∧ pr V y x := by
        by_cases hxt : x = t
        · rw [hxt] at a1 a2 a3 ⊢
          have hgf : g ≠ f := fun z => a2 (c3.trans z.symm)
          exact h4 t g ht hg (other g hg a1 hgf) (by rw [hpt]; have := hg.1; omega) a3
        · rw [hao x hxt] at a1
          rw [c4 x hxt] at a2
          exact h4 x g hx hg a1 a2 a3
      obtain ⟨y, y1, y2, y3⟩ := g2
      have hyt : y ≠ t := fun z => by rw [z, hpt] at y2; have := hg.1; omega
      exact ⟨y, y1, by rw [c4 y hyt]; exact y2, y3⟩
  · refine ⟨A, fun x hx => ?_, fun x y hx hy => by rw [c3 x hx, c3 y hy]; exact h3 x y hx hy, fun x g hx hg => ?_⟩
    · rw [c3 x hx]
      by_cases hxt : x = t
      · rw [hxt]; exact Or.inl hpt
      · rw [hao x hxt]; exact h2 x hx
    · rw [c3 x hx]
      intro a1 a2 a3
      by_cases hgf : x = t ∧ g = f
      · exact ⟨u, u1, by rw [c3 u u1, hgf.2]; exact u2, by rw [hgf.1]; exact c2⟩
      · have g1 : rk V x g < a x := by
          by_cases hxt : x = t
          · rw [hxt] at a1 ⊢
            exact other g hg a1 (fun z => hgf ⟨hxt, z⟩)
          · rw [hao x hxt] at a1; exact a1
        obtain ⟨y, y1, y2, y3⟩ := h4 x g hx hg g1 a2 a3
        exact ⟨y, y1, by rw [c3 y y1]; exact y2, y3⟩
  · have hut : u ≠ t := fun z => by rw [z, hpt] at u2; omega
    have hpr : pr V t u := pr_tri hut c2
    have only : ∀ x, inT V x → p x = f → x = u := fun x hx hxf => by
      by_cases hxu : x = u
      · exact hxu
      · have := h3 x u hx u1 (hxf.trans u2.symm) hxu
        omega
    refine ⟨A, fun x hx => ?_, fun x y hx hy hxy hne => ?_, fun x g hx hg a1 a2 a3 => ?_⟩
    · by_cases hxt : x = t
      · rw [hxt, c3, ha]; exact Or.inr ⟨hf, by omega, c1⟩
      · by_cases hxu : x = u
        · rw [hxu]; exact Or.inl c4
        · rw [c5 x hxt hxu, hao x hxt]; exact h2 x hx
    · by_cases hxu : x = u
      · rw [hxu]; exact c4
      by_cases hyu : y = u
      · rw [hyu, c4] at hxy; exact hxy
      by_cases hxt : x = t
      · have hyt : y ≠ t := fun z => hne (hxt.trans z.symm)
        rw [hxt, c3, c5 y hyt hyu] at hxy
        exact absurd (only y hy hxy.symm) hyu
      · by_cases hyt : y = t
        · rw [hyt, c3, c5 x hxt hxu] at hxy
          exact absurd (only x hx hxy) hxu
        · rw [c5 x hxt hxu, c5 y hyt hyu] at hxy
          rw [c5 x hxt hxu]
          exact h3 x y hx hy hxy hne
    · -- a witness that was u is now t
      have fix : (∃ y, inT V y ∧ p y = g ∧ pr V y x) → ∃ y, inT V y ∧ p' y = g ∧ pr V y x := by
        rintro ⟨y, y1, y2, y3⟩
        have hyt : y ≠ t := fun z => by rw [z, hpt] at y2; have := hg.1; omega
        by_cases hyu : y = u
        · rw [hyu] at y2 y3
          exact ⟨t, ht, by rw [c3]; omega, pr_trans hpr y3⟩
        · exact ⟨y, y1, by rw [c5 y hyt hyu]; exact y2, y3⟩
      by_cases hxt : x = t
      · rw [hxt] at a1 a2 a3 ⊢
        rw [hxt] at fix
        have hgf : g ≠ f := fun z => a2 (c3.trans z.symm)
        exact fix (h4 t g ht hg (other g hg a1 hgf) (by rw [hpt]; have := hg.1; omega) a3)
      · rw [hao x hxt] at a1
        by_cases hxu : x = u
        · rw [hxu] at a1 a2 a3 ⊢
          rw [hxu] at fix
          by_cases hgf : g = f
          · exact ⟨t, ht, by rw [c3, hgf], hpr⟩
          · exact fix (h4 u g u1 hg a1 (fun z => hgf (z.symm.trans u2)) a3)
        · rw [c5 x hxt hxu] at a2
          exact fix (h4 x g hx hg a1 a2 a3)
theorem ps2_step {V : zM} {a a' : Int → Int} {t : Int} (ht : inT V t) (ha : a' t = a t + 1) (hao : ∀ u, u ≠ t → a' u = a u) : ps2 V a' = ps2 V a - 1 := by
  have t0 := ht.1
  have t1 := ht.2
  unfold ps2
  rw [ps_upd (w := fun t => V 0 0 - a t) (w' := fun t => V 0 0 - a' t) (s := t) (g := -1) t0 (by omega) (by show V 0 0 - a' t = V 0 0 - a t + -1; omega) (fun j hj => by show V 0 0 - a' j = V 0 0 - a j; rw [hao j hj])]
  omega
theorem ps2_in {V : zM} {p a : Int → Int} (t0 : 0 ≤ V 0 3) (t6 : V 0 3 ≤ 6) (n6 : V 0 0 ≤ 6) (h : Ask V p a) : 0 ≤ ps2 V a ∧ ps2 V a ≤ 36 := by
  have := ps_in (w := fun t => V 0 0 - a t) (B := 6) (k := (V 0 3).toNat) (fun j j0 j1 => by
    have := h.1 j ⟨j0, by omega⟩
    show 0 ≤ V 0 0 - a j ∧ V 0 0 - a j ≤ 6
    omega)
  unfold ps2
  omega
theorem ps2_0 {V : zM} {p a : Int → Int} {t : Int} (h : Ask V p a) (h0 : ps2 V a ≤ 0) (ht : inT V t) : a t = V 0 0 := by
  have t1 := ht.2
  have h1 := ps_le (w := fun t => V 0 0 - a t) (k := (V 0 3).toNat) (fun j j0 j1 => by
    have := h.1 j ⟨j0, by omega⟩
    show 0 ≤ V 0 0 - a j
    omega) t ht.1 (by omega)
  have h2 := h.1 t ht
  have h3 : V 0 0 - a t ≤ ps2 V a := h1
  omega
