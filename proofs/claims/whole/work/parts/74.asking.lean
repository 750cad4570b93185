/-! ===== B: the class plans by asking ===== -/
def fl (μ : zM) (k : Nat) (n v : Int) : zM := fun q j => if q = k then (if 0 ≤ j ∧ j < n then v else μ q j) else μ q j
theorem fl_k {μ : zM} {k q : Nat} {n v : Int} (h : q ≠ k) : fl μ k n v q = μ q := funext fun j => by unfold fl; rw [if_neg h]
theorem fl_at {μ : zM} {k : Nat} {n v j : Int} (h : 0 ≤ j ∧ j < n) : fl μ k n v k j = v := by unfold fl; rw [if_pos rfl, if_pos h]
theorem fl_0 {μ : zM} {k : Nat} {v : Int} : fl μ k 0 v = μ := by
  funext q j
  unfold fl
  by_cases hq : q = k
  · rw [if_pos hq, if_neg (by omega)]
  · rw [if_neg hq]
theorem st_fl {μ : zM} {k : Nat} {i v : Int} (h0 : 0 ≤ i) : st (fl μ k i v) k i v = fl μ k (i + 1) v := by
  funext q j
  unfold st fl
  by_cases hq : q = k
  · rw [if_pos hq, if_pos hq, if_pos hq]
    by_cases hj : j = i
    · rw [if_pos hj, if_pos (by omega)]
    · rw [if_neg hj]
      by_cases h1 : 0 ≤ j ∧ j < i
      · rw [if_pos h1, if_pos (by omega)]
      · rw [if_neg h1, if_neg (by omega)]
  · rw [if_neg hq, if_neg hq, if_neg hq]
theorem fill_l {μ : zM} {a n0 : Nat} {v : Int} (hn0 : n0 < 100) : ∀ (k n : Nat) (i : Int), i + k = n0 → 0 ≤ i → k < n → qT_fill_l2 a n0 v n (fl μ a i v) i = some (fl μ a n0 v) := by
  intro k
  induction k with
  | zero =>
    intro n i h1 h0 hn
    obtain ⟨n, rfl⟩ : ∃ n', n = n' + 1 := ⟨n - 1, by omega⟩
    unfold qT_fill_l2
    rw [if_neg (by omega), show i = (n0 : Int) by omega]
  | succ k ih =>
    intro n i h1 h0 hn
    obtain ⟨n, rfl⟩ : ∃ n', n = n' + 1 := ⟨n - 1, by omega⟩
    unfold qT_fill_l2
    rw [if_pos (by omega), if_pos (by omega), sBind, st_fl h0, wr_n (by omega) (by omega)]
    exact ih n (i + 1) (by omega) (by omega) (by omega)
theorem fill_eq {μ : zM} {a n0 : Nat} {v : Int} (hn0 : n0 < 100) : qT_fill μ a n0 v = some (fl μ a n0 v) := by
  unfold qT_fill
  have h := fill_l (μ := μ) (a := a) (v := v) hn0 n0 200 0 (by omega) (by omega) (by omega)
  rw [fl_0] at h
  rw [h, sBind]
theorem h6rk {N : Int} {V V' : zM} (e : HEq6 V V') (w : WF N V') {t f : Int} (ht : 0 ≤ t ∧ t < 6) (hf : 0 ≤ f ∧ f < 6) : rk V t f = rk V' t f := by
  have n6 := w.n6
  unfold rk
  rw [e.1.1]
  exact ct_congr _ _ fun g g0 g1 => h6pf e ht ⟨g0, by omega⟩ hf
/-- the two tables of ranks -/
def tabOk (V m : zM) (t f : Int) : Prop := m (115 + t.toNat) f = rk V t f ∧ m (122 + t.toNat) (rk V t f) = f
def Tab (V m : zM) : Prop := ∀ t f, inT V t → inF V f → tabOk V m t f
theorem begin1_l {N : Int} {V : zM} {h : Nat} {t : Int} (hh : h + 10 ≤ 113) (w : WF N V) (ht : inT V t) : ∀ (k n : Nat) (m : zM) (f : Int), HEq6 (hv m h) V → f + k = V 0 0 → 0 ≤ f → k < n → (∀ u g, inT V u → inF V g → u < t → tabOk V m u g) → (∀ g, inF V g → g < f → tabOk V m t g) →
    ∃ m', qP_begin_l28 h t n m f = some m' ∧ (∀ u g, inT V u → inF V g → u < t + 1 → tabOk V m' u g) ∧ ∀ q : Nat, (q < 115 ∨ 128 ≤ q) → m' q = m q := by
  have n6 := w.n6
  have t6 := w.t6
  have ht0 := ht.1
  have ht1 := ht.2
  intro k
  induction k with
  | zero =>
    intro n m f e h1 h0 hn hu hg
    obtain ⟨n, rfl⟩ : ∃ n', n = n' + 1 := ⟨n - 1, by omega⟩
    have e0 : m h 0 = V 0 0 := e.1.1
    unfold qP_begin_l28
    rw [if_neg (by omega)]
    refine ⟨m, rfl, fun u g iu ig hlt => ?_, fun _ _ => rfl⟩
    by_cases hut : u = t
    · rw [hut]; exact hg g ig (by have := ig.2; omega)
    · exact hu u g iu ig (by omega)
  | succ k ih =>
    intro n m f e h1 h0 hn hu hg
    obtain ⟨n, rfl⟩ : ∃ n', n = n' + 1 := ⟨n - 1, by omega⟩
    have e0 : m h 0 = V 0 0 := e.1.1
    have e3 : m h 3 = V 0 3 := e.1.2.1
    have hf : inF V f := ⟨h0, by omega⟩
    have rin := rk_in (V := V) (t := t) hf
    have hrk : rk (hv m h) t f = rk V t f := h6rk e w ⟨ht0, by omega⟩ ⟨h0, by omega⟩
    unfold qP_begin_l28
    have c1 : 0 ≤ t ∧ t < 6 := ⟨ht0, by omega⟩
    rw [if_pos (by omega), rankFor_eq (e.wf w) (by rw [e3]; exact ht) (by rw [e0]; exact hf), sBind, hrk, if_pos c1, if_pos (show 0 ≤ f ∧ f < 6 by omega), sBind, if_pos c1, if_pos (show 0 ≤ rk V t f ∧ rk V t f < 6 by omega), sBind, wr_n (by omega) (by omega)]
    have ha : Int.toNat t < 6 := by omega
    obtain ⟨m', p1, p2, p3⟩ := ih n (st (st m (115 + t.toNat) f (rk V t f)) (122 + t.toNat) (rk V t f) f) (f + 1)
      (HEq6.trans (HEq6.of_same fun q q1 q2 => funext fun j => by rw [st_k (by omega), st_k (by omega)]) e) (by omega) (by omega) (by omega)
      (fun u g iu ig hlt => by
        have u0 := iu.1
        have ok := hu u g iu ig hlt
        unfold tabOk
        rw [st_k (show 115 + u.toNat ≠ 122 + t.toNat by omega), st_k (show 115 + u.toNat ≠ 115 + t.toNat by omega), st_k (show 122 + u.toNat ≠ 122 + t.toNat by omega), st_k (show 122 + u.toNat ≠ 115 + t.toNat by omega)]
        exact ok)
      (fun g ig hlt => by
        unfold tabOk
        rw [st_k (show 115 + t.toNat ≠ 122 + t.toNat by omega)]
        by_cases hgf : g = f
        · rw [hgf, st_at, st_at]; exact ⟨rfl, rfl⟩
        · have ok := hg g ig (by omega)
          have hne : rk V t g ≠ rk V t f := fun z => hgf (rk_inj ig hf z)
          rw [st_i hgf, st_i hne, st_k (show 122 + t.toNat ≠ 115 + t.toNat by omega)]
          exact ok)
    refine ⟨m', p1, p2, fun q hq => ?_⟩
    rw [p3 q hq]
    exact funext fun j => by rw [st_k (by omega), st_k (by omega)]
theorem begin2_l {N : Int} {V : zM} {h : Nat} (hh : h + 10 ≤ 113) (w : WF N V) : ∀ (k n : Nat) (m : zM) (t : Int), HEq6 (hv m h) V → t + k = V 0 3 → 0 ≤ t → k < n → (∀ u g, inT V u → inF V g → u < t → tabOk V m u g) →
    ∃ m', qP_begin_l18 h n m t = some m' ∧ Tab V m' ∧ ∀ q : Nat, (q < 115 ∨ 128 ≤ q) → m' q = m q := by
  have n0 := w.n0
  have n6 := w.n6
  have t6 := w.t6
  intro k
  induction k with
  | zero =>
    intro n m t e h1 h0 hn hu
    obtain ⟨n, rfl⟩ : ∃ n', n = n' + 1 := ⟨n - 1, by omega⟩
    have e3 : m h 3 = V 0 3 := e.1.2.1
    unfold qP_begin_l18
    rw [if_neg (by omega)]
    exact ⟨m, rfl, fun u g iu ig => hu u g iu ig (by have := iu.2; omega), fun _ _ => rfl⟩
  | succ k ih =>
    intro n m t e h1 h0 hn hu
    obtain ⟨n, rfl⟩ : ∃ n', n = n' + 1 := ⟨n - 1, by omega⟩
    have e3 : m h 3 = V 0 3 := e.1.2.1
    unfold qP_begin_l18
    obtain ⟨m1, p1, p2, p3⟩ := begin1_l hh w (t := t) ⟨h0, by omega⟩ (V 0 0).toNat 200 m 0 e (by omega) (by omega) (by omega) hu (fun g ig hlt => by have := ig.1; omega)
    rw [if_pos (by omega), p1, sBind, wr_n (by omega) (by omega)]
    obtain ⟨m', u1, u2, u3⟩ := ih n m1 (t + 1) (HEq6.trans (HEq6.of_same fun q q1 q2 => p3 q (by omega)) e) (by omega) (by omega) (by omega) p2
    exact ⟨m', u1, u2, fun q hq => by rw [u3 q hq, p3 q hq]⟩
theorem begin_eq {N : Int} {V μ : zM} {h : Nat} (hh : h + 10 ≤ 113) (w : WF N V) (e : HEq6 (hv μ h) V) : ∃ m, qP_begin μ h = some m ∧ Tab V m ∧ (∀ j, 0 ≤ j → j < 6 → m 128 j = -1 ∧ m 129 j = -1) ∧ ∀ q : Nat, (q < 115 ∨ 130 ≤ q) → m q = μ q := by
  have t0 := w.t0
  have t6 := w.t6
  unfold qP_begin
  rw [fill_eq (by decide), sBind, fill_eq (by decide), sBind]
  obtain ⟨m, p1, p2, p3⟩ := begin2_l hh w (V 0 3).toNat 200 (fl (fl μ 128 (6 : Nat) (-1)) 129 (6 : Nat) (-1)) 0 (HEq6.trans (HEq6.of_same fun q q1 q2 => by rw [fl_k (by omega), fl_k (by omega)]) e) (by omega) (by omega) (by omega) (fun u g iu ig hlt => by have := iu.1; omega)
  refine ⟨m, by rw [p1, sBind], p2, fun j j0 j6 => ⟨?_, ?_⟩, fun q hq => ?_⟩
  · rw [p3 128 (by omega), fl_k (by decide), fl_at (n := ((6 : Nat) : Int)) ⟨j0, by omega⟩]
  · rw [p3 129 (by omega), fl_at (n := ((6 : Nat) : Int)) ⟨j0, by omega⟩]
  · rw [p3 q (by omega), fl_k (by omega), fl_k (by omega)]
/-- what the record of holders says of the plan -/
def Hold (V : zM) (p o : Int → Int) : Prop := ∀ f, inF V f → (o f = -1 ∧ ∀ t, inT V t → p t ≠ f) ∨ (inT V (o f) ∧ p (o f) = f)
theorem refused_eq {N : Int} {V m : zM} {h : Nat} {t : Int} (hh : h + 10 ≤ 113) (w : WF N V) (e : HEq6 (hv m h) V) (tb : Tab V m) (ak : Ask V (m 128) (m 130)) (ho : Hold V (m 128) (m 129)) (ht : inT V t) (hp : m 128 t = -1) :
    (m 130 t = V 0 0 ∧ qP_refusedAfterAsking m h t = some (-1, m)) ∨
    ∃ r m', m 130 t < V 0 0 ∧ qP_refusedAfterAsking m h t = some (r, m') ∧ Ask V (m' 128) (m' 130) ∧ Hold V (m' 128) (m' 129) ∧ (∀ q : Nat, q ≠ 128 → q ≠ 129 → q ≠ 130 → m' q = m q) ∧
      m' 130 t = m 130 t + 1 ∧ (∀ u, u ≠ t → m' 130 u = m 130 u) ∧ (∀ u, u ≠ t → u ≠ r → m' 128 u = m 128 u) ∧ (r = t ∨ m' 128 t ≠ -1) ∧ (r = -1 ∨ (inT V r ∧ m' 128 r = -1 ∧ (r = t ∨ m 128 r ≠ -1))) := by
  have n0 := w.n0
  have n6 := w.n6
  have t6 := w.t6
  have ht0 := ht.1
  have ht1 := ht.2
  have e0 : m h 0 = V 0 0 := e.1.1
  have ain := ak.1 t ht
  have c : 0 ≤ t ∧ t < 6 := by omega
  unfold qP_refusedAfterAsking
  rw [if_pos c, e0]
  by_cases ha : m 130 t < V 0 0
  case neg =>
    rw [if_neg ha]
    exact Or.inl ⟨by omega, rfl⟩
  right
  obtain ⟨f, hf, hfr⟩ := rk_sur (V := V) (t := t) (r := m 130 t) n0 ain.1 ha
  have hfo : m (122 + t.toNat) (m 130 t) = f := by rw [← hfr]; exact (tb t f ht hf).2
  have hf0 := hf.1
  have hf1 := hf.2
  have e7 : m (h + 7) t = V 7 t := e.tok (k := 7) (by decide) c
  have e2 : m (h + 2) f = V 2 f := e.tok (k := 2) (by decide) ⟨hf0, by omega⟩
  have cf : 0 ≤ f ∧ f < 6 := by omega
  rw [if_pos ha, if_pos c, if_pos c, if_pos (show 0 ≤ m 130 t ∧ m 130 t < 6 by omega), if_pos c, if_pos c, sBind, hfo, if_pos cf, wr_n (by omega) (by omega), canAfford_eq c cf, sBind, st_k (show h + 7 ≠ 130 by omega), st_k (show h + 2 ≠ 130 by omega), e7, e2, st_k (show (129 : Nat) ≠ 130 by decide)]
  generalize hm1 : st m 130 t (m 130 t + 1) = m1
  have a1 : m1 130 t = m 130 t + 1 := by rw [← hm1, st_at]
  have a2 : ∀ u, u ≠ t → m1 130 u = m 130 u := fun u hu => by rw [← hm1, st_i hu]
  have a3 : ∀ q : Nat, q ≠ 130 → m1 q = m q := fun q hq => by rw [← hm1]; exact funext fun j => st_k hq
  have cs : 0 ≤ f ∧ f < 6 := cf
  by_cases haf : V 7 t < V 2 f
  · rw [if_pos haf, if_pos rfl]
    refine ⟨t, m1, ha, rfl, ask_step ak ht hp hf hfr a1 a2 (Or.inl ⟨haf, fun u _ => by rw [a3 128 (by decide)]⟩), by rw [a3 128 (by decide), a3 129 (by decide)]; exact ho, fun q _ _ h3 => a3 q h3, a1, a2, fun u _ _ => by rw [a3 128 (by decide)], Or.inl rfl, Or.inr ⟨ht, by rw [a3 128 (by decide)]; exact hp, Or.inl rfl⟩⟩
  rw [if_neg haf, if_neg (show ¬ (1 : Int) = 0 by decide)]
  rcases ho f hf with ⟨o1, o2⟩ | ⟨o1, o2⟩
  · rw [o1, if_pos rfl]
    unfold qP_refusedAfterAsking_j74 qP_refusedAfterAsking_j88
    rw [if_pos rfl, if_pos cf, sBind, if_pos c, sBind]
    have q128 : ∀ u, u ≠ t → st (st m1 129 f t) 128 t f 128 u = m 128 u := fun u hu => by rw [st_i hu, st_k (by decide), a3 128 (by decide)]
    have q129 : ∀ g, g ≠ f → st (st m1 129 f t) 128 t f 129 g = m 129 g := fun g hg => by rw [st_k (by decide), st_i hg, a3 129 (by decide)]
    have q130 : st (st m1 129 f t) 128 t f 130 = m1 130 := funext fun j => by rw [st_k (by decide), st_k (by decide)]
    refine ⟨-1, st (st m1 129 f t) 128 t f, ha, rfl, ask_step ak ht hp hf hfr (by rw [q130]; exact a1) (fun u hu => by rw [q130]; exact a2 u hu) (Or.inr (Or.inl ⟨haf, o2, st_at, q128⟩)), fun g hg => ?_, fun q h1 h2 h3 => ?_, by rw [q130]; exact a1, fun u hu => by rw [q130]; exact a2 u hu, fun u hu _ => q128 u hu, Or.inr (by rw [st_at]; omega), Or.inl rfl⟩
    · by_cases hgf : g = f
      · rw [hgf]
        right
        rw [st_k (show (129 : Nat) ≠ 128 by decide), st_at]
        exact ⟨ht, st_at⟩
      · rw [q129 g hgf]
        rcases ho g hg with ⟨x1, x2⟩ | ⟨x1, x2⟩
        · refine Or.inl ⟨x1, fun u hu => ?_⟩
          by_cases hut : u = t
          · rw [hut, st_at]; exact fun z => hgf z.symm
          · rw [q128 u hut]; exact x2 u hu
        · have hne : m 129 g ≠ t := fun z => by rw [z, hp] at x2; have := hg.1; omega
          exact Or.inr ⟨x1, by rw [q128 _ hne]; exact x2⟩
    · rw [← a3 q h3]; exact funext fun j => by rw [st_k h1, st_k h2]
  · have hu0 := o1.1
    have hu1 := o1.2
    have hut : m 129 f ≠ t := fun z => by rw [z, hp] at o2; omega
    generalize hu : m 129 f = u at o1 o2 hu0 hu1 hut
    have cu : 0 ≤ u ∧ u < 6 := by omega
    have e1 : HEq6 (hv m1 h) V := HEq6.trans (HEq6.of_same fun q q1 q2 => a3 q (by omega)) e
    rw [if_neg (show ¬ u = -1 by omega), isPreferredTo_eq cu c, sBind]
    have hpr := h6pr e1 cu c
    by_cases hq : pr (hv m1 h) u t
    · rw [if_pos hq, if_neg (show ¬ (1 : Int) = 0 by decide)]
      refine ⟨t, m1, ha, rfl, ask_step ak ht hp hf hfr a1 a2 (Or.inr (Or.inr ⟨haf, u, o1, o2, Or.inl ⟨hpr.mp hq, fun x _ => by rw [a3 128 (by decide)]⟩⟩)), by rw [a3 128 (by decide), a3 129 (by decide)]; exact ho, fun q _ _ h3 => a3 q h3, a1, a2, fun x _ _ => by rw [a3 128 (by decide)], Or.inl rfl, Or.inr ⟨ht, by rw [a3 128 (by decide)]; exact hp, Or.inl rfl⟩⟩
    · rw [if_neg hq, if_pos rfl]
      unfold qP_refusedAfterAsking_j74 qP_refusedAfterAsking_j88
      rw [if_neg (show ¬ u = -1 by omega), if_pos cu, sBind, if_pos cf, sBind, if_pos c, sBind]
      generalize hm' : st (st (st m1 128 u (-1)) 129 f t) 128 t f = m'
      have b128 : m' 128 t = f := by rw [← hm', st_at]
      have b128u : m' 128 u = -1 := by rw [← hm', st_i hut, st_k (by decide), st_at]
      have q128 : ∀ x, x ≠ t → x ≠ u → m' 128 x = m 128 x := fun x hx hxu => by rw [← hm', st_i hx, st_k (by decide), st_i hxu, a3 128 (by decide)]
      have q129 : ∀ g, g ≠ f → m' 129 g = m 129 g := fun g hg => by rw [← hm', st_k (by decide), st_i hg, st_k (by decide), a3 129 (by decide)]
      have b129 : m' 129 f = t := by rw [← hm', st_k (by decide), st_at]
      have q130 : m' 130 = m1 130 := by rw [← hm']; exact funext fun j => by rw [st_k (by decide), st_k (by decide), st_k (by decide)]
      refine ⟨u, m', ha, rfl, ask_step ak ht hp hf hfr (by rw [q130]; exact a1) (fun x hx => by rw [q130]; exact a2 x hx) (Or.inr (Or.inr ⟨haf, u, o1, o2, Or.inr ⟨fun z => hq (hpr.mpr z), b128, b128u, q128⟩⟩)), fun g hg => ?_, fun q h1 h2 h3 => ?_, by rw [q130]; exact a1, fun x hx => by rw [q130]; exact a2 x hx, q128, Or.inr (by rw [b128]; omega), Or.inr ⟨o1, b128u, Or.inr (by rw [o2]; omega)⟩⟩
      · by_cases hgf : g = f
        · rw [hgf, b129]
          exact Or.inr ⟨ht, b128⟩
        · rw [q129 g hgf]
          rcases ho g hg with ⟨x1, x2⟩ | ⟨x1, x2⟩
          · refine Or.inl ⟨x1, fun x hx => ?_⟩
            by_cases hxt : x = t
            · rw [hxt, b128]; exact fun z => hgf z.symm
            · by_cases hxu : x = u
              · rw [hxu, b128u]; have := hg.1; omega
              · rw [q128 x hxt hxu]; exact x2 x hx
          · have hne : m 129 g ≠ t := fun z => by rw [z, hp] at x2; have := hg.1; omega
            have hne2 : m 129 g ≠ u := fun z => hgf (by rw [z] at x2; exact x2.symm.trans o2)
            exact Or.inr ⟨x1, by rw [q128 _ hne hne2]; exact x2⟩
      · rw [← hm', ← a3 q h3]; exact funext fun j => by rw [st_k h1, st_k h2, st_k h1]
theorem asking1_l {N : Int} {V : zM} {h : Nat} {v : Int} (hh : h + 10 ≤ 113) (w : WF N V) : ∀ (k n : Nat) (m : zM) (t i : Int), i + k = 36 → 0 ≤ i → k < n → HEq6 (hv m h) V → Tab V m → Ask V (m 128) (m 130) → Hold V (m 128) (m 129) → ps2 V (m 130) ≤ k →
    (t = -1 ∨ (inT V t ∧ t ≤ v ∧ m 128 t = -1)) → (∀ u, inT V u → u ≠ t → u ≤ v → m 128 u ≠ -1 ∨ m 130 u = V 0 0) → (∀ u, inT V u → v < u → m 128 u = -1) →
    ∃ m', qP_planByAsking_l28 h v n m t i = some m' ∧ Ask V (m' 128) (m' 130) ∧ Hold V (m' 128) (m' 129) ∧ (∀ q : Nat, q ≠ 128 → q ≠ 129 → q ≠ 130 → m' q = m q) ∧ (∀ u, inT V u → u ≤ v → m' 128 u ≠ -1 ∨ m' 130 u = V 0 0) ∧ (∀ u, inT V u → v < u → m' 128 u = -1) := by
  have t0 := w.t0
  have t6 := w.t6
  have n6 := w.n6
  intro k
  induction k with
  | zero =>
    intro n m t i h1 h0 hn e tb ak ho hp ht hd hz
    obtain ⟨n, rfl⟩ : ∃ n', n = n' + 1 := ⟨n - 1, by omega⟩
    unfold qP_planByAsking_l28
    rw [if_neg (by omega)]
    refine ⟨m, rfl, ak, ho, fun _ _ _ _ => rfl, fun u iu huv => ?_, hz⟩
    exact Or.inr (ps2_0 ak (by omega) iu)
  | succ k ih =>
    intro n m t i h1 h0 hn e tb ak ho hp ht hd hz
    obtain ⟨n, rfl⟩ : ∃ n', n = n' + 1 := ⟨n - 1, by omega⟩
    unfold qP_planByAsking_l28
    rw [if_pos (by omega)]
    by_cases htm : t = -1
    · rw [if_pos htm]
      refine ⟨m, rfl, ak, ho, fun _ _ _ _ => rfl, fun u iu huv => hd u iu (by have := iu.1; omega) huv, hz⟩
    rw [if_neg htm]
    obtain ⟨it, htv, hpt⟩ := ht.resolve_left htm
    rcases refused_eq hh w e tb ak ho it hpt with ⟨x1, x2⟩ | ⟨r, m1, x0, x1, x2, x3, x4, x5, x6, x7, x8, x9⟩
    · rw [x2, sBnd2, wr_n (by omega) (by omega)]
      obtain ⟨n, rfl⟩ : ∃ n', n = n' + 1 := ⟨n - 1, by omega⟩
      unfold qP_planByAsking_l28
      have hd2 : ∀ u, inT V u → u ≤ v → m 128 u ≠ -1 ∨ m 130 u = V 0 0 := fun u iu huv => by
        by_cases hut : u = t
        · rw [hut]; exact Or.inr x1
        · exact hd u iu hut huv
      by_cases h36 : i + 1 < 36
      · rw [if_pos h36, if_pos rfl]
        exact ⟨m, rfl, ak, ho, fun _ _ _ _ => rfl, hd2, hz⟩
      · rw [if_neg h36]
        exact ⟨m, rfl, ak, ho, fun _ _ _ _ => rfl, hd2, hz⟩
    · rw [x1, sBnd2, wr_n (by omega) (by omega)]
      have hps := ps2_step (V := V) it x5 x6
      have hrv : r = -1 ∨ (inT V r ∧ r ≤ v ∧ m1 128 r = -1) := by
        rcases x9 with y | ⟨y1, y2, y3⟩
        · exact Or.inl y
        · refine Or.inr ⟨y1, ?_, y2⟩
          rcases y3 with y3 | y3
          · omega
          · by_cases hrv : r ≤ v
            · exact hrv
            · exact absurd (hz r y1 (by omega)) y3
      obtain ⟨m', p1, p2, p3, p4, p5, p6⟩ := ih n m1 r (i + 1) (by omega) (by omega) (by omega) (HEq6.trans (HEq6.of_same fun q q1 q2 => x4 q (by omega) (by omega) (by omega)) e)
        (fun u f iu jf => by
          have u0 := iu.1
          have u1 := iu.2
          have ok := tb u f iu jf
          unfold tabOk at ok ⊢
          rw [x4 _ (by omega) (by omega) (by omega), x4 _ (by omega) (by omega) (by omega)]
          exact ok) x2 x3 (by omega) hrv
        (fun u iu hur huv => by
          by_cases hut : u = t
          · rw [hut] at hur ⊢
            rcases x8 with y | y
            · exact absurd y.symm hur
            · exact Or.inl y
          · rw [x7 u hut hur, x6 u hut]
            exact hd u iu hut huv)
        (fun u iu hvu => by
          have hur : u ≠ r := fun z => by
            rcases hrv with y | y
            · have := iu.1; omega
            · omega
          rw [x7 u (by omega) hur]
          exact hz u iu hvu)
      exact ⟨m', p1, p2, p3, fun q q1 q2 q3 => by rw [p4 q q1 q2 q3, x4 q q1 q2 q3], p5, p6⟩
theorem asking2_l {N : Int} {V : zM} {h : Nat} (hh : h + 10 ≤ 113) (w : WF N V) : ∀ (k n : Nat) (m : zM) (v : Int), v + k = V 0 3 → 0 ≤ v → k < n → HEq6 (hv m h) V → Tab V m → Ask V (m 128) (m 130) → Hold V (m 128) (m 129) →
    (∀ u, inT V u → u < v → m 128 u ≠ -1 ∨ m 130 u = V 0 0) → (∀ u, inT V u → v ≤ u → m 128 u = -1) →
    ∃ m', qP_planByAsking_l15 h n m v = some m' ∧ Stb V (m' 128) ∧ Tab V m' ∧ Hold V (m' 128) (m' 129) ∧ (∀ q : Nat, q ≠ 128 → q ≠ 129 → q ≠ 130 → m' q = m q) := by
  have t0 := w.t0
  have t6 := w.t6
  have n6 := w.n6
  intro k
  induction k with
  | zero =>
    intro n m v h1 h0 hn e tb ak ho hd hz
    obtain ⟨n, rfl⟩ : ∃ n', n = n' + 1 := ⟨n - 1, by omega⟩
    have e3 : m h 3 = V 0 3 := e.1.2.1
    unfold qP_planByAsking_l15
    rw [if_neg (by omega)]
    exact ⟨m, rfl, ask_fin ak fun u iu => hd u iu (by have := iu.2; omega), tb, ho, fun _ _ _ _ => rfl⟩
  | succ k ih =>
    intro n m v h1 h0 hn e tb ak ho hd hz
    obtain ⟨n, rfl⟩ : ∃ n', n = n' + 1 := ⟨n - 1, by omega⟩
    have e3 : m h 3 = V 0 3 := e.1.2.1
    unfold qP_planByAsking_l15
    have hps := ps2_in t0 t6 n6 ak
    obtain ⟨m1, p1, p2, p3, p4, p5, p6⟩ := asking1_l (v := v) hh w 36 200 m v 0 (by omega) (by omega) (by omega) e tb ak ho (by omega) (Or.inr ⟨⟨h0, by omega⟩, Int.le_refl _, hz v ⟨h0, by omega⟩ (Int.le_refl _)⟩)
      (fun u iu huv hle => hd u iu (by omega)) (fun u iu hlt => hz u iu (by omega))
    rw [if_pos (by omega), p1, sBind, wr_n (by omega) (by omega)]
    obtain ⟨m', u1, u2, u3, u4, u5⟩ := ih n m1 (v + 1) (by omega) (by omega) (by omega) (HEq6.trans (HEq6.of_same fun q q1 q2 => p4 q (by omega) (by omega) (by omega)) e)
      (fun u f iu jf => by
        have u0 := iu.1
        have u1 := iu.2
        have ok := tb u f iu jf
        unfold tabOk at ok ⊢
        rw [p4 _ (by omega) (by omega) (by omega), p4 _ (by omega) (by omega) (by omega)]
        exact ok) p2 p3 (fun u iu hlt => p5 u iu (by omega)) (fun u iu hle => p6 u iu (by omega))
    exact ⟨m', u1, u2, u3, u4, fun q q1 q2 q3 => by rw [u5 q q1 q2 q3, p4 q q1 q2 q3]⟩
theorem planByAsking_eq {N : Int} {V μ : zM} {h : Nat} (hh : h + 10 ≤ 113) (w : WF N V) (e : HEq6 (hv μ h) V) : ∃ m, qP_planByAsking μ h = some m ∧ Stb V (m 128) ∧ ∀ q : Nat, (q < 115 ∨ 131 ≤ q) → m q = μ q := by
  have n0 := w.n0
  have t0 := w.t0
  have t6 := w.t6
  have n6 := w.n6
  unfold qP_planByAsking
  obtain ⟨m1, p1, p2, p3, p4⟩ := begin_eq hh w e
  rw [p1, sBind, fill_eq (by decide), sBind]
  generalize hm2 : fl m1 130 (6 : Nat) 0 = m2
  have k2 : ∀ q : Nat, q ≠ 130 → m2 q = m1 q := fun q hq => by rw [← hm2, fl_k hq]
  have z130 : ∀ u, inT V u → m2 130 u = 0 := fun u iu => by
    have := iu.1
    have := iu.2
    rw [← hm2, fl_at (by omega)]
  have z128 : ∀ u, inT V u → m2 128 u = -1 := fun u iu => by
    have := iu.2
    rw [k2 128 (by decide)]; exact (p3 u iu.1 (by omega)).1
  obtain ⟨m, u1, u2, u3, u4, u5⟩ := asking2_l hh w (V 0 3).toNat 200 m2 0 (by omega) (by omega) (by omega) (HEq6.trans (HEq6.of_same fun q q1 q2 => by rw [k2 q (by omega), p4 q (by omega)]) e)
    (fun u f iu jf => by
      have u0 := iu.1
      have u1 := iu.2
      have ok := p2 u f iu jf
      unfold tabOk at ok ⊢
      rw [k2 _ (by omega), k2 _ (by omega)]
      exact ok) (ask_0 n0 z128 z130)
    (fun f jf => Or.inl ⟨by have := jf.2; rw [k2 129 (by decide)]; exact (p3 f jf.1 (by omega)).2, fun u iu => by rw [z128 u iu]; have := jf.1; omega⟩)
    (fun u iu hlt => by have := iu.1; omega) (fun u iu _ => z128 u iu)
  exact ⟨m, by rw [u1, sBind], u2, fun q hq => by rw [u5 q (by omega) (by omega) (by omega), k2 q (by omega), p4 q (by omega)]⟩
