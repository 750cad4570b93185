/-! ===== B: the model plans by asking ===== -/
theorem plannedIn_l {m : zM} {f : Int} (h6 : m 143 1 ≤ 6) : ∀ (k n : Nat) (i : Int), i + k = m 143 1 → 0 ≤ i → k < n → qM_plannedIn_l2 m f n i = some (if fi (m 148) f k i = -1 then .inr () else .inl (fi (m 148) f k i)) := by
  intro k
  induction k with
  | zero =>
    intro n i h1 h0 hn
    obtain ⟨n, rfl⟩ : ∃ n', n = n' + 1 := ⟨n - 1, by omega⟩
    unfold qM_plannedIn_l2 fi
    rw [if_neg (by omega), if_pos rfl]
  | succ k ih =>
    intro n i h1 h0 hn
    obtain ⟨n, rfl⟩ : ∃ n', n = n' + 1 := ⟨n - 1, by omega⟩
    unfold qM_plannedIn_l2 fi
    rw [if_pos (by omega), if_pos (by omega)]
    by_cases hw : m 148 i = f
    · rw [if_pos hw, if_pos hw, if_neg (show ¬ i = -1 by omega)]
    · rw [if_neg hw, if_neg hw, wr_n (by omega) (by omega)]
      exact ih n (i + 1) (by omega) (by omega) (by omega)
theorem plannedIn_eq {m : zM} {f : Int} (h0 : 0 ≤ m 143 1) (h6 : m 143 1 ≤ 6) : qM_plannedIn m f = some (fi (m 148) f (m 143 1).toNat 0) := by
  unfold qM_plannedIn
  rw [plannedIn_l h6 (m 143 1).toNat 200 0 (by omega) (by omega) (by omega)]
  by_cases hf : fi (m 148) f (m 143 1).toNat 0 = -1
  · rw [if_pos hf, sBndSr, hf]
  · rw [if_neg hf, sBndSl]
theorem asks_eq {N : Int} {V m : zM} {t : Int} (w : WF N V) (r : RowIs (m 143) V) (ak : Ask V (m 148) (m 149)) (ht : inT V t) :
    (qM_asks m t = some (0, m) ∧ (m 148 t ≠ -1 ∨ m 149 t = V 0 0)) ∨
    ∃ m', qM_asks m t = some (1, m') ∧ Ask V (m' 148) (m' 149) ∧ (∀ q : Nat, q ≠ 148 → q ≠ 149 → m' q = m q) ∧ ps2 V (m' 149) = ps2 V (m 149) - 1 := by
  have n0 := w.n0
  have n6 := w.n6
  have t0 := w.t0
  have t6 := w.t6
  have rn := r.n
  have rt := r.t
  have ht0 := ht.1
  have ht1 := ht.2
  have ain := ak.1 t ht
  have c : 0 ≤ t ∧ t < 6 := by omega
  unfold qM_asks
  rw [if_pos c]
  by_cases hp : m 148 t < 0
  case neg =>
    rw [if_neg hp]
    exact Or.inl ⟨rfl, Or.inl (by omega)⟩
  have hpt : m 148 t = -1 := by
    rcases ak.2.1 t ht with z | z
    · exact z
    · have := z.1.1; omega
  rw [if_pos hp, if_pos c, rn]
  by_cases ha : m 149 t = V 0 0
  · rw [if_pos ha]
    exact Or.inl ⟨rfl, Or.inr ha⟩
  right
  obtain ⟨f0, hf, hfr⟩ := rk_sur (V := V) (t := t) (r := m 149 t) n0 ain.1 (by omega)
  have hfs := fi_spec (w := fun f => rk V t f) (v := m 149 t) (V 0 0).toNat 0 (by omega)
  have hfa : fAt V t (m 149 t) = f0 := by
    unfold fAt
    rcases hfs with ⟨x1, x2, x3⟩ | ⟨x1, x2⟩
    · exact rk_inj ⟨x1, by omega⟩ hf (x3.trans hfr.symm)
    · exact absurd hfr (x2 f0 hf.1 (by have := hf.2; omega))
  have hf0 := hf.1
  have hf1 := hf.2
  rw [if_neg ha, if_pos c, flatAt_eq w r ht, sBind, hfa, if_pos c, if_pos c, sBind, wr_n (by omega) (by omega)]
  generalize hm1 : st m 149 t (m 149 t + 1) = m1
  have a1 : m1 149 t = m 149 t + 1 := by rw [← hm1, st_at]
  have a2 : ∀ u, u ≠ t → m1 149 u = m 149 u := fun u hu => by rw [← hm1, st_i hu]
  have a3 : ∀ q : Nat, q ≠ 149 → m1 q = m q := fun q hq => by rw [← hm1]; exact funext fun j => st_k hq
  have r1 : RowIs (m1 143) V := by rw [a3 143 (by decide)]; exact r
  rw [affords_eq r1 ht t6 hf n6, sBind, plannedIn_eq (by rw [r1.t]; exact t0) (by rw [r1.t]; exact t6), sBind, r1.t, a3 148 (by decide)]
  have hps : ∀ m' : zM, m' 149 = m1 149 → ps2 V (m' 149) = ps2 V (m 149) - 1 := fun m' h => by rw [h]; exact ps2_step ht a1 a2
  by_cases haf : V 7 t < V 2 f0
  · rw [if_pos haf, if_pos rfl]
    exact ⟨m1, rfl, ask_step ak ht hpt hf hfr a1 a2 (Or.inl ⟨haf, fun u _ => by rw [a3 148 (by decide)]⟩), fun q _ q2 => a3 q q2, hps m1 rfl⟩
  rw [if_neg haf, if_neg (show ¬ (1 : Int) = 0 by decide)]
  have hus := fi_spec (w := m 148) (v := f0) (V 0 3).toNat 0 (by omega)
  generalize fi (m 148) f0 (V 0 3).toNat 0 = u at hus
  by_cases hu : u = -1
  · have hno : ∀ x, inT V x → m 148 x ≠ f0 := fun x hx => by
      rcases hus with y | y
      · omega
      · exact y.2 x hx.1 (by have := hx.2; omega)
    rw [if_pos (by omega)]
    unfold qM_asks_j80 qM_asks_j91
    rw [if_pos (by omega), if_pos c, sBind]
    exact ⟨st m1 148 t f0, rfl, ask_step ak ht hpt hf hfr (by rw [st_k (by decide)]; exact a1) (fun x hx => by rw [st_k (by decide)]; exact a2 x hx) (Or.inr (Or.inl ⟨haf, hno, st_at, fun x hx => by rw [st_i hx, a3 148 (by decide)]⟩)), fun q q1 q2 => by rw [← a3 q q2]; exact funext fun j => st_k q1, hps _ (funext fun j => st_k (by decide))⟩
  · have hus2 : inT V u ∧ m 148 u = f0 := by
      rcases hus with y | y
      · exact ⟨⟨y.1, by omega⟩, y.2.2⟩
      · exact absurd y.1 hu
    obtain ⟨o1, o2⟩ := hus2
    have hu0 := o1.1
    have hu1 := o1.2
    have hut : u ≠ t := fun z => by rw [z, hpt] at o2; omega
    rw [if_neg (by omega), isPreferred_eq w r1 o1 ht, sBind]
    by_cases hq : pr V u t
    · rw [if_pos hq, if_neg (show ¬ (1 : Int) = 0 by decide)]
      exact ⟨m1, rfl, ask_step ak ht hpt hf hfr a1 a2 (Or.inr (Or.inr ⟨haf, u, o1, o2, Or.inl ⟨hq, fun x _ => by rw [a3 148 (by decide)]⟩⟩)), fun q _ q2 => a3 q q2, hps m1 rfl⟩
    · rw [if_neg hq, if_pos rfl]
      unfold qM_asks_j80 qM_asks_j91
      rw [if_neg (show ¬ u < 0 by omega), if_pos (show 0 ≤ u ∧ u < 6 by omega), sBind, if_pos c, sBind]
      exact ⟨st (st m1 148 u (-1)) 148 t f0, rfl, ask_step ak ht hpt hf hfr (by rw [st_k (by decide), st_k (by decide)]; exact a1) (fun x hx => by rw [st_k (by decide), st_k (by decide)]; exact a2 x hx) (Or.inr (Or.inr ⟨haf, u, o1, o2, Or.inr ⟨hq, st_at, by rw [st_i hut, st_at], fun x hx hxu => by rw [st_i hx, st_i hxu, a3 148 (by decide)]⟩⟩)), fun q q1 q2 => by rw [← a3 q q2]; exact funext fun j => by rw [st_k q1, st_k q1], hps _ (funext fun j => by rw [st_k (by decide), st_k (by decide)])⟩
theorem finds0_l {μ : zM} : ∀ (k n : Nat) (i : Int) (m : zM), i + k = 6 → 0 ≤ i → (∀ q : Nat, q ≠ 148 → q ≠ 149 → m q = μ q) → (∀ j, 0 ≤ j → j < i → m 148 j = -1 ∧ m 149 j = 0) → k < n → ∃ m', qM_findsPlan_l2 n m i = some m' ∧ (∀ q : Nat, q ≠ 148 → q ≠ 149 → m' q = μ q) ∧ (∀ j, 0 ≤ j → j < 6 → m' 148 j = -1 ∧ m' 149 j = 0) := by
  intro k
  induction k with
  | zero =>
    intro n i m h1 h0 hq hz hn
    obtain ⟨n, rfl⟩ : ∃ n', n = n' + 1 := ⟨n - 1, by omega⟩
    unfold qM_findsPlan_l2
    rw [if_neg (by omega)]
    exact ⟨m, rfl, hq, fun j j0 j6 => hz j j0 (by omega)⟩
  | succ k ih =>
    intro n i m h1 h0 hq hz hn
    obtain ⟨n, rfl⟩ : ∃ n', n = n' + 1 := ⟨n - 1, by omega⟩
    have c : 0 ≤ i ∧ i < 6 := by omega
    unfold qM_findsPlan_l2
    rw [if_pos (by omega), if_pos c, sBind, if_pos c, sBind, wr_n (by omega) (by omega)]
    refine ih n (i + 1) _ (by omega) (by omega) (fun q h2 h3 => by rw [← hq q h2 h3]; exact funext fun j => by rw [st_k h3, st_k h2]) (fun j j0 j1 => ?_) (by omega)
    by_cases hj : j = i
    · rw [hj, st_at, st_k (by decide), st_at]; exact ⟨rfl, rfl⟩
    · have hz9 := hz j j0 (by omega)
      exact ⟨by rw [st_k (by decide), st_i hj]; exact hz9.1, by rw [st_i hj, st_k (by decide)]; exact hz9.2⟩
theorem finds1_l {N : Int} {V : zM} (w : WF N V) : ∀ (k n : Nat) (m : zM) (v t : Int), t + k = V 0 3 → 0 ≤ t → k < n → (v = 0 ∨ v = 1) → RowIs (m 143) V → Ask V (m 148) (m 149) →
    ∃ g m', qM_findsPlan_l38 n m v t = some (g, m') ∧ Ask V (m' 148) (m' 149) ∧ (∀ q : Nat, q ≠ 148 → q ≠ 149 → m' q = m q) ∧
      ((g = 0 ∧ v = 0 ∧ m' = m ∧ ∀ u, inT V u → t ≤ u → m 148 u ≠ -1 ∨ m 149 u = V 0 0) ∨ (g = 1 ∧ ((v = 1 ∧ ps2 V (m' 149) ≤ ps2 V (m 149)) ∨ ps2 V (m' 149) ≤ ps2 V (m 149) - 1))) := by
  have t6 := w.t6
  intro k
  induction k with
  | zero =>
    intro n m v t h1 h0 hn hv9 r ak
    obtain ⟨n, rfl⟩ : ∃ n', n = n' + 1 := ⟨n - 1, by omega⟩
    have rt := r.t
    unfold qM_findsPlan_l38
    rw [if_neg (by omega)]
    refine ⟨v, m, rfl, ak, fun _ _ _ => rfl, ?_⟩
    rcases hv9 with rfl | rfl
    · exact Or.inl ⟨rfl, rfl, rfl, fun u iu hle => by have := iu.2; omega⟩
    · exact Or.inr ⟨rfl, Or.inl ⟨rfl, Int.le_refl _⟩⟩
  | succ k ih =>
    intro n m v t h1 h0 hn hv9 r ak
    obtain ⟨n, rfl⟩ : ∃ n', n = n' + 1 := ⟨n - 1, by omega⟩
    have rt := r.t
    have it : inT V t := ⟨h0, by omega⟩
    unfold qM_findsPlan_l38
    rw [if_pos (by omega), wr_n (by omega) (by omega)]
    rcases asks_eq w r ak it with ⟨x1, x2⟩ | ⟨m1, x1, x2, x3, x4⟩
    · rw [x1, sBnd2, if_pos rfl]
      rcases hv9 with rfl | rfl
      · rw [if_pos rfl]
        obtain ⟨g, m', u1, u2, u3, u4⟩ := ih n m 0 (t + 1) (by omega) (by omega) (by omega) (Or.inl rfl) r ak
        refine ⟨g, m', u1, u2, u3, ?_⟩
        rcases u4 with ⟨y1, y2, y3, y4⟩ | ⟨y1, y2⟩
        · refine Or.inl ⟨y1, rfl, y3, fun u iu hle => ?_⟩
          by_cases hut : u = t
          · rw [hut]; exact x2
          · exact y4 u iu (by omega)
        · exact Or.inr ⟨y1, by omega⟩
      · rw [if_neg (by decide)]
        obtain ⟨g, m', u1, u2, u3, u4⟩ := ih n m 1 (t + 1) (by omega) (by omega) (by omega) (Or.inr rfl) r ak
        refine ⟨g, m', u1, u2, u3, Or.inr ?_⟩
        rcases u4 with ⟨y1, y2, y3, y4⟩ | ⟨y1, y2⟩
        · omega
        · exact ⟨y1, by omega⟩
    · rw [x1, sBnd2, if_neg (show ¬ (1 : Int) = 0 by decide)]
      obtain ⟨g, m', u1, u2, u3, u4⟩ := ih n m1 1 (t + 1) (by omega) (by omega) (by omega) (Or.inr rfl) (by rw [x3 143 (by decide) (by decide)]; exact r) x2
      refine ⟨g, m', u1, u2, fun q q1 q2 => by rw [u3 q q1 q2, x3 q q1 q2], Or.inr ?_⟩
      rcases u4 with ⟨y1, y2, y3, y4⟩ | ⟨y1, y2⟩
      · omega
      · exact ⟨y1, by omega⟩
theorem finds2_l {N : Int} {V : zM} (w : WF N V) : ∀ (k n : Nat) (m : zM), ps2 V (m 149) ≤ k → k + 1 < n → RowIs (m 143) V → Ask V (m 148) (m 149) →
    ∃ m', qM_findsPlan_l30 n m 1 = some m' ∧ Stb V (m' 148) ∧ (∀ q : Nat, q ≠ 148 → q ≠ 149 → m' q = m q) := by
  have t0 := w.t0
  have t6 := w.t6
  have n6 := w.n6
  intro k
  induction k with
  | zero =>
    intro n m hp hn r ak
    obtain ⟨n, rfl⟩ : ∃ n', n = n' + 1 := ⟨n - 1, by omega⟩
    obtain ⟨n, rfl⟩ : ∃ n', n = n' + 1 := ⟨n - 1, by omega⟩
    unfold qM_findsPlan_l30
    rw [if_neg (by decide)]
    obtain ⟨g, m', u1, u2, u3, u4⟩ := finds1_l w (V 0 3).toNat 200 m 0 0 (by omega) (by omega) (by omega) (Or.inl rfl) r ak
    rw [u1, sBnd2]
    have hp2 := ps2_in t0 t6 n6 u2
    rcases u4 with ⟨y1, y2, y3, y4⟩ | ⟨y1, y2⟩
    · rw [y1]
      unfold qM_findsPlan_l30
      rw [if_pos rfl]
      exact ⟨m', rfl, by rw [y3]; exact ask_fin ak fun u iu => y4 u iu iu.1, u3⟩
    · omega
  | succ k ih =>
    intro n m hp hn r ak
    obtain ⟨n, rfl⟩ : ∃ n', n = n' + 1 := ⟨n - 1, by omega⟩
    unfold qM_findsPlan_l30
    rw [if_neg (by decide)]
    obtain ⟨g, m1, u1, u2, u3, u4⟩ := finds1_l w (V 0 3).toNat 200 m 0 0 (by omega) (by omega) (by omega) (Or.inl rfl) r ak
    rw [u1, sBnd2]
    rcases u4 with ⟨y1, y2, y3, y4⟩ | ⟨y1, y2⟩
    · obtain ⟨n, rfl⟩ : ∃ n', n = n' + 1 := ⟨n - 1, by omega⟩
      rw [y1]
      unfold qM_findsPlan_l30
      rw [if_pos rfl]
      exact ⟨m1, rfl, by rw [y3]; exact ask_fin ak fun u iu => y4 u iu iu.1, u3⟩
    · rw [y1]
      obtain ⟨m', z1, z2, z3⟩ := ih n m1 (by omega) (by omega) (by rw [u3 143 (by decide) (by decide)]; exact r) u2
      exact ⟨m', z1, z2, fun q q1 q2 => by rw [z3 q q1 q2, u3 q q1 q2]⟩
theorem findsPlan_eq {N : Int} {V μ : zM} (w : WF N V) (r : RowIs (μ 143) V) : ∃ m, qM_findsPlan μ = some m ∧ Stb V (m 148) ∧ ∀ q : Nat, q ≠ 148 → q ≠ 149 → m q = μ q := by
  have n0 := w.n0
  have t0 := w.t0
  have t6 := w.t6
  have n6 := w.n6
  unfold qM_findsPlan
  obtain ⟨m1, p1, p2, p3⟩ := finds0_l (μ := μ) 6 200 0 μ (by omega) (by omega) (fun _ _ _ => rfl) (fun j j0 j1 => by omega) (by omega)
  have ak : Ask V (m1 148) (m1 149) := ask_0 n0 (fun u iu => (p3 u iu.1 (by have := iu.2; omega)).1) (fun u iu => (p3 u iu.1 (by have := iu.2; omega)).2)
  have hps := ps2_in t0 t6 n6 ak
  obtain ⟨m, u1, u2, u3⟩ := finds2_l w 36 200 m1 (by omega) (by omega) (by rw [p2 143 (by decide) (by decide)]; exact r) ak
  exact ⟨m, by rw [p1, sBind, u1, sBind], u2, fun q q1 q2 => by rw [u3 q q1 q2, p2 q q1 q2]⟩
