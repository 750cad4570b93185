/-! ===== B: stablePlans: all numbers' digits ===== -/
def pw (B : Int) : Nat → Int
  | 0 => 1
  | k+1 => pw B k * B
theorem pw_in {B : Int} (hB : 1 ≤ B ∧ B ≤ 7) : ∀ k : Nat, 1 ≤ pw B k ∧ pw B k ≤ pw 7 k
  | 0 => ⟨Int.le_refl _, Int.le_refl _⟩
  | k+1 => by
    have h := pw_in hB k
    unfold pw
    constructor
    · have := Int.mul_le_mul h.1 hB.1 (by omega) (by omega)
      omega
    · exact Int.mul_le_mul h.2 hB.2 (by omega) (by omega)
theorem pw_max {B : Int} (hB : 1 ≤ B ∧ B ≤ 7) {k : Nat} (hk : k ≤ 6) : pw B k ≤ 117649 := by
  have h := (pw_in hB k).2
  have h2 : pw 7 k ≤ 117649 := by
    have hc : k = 0 ∨ k = 1 ∨ k = 2 ∨ k = 3 ∨ k = 4 ∨ k = 5 ∨ k = 6 := by omega
    rcases hc with rfl | rfl | rfl | rfl | rfl | rfl | rfl <;> decide
  omega
/-- the digit j of v in base B -/
def dg (B : Int) : Nat → Int → Int
  | 0, v => v % B
  | j+1, v => dg B j (v / B)
def cde (B : Int) (p : Int → Int) : Nat → Int → Int
  | 0, _ => 0
  | k+1, t => (p t + 1) + B * cde B p k (t + 1)
theorem cde_in {B : Int} {p : Int → Int} (hB : 1 ≤ B) : ∀ (k : Nat) (t : Int), (∀ j : Int, t ≤ j → j < t + k → 0 ≤ p j + 1 ∧ p j + 1 < B) → 0 ≤ cde B p k t ∧ cde B p k t < pw B k
  | 0, t, _ => by unfold cde pw; omega
  | k+1, t, h => by
    have ih := cde_in hB k (t + 1) (fun j h1 h2 => h j (by omega) (by omega))
    have h0 := h t (Int.le_refl _) (by omega)
    unfold cde pw
    have h3 : B * cde B p k (t + 1) ≤ B * (pw B k - 1) := Int.mul_le_mul_of_nonneg_left (by omega) (by omega)
    have h4 : 0 ≤ B * cde B p k (t + 1) := Int.mul_nonneg (by omega) ih.1
    rw [Int.mul_sub, Int.mul_one, Int.mul_comm B (pw B k)] at h3
    omega
theorem cde_dg {B : Int} {p : Int → Int} (hB : 1 ≤ B) : ∀ (k : Nat) (t : Int), (∀ j : Int, t ≤ j → j < t + k → 0 ≤ p j + 1 ∧ p j + 1 < B) → ∀ j : Nat, j < k → dg B j (cde B p k t) = p (t + j) + 1
  | 0, t, _, j, hj => by omega
  | k+1, t, h, 0, _ => by
    have h0 := h t (Int.le_refl _) (by omega)
    unfold cde dg
    rw [Int.add_mul_emod_self_left, Int.emod_eq_of_lt h0.1 h0.2, show t + ((0 : Nat) : Int) = t by omega]
  | k+1, t, h, j+1, hj => by
    have h0 := h t (Int.le_refl _) (by omega)
    have ih := cde_dg hB k (t + 1) (fun j h1 h2 => h j (by omega) (by omega)) j (by omega)
    unfold cde dg
    rw [Int.add_mul_ediv_left _ _ (show B ≠ 0 by omega), Int.ediv_eq_zero_of_lt h0.1 h0.2, Int.zero_add, ih, show t + 1 + (j : Int) = t + ((j + 1 : Nat) : Int) by omega]
theorem dg_cde {B : Int} {p : Int → Int} (hB : 1 ≤ B) : ∀ (k : Nat) (t v : Int), 0 ≤ v → v < pw B k → (∀ j : Nat, j < k → dg B j v = p (t + j) + 1) → v = cde B p k t
  | 0, t, v, h0, h1, _ => by unfold pw at h1; unfold cde; omega
  | k+1, t, v, h0, h1, h => by
    have hd := h 0 (by omega)
    unfold dg at hd
    rw [show t + ((0 : Nat) : Int) = t by omega] at hd
    have hv1 : 0 ≤ v / B := Int.ediv_nonneg h0 (by omega)
    have hv2 : v / B < pw B k := Int.ediv_lt_of_lt_mul (by omega) h1
    have ih := dg_cde hB k (t + 1) (v / B) hv1 hv2 (fun j hj => by
      have := h (j + 1) (by omega)
      unfold dg at this
      rw [this, show t + 1 + (j : Int) = t + ((j + 1 : Nat) : Int) by omega])
    unfold cde
    rw [← ih, ← hd]
    have := Int.emod_add_mul_ediv v B
    omega
theorem dg_in {B : Int} (hB : 1 ≤ B) : ∀ (j : Nat) (v : Int), 0 ≤ dg B j v ∧ dg B j v < B
  | 0, v => ⟨Int.emod_nonneg _ (by omega), Int.emod_lt_of_pos _ (by omega)⟩
  | j+1, v => dg_in hB j (v / B)
theorem power_l {N : Int} {V m : zM} (w : WF N V) (r : RowIs (m 143) V) : ∀ (k n i : Nat), (i : Int) + k = V 0 3 → k < n → qM_stablePlans_l9 m n (pw (V 0 0 + 1) i) i = some (pw (V 0 0 + 1) (i + k)) := by
  have n0 := w.n0
  have n6 := w.n6
  have t6 := w.t6
  have rn := r.n
  have rt := r.t
  intro k
  induction k with
  | zero =>
    intro n i h1 hn
    obtain ⟨n, rfl⟩ : ∃ n', n = n' + 1 := ⟨n - 1, by omega⟩
    unfold qM_stablePlans_l9
    rw [if_neg (by omega)]
    rfl
  | succ k ih =>
    intro n i h1 hn
    obtain ⟨n, rfl⟩ : ∃ n', n = n' + 1 := ⟨n - 1, by omega⟩
    have hb := pw_max (B := V 0 0 + 1) (by omega) (k := i + 1) (by omega)
    have hb2 := (pw_in (B := V 0 0 + 1) (by omega) (i + 1)).1
    have nx := ih n (i + 1) (by omega) (by omega)
    rw [show i + 1 + k = i + (k + 1) by omega, show ((i + 1 : Nat) : Int) = (i : Int) + 1 by omega] at nx
    unfold qM_stablePlans_l9
    rw [if_pos (by omega), rn, wr_n (x := V 0 0 + 1) (by omega) (by omega), wr_n (x := (i : Int) + 1) (by omega) (by omega)]
    show qM_stablePlans_l9 m n (wr (pw (V 0 0 + 1) (i + 1))) _ = _
    rw [wr_n (by omega) (by omega)]
    exact nx
theorem digits_l {N : Int} {V μ : zM} {v1 v2 v3 : Int} (w : WF N V) (r : RowIs (μ 143) V) {d : Int → Int} : ∀ (k n : Nat) (m : zM) (v i : Int), i + k = V 0 3 → 0 ≤ i → k < n → 0 ≤ v → v ≤ 1000000 → (∀ q : Nat, q ≠ 148 → m q = μ q) → (∀ t, 0 ≤ t → t < i → m 148 t = d t - 1) → (∀ j : Nat, j < k → dg (V 0 0 + 1) j v = d (i + j)) →
    ∃ m', qM_stablePlans_l51 v1 v2 v3 n m v i = some m' ∧ (∀ q : Nat, q ≠ 148 → m' q = μ q) ∧ ∀ t, inT V t → m' 148 t = d t - 1 := by
  have n0 := w.n0
  have n6 := w.n6
  have t6 := w.t6
  have rn := r.n
  have rt := r.t
  intro k
  induction k with
  | zero =>
    intro n m v i h1 h0 hn hv0 hv9 hq hp hd
    obtain ⟨n, rfl⟩ : ∃ n', n = n' + 1 := ⟨n - 1, by omega⟩
    unfold qM_stablePlans_l51
    rw [hq 143 (by decide), if_neg (by omega)]
    exact ⟨m, rfl, hq, fun t ht => hp t ht.1 (by have := ht.2; omega)⟩
  | succ k ih =>
    intro n m v i h1 h0 hn hv0 hv9 hq hp hd
    obtain ⟨n, rfl⟩ : ∃ n', n = n' + 1 := ⟨n - 1, by omega⟩
    have hd0 := hd 0 (by omega)
    unfold dg at hd0
    rw [show i + ((0 : Nat) : Int) = i by omega] at hd0
    have hm1 := dg_in (B := V 0 0 + 1) (by omega) 0 v
    unfold dg at hm1
    have hdv : v / (V 0 0 + 1) ≤ v := Int.ediv_le_self _ hv0
    have hdv0 : 0 ≤ v / (V 0 0 + 1) := Int.ediv_nonneg hv0 (by omega)
    unfold qM_stablePlans_l51
    have h143 : ∀ x, (st m 148 i x) 143 = μ 143 := fun x => by rw [← hq 143 (by decide)]; exact funext fun j => st_k (by decide)
    rw [hq 143 (by decide), if_pos (by omega), rn, wr_n (x := V 0 0 + 1) (by omega) (by omega), if_pos (show V 0 0 + 1 ≠ 0 by omega), if_pos (by omega), sBind, h143, rn, wr_n (x := V 0 0 + 1) (by omega) (by omega), if_pos (show V 0 0 + 1 ≠ 0 by omega), Int.tmod_eq_emod_of_nonneg hv0, Int.tdiv_eq_ediv_of_nonneg hv0, wr_n (x := v / (V 0 0 + 1)) (by omega) (by omega), wr_n (x := v % (V 0 0 + 1) - 1) (by omega) (by omega), wr_n (x := i + 1) (by omega) (by omega)]
    refine ih n _ (v / (V 0 0 + 1)) (i + 1) (by omega) (by omega) (by omega) hdv0 (by omega) (fun q h => by rw [← hq q h]; exact funext fun j => st_k h) (fun t t0 t1 => ?_) (fun j hj => ?_)
    · by_cases hti : t = i
      · rw [hti, st_at, hd0]
      · rw [st_i hti]; exact hp t t0 (by omega)
    · have := hd (j + 1) (by omega)
      unfold dg at this
      rw [this, show i + 1 + (j : Int) = i + ((j + 1 : Nat) : Int) by omega]
theorem count_l {N : Int} {V μ : zM} {p : Int → Int} {M : Int} (w : WF N V) (r : RowIs (μ 143) V) (hp : Stb V p) (hM : M = pw (V 0 0 + 1) (V 0 3).toNat) (hM2 : M ≤ 117649) : ∀ (k n : Nat) (m : zM) (i : Int), i + k = M → 0 ≤ i → k < n → (∀ q : Nat, q ≠ 148 → m q = μ q) →
    ∃ m', qM_stablePlans_l40 M n m (if cde (V 0 0 + 1) p (V 0 3).toNat 0 < i then 1 else 0) i = some (1, m') ∧ ∀ q : Nat, q ≠ 148 → m' q = μ q := by
  have n0 := w.n0
  have n6 := w.n6
  have t0 := w.t0
  have t6 := w.t6
  have hb : ∀ j : Int, 0 ≤ j → j < 0 + ((V 0 3).toNat : Nat) → 0 ≤ p j + 1 ∧ p j + 1 < V 0 0 + 1 := fun j j0 j1 => by
    rcases hp.1.1 j ⟨j0, by omega⟩ with z | z
    · omega
    · have := z.1.1; have := z.1.2; omega
  have hc := cde_in (B := V 0 0 + 1) (p := p) (by omega) (V 0 3).toNat 0 hb
  have hcd := cde_dg (B := V 0 0 + 1) (p := p) (by omega) (V 0 3).toNat 0 hb
  have hdc := fun v h0 h1 => dg_cde (B := V 0 0 + 1) (p := p) (by omega) (V 0 3).toNat 0 v h0 h1
  generalize cde (V 0 0 + 1) p (V 0 3).toNat 0 = c at hc hcd hdc
  intro k
  induction k with
  | zero =>
    intro n m i h1 h0 hn hq
    obtain ⟨n, rfl⟩ : ∃ n', n = n' + 1 := ⟨n - 1, by omega⟩
    unfold qM_stablePlans_l40
    rw [if_neg (by omega), if_pos (by omega)]
    exact ⟨m, rfl, hq⟩
  | succ k ih =>
    intro n m i h1 h0 hn hq
    obtain ⟨n, rfl⟩ : ∃ n', n = n' + 1 := ⟨n - 1, by omega⟩
    unfold qM_stablePlans_l40
    rw [if_pos (by omega)]
    obtain ⟨m4, u1, u2, u3⟩ := digits_l (v1 := M) (v2 := if c < i then 1 else 0) (v3 := i) w r (d := fun t => dg (V 0 0 + 1) t.toNat i) (V 0 3).toNat 200 m i 0 (by omega) (by omega) (by omega) h0 (by omega) hq (fun t t0 t1 => by omega) (fun j hj => by
      show _ = dg (V 0 0 + 1) (0 + (j : Int)).toNat i
      rw [show (0 + (j : Int)).toNat = j by omega])
    have hd := dg_in (B := V 0 0 + 1) (by omega)
    have hst : ∃ b, qM_isStablePlan m4 = some b ∧ ((b = 1 ∧ i = c) ∨ (b = 0 ∧ i ≠ c)) := by
      rcases isStablePlan_eq (V := V) (m := m4) w (by rw [u2 143 (by decide)]; exact r) (fun t ht => by
        rw [u3 t ht]
        have := (hd t.toNat i).1
        show -1 ≤ dg (V 0 0 + 1) t.toNat i - 1
        omega) with ⟨x1, x2⟩ | ⟨x1, x2⟩
      · refine ⟨1, x1, Or.inl ⟨rfl, hdc i h0 (by omega) (fun j hj => ?_)⟩⟩
        have ij : inT V (j : Int) := ⟨by omega, by omega⟩
        have h2 := u3 j ij
        have h3 := stb_eq w x2 hp ij
        have h4 : (j : Int).toNat = j := by omega
        rw [h4] at h2
        rw [show 0 + (j : Int) = j by omega]
        omega
      · refine ⟨0, x1, Or.inr ⟨rfl, fun z => x2 (stb_congr hp fun t ht => ?_)⟩⟩
        have ht0 := ht.1
        have ht1 := ht.2
        have h2 := hcd t.toNat (by omega)
        rw [u3 t ht]
        show dg (V 0 0 + 1) t.toNat i - 1 = p t
        rw [z, h2, show 0 + ((t.toNat : Nat) : Int) = t by omega]
        omega
    obtain ⟨b, b1, b2⟩ := hst
    have hif : ∀ x : Int, (if c < i then (1 : Int) else 0) + x = 0 + x ∨ (if c < i then (1 : Int) else 0) + x = 1 + x := fun x => by split <;> omega
    rw [u1, sBind, b1, sBind, wr_n (x := i + 1) (by omega) (by omega), wr_n (x := (if c < i then 1 else 0) + 0) (by have := hif 0; omega) (by have := hif 0; omega), wr_n (x := (if c < i then 1 else 0) + 1) (by have := hif 1; omega) (by have := hif 1; omega)]
    have nx := ih n m4 (i + 1) (by omega) (by omega) (by omega) u2
    rcases b2 with ⟨b2, b3⟩ | ⟨b2, b3⟩
    · rw [b2, if_neg (show ¬ (1 : Int) = 0 by decide), if_neg (by omega)]
      rw [if_pos (by omega)] at nx
      exact nx
    · rw [b2, if_pos rfl]
      by_cases hci : c < i
      · rw [if_pos hci]
        rw [if_pos (by omega)] at nx
        exact nx
      · rw [if_neg hci]
        rw [if_neg (by omega)] at nx
        exact nx
theorem stablePlans_ok {N : Int} : DoOk N N qT_stablePlans qM_stablePlans := by
  intro μ hI
  have hB := hI.1
  have w := hB.1
  have n0 : 0 ≤ μ 1 0 := w.n0
  have n6 : μ 1 0 ≤ 6 := w.n6
  have t0 : 0 ≤ μ 1 3 := w.t0
  have t6 : μ 1 3 ≤ 6 := w.t6
  obtain ⟨p, hp⟩ := stb_ex (μ := μ) w (HEq6.of_same fun _ _ _ => rfl)
  obtain ⟨m1, p1, p2, p3, p4⟩ := tryAll_eq (h := 1) (μ := μ) (V := hv μ 1) (by decide) w (HEq6.of_same fun _ _ _ => rfl) hp
  have h143 : (st m1 142 0 0) 143 = μ 143 := by rw [← p4 143 (by omega)]; exact funext fun j => st_k (by decide)
  have hr9 : RowIs ((st m1 142 0 0) 143) (hv μ 1) := by rw [h143]; exact hB.2
  have hl := power_l w hr9 (μ 1 3).toNat 200 0 (by show ((0 : Nat) : Int) + _ = μ 1 3; omega) (by omega)
  rw [show pw (hv μ 1 0 0 + 1) 0 = 1 from rfl, show ((0 : Nat) : Int) = 0 from rfl, Nat.zero_add] at hl
  have hmx := pw_max (B := μ 1 0 + 1) (by omega) (k := (μ 1 3).toNat) (by omega)
  have hmn := (pw_in (B := μ 1 0 + 1) (by omega) (μ 1 3).toNat).1
  obtain ⟨m6, u1, u2⟩ := count_l (M := pw (μ 1 0 + 1) (μ 1 3).toNat) w hr9 hp rfl hmx (pw (μ 1 0 + 1) (μ 1 3).toNat).toNat 200000 (st m1 142 0 0) 0 (by omega) (by omega) (by omega) (fun _ _ => rfl)
  have hb : ∀ j : Int, 0 ≤ j → j < 0 + (((hv μ 1 0 3).toNat : Nat) : Int) → 0 ≤ p j + 1 ∧ p j + 1 < hv μ 1 0 0 + 1 := fun j j0 j1 => by
    rcases hp.1.1 j ⟨j0, by have h9 : hv μ 1 0 3 = μ 1 3 := rfl; rw [h9] at j1 ⊢; omega⟩ with z | z
    · have h9 : hv μ 1 0 0 = μ 1 0 := rfl
      omega
    · have := z.1.1; have := z.1.2; omega
  have hc := cde_in (B := hv μ 1 0 0 + 1) (p := p) (show 1 ≤ μ 1 0 + 1 by omega) (hv μ 1 0 3).toNat 0 hb
  rw [if_neg (by omega)] at u1
  refine ⟨1, m1, m6, ?_, ?_, hI.plan (fun q q1 q2 q3 q4 q5 => by rw [u2 q q3, ← p4 q (by omega)]; exact funext fun j => st_k q2) (fun j hj => by rw [u2 142 (by decide), st_i hj, p4 142 (by omega)])⟩
  · unfold qT_stablePlans qP_countStable
    rw [p1, sBind, sBnd2, p2]
  · unfold qM_stablePlans
    rw [sBind, hl, sBind]
    show bnd2 (qM_stablePlans_l40 (pw (μ 1 0 + 1) (μ 1 3).toNat) 200000 (st m1 142 0 0) 0 0) _ = _
    rw [u1, sBnd2]
