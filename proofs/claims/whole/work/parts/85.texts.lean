/-! ===== B: what is written ===== -/
/-- the object b has ws behind what it had, its length stands at a la -/
def App (a : Nat) (la : Int) (b : Nat) (μ m : zM) (ws : List Int) : Prop := m a la = μ a la + ws.length ∧ (∀ j, j < μ a la → m b j = μ b j) ∧ (∀ i : Nat, i < ws.length → m b (μ a la + i) = ws.getD i 0) ∧ (∀ q : Nat, q ≠ a → q ≠ b → m q = μ q) ∧ ∀ j, j ≠ la → m a j = μ a j
theorem app_nil {a b : Nat} {la : Int} {μ : zM} : App a la b μ μ [] := ⟨by show μ a la = μ a la + ((0 : Nat) : Int); omega, fun _ _ => rfl, fun i h => absurd h (Nat.not_lt_zero i), fun _ _ _ => rfl, fun _ _ => rfl⟩
theorem app_one {a b : Nat} {la : Int} {μ : zM} {c : Int} (hab : a ≠ b) : App a la b μ (st (st μ b (μ a la) c) a la (μ a la + 1)) [c] := by
  refine ⟨by rw [st_at]; rfl, fun j hj => by rw [st_k (fun z => hab z.symm), st_i (by omega)], fun i hi => ?_, fun q qa qb => funext fun j => by rw [st_k qa, st_k qb], fun j hj => by rw [st_i hj, st_k hab]⟩
  have h0 : i = 0 := by
    have : i < 1 := hi
    omega
  rw [h0, show μ a la + ((0 : Nat) : Int) = μ a la by omega, st_k (fun z => hab z.symm), st_at]
  rfl
theorem app_trans {a b : Nat} {la : Int} {μ m m2 : zM} {ws vs : List Int} (h : App a la b μ m ws) (g : App a la b m m2 vs) : App a la b μ m2 (ws ++ vs) := by
  obtain ⟨h1, h2, h3, h4, h5⟩ := h
  obtain ⟨g1, g2, g3, g4, g5⟩ := g
  refine ⟨by rw [g1, h1, List.length_append]; omega, fun j hj => by rw [g2 j (by omega), h2 j hj], fun i hi => ?_, fun q qa qb => by rw [g4 q qa qb, h4 q qa qb], fun j hj => by rw [g5 j hj, h5 j hj]⟩
  rw [List.length_append] at hi
  by_cases hlt : i < ws.length
  · rw [g2 _ (by omega), h3 i hlt, List.getD_eq_getElem?_getD, List.getD_eq_getElem?_getD, List.getElem?_append_left hlt]
  · rw [List.getD_eq_getElem?_getD, List.getElem?_append_right (by omega), ← List.getD_eq_getElem?_getD, ← g3 (i - ws.length) (by omega), h1]
    congr 1
    omega
def chr (ws : List Int) : Prop := ∀ c, c ∈ ws → 0 ≤ c ∧ c ≤ 65535
theorem chr_app {ws vs : List Int} (h : chr ws) (g : chr vs) : chr (ws ++ vs) := fun c hc => by
  rcases List.mem_append.mp hc with z | z
  · exact h c z
  · exact g c z
theorem chr_one {c : Int} (h : 0 ≤ c ∧ c ≤ 65535) : chr [c] := fun d hd => by rw [List.mem_singleton.mp hd]; exact h
/-- a number's decimal digits, i + 1 of them -/
def dl (v : Int) : Nat → List Int
  | 0 => [48 + v % 10]
  | i+1 => (48 + v / pw 10 (i + 1) % 10) :: dl v i
theorem dl_len {v : Int} : ∀ i : Nat, (dl v i).length = i + 1
  | 0 => rfl
  | i+1 => by
    show (dl v i).length + 1 = i + 1 + 1
    rw [dl_len i]
theorem dl_chr {v : Int} : ∀ i : Nat, chr (dl v i)
  | 0 => chr_one (by omega)
  | i+1 => fun c hc => by
    rcases List.mem_cons.mp hc with z | z
    · rw [z]
      have := Int.emod_nonneg (v / pw 10 (i + 1)) (show (10 : Int) ≠ 0 by decide)
      have := Int.emod_lt_of_pos (v / pw 10 (i + 1)) (show (0 : Int) < 10 by decide)
      omega
    · exact dl_chr i c z
def ni (v : Int) : Nat → Nat → Nat
  | 0, i => i
  | k+1, i => if v / 10 < pw 10 i then i else ni v k (i + 1)
def nl (v : Int) : List Int := dl v (ni v 10 0)
theorem pw10_pos : ∀ i : Nat, 1 ≤ pw 10 i
  | 0 => by decide
  | i+1 => by
    have := pw10_pos i
    unfold pw
    omega
theorem pw10_s (i : Nat) : pw 10 (i + 1) = pw 10 i * 10 := rfl
theorem pw10_le : ∀ {i d : Nat}, i ≤ d → pw 10 i ≤ pw 10 d := by
  intro i d h
  induction d with
  | zero => rw [show i = 0 by omega]; exact Int.le_refl _
  | succ d ih =>
    by_cases hi : i = d + 1
    · rw [hi]; exact Int.le_refl _
    · have h1 := ih (by omega)
      have h2 := pw10_pos d
      rw [pw10_s]
      omega
theorem ni_le {v : Int} {d : Nat} (hv9 : v < pw 10 (d + 1)) : ∀ (k i : Nat), i ≤ d → ni v k i ≤ d
  | 0, i, h => h
  | k+1, i, h => by
    unfold ni
    by_cases hs : v / 10 < pw 10 i
    · rw [if_pos hs]; exact h
    · rw [if_neg hs]
      refine ni_le hv9 k (i + 1) ?_
      by_cases hid : i = d
      · rw [pw10_s] at hv9
        rw [hid] at hs
        omega
      · omega
theorem nl_len {v : Int} {d : Nat} (hv9 : v < pw 10 (d + 1)) : (nl v).length ≤ d + 1 := by
  unfold nl
  rw [dl_len]
  have := ni_le hv9 10 0 (Nat.zero_le d)
  omega
theorem nl_chr {v : Int} : chr (nl v) := dl_chr _
theorem pw10_9 {i : Nat} (h : i ≤ 9) : pw 10 i ≤ 1000000000 := Int.le_trans (pw10_le h) (by decide)
/-! the class's number -/
theorem appendX_eq {μ : zM} {t : Nat} {c : Int} (hL : 0 ≤ μ t 1 ∧ μ t 1 < 128) (hc : 0 ≤ c ∧ c ≤ 65535) : qX_append μ t c = some (st (st μ (t + 1) (μ t 1) c) t 1 (μ t 1 + 1)) := by
  unfold qX_append
  rw [if_pos hL.2, if_pos ⟨hL, hc⟩, sBind, st_k (show t ≠ t + 1 by omega), wr_n (by omega) (by omega), sBind]
theorem powX_l {μ : zM} {t : Nat} {v : Int} (hv9 : 0 ≤ v ∧ v ≤ 1000000000) : ∀ (k n i : Nat), i + k = 9 → k < n → qX_appendNumber_l2 μ t v n (pw 10 i) = some (pw 10 (ni v (k + 1) i)) := by
  have e : Int.tdiv v 10 = v / 10 := Int.tdiv_eq_ediv_of_nonneg hv9.1
  intro k
  induction k with
  | zero =>
    intro n i h1 hn
    obtain ⟨n, rfl⟩ : ∃ n', n = n' + 1 := ⟨n - 1, by omega⟩
    have hp : pw 10 i = 1000000000 := by rw [show i = 9 by omega]; decide
    unfold qX_appendNumber_l2 ni ni
    rw [e, wr_n (by omega) (by omega), if_pos (by omega), if_pos (by omega)]
  | succ k ih =>
    intro n i h1 hn
    obtain ⟨n, rfl⟩ : ∃ n', n = n' + 1 := ⟨n - 1, by omega⟩
    have hp := pw10_9 (i := i + 1) (by omega)
    have hp0 := pw10_pos i
    rw [pw10_s] at hp
    have hni : ni v (k + 1 + 1) i = if v / 10 < pw 10 i then i else ni v (k + 1) (i + 1) := rfl
    unfold qX_appendNumber_l2
    rw [e, wr_n (x := v / 10) (by omega) (by omega), hni]
    by_cases hs : v / 10 < pw 10 i
    · rw [if_pos hs, if_pos hs]
    · rw [if_neg hs, if_neg hs, wr_n (by omega) (by omega)]
      exact ih n (i + 1) (by omega) (by omega)
theorem div_in {v p : Int} (hv9 : 0 ≤ v ∧ v ≤ 1000000000) (hp : 1 ≤ p) : 0 ≤ v / p ∧ v / p ≤ 1000000000 := ⟨Int.ediv_nonneg hv9.1 (by omega), Int.le_trans (Int.ediv_le_self p hv9.1) hv9.2⟩
theorem digX_l {t : Nat} {v : Int} (hv9 : 0 ≤ v ∧ v ≤ 1000000000) : ∀ (i n : Nat) (μ : zM), i ≤ 9 → i + 1 < n → 0 ≤ μ t 1 → μ t 1 + (i + 1) ≤ 128 → ∃ m, qX_appendNumber_l20 t v n μ (pw 10 i) = some m ∧ App t 1 (t + 1) μ m (dl v i) := by
  intro i
  induction i with
  | zero =>
    intro n μ h9 hn hL0 hL
    obtain ⟨n, rfl⟩ : ∃ n', n = n' + 1 := ⟨n - 1, by omega⟩
    obtain ⟨n, rfl⟩ : ∃ n', n = n' + 1 := ⟨n - 1, by omega⟩
    unfold qX_appendNumber_l20
    rw [show pw 10 0 = 1 from rfl, if_pos (by decide), if_pos (by decide), Int.tdiv_one, wr_n (x := v) (by omega) (by omega), Int.tmod_eq_emod_of_nonneg hv9.1, wr_n (x := 48 + v % 10) (by omega) (by omega), show (48 + v % 10) % 65536 = 48 + v % 10 by omega, appendX_eq ⟨hL0, by omega⟩ (by omega), sBind, show wr (Int.tdiv 1 10) = 0 by decide]
    unfold qX_appendNumber_l20
    rw [if_neg (by decide)]
    exact ⟨_, rfl, app_one (by omega)⟩
  | succ i ih =>
    intro n μ h9 hn hL0 hL
    obtain ⟨n, rfl⟩ : ∃ n', n = n' + 1 := ⟨n - 1, by omega⟩
    have hp := pw10_9 (i := i + 1) h9
    have hp0 := pw10_pos (i + 1)
    have hp1 := pw10_pos i
    have hd := div_in hv9 hp0
    have hm1 := Int.emod_nonneg (v / pw 10 (i + 1)) (show (10 : Int) ≠ 0 by decide)
    have hm2 := Int.emod_lt_of_pos (v / pw 10 (i + 1)) (show (0 : Int) < 10 by decide)
    unfold qX_appendNumber_l20
    rw [if_pos (by omega), if_pos (by omega), Int.tdiv_eq_ediv_of_nonneg hv9.1, wr_n (x := v / pw 10 (i + 1)) (by omega) (by omega), Int.tmod_eq_emod_of_nonneg hd.1, wr_n (x := 48 + v / pw 10 (i + 1) % 10) (by omega) (by omega), show (48 + v / pw 10 (i + 1) % 10) % 65536 = 48 + v / pw 10 (i + 1) % 10 by omega, appendX_eq ⟨hL0, by omega⟩ (by omega), sBind]
    have hq : wr (Int.tdiv (pw 10 (i + 1)) 10) = pw 10 i := by
      rw [Int.tdiv_eq_ediv_of_nonneg (by omega), pw10_s, Int.mul_ediv_cancel _ (by decide)]
      exact wr_n (by omega) (by rw [pw10_s] at hp; omega)
    rw [hq]
    have a1 := app_one (a := t) (b := t + 1) (la := 1) (μ := μ) (c := 48 + v / pw 10 (i + 1) % 10) (by omega)
    obtain ⟨m, u1, u2⟩ := ih n (st (st μ (t + 1) (μ t 1) (48 + v / pw 10 (i + 1) % 10)) t 1 (μ t 1 + 1)) (by omega) (by omega) (by rw [a1.1]; show 0 ≤ μ t 1 + ((1 : Nat) : Int); omega) (by rw [a1.1]; show μ t 1 + ((1 : Nat) : Int) + (i + 1) ≤ 128; omega)
    exact ⟨m, u1, app_trans a1 u2⟩
theorem appendNumber_eq {μ : zM} {t : Nat} {v : Int} {d : Nat} (hv0 : 0 ≤ v) (hv9 : v < pw 10 (d + 1)) (hd : d ≤ 9) (hv1 : v ≤ 1000000000) (hL0 : 0 ≤ μ t 1) (hL : μ t 1 + (d + 1) ≤ 128) : ∃ m, qX_appendNumber μ t v = some m ∧ App t 1 (t + 1) μ m (nl v) := by
  unfold qX_appendNumber
  have h := powX_l (μ := μ) (t := t) ⟨hv0, hv1⟩ 9 200 0 (by decide) (by decide)
  rw [show pw 10 0 = 1 from rfl] at h
  have hni := ni_le hv9 10 0 (Nat.zero_le d)
  obtain ⟨m, u1, u2⟩ := digX_l (t := t) (v := v) ⟨hv0, hv1⟩ (ni v 10 0) 200 μ (by omega) (by omega) hL0 (by omega)
  rw [h, sBind, u1, sBind]
  exact ⟨m, rfl, u2⟩
/-! the model's number -/
theorem writes_eq {μ : zM} {c : Int} (hL : 0 ≤ μ 142 15 ∧ μ 142 15 < 120) (hc : 0 ≤ c ∧ c ≤ 65535) : qM_writes μ c = some (st (st μ 153 (μ 142 15) c) 142 15 (μ 142 15 + 1)) := by
  unfold qM_writes
  rw [show c % 65536 = c by omega, if_pos ⟨hL, hc⟩, sBind, st_k (show (142 : Nat) ≠ 153 by decide), wr_n (by omega) (by omega), sBind]
theorem powM_l {μ : zM} {v : Int} (hv9 : 0 ≤ v ∧ v ≤ 1000000000) : ∀ (k n i : Nat), i + k = 9 → k < n → qM_writesNumber_l2 μ v n (pw 10 i) = some (pw 10 (ni v (k + 1) i)) := by
  intro k
  induction k with
  | zero =>
    intro n i h1 hn
    obtain ⟨n, rfl⟩ : ∃ n', n = n' + 1 := ⟨n - 1, by omega⟩
    have hp : pw 10 i = 1000000000 := by rw [show i = 9 by omega]; decide
    have hd := div_in hv9 (pw10_pos i)
    unfold qM_writesNumber_l2 ni ni
    rw [if_pos (by omega), Int.tdiv_eq_ediv_of_nonneg hv9.1, wr_n (by omega) (by omega), hp, if_neg (by omega), if_pos (by omega)]
    rw [← hp]
  | succ k ih =>
    intro n i h1 hn
    obtain ⟨n, rfl⟩ : ∃ n', n = n' + 1 := ⟨n - 1, by omega⟩
    have hp := pw10_9 (i := i + 1) (by omega)
    have hp0 := pw10_pos i
    have hd := div_in hv9 hp0
    rw [pw10_s] at hp
    have hni : ni v (k + 1 + 1) i = if v / 10 < pw 10 i then i else ni v (k + 1) (i + 1) := rfl
    have hiff : 9 < v / pw 10 i ↔ ¬ v / 10 < pw 10 i := by
      constructor
      · intro h h2
        have h3 : pw 10 i * 10 ≤ v := Int.le_trans (Int.mul_le_mul_of_nonneg_left (show (10 : Int) ≤ v / pw 10 i by omega) (by omega)) (by
          rw [Int.mul_comm]; exact Int.ediv_mul_le v (by omega))
        omega
      · intro h
        have h3 : 10 ≤ v / pw 10 i := Int.le_ediv_of_mul_le (by omega) (by omega)
        omega
    unfold qM_writesNumber_l2
    rw [if_pos (by omega), Int.tdiv_eq_ediv_of_nonneg hv9.1, wr_n (x := v / pw 10 i) (by omega) (by omega), hni]
    by_cases hs : v / 10 < pw 10 i
    · rw [if_pos hs, if_neg (fun z => hiff.mp z hs)]
    · rw [if_neg hs, if_pos (hiff.mpr hs), wr_n (by omega) (by omega)]
      exact ih n (i + 1) (by omega) (by omega)
theorem digM_l {v : Int} (hv9 : 0 ≤ v ∧ v ≤ 1000000000) : ∀ (i n : Nat) (μ : zM), i ≤ 9 → i + 1 < n → 0 ≤ μ 142 15 → μ 142 15 + (i + 1) ≤ 120 → ∃ m, qM_writesNumber_l20 v n μ (pw 10 i) = some m ∧ App 142 15 153 μ m (dl v i) := by
  intro i
  induction i with
  | zero =>
    intro n μ h9 hn hL0 hL
    obtain ⟨n, rfl⟩ : ∃ n', n = n' + 1 := ⟨n - 1, by omega⟩
    obtain ⟨n, rfl⟩ : ∃ n', n = n' + 1 := ⟨n - 1, by omega⟩
    unfold qM_writesNumber_l20
    rw [show pw 10 0 = 1 from rfl, if_pos (by decide), if_pos (by decide), Int.tdiv_one, wr_n (x := v) (by omega) (by omega), Int.tmod_eq_emod_of_nonneg hv9.1, wr_n (x := 48 + v % 10) (by omega) (by omega), writes_eq ⟨hL0, by omega⟩ (by omega), sBind, show wr (Int.tdiv 1 10) = 0 by decide]
    unfold qM_writesNumber_l20
    rw [if_neg (by decide)]
    exact ⟨_, rfl, app_one (by decide)⟩
  | succ i ih =>
    intro n μ h9 hn hL0 hL
    obtain ⟨n, rfl⟩ : ∃ n', n = n' + 1 := ⟨n - 1, by omega⟩
    have hp := pw10_9 (i := i + 1) h9
    have hp0 := pw10_pos (i + 1)
    have hp1 := pw10_pos i
    have hd := div_in hv9 hp0
    have hm1 := Int.emod_nonneg (v / pw 10 (i + 1)) (show (10 : Int) ≠ 0 by decide)
    have hm2 := Int.emod_lt_of_pos (v / pw 10 (i + 1)) (show (0 : Int) < 10 by decide)
    unfold qM_writesNumber_l20
    rw [if_pos (by omega), if_pos (by omega), Int.tdiv_eq_ediv_of_nonneg hv9.1, wr_n (x := v / pw 10 (i + 1)) (by omega) (by omega), Int.tmod_eq_emod_of_nonneg hd.1, wr_n (x := 48 + v / pw 10 (i + 1) % 10) (by omega) (by omega), writes_eq ⟨hL0, by omega⟩ (by omega), sBind]
    have hq : wr (Int.tdiv (pw 10 (i + 1)) 10) = pw 10 i := by
      rw [Int.tdiv_eq_ediv_of_nonneg (by omega), pw10_s, Int.mul_ediv_cancel _ (by decide)]
      exact wr_n (by omega) (by rw [pw10_s] at hp; omega)
    rw [hq]
    have a1 := app_one (a := 142) (b := 153) (la := 15) (μ := μ) (c := 48 + v / pw 10 (i + 1) % 10) (by decide)
    obtain ⟨m, u1, u2⟩ := ih n (st (st μ 153 (μ 142 15) (48 + v / pw 10 (i + 1) % 10)) 142 15 (μ 142 15 + 1)) (by omega) (by omega) (by rw [a1.1]; show 0 ≤ μ 142 15 + ((1 : Nat) : Int); omega) (by rw [a1.1]; show μ 142 15 + ((1 : Nat) : Int) + (i + 1) ≤ 120; omega)
    exact ⟨m, u1, app_trans a1 u2⟩
theorem writesNumber_eq {μ : zM} {v : Int} {d : Nat} (hv0 : 0 ≤ v) (hv9 : v < pw 10 (d + 1)) (hd : d ≤ 9) (hv1 : v ≤ 1000000000) (hL0 : 0 ≤ μ 142 15) (hL : μ 142 15 + (d + 1) ≤ 120) : ∃ m, qM_writesNumber μ v = some m ∧ App 142 15 153 μ m (nl v) := by
  unfold qM_writesNumber
  have h := powM_l (μ := μ) ⟨hv0, hv1⟩ 9 200 0 (by decide) (by decide)
  rw [show pw 10 0 = 1 from rfl] at h
  have hni := ni_le hv9 10 0 (Nat.zero_le d)
  obtain ⟨m, u1, u2⟩ := digM_l (v := v) ⟨hv0, hv1⟩ (ni v 10 0) 200 μ (by omega) (by omega) hL0 (by omega)
  rw [h, sBind, u1, sBind]
  exact ⟨m, rfl, u2⟩
/-- the line has been written anew on both sides -/
theorem Inv.line {N : Int} {μ m : zM} {ws : List Int} (h : Inv N μ) (hq : ∀ q : Nat, (q < 113 ∨ (136 ≤ q ∧ q < 140) ∨ (143 ≤ q ∧ q < 146) ∨ q = 154) → m q = μ q) (h142 : ∀ j, j ≠ 0 → j ≠ 15 → m 142 j = μ 142 j)
    (h1 : m 140 1 = ws.length) (h2 : m 142 15 = ws.length) (h3 : ∀ i : Nat, i < ws.length → m 141 i = ws.getD i 0) (h4 : ∀ i : Nat, i < ws.length → m 153 i = ws.getD i 0) (h5 : chr ws) (h6 : ws.length ≤ 120) : Inv N m := by
  obtain ⟨hB, hR, hS, hT⟩ := h
  have hm : ∀ (g : Nat) (w : Int → Int), g < 104 → Both N μ g w → Both N m g w := fun g w hg b => b.move (HEq6.of_same fun q q1 q2 => hq q (by omega)) (fun _ _ _ => rfl)
  refine ⟨?_, ⟨?_, ?_, ?_, ?_, fun j h0 h9 => ?_⟩, ⟨?_, ?_, fun z => ?_⟩, ?_⟩
  · rw [hq 143 (by omega)]; exact hm _ _ (by omega) hB
  · rw [hq 31 (by omega)]; exact hR.1
  · rw [hq 31 (by omega)]; exact hR.2.1
  · rw [h142 7 (by decide) (by decide)]; exact hR.2.2.1
  · rw [h142 6 (by decide) (by decide), hq 31 (by omega)]; exact hR.2.2.2.1
  · rw [hq 31 (by omega)] at h9 ⊢
    rw [h142 7 (by decide) (by decide), hq 144 (by omega)]
    exact hm _ _ (by omega) (hR.2.2.2.2 j h0 h9)
  · rw [hq 0 (by omega)]; exact hS.1
  · rw [h142 8 (by decide) (by decide), hq 0 (by omega)]; exact hS.2.1
  · rw [hq 0 (by omega)] at z
    rw [hq 145 (by omega)]
    exact hm _ _ (by omega) (hS.2.2 z)
  · refine ⟨by omega, by omega, fun j j0 j1 => ?_, ?_⟩
    · have e1 := h3 j.toNat (by omega)
      have e2 := h4 j.toNat (by omega)
      rw [show ((j.toNat : Nat) : Int) = j by omega] at e1 e2
      have hc : ws.getD j.toNat 0 ∈ ws := by
        rw [List.getD_eq_getElem?_getD, List.getElem?_eq_getElem (show j.toNat < ws.length by omega)]
        exact List.getElem_mem _
      have h7 := h5 _ hc
      rw [e1, e2]
      exact ⟨rfl, h7⟩
    · rw [hq 138 (by omega), hq 139 (by omega), hq 136 (by omega), hq 154 (by omega), hq 0 (by omega), h142 17 (by decide) (by decide), h142 19 (by decide) (by decide), h142 20 (by decide) (by decide)]
      exact hT.2.2.2
