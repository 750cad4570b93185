/-! ===== B: counting censuses, in itself ===== -/
def sb (s : Int → Int) (f x : Int) : Int → Int := fun j => if j = f then s j - x else s j
theorem sbf_at {s : Int → Int} {f x : Int} : sb s f x f = s f - x := by unfold sb; rw [if_pos rfl]
theorem sb_o {s : Int → Int} {f x j : Int} (h : j ≠ f) : sb s f x j = s j := by unfold sb; rw [if_neg h]
theorem sb_0 {s : Int → Int} {f : Int} : sb s f 0 = s := by
  funext j
  unfold sb
  by_cases h : j = f
  · rw [if_pos h]; omega
  · rw [if_neg h]
theorem sb_comm {s : Int → Int} {f g x y : Int} : sb (sb s f x) g y = sb (sb s g y) f x := by
  funext j
  unfold sb
  by_cases h : j = g
  · by_cases h2 : j = f
    · rw [if_pos h, if_pos h2, if_pos h2, if_pos h]; omega
    · rw [if_pos h, if_neg h2, if_neg h2, if_pos h]
  · by_cases h2 : j = f
    · rw [if_neg h, if_pos h2, if_pos h2, if_neg h]
    · rw [if_neg h, if_neg h2, if_neg h2, if_neg h]
theorem ps_add {f g : Int → Int} : ∀ k : Nat, ps (fun j => f j + g j) k = ps f k + ps g k
  | 0 => rfl
  | k+1 => by
    show ps (fun j => f j + g j) k + (f k + g k) = (ps f k + f k) + (ps g k + g k)
    rw [ps_add k]; omega
theorem ps_zero : ∀ k : Nat, ps (fun _ => 0) k = 0
  | 0 => rfl
  | k+1 => by
    show ps (fun _ => 0) k + 0 = 0
    rw [ps_zero k]; rfl
theorem ps_if {c : Prop} [Decidable c] {f : Int → Int} (k : Nat) : ps (fun j => if c then f j else 0) k = if c then ps f k else 0 := by
  by_cases h : c
  · rw [if_pos h]
    exact ps_congr fun j _ _ => by rw [if_pos h]
  · rw [if_neg h]
    exact (ps_congr (w' := fun _ => 0) fun j _ _ => by rw [if_neg h]).trans (ps_zero k)
theorem ps_swap {g : Int → Int → Int} (k : Nat) : ∀ m : Nat, ps (fun v => ps (fun d => g d v) k) m = ps (fun d => ps (fun v => g d v) m) k
  | 0 => (ps_zero k).symm
  | m+1 => by
    show ps (fun v => ps (fun d => g d v) k) m + ps (fun d => g d m) k = ps (fun d => ps (fun v => g d v) m + g d m) k
    rw [ps_swap k m, ps_add]
theorem ps_split {f : Int → Int} (a : Nat) : ∀ b : Nat, ps f (a + b) = ps f a + ps (fun d => f (a + d)) b
  | 0 => by show ps f a = ps f a + 0; omega
  | b+1 => by
    show ps f (a + b) + f ((a + b : Nat) : Int) = ps f a + (ps (fun d => f (a + d)) b + f ((a : Int) + (b : Nat)))
    rw [ps_split a b, show ((a + b : Nat) : Int) = (a : Int) + (b : Nat) by omega]
    omega
theorem ps_mul {f : Int → Int} (b : Nat) : ∀ m : Nat, ps f (b * m) = ps (fun v => ps (fun d => f (b * v + d)) b) m
  | 0 => rfl
  | m+1 => by
    show ps f (b * m + b) = ps (fun v => ps (fun d => f (b * v + d)) b) m + ps (fun d => f (b * (m : Int) + d)) b
    rw [ps_split (b * m) b, ps_mul b m]
    congr 1
theorem ps_mono {f : Int → Int} (a : Nat) : ∀ b : Nat, (∀ j : Int, 0 ≤ j → j < ((a + b : Nat) : Int) → 0 ≤ f j) → ps f a ≤ ps f (a + b)
  | 0, _ => Int.le_refl _
  | b+1, h => by
    have h1 := ps_mono (f := f) a b (fun j h0 h1 => h j h0 (by omega))
    have h2 := h ((a + b : Nat) : Int) (by omega) (by omega)
    show ps f a ≤ ps f (a + b) + f ((a + b : Nat) : Int)
    omega
def zb (s : Int → Int) : Nat → Int
  | 0 => 1
  | F+1 => if s F = 0 then zb s F else 0
theorem zb_in {s : Int → Int} : ∀ F : Nat, 0 ≤ zb s F ∧ zb s F ≤ 1
  | 0 => by unfold zb; omega
  | F+1 => by
    unfold zb
    have := zb_in (s := s) F
    split <;> omega
theorem zb_congr {s s' : Int → Int} : ∀ F : Nat, (∀ j : Int, 0 ≤ j → j < F → s j = s' j) → zb s F = zb s' F
  | 0, _ => rfl
  | F+1, h => by
    unfold zb
    rw [zb_congr F (fun j h0 h1 => h j h0 (by omega)), h F (by omega) (by omega)]
theorem zb_1 {s : Int → Int} : ∀ F : Nat, zb s F = 1 ↔ ∀ j : Int, 0 ≤ j → j < F → s j = 0
  | 0 => ⟨fun _ j h0 h1 => by omega, fun _ => rfl⟩
  | F+1 => by
    unfold zb
    by_cases h : s F = 0
    · rw [if_pos h, zb_1 F]
      constructor
      · intro h2 j h0 h1
        by_cases hj : j = F
        · rw [hj]; exact h
        · exact h2 j h0 (by omega)
      · exact fun h2 j h0 h1 => h2 j h0 (by omega)
    · rw [if_neg h]
      constructor
      · intro h2; omega
      · intro h2; exact absurd (h2 F (by omega) (by omega)) h
/-- how many ways there are to put the tenants t, t+1, .. (k of them, of weight u) on the floors that al allows, so that the floors carry s -/
def cn (u : Int → Int) (al : Int → Int → Prop) [∀ t f, Decidable (al t f)] : Nat → Int → (Int → Int) → Int
  | 0, _, s => zb s 6
  | k+1, t, s => ps (fun f => if al t f then cn u al k (t + 1) (sb s f (u t)) else 0) 6
theorem sb_congr {s s' : Int → Int} {f x : Int} (h : ∀ j : Int, 0 ≤ j → j < 6 → s j = s' j) : ∀ j : Int, 0 ≤ j → j < 6 → sb s f x j = sb s' f x j := fun j h0 h1 => by unfold sb; rw [h j h0 h1]
theorem cn_congr {u : Int → Int} {al : Int → Int → Prop} [∀ t f, Decidable (al t f)] : ∀ (k : Nat) (t : Int) {s s' : Int → Int}, (∀ j : Int, 0 ≤ j → j < 6 → s j = s' j) → cn u al k t s = cn u al k t s'
  | 0, _, _, _, h => zb_congr 6 h
  | k+1, t, s, s', h => by
    unfold cn
    exact ps_congr fun f _ _ => by rw [cn_congr k (t + 1) (sb_congr h)]
theorem cn_nn {u : Int → Int} {al : Int → Int → Prop} [∀ t f, Decidable (al t f)] : ∀ (k : Nat) (t : Int) (s : Int → Int), 0 ≤ cn u al k t s ∧ cn u al k t s ≤ pw 6 k
  | 0, _, s => zb_in 6
  | k+1, t, s => by
    unfold cn pw
    have h := ps_in (w := fun f => if al t f then cn u al k (t + 1) (sb s f (u t)) else 0) (B := pw 6 k) (k := 6) (fun j _ _ => by
      have := cn_nn (u := u) (al := al) k (t + 1) (sb s j (u t))
      have := (pw_in (B := 6) (by decide) k).1
      show 0 ≤ (if al t j then cn u al k (t + 1) (sb s j (u t)) else 0) ∧ (if al t j then cn u al k (t + 1) (sb s j (u t)) else 0) ≤ pw 6 k
      split <;> omega)
    exact h
theorem cn_neg {u : Int → Int} {al : Int → Int → Prop} [∀ t f, Decidable (al t f)] (hu : ∀ t, 0 ≤ u t) : ∀ (k : Nat) (t : Int) (s : Int → Int) (j : Int), 0 ≤ j → j < 6 → s j < 0 → cn u al k t s = 0
  | 0, _, s, j, h0, h1, h2 => by
    unfold cn
    have h := zb_in (s := s) 6
    have h3 := zb_1 (s := s) 6
    by_cases h4 : zb s 6 = 1
    · have := h3.mp h4 j h0 h1; omega
    · omega
  | k+1, t, s, j, h0, h1, h2 => by
    unfold cn
    refine (ps_congr (w' := fun _ => 0) fun f _ _ => ?_).trans (ps_zero 6)
    show (if al t f then cn u al k (t + 1) (sb s f (u t)) else 0) = 0
    rw [cn_neg hu k (t + 1) (sb s f (u t)) j h0 h1 (by
      have := hu t
      unfold sb
      split <;> omega)]
    split <;> rfl
/-- the digits of v put the tenants so: 1, else 0 -/
def chk (u : Int → Int) (al : Int → Int → Prop) [∀ t f, Decidable (al t f)] : Nat → Int → (Int → Int) → Int → Int
  | 0, _, s, _ => zb s 6
  | k+1, t, s, v => if al t (v % 6) then chk u al k (t + 1) (sb s (v % 6) (u t)) (v / 6) else 0
theorem chk_congr {u : Int → Int} {al : Int → Int → Prop} [∀ t f, Decidable (al t f)] : ∀ (k : Nat) (t : Int) {s s' : Int → Int} (v : Int), (∀ j : Int, 0 ≤ j → j < 6 → s j = s' j) → chk u al k t s v = chk u al k t s' v
  | 0, _, _, _, _, h => zb_congr 6 h
  | k+1, t, s, s', v, h => by
    unfold chk
    rw [chk_congr k (t + 1) (v / 6) (sb_congr h)]
theorem chk_in {u : Int → Int} {al : Int → Int → Prop} [∀ t f, Decidable (al t f)] : ∀ (k : Nat) (t : Int) (s : Int → Int) (v : Int), 0 ≤ chk u al k t s v ∧ chk u al k t s v ≤ 1
  | 0, _, s, _ => zb_in 6
  | k+1, t, s, v => by
    unfold chk
    have := chk_in (u := u) (al := al) k (t + 1) (sb s (v % 6) (u t)) (v / 6)
    split <;> omega
def pn : Nat → Nat
  | 0 => 1
  | k+1 => 6 * pn k
theorem pn_pw : ∀ k : Nat, ((pn k : Nat) : Int) = pw 6 k
  | 0 => rfl
  | k+1 => by
    unfold pn pw
    rw [Int.natCast_mul, pn_pw k, Int.mul_comm]
    rfl
theorem chk_cn {u : Int → Int} {al : Int → Int → Prop} [∀ t f, Decidable (al t f)] : ∀ (k : Nat) (t : Int) (s : Int → Int), ps (fun v => chk u al k t s v) (pn k) = cn u al k t s
  | 0, t, s => by
    show 0 + zb s 6 = zb s 6
    omega
  | k+1, t, s => by
    unfold pn
    rw [ps_mul 6 (pn k)]
    have h1 : ps (fun v => ps (fun d => chk u al (k + 1) t s (((6 : Nat) : Int) * v + d)) 6) (pn k) = ps (fun v => ps (fun d => if al t d then chk u al k (t + 1) (sb s d (u t)) v else 0) 6) (pn k) :=
      ps_congr fun v _ _ => ps_congr fun d d0 d1 => by
        show (if al t ((6 * v + d) % 6) then chk u al k (t + 1) (sb s ((6 * v + d) % 6) (u t)) ((6 * v + d) / 6) else 0) = _
        rw [show (6 * v + d) % 6 = d by omega, show (6 * v + d) / 6 = v by omega]
    rw [h1, ps_swap 6 (pn k)]
    unfold cn
    refine ps_congr fun d _ _ => ?_
    rw [ps_if (pn k), chk_cn k (t + 1) (sb s d (u t))]
/-- a tenant whose floor is given: counted at once, or searched among the numbers -/
theorem cn_fix {u u' : Int → Int} {al al' fx : Int → Int → Prop} [∀ t f, Decidable (al t f)] [∀ t f, Decidable (al' t f)] [∀ t f, Decidable (fx t f)] {x g : Int} (hg : 0 ≤ g ∧ g < 6) (hal : al x g)
    (h1 : ∀ t f, t ≠ x → (al' t f ↔ al t f)) (h2 : ∀ t, t ≠ x → u' t = u t) (h3 : u' x = 0) (h4 : ∀ f, al' x f ↔ f = 0) (h5 : ∀ t f, t ≠ x → (fx t f ↔ al t f)) (h6 : ∀ f, fx x f ↔ f = g) :
    ∀ (k : Nat) (t : Int) (s : Int → Int), cn u fx k t s = cn u' al' k t (if t ≤ x ∧ x < t + k then sb s g (u x) else s)
  | 0, t, s => by rw [if_neg (by omega)]; rfl
  | k+1, t, s => by
    unfold cn
    by_cases ht : t = x
    · rw [ht, if_pos (by omega)]
      have l1 : ∀ f, (if fx x f then cn u fx k (x + 1) (sb s f (u x)) else 0) = if f = g then cn u' al' k (x + 1) (sb s g (u x)) else 0 := fun f => by
        by_cases hf : f = g
        · rw [if_pos ((h6 f).mpr hf), if_pos hf, hf, cn_fix hg hal h1 h2 h3 h4 h5 h6 k (x + 1), if_neg (by omega)]
        · rw [if_neg (fun z => hf ((h6 f).mp z)), if_neg hf]
      have l2 : ∀ f, (if al' x f then cn u' al' k (x + 1) (sb (sb s g (u x)) f (u' x)) else 0) = if f = 0 then cn u' al' k (x + 1) (sb s g (u x)) else 0 := fun f => by
        by_cases hf : f = 0
        · rw [if_pos ((h4 f).mpr hf), if_pos hf, hf, h3, sb_0]
        · rw [if_neg (fun z => hf ((h4 f).mp z)), if_neg hf]
      have one : ∀ (c X : Int) (n : Nat), 0 ≤ c → ps (fun f => if f = c then X else 0) n = if c < n then X else 0 := fun c X n hc => by
        induction n with
        | zero => unfold ps; rw [if_neg (by omega)]
        | succ n ih =>
          show ps (fun f => if f = c then X else 0) n + (if (n : Int) = c then X else 0) = _
          rw [ih]
          by_cases hcn : (n : Int) = c
          · rw [if_neg (by omega), if_pos hcn, if_pos (by omega)]; omega
          · rw [if_neg hcn]
            by_cases h9 : c < n
            · rw [if_pos h9, if_pos (by omega)]; omega
            · rw [if_neg h9, if_neg (by omega)]; rfl
      rw [ps_congr (w' := fun f => if f = g then cn u' al' k (x + 1) (sb s g (u x)) else 0) (fun f _ _ => l1 f), ps_congr (w := fun f => if al' x f then cn u' al' k (x + 1) (sb (sb s g (u x)) f (u' x)) else 0) (w' := fun f => if f = 0 then cn u' al' k (x + 1) (sb s g (u x)) else 0) (fun f _ _ => l2 f), one g _ 6 hg.1, one 0 _ 6 (by omega), if_pos (by omega), if_pos (by omega)]
    · refine ps_congr fun f _ _ => ?_
      have e1 := h5 t f ht
      have e2 := h1 t f ht
      by_cases hf : al t f
      · rw [if_pos (e1.mpr hf), if_pos (e2.mpr hf), cn_fix hg hal h1 h2 h3 h4 h5 h6 k (t + 1), h2 t ht]
        congr 1
        by_cases hx : t ≤ x ∧ x < t + ((k + 1 : Nat) : Int)
        · rw [if_pos hx, if_pos (by omega), sb_comm]
        · rw [if_neg hx, if_neg (by omega)]
      · rw [if_neg (fun z => hf (e1.mp z)), if_neg (fun z => hf (e2.mp z))]
theorem chk_fix {u : Int → Int} {al fx : Int → Int → Prop} [∀ t f, Decidable (al t f)] [∀ t f, Decidable (fx t f)] {x g : Int} (hal : al x g)
    (h5 : ∀ t f, t ≠ x → (fx t f ↔ al t f)) (h6 : ∀ f, fx x f ↔ f = g) : ∀ (k : Nat) (t : Int) (s : Int → Int) (v : Int), chk u fx k t s v = if t ≤ x ∧ x < t + k ∧ dg 6 (x - t).toNat v ≠ g then 0 else chk u al k t s v
  | 0, t, s, v => by rw [if_neg (by omega)]; rfl
  | k+1, t, s, v => by
    unfold chk
    by_cases ht : t = x
    · rw [ht, show (x - x).toNat = 0 by omega]
      unfold dg
      by_cases hv9 : v % 6 = g
      · rw [if_pos ((h6 _).mpr hv9), if_neg (fun z => z.2.2 hv9), hv9, if_pos hal, chk_fix hal h5 h6 k (x + 1), if_neg (by omega)]
      · rw [if_neg (fun z => hv9 ((h6 _).mp z)), if_pos ⟨by omega, by omega, hv9⟩]
    · have e1 := h5 t (v % 6) ht
      by_cases hf : al t (v % 6)
      · rw [if_pos (e1.mpr hf), if_pos hf, chk_fix hal h5 h6 k (t + 1)]
        by_cases hx : t ≤ x ∧ x < t + ((k + 1 : Nat) : Int)
        · rw [show (x - t).toNat = (x - (t + 1)).toNat + 1 by omega]
          have hd : dg 6 ((x - (t + 1)).toNat + 1) v = dg 6 (x - (t + 1)).toNat (v / 6) := rfl
          rw [hd]
          by_cases hdd : dg 6 (x - (t + 1)).toNat (v / 6) = g
          · rw [if_neg (fun z => z.2.2 hdd), if_neg (fun z => z.2.2 hdd)]
          · rw [if_pos ⟨by omega, by omega, hdd⟩, if_pos ⟨hx.1, hx.2, hdd⟩]
        · rw [if_neg (fun z => hx ⟨by omega, by omega⟩), if_neg (fun z => hx ⟨z.1, z.2.1⟩)]
      · rw [if_neg (fun z => hf (e1.mp z)), if_neg hf]
        split <;> rfl
theorem ps_pos {f : Int → Int} : ∀ m : Nat, (∀ j : Int, 0 ≤ j → j < m → 0 ≤ f j) → (0 < ps f m ↔ ∃ j : Int, 0 ≤ j ∧ j < m ∧ 0 < f j)
  | 0, _ => ⟨fun h => absurd h (by unfold ps; omega), fun ⟨j, h0, h1, _⟩ => by omega⟩
  | m+1, h => by
    have ih := ps_pos m (fun j h0 h1 => h j h0 (by omega))
    have hm := h m (by omega) (by omega)
    have hn := ps_nn (w := f) (k := m) (fun j h0 h1 => h j h0 (by omega))
    unfold ps
    constructor
    · intro hp
      by_cases h1 : 0 < ps f m
      · obtain ⟨j, j0, j1, j2⟩ := ih.mp h1
        exact ⟨j, j0, by omega, j2⟩
      · exact ⟨m, by omega, by omega, by omega⟩
    · rintro ⟨j, j0, j1, j2⟩
      by_cases hj : j = m
      · rw [hj] at j2; omega
      · have := ih.mpr ⟨j, j0, by omega, j2⟩; omega
