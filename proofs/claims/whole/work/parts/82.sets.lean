/-! ===== B: censuses by sets ===== -/
def sbs : Nat → Int → Int → Bool
  | 0, _, _ => true
  | k+1, a, b => decide (b % 2 ≤ a % 2) && sbs k (a / 2) (b / 2)
theorem bits_all1 : ((List.range 64).all fun v => (List.range 6).all fun j => decide (yand (yshr (v : Int) (j : Int)) 1 = dg 2 j (v : Int) ∧ (0 ≤ yor (v : Int) (yshl 1 (j : Int)) ∧ yor (v : Int) (yshl 1 (j : Int)) < 64) ∧ ((v : Int) < pw 2 j → yor (v : Int) (yshl 1 (j : Int)) = (v : Int) + pw 2 j))) = true := by decide +kernel
theorem bits1 {v : Int} {j : Nat} (hv9 : 0 ≤ v ∧ v < 64) (hj : j < 6) : yand (yshr v j) 1 = dg 2 j v ∧ (0 ≤ yor v (yshl 1 j) ∧ yor v (yshl 1 j) < 64) ∧ (v < pw 2 j → yor v (yshl 1 j) = v + pw 2 j) := by
  have h := bits_all1
  rw [List.all_eq_true] at h
  have h1 := h v.toNat (List.mem_range.mpr (by omega))
  rw [List.all_eq_true] at h1
  have h2 := of_decide_eq_true (h1 j (List.mem_range.mpr hj))
  rw [show ((v.toNat : Nat) : Int) = v by omega] at h2
  exact h2
theorem bits_all2 : ((List.range 64).all fun a => (List.range 64).all fun b => decide ((yand (b : Int) (a : Int) = (b : Int) ↔ sbs 6 (a : Int) (b : Int) = true) ∧ (sbs 6 (a : Int) (b : Int) = true → yxor (a : Int) (b : Int) = (a : Int) - (b : Int) ∧ (b : Int) ≤ (a : Int)))) = true := by decide +kernel
theorem bits2 {a b : Int} (ha : 0 ≤ a ∧ a < 64) (hb : 0 ≤ b ∧ b < 64) : (yand b a = b ↔ sbs 6 a b = true) ∧ (sbs 6 a b = true → yxor a b = a - b ∧ b ≤ a) := by
  have h := bits_all2
  rw [List.all_eq_true] at h
  have h1 := h a.toNat (List.mem_range.mpr (by omega))
  rw [List.all_eq_true] at h1
  have h2 := of_decide_eq_true (h1 b.toNat (List.mem_range.mpr (by omega)))
  rw [show ((a.toNat : Nat) : Int) = a by omega, show ((b.toNat : Nat) : Int) = b by omega] at h2
  exact h2
def wtm (w : Int → Int) : Nat → Int → Int → Int
  | 0, _, _ => 0
  | k+1, t, A => (if A % 2 = 1 then w t else 0) + wtm w k (t + 1) (A / 2)
/-- how many ways there are to put the tenants of the set A on the first F floors so that these carry s -/
def cm (F : Nat) (w : Int → Int) : Nat → Int → Int → (Int → Int) → Int
  | 0, _, _, s => zb s F
  | k+1, t, A, s => if A % 2 = 1 then ps (fun f => cm F w k (t + 1) (A / 2) (sb s f (w t))) F else cm F w k (t + 1) (A / 2) s
theorem cm_congr {F : Nat} {w : Int → Int} : ∀ (k : Nat) (t A : Int) {s s' : Int → Int}, (∀ j : Int, 0 ≤ j → j < F → s j = s' j) → cm F w k t A s = cm F w k t A s'
  | 0, _, _, _, _, h => zb_congr F h
  | k+1, t, A, s, s', h => by
    unfold cm
    rw [cm_congr k (t + 1) (A / 2) h]
    by_cases hA : A % 2 = 1
    · rw [if_pos hA, if_pos hA]
      exact ps_congr fun f _ _ => cm_congr k (t + 1) (A / 2) (fun j h0 h1 => by unfold sb; rw [h j h0 h1])
    · rw [if_neg hA, if_neg hA]
theorem cm_in {F : Nat} {w : Int → Int} (hF : F ≤ 6) : ∀ (k : Nat) (t A : Int) (s : Int → Int), 0 ≤ cm F w k t A s ∧ cm F w k t A s ≤ pw 6 k
  | 0, _, _, s => zb_in F
  | k+1, t, A, s => by
    have hp := (pw_in (B := 6) (by decide) k).1
    unfold cm pw
    by_cases hA : A % 2 = 1
    · rw [if_pos hA]
      have h := ps_in (w := fun f => cm F w k (t + 1) (A / 2) (sb s f (w t))) (B := pw 6 k) (k := F) (fun j _ _ => cm_in hF k (t + 1) (A / 2) _)
      have h2 : pw 6 k * (F : Int) ≤ pw 6 k * 6 := Int.mul_le_mul_of_nonneg_left (by omega) (by omega)
      omega
    · rw [if_neg hA]
      have h := cm_in (w := w) hF k (t + 1) (A / 2) s
      omega
theorem cm_0 {w : Int → Int} : ∀ (k : Nat) (t A : Int) (s : Int → Int), 0 ≤ A → A < pw 2 k → cm 0 w k t A s = if A = 0 then 1 else 0
  | 0, t, A, s, h0, h1 => by
    unfold pw at h1
    rw [if_pos (by omega)]
    rfl
  | k+1, t, A, s, h0, h1 => by
    unfold pw at h1
    unfold cm
    by_cases hA : A % 2 = 1
    · rw [if_pos hA, if_neg (by omega)]
      rfl
    · rw [if_neg hA, cm_0 k (t + 1) (A / 2) s (by omega) (by omega)]
      by_cases hz : A = 0
      · rw [if_pos hz, if_pos (by omega)]
      · rw [if_neg hz, if_neg (by omega)]
def p2 : Nat → Nat
  | 0 => 1
  | k+1 => 2 * p2 k
theorem cm_step {F : Nat} {w : Int → Int} : ∀ (k : Nat) (t A : Int) (s : Int → Int), ps (fun B => if sbs k A B = true ∧ wtm w k t B = s F then cm F w k t (A - B) s else 0) (p2 k) = cm (F + 1) w k t A s
  | 0, t, A, s => by
    show 0 + (if sbs 0 A ((0 : Nat) : Int) = true ∧ wtm w 0 t ((0 : Nat) : Int) = s F then zb s F else 0) = (if s F = 0 then zb s F else 0)
    rw [Int.zero_add]
    by_cases h : s F = 0
    · rw [if_pos ⟨rfl, h.symm⟩, if_pos h]
    · rw [if_neg (fun z => h z.2.symm), if_neg h]
  | k+1, t, A, s => by
    unfold p2
    rw [ps_mul 2 (p2 k)]
    -- the two sets that differ in the lowest tenant
    have two : ∀ B : Int, ps (fun d => if sbs (k + 1) A (((2 : Nat) : Int) * B + d) = true ∧ wtm w (k + 1) t (((2 : Nat) : Int) * B + d) = s F then cm F w (k + 1) t (A - (((2 : Nat) : Int) * B + d)) s else 0) 2 =
        (if A % 2 = 1 then (if sbs k (A / 2) B = true ∧ wtm w k (t + 1) B = s F then ps (fun f => cm F w k (t + 1) (A / 2 - B) (sb s f (w t))) F else 0) + (if sbs k (A / 2) B = true ∧ wtm w k (t + 1) B = s F - w t then cm F w k (t + 1) (A / 2 - B) s else 0)
          else if sbs k (A / 2) B = true ∧ wtm w k (t + 1) B = s F then cm F w k (t + 1) (A / 2 - B) s else 0) := fun B => by
      have ev : ∀ X : Int, (if sbs (k + 1) A (2 * B + 0) = true ∧ wtm w (k + 1) t (2 * B + 0) = s F then X else 0) = if sbs k (A / 2) B = true ∧ wtm w k (t + 1) B = s F then X else 0 := fun X => by
        have h1 : sbs (k + 1) A (2 * B + 0) = (decide ((2 * B + 0) % 2 ≤ A % 2) && sbs k (A / 2) ((2 * B + 0) / 2)) := rfl
        have h2 : wtm w (k + 1) t (2 * B + 0) = (if (2 * B + 0) % 2 = 1 then w t else 0) + wtm w k (t + 1) ((2 * B + 0) / 2) := rfl
        rw [h1, h2, show (2 * B + 0) % 2 = 0 by omega, show (2 * B + 0) / 2 = B by omega, if_neg (show ¬ (0 : Int) = 1 by decide), Int.zero_add, decide_eq_true (show (0 : Int) ≤ A % 2 by omega), Bool.true_and]
      have od : ∀ X : Int, (if sbs (k + 1) A (2 * B + 1) = true ∧ wtm w (k + 1) t (2 * B + 1) = s F then X else 0) = if A % 2 = 1 then (if sbs k (A / 2) B = true ∧ wtm w k (t + 1) B = s F - w t then X else 0) else 0 := fun X => by
        have h1 : sbs (k + 1) A (2 * B + 1) = (decide ((2 * B + 1) % 2 ≤ A % 2) && sbs k (A / 2) ((2 * B + 1) / 2)) := rfl
        have h2 : wtm w (k + 1) t (2 * B + 1) = (if (2 * B + 1) % 2 = 1 then w t else 0) + wtm w k (t + 1) ((2 * B + 1) / 2) := rfl
        rw [h1, h2, show (2 * B + 1) % 2 = 1 by omega, show (2 * B + 1) / 2 = B by omega, if_pos rfl]
        by_cases hA : A % 2 = 1
        · rw [if_pos hA, decide_eq_true (show (1 : Int) ≤ A % 2 by omega), Bool.true_and]
          by_cases hc : sbs k (A / 2) B = true ∧ wtm w k (t + 1) B = s F - w t
          · rw [if_pos hc, if_pos ⟨hc.1, by omega⟩]
          · rw [if_neg hc, if_neg (fun z => hc ⟨z.1, by omega⟩)]
        · rw [if_neg hA, decide_eq_false (show ¬ (1 : Int) ≤ A % 2 by omega), Bool.false_and, if_neg (fun z => by cases z.1)]
      show 0 + (if sbs (k + 1) A (2 * B + 0) = true ∧ wtm w (k + 1) t (2 * B + 0) = s F then cm F w (k + 1) t (A - (2 * B + 0)) s else 0) + (if sbs (k + 1) A (2 * B + 1) = true ∧ wtm w (k + 1) t (2 * B + 1) = s F then cm F w (k + 1) t (A - (2 * B + 1)) s else 0) = _
      rw [ev, od, Int.zero_add]
      have c1 : A % 2 = 1 → cm F w (k + 1) t (A - (2 * B + 0)) s = ps (fun f => cm F w k (t + 1) (A / 2 - B) (sb s f (w t))) F := fun hA => by
        show (if (A - (2 * B + 0)) % 2 = 1 then ps (fun f => cm F w k (t + 1) ((A - (2 * B + 0)) / 2) (sb s f (w t))) F else cm F w k (t + 1) ((A - (2 * B + 0)) / 2) s) = _
        rw [if_pos (by omega), show (A - (2 * B + 0)) / 2 = A / 2 - B by omega]
      have c2 : A % 2 = 1 → cm F w (k + 1) t (A - (2 * B + 1)) s = cm F w k (t + 1) (A / 2 - B) s := fun hA => by
        show (if (A - (2 * B + 1)) % 2 = 1 then ps (fun f => cm F w k (t + 1) ((A - (2 * B + 1)) / 2) (sb s f (w t))) F else cm F w k (t + 1) ((A - (2 * B + 1)) / 2) s) = _
        rw [if_neg (by omega), show (A - (2 * B + 1)) / 2 = A / 2 - B by omega]
      have c3 : ¬ A % 2 = 1 → cm F w (k + 1) t (A - (2 * B + 0)) s = cm F w k (t + 1) (A / 2 - B) s := fun hA => by
        show (if (A - (2 * B + 0)) % 2 = 1 then ps (fun f => cm F w k (t + 1) ((A - (2 * B + 0)) / 2) (sb s f (w t))) F else cm F w k (t + 1) ((A - (2 * B + 0)) / 2) s) = _
        rw [if_neg (by omega), show (A - (2 * B + 0)) / 2 = A / 2 - B by omega]
      by_cases hA : A % 2 = 1
      · rw [if_pos hA, if_pos hA, c1 hA, c2 hA]
      · rw [if_neg hA, if_neg hA, c3 hA, Int.add_zero]
    rw [ps_congr (w := fun v => ps (fun d => if sbs (k + 1) A (((2 : Nat) : Int) * v + d) = true ∧ wtm w (k + 1) t (((2 : Nat) : Int) * v + d) = s F then cm F w (k + 1) t (A - (((2 : Nat) : Int) * v + d)) s else 0) 2) (fun B _ _ => two B)]
    show _ = (if A % 2 = 1 then ps (fun f => cm (F + 1) w k (t + 1) (A / 2) (sb s f (w t))) F + cm (F + 1) w k (t + 1) (A / 2) (sb s F (w t)) else cm (F + 1) w k (t + 1) (A / 2) s)
    by_cases hA : A % 2 = 1
    · rw [if_pos hA, ps_congr (w' := fun B => (if sbs k (A / 2) B = true ∧ wtm w k (t + 1) B = s F then ps (fun f => cm F w k (t + 1) (A / 2 - B) (sb s f (w t))) F else 0) + (if sbs k (A / 2) B = true ∧ wtm w k (t + 1) B = s F - w t then cm F w k (t + 1) (A / 2 - B) s else 0)) (fun B _ _ => if_pos hA), ps_add]
      congr 1
      · rw [ps_congr (w := fun B => if sbs k (A / 2) B = true ∧ wtm w k (t + 1) B = s F then ps (fun f => cm F w k (t + 1) (A / 2 - B) (sb s f (w t))) F else 0) (w' := fun B => ps (fun f => if sbs k (A / 2) B = true ∧ wtm w k (t + 1) B = s F then cm F w k (t + 1) (A / 2 - B) (sb s f (w t)) else 0) F) (fun B _ _ => (ps_if F).symm), ps_swap F (p2 k)]
        refine ps_congr fun f f0 f1 => ?_
        rw [← cm_step k (t + 1) (A / 2) (sb s f (w t)), sb_o (show ((F : Nat) : Int) ≠ f by omega)]
      · rw [← cm_step k (t + 1) (A / 2) (sb s F (w t)), sbf_at]
        refine ps_congr fun B _ _ => ?_
        by_cases hc : sbs k (A / 2) B = true ∧ wtm w k (t + 1) B = s F - w t
        · rw [if_pos hc, if_pos hc]
          exact cm_congr k (t + 1) _ (fun j h0 h1 => (sb_o (by omega)).symm)
        · rw [if_neg hc, if_neg hc]
    · rw [if_neg hA, ← cm_step k (t + 1) (A / 2) s]
      exact ps_congr fun B _ _ => if_neg hA
theorem cde_last {B : Int} {p : Int → Int} : ∀ (k : Nat) (t : Int), cde B p (k + 1) t = cde B p k t + (p (t + k) + 1) * pw B k
  | 0, t => by
    show p t + 1 + B * 0 = 0 + (p (t + ((0 : Nat) : Int)) + 1) * 1
    rw [show t + ((0 : Nat) : Int) = t by omega]; omega
  | k+1, t => by
    have h := cde_last (B := B) (p := p) k (t + 1)
    have h2 : cde B p (k + 1 + 1) t = p t + 1 + B * cde B p (k + 1) (t + 1) := rfl
    have h3 : cde B p (k + 1) t = p t + 1 + B * cde B p k (t + 1) := rfl
    rw [h2, h3, h, Int.mul_add, show t + 1 + (k : Int) = t + ((k + 1 : Nat) : Int) by omega]
    have h4 : pw B (k + 1) = pw B k * B := rfl
    rw [h4, show B * ((p (t + ((k + 1 : Nat) : Int)) + 1) * pw B k) = (p (t + ((k + 1 : Nat) : Int)) + 1) * (pw B k * B) by rw [Int.mul_left_comm, Int.mul_comm B (pw B k)]]
    omega
/-- which tenants have a home, as digits less one -/
def hb (V : zM) (t : Int) : Int := if (0 ≤ t ∧ t < V 0 3) ∧ V 9 t ≠ -1 then 0 else -1
theorem hb_in {V : zM} {t : Int} : 0 ≤ hb V t + 1 ∧ hb V t + 1 < 2 := by unfold hb; split <;> omega
theorem housedSet_l {V m : zM} {h : Nat} (t6 : V 0 3 ≤ 6) (e : HEq6 (hv m h) V) : ∀ (k n i : Nat), (i : Int) + k = V 0 3 → k < n → qS_housedSet_l4 m h n (cde 2 (hb V) i 0) i = some (cde 2 (hb V) (i + k) 0) := by
  have e3 : m h 3 = V 0 3 := e.1.2.1
  intro k
  induction k with
  | zero =>
    intro n i h1 hn
    obtain ⟨n, rfl⟩ : ∃ n', n = n' + 1 := ⟨n - 1, by omega⟩
    unfold qS_housedSet_l4
    rw [if_neg (by omega)]
    rfl
  | succ k ih =>
    intro n i h1 hn
    obtain ⟨n, rfl⟩ : ∃ n', n = n' + 1 := ⟨n - 1, by omega⟩
    have c : 0 ≤ (i : Int) ∧ (i : Int) < 6 := by omega
    have e9 : m (h + 9) i = V 9 i := e.tok (k := 9) (by decide) c
    have hc := cde_in (B := 2) (p := hb V) (by decide) i 0 (fun j _ _ => hb_in)
    have hc2 := cde_in (B := 2) (p := hb V) (by decide) 6 0 (fun j _ _ => hb_in)
    have hp : pw 2 i ≤ 32 := by
      have hi : i = 0 ∨ i = 1 ∨ i = 2 ∨ i = 3 ∨ i = 4 ∨ i = 5 := by omega
      rcases hi with rfl | rfl | rfl | rfl | rfl | rfl <;> decide
    have nx := ih n (i + 1) (by omega) (by omega)
    rw [show i + 1 + k = i + (k + 1) by omega, show ((i + 1 : Nat) : Int) = (i : Int) + 1 by omega, cde_last, Int.zero_add] at nx
    have hbi : hb V i = if (0 ≤ (i : Int) ∧ (i : Int) < V 0 3) ∧ V 9 i ≠ -1 then 0 else -1 := rfl
    unfold qS_housedSet_l4
    rw [if_pos (by omega), if_pos c, e9, wr_n (x := (i : Int) + 1) (by omega) (by omega)]
    by_cases h9 : V 9 i = -1
    · rw [if_pos h9]
      rw [hbi, if_neg (fun z => z.2 h9), show (-1 : Int) + 1 = 0 by decide, Int.zero_mul, Int.add_zero] at nx
      exact nx
    · rw [if_neg h9, (bits1 (v := cde 2 (hb V) i 0) (j := i) ⟨hc.1, by omega⟩ (by omega)).2.2 hc.2]
      rw [hbi, if_pos ⟨⟨by omega, by omega⟩, h9⟩, show (0 : Int) + 1 = 1 by decide, Int.one_mul] at nx
      exact nx
theorem cde_more {V : zM} (t0 : 0 ≤ V 0 3) : ∀ d : Nat, cde 2 (hb V) ((V 0 3).toNat + d) 0 = cde 2 (hb V) (V 0 3).toNat 0
  | 0 => rfl
  | d+1 => by
    show cde 2 (hb V) ((V 0 3).toNat + d + 1) 0 = _
    rw [cde_last, cde_more t0 d]
    have : hb V (0 + (((V 0 3).toNat + d : Nat) : Int)) = -1 := by unfold hb; rw [if_neg (by omega)]
    rw [this, show (-1 : Int) + 1 = 0 by decide, Int.zero_mul, Int.add_zero]
def Hs (V : zM) : Int := cde 2 (hb V) 6 0
theorem Hs_in {V : zM} : 0 ≤ Hs V ∧ Hs V < 64 := cde_in (B := 2) (p := hb V) (by decide) 6 0 (fun j _ _ => hb_in)
theorem housedSet_eq {V m : zM} {h : Nat} (t0 : 0 ≤ V 0 3) (t6 : V 0 3 ≤ 6) (e : HEq6 (hv m h) V) : qS_housedSet m h = some (Hs V) := by
  unfold qS_housedSet
  have hl := housedSet_l t6 e (V 0 3).toNat 200 0 (by omega) (by omega)
  rw [show cde 2 (hb V) 0 0 = 0 from rfl, show ((0 : Nat) : Int) = 0 from rfl, Nat.zero_add, ← cde_more t0 (6 - (V 0 3).toNat), show (V 0 3).toNat + (6 - (V 0 3).toNat) = 6 by omega] at hl
  rw [hl, sBind]
  rfl
def wV (V : zM) (t : Int) : Int := if 0 ≤ t ∧ t < V 0 3 then V 4 t else 0
/-- the sets, tenant by tenant -/
theorem cm_cn {V : zM} (t6 : V 0 3 ≤ 6) : ∀ (k : Nat) (t A : Int) (s : Int → Int), t + k = 6 → 0 ≤ t → (∀ j : Nat, j < k → dg 2 j A = hb V (t + j) + 1) → cm 6 (wV V) k t A s = cn (uV V) (alV V) (V 0 3 - t).toNat t s
  | 0, t, A, s, h1, h0, _ => by
    rw [show (V 0 3 - t).toNat = 0 by omega]
    rfl
  | k+1, t, A, s, h1, h0, h => by
    have hd := h 0 (by omega)
    unfold dg at hd
    rw [show t + ((0 : Nat) : Int) = t by omega] at hd
    have ih := fun s' => cm_cn (V := V) t6 k (t + 1) (A / 2) s' (by omega) (by omega) (fun j hj => by
      have := h (j + 1) (by omega)
      unfold dg at this
      rw [this, show t + 1 + (j : Int) = t + ((j + 1 : Nat) : Int) by omega])
    unfold cm
    by_cases hT : t < V 0 3
    · rw [show (V 0 3 - t).toNat = (V 0 3 - (t + 1)).toNat + 1 by omega]
      by_cases h9 : V 9 t = -1
      · have hz : hb V t = -1 := by unfold hb; rw [if_neg (fun z => z.2 h9)]
        rw [if_neg (by omega), ih, cn_skip (by unfold uV; rw [if_neg (fun z => z.2 h9)]) (fun f => ⟨fun z => z.resolve_left (fun y => y h9), Or.inr⟩)]
      · have hz : hb V t = 0 := by unfold hb; rw [if_pos ⟨⟨h0, hT⟩, h9⟩]
        rw [if_pos (by omega)]
        show _ = ps (fun f => if alV V t f then cn (uV V) (alV V) (V 0 3 - (t + 1)).toNat (t + 1) (sb s f (uV V t)) else 0) 6
        refine ps_congr fun f _ _ => ?_
        rw [ih, if_pos (Or.inl h9)]
        have hw : wV V t = uV V t := by unfold wV uV; rw [if_pos ⟨h0, hT⟩, if_pos ⟨⟨h0, hT⟩, h9⟩]
        rw [hw]
    · have hz : hb V t = -1 := by unfold hb; rw [if_neg (by omega)]
      rw [if_neg (by omega), ih, show (V 0 3 - (t + 1)).toNat = 0 by omega, show (V 0 3 - t).toNat = 0 by omega]
      rfl
theorem cm_cens {V : zM} (t0 : 0 ≤ V 0 3) (t6 : V 0 3 ≤ 6) : cm 6 (wV V) 6 0 (Hs V) (cr V) = cens V := by
  rw [cm_cn t6 6 0 (Hs V) (cr V) (by decide) (by decide) (fun j hj => cde_dg (B := 2) (p := hb V) (by decide) 6 0 (fun j _ _ => hb_in) j hj)]
  unfold cens
  rw [Int.sub_zero]
theorem wtm_ps {w : Int → Int} : ∀ (k : Nat) (t A : Int), wtm w k t A = ps (fun j => if dg 2 j.toNat A = 1 then w (t + j) else 0) k
  | 0, _, _ => rfl
  | k+1, t, A => by
    rw [show k + 1 = 1 + k by omega, ps_split 1 k, show 1 + k = k + 1 by omega]
    unfold wtm
    rw [wtm_ps k (t + 1) (A / 2)]
    have h1 : ps (fun j => if dg 2 j.toNat A = 1 then w (t + j) else 0) 1 = if A % 2 = 1 then w t else 0 := by
      show 0 + (if dg 2 (((0 : Nat) : Int)).toNat A = 1 then w (t + ((0 : Nat) : Int)) else 0) = _
      rw [Int.zero_add, show t + ((0 : Nat) : Int) = t by omega]
      rfl
    rw [h1]
    congr 1
    refine ps_congr fun d d0 d1 => ?_
    show (if dg 2 d.toNat (A / 2) = 1 then w (t + 1 + d) else 0) = (if dg 2 (((1 : Nat) : Int) + d).toNat A = 1 then w (t + (((1 : Nat) : Int) + d)) else 0)
    rw [show (((1 : Nat) : Int) + d).toNat = d.toNat + 1 by omega, show t + (((1 : Nat) : Int) + d) = t + 1 + d by omega]
    rfl
def wz (V : zM) (A : Int) (i : Nat) : Int := ps (fun t => if dg 2 t.toNat A = 1 then V 4 t else 0) i
theorem wz_wtm {V : zM} {A : Int} (t0 : 0 ≤ V 0 3) (t6 : V 0 3 ≤ 6) : wz V A (V 0 3).toNat = wtm (wV V) 6 0 A := by
  rw [wtm_ps, show 6 = (V 0 3).toNat + (6 - (V 0 3).toNat) by omega, ps_split (V 0 3).toNat]
  rw [ps_congr (w := fun d => if dg 2 (((V 0 3).toNat : Int) + d).toNat A = 1 then wV V (0 + (((V 0 3).toNat : Int) + d)) else 0) (w' := fun _ => 0) (fun d d0 d1 => by
    have : wV V (0 + (((V 0 3).toNat : Int) + d)) = 0 := by unfold wV; rw [if_neg (by omega)]
    rw [this]
    split <;> rfl), ps_zero, Int.add_zero]
  unfold wz
  refine ps_congr fun t h0 h1 => ?_
  have hw : wV V (0 + t) = V 4 t := by rw [Int.zero_add]; unfold wV; rw [if_pos ⟨h0, by omega⟩]
  rw [hw]
theorem wz_in {N : Int} {V : zM} {A : Int} {i : Nat} (w : WF N V) (hi : (i : Int) ≤ V 0 3) : 0 ≤ wz V A i ∧ wz V A i ≤ 300 := by
  have t6 := w.t6
  have := ps_in (w := fun t => if dg 2 t.toNat A = 1 then V 4 t else 0) (B := 50) (k := i) (fun t h0 h1 => by
    have := (w.tn t h0 (by omega)).1
    show 0 ≤ (if dg 2 t.toNat A = 1 then V 4 t else 0) ∧ (if dg 2 t.toNat A = 1 then V 4 t else 0) ≤ 50
    split <;> omega)
  unfold wz
  omega
theorem weigh1_l {N : Int} {V : zM} {h : Nat} {A : Int} (hh : h + 10 ≤ 113) (w : WF N V) (hA : 0 ≤ A ∧ A < 64) : ∀ (k n i : Nat) (m : zM), (i : Int) + k = V 0 3 → k < n → HEq6 (hv m h) V → m 134 A = wz V A i →
    ∃ m', qS_weighSets_l21 h A n m i = some m' ∧ m' 134 A = wz V A (V 0 3).toNat ∧ (∀ B, B ≠ A → m' 134 B = m 134 B) ∧ ∀ q : Nat, q ≠ 134 → m' q = m q := by
  have t6 := w.t6
  intro k
  induction k with
  | zero =>
    intro n i m h1 hn e hm
    obtain ⟨n, rfl⟩ : ∃ n', n = n' + 1 := ⟨n - 1, by omega⟩
    have e3 : m h 3 = V 0 3 := e.1.2.1
    unfold qS_weighSets_l21
    rw [if_neg (by omega)]
    exact ⟨m, rfl, by rw [hm, show i = (V 0 3).toNat by omega], fun _ _ => rfl, fun _ _ => rfl⟩
  | succ k ih =>
    intro n i m h1 hn e hm
    obtain ⟨n, rfl⟩ : ∃ n', n = n' + 1 := ⟨n - 1, by omega⟩
    have e3 : m h 3 = V 0 3 := e.1.2.1
    have c : 0 ≤ (i : Int) ∧ (i : Int) < 6 := by omega
    have e4 : m (h + 4) i = V 4 i := e.tok (k := 4) (by decide) c
    have hwz : wz V A (i + 1) = wz V A i + (if dg 2 (i : Int).toNat A = 1 then V 4 i else 0) := rfl
    rw [show (i : Int).toNat = i by omega] at hwz
    have hin := wz_in (A := A) (i := i + 1) w (by omega)
    unfold qS_weighSets_l21
    rw [if_pos (by omega), (bits1 hA (show i < 6 by omega)).1, wr_n (x := (i : Int) + 1) (by omega) (by omega), show (i : Int) + 1 = ((i + 1 : Nat) : Int) by omega]
    by_cases hb1 : dg 2 i A = 1
    · rw [if_pos hb1] at hwz
      rw [if_pos hb1, if_pos hA, if_pos c, if_pos hA, sBind, hm, e4, ← hwz, wr_n (by omega) (by omega)]
      obtain ⟨m', u1, u2, u3, u4⟩ := ih n (i + 1) (st m 134 A (wz V A (i + 1))) (by omega) (by omega) (HEq6.trans (HEq6.of_same fun q q1 q2 => funext fun j => st_k (by omega)) e) st_at
      exact ⟨m', u1, u2, fun B hB => by rw [u3 B hB, st_i hB], fun q hq => by rw [u4 q hq]; exact funext fun j => st_k hq⟩
    · rw [if_neg hb1, Int.add_zero] at hwz
      rw [if_neg hb1]
      exact ih n (i + 1) m (by omega) (by omega) e (by rw [hm, hwz])
theorem weigh2_l {N : Int} {V μ : zM} {h : Nat} (hh : h + 10 ≤ 113) (w : WF N V) (e : HEq6 (hv μ h) V) : ∀ (k n : Nat) (A : Int) (m : zM), A + k = 64 → 0 ≤ A → k < n → (∀ q : Nat, q ≠ 134 → m q = μ q) → (∀ B, 0 ≤ B → B < A → m 134 B = wz V B (V 0 3).toNat) → (∀ B, A ≤ B → B < 64 → m 134 B = 0) →
    ∃ m', qS_weighSets_l10 h n m A = some m' ∧ (∀ B, 0 ≤ B → B < 64 → m' 134 B = wz V B (V 0 3).toNat) ∧ ∀ q : Nat, q ≠ 134 → m' q = μ q := by
  have t0 := w.t0
  have t6 := w.t6
  intro k
  induction k with
  | zero =>
    intro n A m h1 h0 hn hq hd hz
    obtain ⟨n, rfl⟩ : ∃ n', n = n' + 1 := ⟨n - 1, by omega⟩
    unfold qS_weighSets_l10
    rw [if_neg (by omega)]
    exact ⟨m, rfl, fun B b0 b1 => hd B b0 (by omega), hq⟩
  | succ k ih =>
    intro n A m h1 h0 hn hq hd hz
    obtain ⟨n, rfl⟩ : ∃ n', n = n' + 1 := ⟨n - 1, by omega⟩
    obtain ⟨m1, u1, u2, u3, u4⟩ := weigh1_l hh w (A := A) ⟨h0, by omega⟩ (V 0 3).toNat 200 0 m (by omega) (by omega) (HEq6.trans (HEq6.of_same fun q q1 q2 => hq q (by omega)) e) (by rw [hz A (Int.le_refl _) (by omega)]; rfl)
    rw [show ((0 : Nat) : Int) = 0 from rfl] at u1
    unfold qS_weighSets_l10
    rw [if_pos (by omega), u1, sBind, wr_n (by omega) (by omega)]
    refine ih n (A + 1) m1 (by omega) (by omega) (by omega) (fun q hqq => by rw [u4 q hqq, hq q hqq]) (fun B b0 b1 => ?_) (fun B b0 b1 => by rw [u3 B (by omega)]; exact hz B (by omega) b1)
    by_cases hB : B = A
    · rw [hB]; exact u2
    · rw [u3 B hB]; exact hd B b0 (by omega)
theorem sub_le {k : Nat} {A B : Int} : ∀ {k : Nat} {A B : Int}, sbs k A B = true → 0 ≤ B → B < pw 2 k → 0 ≤ A → B ≤ A
  | 0, A, B, _, h0, h1, h2 => by unfold pw at h1; omega
  | k+1, A, B, h, h0, h1, h2 => by
    unfold pw at h1
    unfold sbs at h
    rw [Bool.and_eq_true] at h
    have h3 := of_decide_eq_true h.1
    have h4 := sub_le (k := k) (A := A / 2) (B := B / 2) h.2 (by omega) (by omega) (by omega)
    omega
theorem improve1_l {V m : zM} {F : Nat} {A : Int} {s : Int → Int} (hF : F < 6) (hA : 0 ≤ A ∧ A < 64) (h134 : ∀ B, 0 ≤ B → B < 64 → m 134 B = wtm (wV V) 6 0 B) (h135 : ∀ B, 0 ≤ B → B ≤ A → m 135 B = cm F (wV V) 6 0 B s) : ∀ (k n i : Nat), (i : Int) + k = A + 1 → k < n →
    qS_improve_l12 m (s F) A n (ps (fun B => if sbs 6 A B = true ∧ wtm (wV V) 6 0 B = s F then cm F (wV V) 6 0 (A - B) s else 0) i) i = some (cm (F + 1) (wV V) 6 0 A s) := by
  have hg : ∀ B : Int, 0 ≤ (if sbs 6 A B = true ∧ wtm (wV V) 6 0 B = s F then cm F (wV V) 6 0 (A - B) s else 0) := fun B => by
    have := (cm_in (F := F) (w := wV V) (by omega) 6 0 (A - B) s).1
    split <;> omega
  have htot := cm_step (F := F) (w := wV V) 6 0 A s
  rw [show p2 6 = 64 from rfl] at htot
  have hmax := cm_in (F := F + 1) (w := wV V) (by omega) 6 0 A s
  rw [show pw 6 6 = 46656 from rfl] at hmax
  intro k
  induction k with
  | zero =>
    intro n i h1 hn
    obtain ⟨n, rfl⟩ : ∃ n', n = n' + 1 := ⟨n - 1, by omega⟩
    unfold qS_improve_l12
    rw [if_pos (by omega), ← htot, show (64 : Nat) = i + (64 - i) by omega, ps_split i (64 - i)]
    rw [ps_congr (w := fun d => if sbs 6 A ((i : Int) + d) = true ∧ wtm (wV V) 6 0 ((i : Int) + d) = s F then cm F (wV V) 6 0 (A - ((i : Int) + d)) s else 0) (w' := fun _ => 0) (fun d d0 d1 => if_neg (fun z => by
      have := ((bits2 hA (b := (i : Int) + d) ⟨by omega, by omega⟩).2 z.1).2
      omega)), ps_zero, Int.add_zero]
  | succ k ih =>
    intro n i h1 hn
    obtain ⟨n, rfl⟩ : ∃ n', n = n' + 1 := ⟨n - 1, by omega⟩
    have hB : 0 ≤ (i : Int) ∧ (i : Int) < 64 := by omega
    have hb2 := bits2 hA hB
    have hle := ps_mono (f := fun B => if sbs 6 A B = true ∧ wtm (wV V) 6 0 B = s F then cm F (wV V) 6 0 (A - B) s else 0) (i + 1) (64 - (i + 1)) (fun B _ _ => hg B)
    rw [show i + 1 + (64 - (i + 1)) = 64 by omega, htot] at hle
    have hn0 := ps_nn (w := fun B => if sbs 6 A B = true ∧ wtm (wV V) 6 0 B = s F then cm F (wV V) 6 0 (A - B) s else 0) (k := i + 1) (fun B _ _ => hg B)
    have nx := ih n (i + 1) (by omega) (by omega)
    have hps : ps (fun B => if sbs 6 A B = true ∧ wtm (wV V) 6 0 B = s F then cm F (wV V) 6 0 (A - B) s else 0) (i + 1) = ps (fun B => if sbs 6 A B = true ∧ wtm (wV V) 6 0 B = s F then cm F (wV V) 6 0 (A - B) s else 0) i + (if sbs 6 A i = true ∧ wtm (wV V) 6 0 i = s F then cm F (wV V) 6 0 (A - i) s else 0) := rfl
    rw [show ((i + 1 : Nat) : Int) = (i : Int) + 1 by omega] at nx
    unfold qS_improve_l12
    rw [if_neg (by omega), if_pos hB, h134 i hB.1 hB.2, wr_n (x := (i : Int) + 1) (by omega) (by omega)]
    by_cases hw : wtm (wV V) 6 0 i = s F
    · rw [if_pos hw]
      by_cases hs : sbs 6 A i = true
      · have hx := hb2.2 hs
        rw [if_pos (hb2.1.mpr hs), hx.1, if_pos (by omega), h135 (A - i) (by omega) (by omega)]
        rw [if_pos ⟨hs, hw⟩] at hps
        rw [← hps, wr_n (by omega) (by omega)]
        exact nx
      · rw [if_neg (fun z => hs (hb2.1.mp z))]
        rw [if_neg (fun z => hs z.1), Int.add_zero] at hps
        rw [← hps]
        exact nx
    · rw [if_neg hw]
      rw [if_neg (fun z => hw z.2), Int.add_zero] at hps
      rw [← hps]
      exact nx
theorem improve2_l {V : zM} {F : Nat} {H : Int} {s : Int → Int} (hF : F < 6) (hH : 0 ≤ H ∧ H < 64) : ∀ (k n : Nat) (A : Int) (m : zM), A + 1 = k → A ≤ H → k < n → (∀ B, 0 ≤ B → B < 64 → m 134 B = wtm (wV V) 6 0 B) → (∀ B, 0 ≤ B → B ≤ A → m 135 B = cm F (wV V) 6 0 B s) → (∀ B, A < B → B ≤ H → m 135 B = cm (F + 1) (wV V) 6 0 B s) →
    ∃ m', qS_improve_l2 (s F) n m A = some m' ∧ (∀ B, 0 ≤ B → B ≤ H → m' 135 B = cm (F + 1) (wV V) 6 0 B s) ∧ ∀ q : Nat, q ≠ 135 → m' q = m q := by
  intro k
  induction k with
  | zero =>
    intro n A m h1 h0 hn h134 ho hw
    obtain ⟨n, rfl⟩ : ∃ n', n = n' + 1 := ⟨n - 1, by omega⟩
    unfold qS_improve_l2
    rw [if_pos (by omega)]
    exact ⟨m, rfl, fun B b0 b1 => hw B (by omega) b1, fun _ _ => rfl⟩
  | succ k ih =>
    intro n A m h1 h0 hn h134 ho hw
    obtain ⟨n, rfl⟩ : ∃ n', n = n' + 1 := ⟨n - 1, by omega⟩
    have hA : 0 ≤ A ∧ A < 64 := by omega
    have hl := improve1_l (V := V) (s := s) hF hA h134 ho (A + 1).toNat 200 0 (by omega) (by omega)
    rw [show ps (fun B => if sbs 6 A B = true ∧ wtm (wV V) 6 0 B = s F then cm F (wV V) 6 0 (A - B) s else 0) 0 = 0 from rfl, show ((0 : Nat) : Int) = 0 from rfl] at hl
    unfold qS_improve_l2
    rw [if_neg (by omega), hl, sBind, if_pos hA, sBind, wr_n (by omega) (by omega), show A + -1 = A - 1 by omega]
    obtain ⟨m', u1, u2, u3⟩ := ih n (A - 1) (st m 135 A (cm (F + 1) (wV V) 6 0 A s)) (by omega) (by omega) (by omega) (fun B b0 b1 => by rw [st_k (by decide)]; exact h134 B b0 b1) (fun B b0 b1 => by rw [st_i (by omega)]; exact ho B b0 (by omega)) (fun B b0 b1 => by
      by_cases hB : B = A
      · rw [hB, st_at]
      · rw [st_i hB]; exact hw B (by omega) b1)
    exact ⟨m', u1, u2, fun q hq => by rw [u3 q hq]; exact funext fun j => st_k hq⟩
theorem sets_l {V : zM} {H : Int} {s : Int → Int} (hH : 0 ≤ H ∧ H < 64) : ∀ (k n F : Nat) (m : zM), F + k = 6 → k < n → (∀ f : Int, 0 ≤ f → f < 6 → m 133 f = s f) → (∀ B, 0 ≤ B → B < 64 → m 134 B = wtm (wV V) 6 0 B) → (∀ B, 0 ≤ B → B ≤ H → m 135 B = cm F (wV V) 6 0 B s) →
    ∃ m', qS_countBySets_l32 H n m F = some m' ∧ (∀ B, 0 ≤ B → B ≤ H → m' 135 B = cm 6 (wV V) 6 0 B s) ∧ ∀ q : Nat, q ≠ 135 → m' q = m q := by
  intro k
  induction k with
  | zero =>
    intro n F m h1 hn h133 h134 ho
    obtain ⟨n, rfl⟩ : ∃ n', n = n' + 1 := ⟨n - 1, by omega⟩
    unfold qS_countBySets_l32
    rw [if_neg (by omega)]
    have hF6 : F = 6 := by omega
    subst hF6
    exact ⟨m, rfl, ho, fun _ _ => rfl⟩
  | succ k ih =>
    intro n F m h1 hn h133 h134 ho
    obtain ⟨n, rfl⟩ : ∃ n', n = n' + 1 := ⟨n - 1, by omega⟩
    obtain ⟨m1, u1, u2, u3⟩ := improve2_l (V := V) (F := F) (s := s) (by omega) hH (H + 1).toNat 200 H m (by omega) (Int.le_refl _) (by omega) h134 ho (fun B b0 b1 => by omega)
    unfold qS_countBySets_l32 qS_improve
    rw [if_pos (by omega), if_pos (by omega), h133 F (by omega) (by omega), u1, sBind, sBind, wr_n (by omega) (by omega), show (F : Int) + 1 = ((F + 1 : Nat) : Int) by omega]
    obtain ⟨m', v1, v2, v3⟩ := ih n (F + 1) m1 (by omega) (by omega) (fun f f0 f1 => by rw [u3 133 (by decide)]; exact h133 f f0 f1) (fun B b0 b1 => by rw [u3 134 (by decide)]; exact h134 B b0 b1) u2
    exact ⟨m', v1, v2, fun q hq => by rw [v3 q hq, u3 q hq]⟩
theorem countBySets_eq {N : Int} {V μ : zM} {h : Nat} (hh : h + 10 ≤ 113) (w : WF N V) (e : HEq6 (hv μ h) V) : ∃ m, qS_countBySets μ h = some (cens V, m) ∧ ∀ q : Nat, (q < 133 ∨ 136 ≤ q) → m q = μ q := by
  have t0 := w.t0
  have t6 := w.t6
  unfold qS_countBySets qS_weighSets
  rw [measure_eq hh w e, sBind, fill_eq (by decide), sBind]
  have e1 : HEq6 (hv (fl (wls μ 133 6 (cr V)) 134 (64 : Nat) 0) h) V := HEq6.trans (HEq6.of_same fun q q1 q2 => by rw [fl_k (by omega), wls_k (by omega)]) e
  obtain ⟨m2, p1, p2, p3⟩ := weigh2_l hh w e1 64 200 0 (fl (wls μ 133 6 (cr V)) 134 (64 : Nat) 0) (by decide) (by decide) (by decide) (fun _ _ => rfl) (fun B b0 b1 => by omega) (fun B b0 b1 => fl_at ⟨b0, by omega⟩)
  rw [p1, sBind, sBind, fill_eq (by decide), sBind, sBind]
  generalize hm4 : st (fl m2 135 (64 : Nat) 0) 135 0 1 = m4
  have c1 : ∀ q : Nat, q ≠ 135 → m4 q = m2 q := fun q hq => by rw [← hm4, ← fl_k (μ := m2) (k := 135) (n := ((64 : Nat) : Int)) (v := 0) hq]; exact funext fun j => st_k hq
  have fr : ∀ q : Nat, (q < 133 ∨ 136 ≤ q) → m4 q = μ q := fun q hq => by rw [c1 q (by omega), p3 q (by omega), fl_k (by omega), wls_k (by omega)]
  have hH := Hs_in (V := V)
  rw [housedSet_eq t0 t6 (HEq6.trans (HEq6.of_same fun q q1 q2 => fr q (by omega)) e), sBind]
  obtain ⟨m7, u1, u2, u3⟩ := sets_l (V := V) (H := Hs V) (s := cr V) hH 6 200 0 m4 (by decide) (by decide) (fun f f0 f1 => by rw [c1 133 (by decide), p3 133 (by decide), fl_k (by decide), wls_at ⟨f0, f1⟩]) (fun B b0 b1 => by rw [c1 134 (by decide), p2 B b0 b1, wz_wtm t0 t6]) (fun B b0 b1 => by
    rw [cm_0 6 0 B (cr V) b0 (by show B < 64; omega)]
    by_cases hB : B = 0
    · rw [if_pos hB, hB, ← hm4, st_at]
    · rw [if_neg hB, ← hm4, st_i hB, fl_at (n := ((64 : Nat) : Int)) ⟨b0, by omega⟩])
  rw [show ((0 : Nat) : Int) = 0 from rfl] at u1
  rw [u1, sBind, if_pos hH, u2 (Hs V) hH.1 (Int.le_refl _), cm_cens t0 t6]
  exact ⟨m7, rfl, fun q hq => by rw [u3 q (by omega), fr q hq]⟩
theorem censusesBySets_ok {N : Int} : DoOk N N qT_censusesBySets qM_censusesBySets := by
  intro μ hI
  have hB := hI.1
  have w := hB.1
  obtain ⟨m1, p1, p2⟩ := countBySets_eq (h := 1) (μ := μ) (V := hv μ 1) (by decide) w (HEq6.of_same fun _ _ _ => rfl)
  obtain ⟨m, u1, u2, u3⟩ := censusesM_eq (V := hv μ 1) (μ := m1) w (by rw [p2 143 (by omega)]; exact hB.2)
  refine ⟨cens (hv μ 1), m1, m, ?_, ?_, hI.gen (fun q hq => by rw [u2 q (by omega) (by omega) (by omega) (by omega), p2 q (by omega)]) (fun j hj => by rw [u3 j hj, p2 142 (by omega)])⟩
  · unfold qT_censusesBySets
    rw [p1, sBnd2]
  · unfold qM_censusesBySets
    rw [u1, sBnd2]
