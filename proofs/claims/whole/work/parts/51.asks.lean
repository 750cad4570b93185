/-! ===== B: asking about a flat, about a tenant ===== -/
theorem asked_inv {N : Int} {μ : zM} {x : Int} (hI : Inv N μ) : Inv N (st (st μ 156 0 x) 142 0 0) := thrown_inv (out_inv hI) (Int.le_refl N)
theorem flatAsk {N : Int} {μ : zM} {f : Int} (hI : Inv N μ) {q : Nat} {k : Int} (hk : 0 ≤ k ∧ k ≤ 1) (hq : ∀ j, 0 ≤ j → j < μ 1 0 → μ 143 (8 + 2 * j + k) = μ q j) {C M : zM → Option (Int × zM)}
    (hC : C μ = bndT (tcall (qT_requireFlat μ f) fun a1 m1 => if 0 ≤ f ∧ f < 6 then some (.inl (m1 q f), m1) else none) (fun x m => some (0, st m 156 0 x)) (fun (e : Nat) m => if e = 1 then some (1, m) else none))
    (hM : ∀ m, M m = Option.bind (some (st m 142 0 0)) fun m1 => Option.bind (qM_isFlat m1 f) fun a2 => if a2 = 0 then bnd2 (qM_fails m1 1) fun a3 m3 => some (a3, m3) else Option.bind (qM_flat m1 f k) fun a4 => some (a4, m1)) :
    ∃ a m1 x m2, C μ = some (a, m1) ∧ M m1 = some (x, m2) ∧ m2 142 0 = a ∧ (a = 0 → m2 156 0 = x) ∧ Inv N m2 := by
  have hB := hI.1
  have w := hB.1
  have hn : μ 143 0 = μ 1 0 := hB.2.n
  have n0 : 0 ≤ μ 1 0 := w.n0
  have n6 : μ 1 0 ≤ 6 := w.n6
  have k9 : ∀ (m : zM) (v : Int), (st m 142 0 v) 143 = m 143 := fun m v => funext fun j => st_k (by decide)
  have k8 : ∀ v : Int, (st μ 156 0 v) 143 = μ 143 := fun v => funext fun j => st_k (by decide)
  rw [hC]
  unfold qT_requireFlat
  rw [hasFlat_eq, sBind]
  by_cases hf : 0 ≤ f ∧ f < μ 1 0
  · rw [if_pos hf, if_neg (show ¬ (1 : Int) = 0 by decide), sTcl, if_pos (show 0 ≤ f ∧ f < 6 by omega), sBndTl]
    refine ⟨0, _, μ q f, _, rfl, ?_, st_at, fun _ => ?_, asked_inv (x := μ q f) hI⟩
    · rw [hM, sBind, isFlat_eq (by rw [k9, k8]; omega), sBind, k9, k8, hn, if_pos hf, if_neg (show ¬ (1 : Int) = 0 by decide), flat_eq (by omega) hk, sBind, k9, k8, hq f hf.1 hf.2]
    · rw [st_k (by decide), st_at]
  · rw [if_neg hf, if_pos rfl, sTcr, sBndTr, if_pos rfl]
    refine ⟨1, μ, 0, st (st μ 142 0 0) 142 0 1, rfl, ?_, st_at, fun h => absurd h (by decide), thrown_inv (thrown_inv hI (Int.le_refl N)) (Int.le_refl N)⟩
    rw [hM, sBind, isFlat_eq (by rw [k9]; omega), sBind, k9, hn, if_neg hf, if_pos rfl, fails_eq, sBnd2]
theorem floorOf_ok {N : Int} {f : Int} : OpOk N N (fun μ => qL_floorOf μ f) (fun μ => qM_floorOf μ f) := fun μ hI =>
  flatAsk (f := f) hI (q := 2) (k := 0) (by decide) (fun j h0 h1 => by rw [Int.add_zero]; exact (hI.1.2.fl j h0 h1).1) (C := fun μ => qL_floorOf μ f) (M := fun μ => qM_floorOf μ f) rfl (fun _ => rfl)
theorem rentOf_ok {N : Int} {f : Int} : OpOk N N (fun μ => qL_rentOf μ f) (fun μ => qM_rentOf μ f) := fun μ hI =>
  flatAsk (f := f) hI (q := 3) (k := 1) (by decide) (fun j h0 h1 => by rw [show 8 + 2 * j + 1 = 9 + 2 * j by omega]; exact (hI.1.2.fl j h0 h1).2) (C := fun μ => qL_rentOf μ f) (M := fun μ => qM_rentOf μ f) rfl (fun _ => rfl)
theorem tenantAsk {N : Int} {μ : zM} {v : Int} (hI : Inv N μ) {q : Nat} {k : Int} (hk : 0 ≤ k ∧ k ≤ 6) (hq : ∀ j, 0 ≤ j → j < μ 1 3 → μ 143 (20 + 7 * j + k) = μ q j) {C M : zM → Option (Int × zM)}
    (hC : C μ = bndT (tcall (qT_presentSlot μ v) fun a1 m1 => if 0 ≤ a1 ∧ a1 < 6 then some (.inl (m1 q a1), m1) else none) (fun x m => some (0, st m 156 0 x)) (fun (e : Nat) m => if e = 0 then some (1, m) else none))
    (hM : ∀ m, M m = bnd2 (qM_tells m v k) fun a1 m1 => some (a1, m1)) :
    ∃ a m1 x m2, C μ = some (a, m1) ∧ M m1 = some (x, m2) ∧ m2 142 0 = a ∧ (a = 0 → m2 156 0 = x) ∧ Inv N m2 := by
  have hB := hI.1
  have w := hB.1
  have t0 : 0 ≤ μ 1 3 := w.t0
  have t6 : μ 1 3 ≤ 6 := w.t6
  have k9 : ∀ (m : zM) (v : Int), (st m 142 0 v) 143 = m 143 := fun m v => funext fun j => st_k (by decide)
  have k8 : ∀ v : Int, (st μ 156 0 v) 143 = μ 143 := fun v => funext fun j => st_k (by decide)
  have hs := fi_spec (w := μ (1 + 3)) (v := v) (μ 1 3).toNat 0 (by omega)
  have hp : ∀ m : zM, m 143 = μ 143 → qM_place m v = some (fi (μ (1 + 3)) v (μ 1 3).toNat 0) := fun m hm => place_eq (V := hv μ 1) (by rw [hm]; exact hB.2) t0 t6
  rw [hC]
  unfold qT_presentSlot
  rw [slotOf_eq t0 t6, sBind]
  generalize fi (μ (1 + 3)) v (μ 1 3).toNat 0 = s at hs hp
  by_cases hf : s = -1
  · rw [if_pos hf, sTcr, sBndTr, if_pos rfl]
    refine ⟨1, μ, 0, st (st μ 142 0 0) 142 0 1, rfl, ?_, st_at, fun h => absurd h (by decide), thrown_inv (thrown_inv hI (Int.le_refl N)) (Int.le_refl N)⟩
    rw [hM]
    unfold qM_tells
    rw [sBind, hp _ (k9 _ _), sBind, if_pos (show s < 0 by omega), fails_eq, sBnd2, sBnd2]
  · rw [if_neg hf, sTcl, if_pos (show 0 ≤ s ∧ s < 6 by omega), sBndTl]
    refine ⟨0, _, μ q s, _, rfl, ?_, st_at, fun _ => ?_, asked_inv (x := μ q s) hI⟩
    · rw [hM]
      unfold qM_tells
      have h3 : (st (st μ 156 0 (μ q s)) 142 0 0) 143 = μ 143 := by rw [k9, k8]
      rw [sBind, hp _ h3, sBind, if_neg (show ¬ s < 0 by omega), sBind, of_eq (by omega) hk, sBind, sBnd2, h3, hq s (by omega) (by omega)]
    · rw [st_k (by decide), st_at]
theorem weightOf_ok {N : Int} {v : Int} : OpOk N N (fun μ => qL_weightOf μ v) (fun μ => qM_weightOf μ v) := fun μ hI =>
  tenantAsk (v := v) hI (q := 5) (k := 1) (by decide) (fun j h0 h1 => by rw [show 20 + 7 * j + 1 = 21 + 7 * j by omega]; exact (hI.1.2.tn j h0 h1).2.1) (C := fun μ => qL_weightOf μ v) (M := fun μ => qM_weightOf μ v) rfl (fun _ => rfl)
theorem purseOf_ok {N : Int} {v : Int} : OpOk N N (fun μ => qL_purseOf μ v) (fun μ => qM_purseOf μ v) := fun μ hI =>
  tenantAsk (v := v) hI (q := 8) (k := 4) (by decide) (fun j h0 h1 => by rw [show 20 + 7 * j + 4 = 24 + 7 * j by omega]; exact (hI.1.2.tn j h0 h1).2.2.2.2.1) (C := fun μ => qL_purseOf μ v) (M := fun μ => qM_purseOf μ v) rfl (fun _ => rfl)
theorem noticesOf_ok {N : Int} {v : Int} : OpOk N N (fun μ => qL_noticesOf μ v) (fun μ => qM_noticesOf μ v) := fun μ hI =>
  tenantAsk (v := v) hI (q := 9) (k := 5) (by decide) (fun j h0 h1 => by rw [show 20 + 7 * j + 5 = 25 + 7 * j by omega]; exact (hI.1.2.tn j h0 h1).2.2.2.2.2.1) (C := fun μ => qL_noticesOf μ v) (M := fun μ => qM_noticesOf μ v) rfl (fun _ => rfl)
