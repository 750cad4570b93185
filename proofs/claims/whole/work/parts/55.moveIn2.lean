/-! ===== B: moveIn, the turn ===== -/
theorem moveIn_ok {N : Int} {v f : Int} : OpOk N N (fun μ => qL_moveIn μ v f) (fun μ => qM_moveIn μ v f) := by
  intro μ hI
  have hB := hI.1
  have w := hB.1
  have t0 : 0 ≤ μ 1 3 := w.t0
  have t6 : μ 1 3 ≤ 6 := w.t6
  have n0 : 0 ≤ μ 1 0 := w.n0
  have n6 : μ 1 0 ≤ 6 := w.n6
  have hn : μ 143 0 = μ 1 0 := hB.2.n
  have k9 : ∀ (m : zM) (x : Int), (st m 142 0 x) 143 = m 143 := fun m x => funext fun j => st_k (by decide)
  have hs := fi_spec (w := μ (1 + 3)) (v := v) (μ 1 3).toNat 0 (by omega)
  have ho := fi_spec (w := μ (1 + 9)) (v := f) (μ 1 3).toNat 0 (by omega)
  have hp : ∀ m : zM, RowIs (m 143) (hv μ 1) → qM_place m v = some (fi (μ (1 + 3)) v (μ 1 3).toNat 0) := fun m hm => place_eq (V := hv μ 1) hm t0 t6
  have hoc : ∀ m : zM, RowIs (m 143) (hv μ 1) → 0 ≤ f ∧ f < μ 1 0 → qM_occupant m f = some (fi (μ (1 + 9)) f (μ 1 3).toNat 0) := fun m hm hf => occupant_eq (V := hv μ 1) hm t0 t6 (by omega)
  have hq : ∀ m : zM, (∀ q : Nat, q < 31 → m q = μ q) → qH_slotOf m 1 v = some (fi (μ (1 + 3)) v (μ 1 3).toNat 0) := fun m hm => by
    rw [slotOf_eq (by rw [hm 1 (by omega)]; exact t0) (by rw [hm 1 (by omega)]; exact t6), hm 1 (by omega), hm (1 + 3) (by omega)]
  have hsi : qH_slotIn μ 1 f = some (fi (μ (1 + 9)) f (μ 1 3).toNat 0) := slotIn_eq t0 t6
  show ∃ a9 m1 x m2, qL_moveIn μ v f = some (a9, m1) ∧ qM_moveIn m1 v f = some (x, m2) ∧ m2 142 0 = a9 ∧ (a9 = 0 → m2 156 0 = x) ∧ Inv N m2
  unfold qL_moveIn qT_moveIn qH_refusalOfMovingIn
  rw [hq μ (fun q _ => rfl), sBind, hsi]
  generalize fi (μ (1 + 3)) v (μ 1 3).toNat 0 = s at hs hp hq
  generalize fi (μ (1 + 9)) f (μ 1 3).toNat 0 = o at ho hoc
  have rr : ∀ x, RowIs ((st μ 142 0 x) 143) (hv μ 1) := fun x => by rw [k9]; exact hB.2
  have fin : ∀ c : Int, 1 ≤ c → qM_notIn (st μ 142 0 0) v f = some c → qM_moveIn μ v f = some (0, st (st μ 142 0 0) 142 0 c) := fun c hc h => by
    unfold qM_moveIn
    rw [sBind, h, sBind, if_neg (by omega), fails_eq, sBnd2]
  have iv : ∀ c : Int, Inv N (st (st μ 142 0 0) 142 0 c) := fun c => thrown_inv (thrown_inv hI (Int.le_refl _)) (Int.le_refl _)
  by_cases hf : s = -1
  · rw [if_pos hf, sBind, refuseE (by decide), sTcr, sBndTr, if_pos (by decide)]
    refine ⟨1, μ, 0, _, rfl, fin 1 (by decide) ?_, st_at, fun h => absurd h (by decide), iv 1⟩
    unfold qM_notIn
    rw [hp _ (rr _), sBind, if_pos (show s < 0 by omega)]
  have s0 : 0 ≤ s ∧ s < μ 1 3 := by omega
  rw [if_neg hf, hasFlat_eq, sBind]
  by_cases hfl : 0 ≤ f ∧ f < μ 1 0
  case neg =>
    rw [if_neg hfl, if_pos rfl, sBind, refuseE (by decide), sTcr, sBndTr, if_neg (by decide), if_pos (by decide)]
    refine ⟨2, μ, 0, _, rfl, fin 2 (by decide) ?_, st_at, fun h => absurd h (by decide), iv 2⟩
    unfold qM_notIn
    rw [hp _ (rr _), sBind, if_neg (show ¬ s < 0 by omega), isFlat_eq (by rw [k9]; omega), sBind, k9, hn, if_neg hfl, if_pos rfl]
  rw [if_pos hfl, if_neg (show ¬ (1 : Int) = 0 by decide), if_pos (show 0 ≤ s ∧ s < 6 by omega)]
  have hh : μ 143 (26 + 7 * s) = μ (1 + 9) s + 1 := (hB.2.tn s s0.1 s0.2).2.2.2.2.2.2
  have hb : -1 ≤ μ (1 + 9) s := (w.tn s s0.1 s0.2).2.2.2.2.2.1
  have pre : ∀ m : zM, m 143 = μ 143 → qM_notIn m v f = if 0 < μ (1 + 9) s + 1 then some 3 else if o < 0 then (if μ (1 + 7) s < μ (1 + 2) f then some 4 else some 0) else some 3 := fun m hm => by
    have r9 : RowIs (m 143) (hv μ 1) := by rw [hm]; exact hB.2
    unfold qM_notIn
    rw [hp _ r9, sBind, if_neg (show ¬ s < 0 by omega), isFlat_eq (by rw [hm]; omega), sBind, hm, hn, if_pos hfl, if_neg (show ¬ (1 : Int) = 0 by decide), of_eq (by omega) (by decide), sBind, hm, show 20 + 7 * s + 6 = 26 + 7 * s by omega, hh, hoc _ r9 hfl, sBind, affords_eq (V := hv μ 1) r9 s0 t6 hfl n6, sBind]
    show _ = (if 0 < μ (1 + 9) s + 1 then some 3 else if o < 0 then (if hv μ 1 7 s < hv μ 1 2 f then some 4 else some 0) else some 3)
    by_cases c1 : 0 < μ (1 + 9) s + 1
    · rw [if_pos c1, if_pos c1]
    · rw [if_neg c1, if_neg c1]
      by_cases c2 : o < 0
      · rw [if_pos c2, if_pos c2]
        by_cases c3 : hv μ 1 7 s < hv μ 1 2 f
        · rw [if_pos c3, if_pos c3, if_pos rfl]
        · rw [if_neg c3, if_neg c3, if_neg (show ¬ (1 : Int) = 0 by decide)]
      · rw [if_neg c2, if_neg c2]
  by_cases hm1 : μ (1 + 9) s = -1
  case neg =>
    rw [if_neg hm1, sBind, refuseE (by decide), sTcr, sBndTr, if_neg (by decide), if_neg (by decide), if_pos (by decide)]
    refine ⟨3, μ, 0, _, rfl, fin 3 (by decide) ?_, st_at, fun h => absurd h (by decide), iv 3⟩
    rw [pre _ (k9 _ _), if_pos (by omega)]
  rw [if_pos hm1, sBind]
  by_cases hoo : o = -1
  case neg =>
    rw [if_neg hoo, sBind, refuseE (by decide), sTcr, sBndTr, if_neg (by decide), if_neg (by decide), if_pos (by decide)]
    refine ⟨3, μ, 0, _, rfl, fin 3 (by decide) ?_, st_at, fun h => absurd h (by decide), iv 3⟩
    rw [pre _ (k9 _ _), if_neg (show ¬ 0 < μ (1 + 9) s + 1 by omega), if_neg (show ¬ o < 0 by omega)]
  rw [if_pos hoo, canAfford_eq (by omega) (by omega), sBind]
  by_cases ha : μ (1 + 7) s < μ (1 + 2) f
  case pos =>
    rw [if_pos ha, if_pos rfl, sBind, refuseE (by decide), sTcr, sBndTr, if_neg (by decide), if_neg (by decide), if_neg (by decide), if_pos (by decide)]
    refine ⟨4, μ, 0, _, rfl, fin 4 (by decide) ?_, st_at, fun h => absurd h (by decide), iv 4⟩
    rw [pre _ (k9 _ _), if_neg (show ¬ 0 < μ (1 + 9) s + 1 by omega), if_pos (show o < 0 by omega), if_pos ha]
  rw [if_neg ha, if_neg (show ¬ (1 : Int) = 0 by decide), sBind, refuse0, sTcl]
  have wf : WF N (st (hv μ 1) 9 s f) := home_wf w (by constructor; omega; exact hfl.2) (fun j h0 h1 _ hj => by
    rcases ho with hx | hx
    · omega
    · exact absurd hj (hx.2 j h0 (by have h1' : j < μ 1 3 := h1; omega)))
  obtain ⟨m1, m2, e1, g1, e2, k⟩ := change_both (N' := N) (μ := μ) (r := bd (st (hv μ 1) 9 s f) s f) (V' := st (hv μ 1) 9 s f) (fun m => Option.bind (qH_slotOf m 1 v) fun a4 => qH_lodge m 1 a4 f) (fun m => qM_movesIn m v f) hI (by omega)
    (fun m1 g1 => by
      have h6 : HEq6 (hv (st m1 (1 + 9) s f) 1) (st (hv μ 1) 9 s f) := by
        rw [hv_st]; exact HEq6.upd (HEq6.of_same fun q q1 q2 => g1 q (by omega))
      refine ⟨st m1 (1 + 9) s f, ?_, fun q hq => funext fun j => st_k (by omega), h6⟩
      show Option.bind (qH_slotOf m1 1 v) (fun a4 => qH_lodge m1 1 a4 f) = _
      rw [hq m1 g1, sBind]
      unfold qH_lodge
      have q1 : (st m1 (1 + 9) s f) 1 = μ 1 := by rw [← g1 1 (by omega)]; exact funext fun j => st_k (by decide)
      rw [if_pos (by omega), sBind, burdenFor_eq (h6.wf wf) (by rw [q1]; exact s0) (by rw [q1]; exact hfl), sBind]
      have b1 : hv (st m1 (1 + 9) s f) 1 = st (hv m1 1) 9 s f := hv_st
      have u : ∀ k9 : Nat, k9 < 9 → ∀ j, hv (st m1 (1 + 9) s f) 1 k9 j = st (hv μ 1) 9 s f k9 j := fun k9 hk j => by
        rw [b1, st_k (by omega), st_k (by omega)]
        exact congrFun (g1 (1 + k9) (by omega)) j
      unfold bd
      rw [u 1 (by decide), u 5 (by decide), u 2 (by decide)])
    (fun m5 l5 => by
      have r9 : RowIs (m5 143) (hv μ 1) := by rw [l5]; exact hB.2
      have r8 : RowIs ((st m5 143 (26 + 7 * s) (f + 1)) 143) (st (hv μ 1) 9 s f) := home_row hB.2 n6 s0.1 st_at (fun i hi => by rw [st_i hi, l5])
      refine ⟨st m5 143 (26 + 7 * s) (f + 1), ?_, fun q q1 _ _ => funext fun j => st_k q1, fun j _ => st_k (by decide), r8⟩
      unfold qM_movesIn
      rw [hp m5 r9, sBind, wr_n (x := f + 1) (by omega) (by omega), puts_eq (by omega) (by decide), sBind, show 20 + 7 * s + 6 = 26 + 7 * s by omega]
      have hp2 : qM_place (st m5 143 (26 + 7 * s) (f + 1)) v = qM_place m5 v := by
        rw [place_eq r8 t0 t6, place_eq r9 t0 t6]; rfl
      rw [hp2, hp m5 r9, sBind, burdenOf_eq wf r8 s0 hfl, sBind])
    wf
  have e2' : Option.bind (qH_slotOf m1 1 v) (fun a4 => qH_lodge m1 1 a4 f) = some (bd (st (hv μ 1) 9 s f) s f, m2) := e2
  rw [hq m1 g1, sBind] at e2'
  rw [e1, sBind, hq m1 g1, sBind, e2', sBnd2, sBndTl]
  obtain ⟨k143, k0, m5, m6, e5, l143, e6, z0, z1, z2⟩ := k _ rfl
  refine ⟨0, _, bd (st (hv μ 1) 9 s f) s f, m6, rfl, ?_, z0, fun _ => z1, z2⟩
  unfold qM_moveIn
  rw [sBind, pre _ k143, if_neg (show ¬ 0 < μ (1 + 9) s + 1 by omega), if_pos (show o < 0 by omega), if_neg ha, sBind, if_pos rfl, e5, sBind, show qM_movesIn m5 v f = some (bd (st (hv μ 1) 9 s f) s f, m6) from e6, sBnd2]
