/-! ===== B: the law's turns and its loop (written by wip/whole/tools/loop.py) ===== -/
def Turn (N : Int) (scL : Int) (scV : Int → Int) (v5 : Int) (j : (zM → Int → Option ((Int ⊕ Unit) × zM)) → Int → (Int → Int) → zM → Int → Option ((Int ⊕ Unit) × zM)) : Prop :=
  ∀ (rec : zM → Int → Option ((Int ⊕ Unit) × zM)) (μ : zM), Inv N μ → ∃ m', j rec scL scV μ v5 = rec m' (v5 + 5) ∧ Inv (N + 1300000) m'
theorem opE {N N' x : Int} {C M : zM → Option (Int × zM)} {rec : zM → Int → Option ((Int ⊕ Unit) × zM)} {μ : zM} (h : OpOk N N' C M) (hI : Inv N μ) (hN : N' ≤ N + 1300000) : ∃ m', (bnd2 (C μ) fun a1 m1 => bnd2 (M m1) fun a2 m2 => Option.bind (qM_thrown m2) fun a3 => if a3 = a1 then if a1 = 0 then if (ycmp (m2 156 0) a2) = 0 then rec m2 x else some (.inl 0, m2) else rec m2 x else some (.inl 0, m2)) = rec m' x ∧ Inv (N + 1300000) m' := by
  obtain ⟨a, m1, x1, m2, e1, e2, e3, e4, e5⟩ := h μ hI
  rw [e1, sBnd2, e2, sBnd2]
  unfold qM_thrown
  rw [sBind, if_pos e3]
  by_cases h0 : a = 0
  · rw [if_pos h0, if_pos (ycmp_eq.mpr (e4 h0))]; exact ⟨m2, rfl, e5.mono hN⟩
  · rw [if_neg h0]; exact ⟨m2, rfl, e5.mono hN⟩
theorem askE {N x : Int} {C : zM → Option Int} {M : zM → Option (Int × zM)} {rec : zM → Int → Option ((Int ⊕ Unit) × zM)} {μ : zM} (h : AskOk N C M) (hI : Inv N μ) : ∃ m', (Option.bind (C μ) fun a1 => bnd2 (M μ) fun a2 m2 => if a1 = a2 then rec m2 x else some (.inl 0, m2)) = rec m' x ∧ Inv (N + 1300000) m' := by
  obtain ⟨x1, m, e1, e2, e3⟩ := h μ hI
  rw [e1, sBind, e2, sBnd2, if_pos rfl]
  exact ⟨m, rfl, e3.mono (by omega)⟩
theorem askY {N x : Int} {C : zM → Option Int} {M : zM → Option (Int × zM)} {rec : zM → Int → Option ((Int ⊕ Unit) × zM)} {μ : zM} (h : AskOk N C M) (hI : Inv N μ) : ∃ m', (Option.bind (C μ) fun a1 => bnd2 (M μ) fun a2 m2 => if (ycmp a1 a2) = 0 then rec m2 x else some (.inl 0, m2)) = rec m' x ∧ Inv (N + 1300000) m' := by
  obtain ⟨x1, m, e1, e2, e3⟩ := h μ hI
  rw [e1, sBind, e2, sBnd2, if_pos (ycmp_eq.mpr rfl)]
  exact ⟨m, rfl, e3.mono (by omega)⟩
theorem doE {N N' x : Int} {C M : zM → Option (Int × zM)} {rec : zM → Int → Option ((Int ⊕ Unit) × zM)} {μ : zM} (h : DoOk N N' C M) (hI : Inv N μ) (hN : N' ≤ N + 1300000) : ∃ m', (bnd2 (C μ) fun a1 m1 => bnd2 (M m1) fun a2 m2 => if a1 = a2 then rec m2 x else some (.inl 0, m2)) = rec m' x ∧ Inv (N + 1300000) m' := by
  obtain ⟨x1, m1, m2, e1, e2, e3⟩ := h μ hI
  rw [e1, sBnd2, e2, sBnd2, if_pos rfl]
  exact ⟨m2, rfl, e3.mono hN⟩
section LOOP
variable {N scL v5 : Int} {scV : Int → Int}
theorem lturn_0 (hN : N ≤ 998000000) (h0 : 0 ≤ v5) (h1 : v5 + 5 ≤ scL) (h2 : scL ≤ 2560) : Turn N scL scV v5 qL_law_j264 := by
  intro rec μ hI
  have h5 : wr (v5 + 5) = v5 + 5 := wr_n (by omega) (by omega)
  have g1 : 0 ≤ wr (v5 + 1) ∧ wr (v5 + 1) < scL := by rw [wr_n (by omega) (by omega)]; omega
  have g2 : 0 ≤ wr (v5 + 2) ∧ wr (v5 + 2) < scL := by rw [wr_n (by omega) (by omega)]; omega
  unfold qL_law_j264
  simp only [if_pos g1, if_pos g2, h5]
  exact opE (addFlat_ok (N := N)) hI (by omega)
theorem lturn_1 (hN : N ≤ 998000000) (h0 : 0 ≤ v5) (h1 : v5 + 5 ≤ scL) (h2 : scL ≤ 2560) : Turn N scL scV v5 qL_law_j332 := by
  intro rec μ hI
  have h5 : wr (v5 + 5) = v5 + 5 := wr_n (by omega) (by omega)
  have g1 : 0 ≤ wr (v5 + 1) ∧ wr (v5 + 1) < scL := by rw [wr_n (by omega) (by omega)]; omega
  have g2 : 0 ≤ wr (v5 + 2) ∧ wr (v5 + 2) < scL := by rw [wr_n (by omega) (by omega)]; omega
  have g3 : 0 ≤ wr (v5 + 3) ∧ wr (v5 + 3) < scL := by rw [wr_n (by omega) (by omega)]; omega
  have g4 : 0 ≤ wr (v5 + 4) ∧ wr (v5 + 4) < scL := by rw [wr_n (by omega) (by omega)]; omega
  unfold qL_law_j332
  simp only [if_pos g1, if_pos g2, if_pos g3, if_pos g4, h5]
  exact opE (addTenant_ok (N := N) (by omega)) hI (by omega)
theorem lturn_2 (hN : N ≤ 998000000) (h0 : 0 ≤ v5) (h1 : v5 + 5 ≤ scL) (h2 : scL ≤ 2560) : Turn N scL scV v5 qL_law_j424 := by
  intro rec μ hI
  have h5 : wr (v5 + 5) = v5 + 5 := wr_n (by omega) (by omega)
  have g1 : 0 ≤ wr (v5 + 1) ∧ wr (v5 + 1) < scL := by rw [wr_n (by omega) (by omega)]; omega
  unfold qL_law_j424
  simp only [if_pos g1, h5]
  exact opE (removeTenant_ok (N := N) (by omega)) hI (by omega)
theorem lturn_3 (hN : N ≤ 998000000) (h0 : 0 ≤ v5) (h1 : v5 + 5 ≤ scL) (h2 : scL ≤ 2560) : Turn N scL scV v5 qL_law_j480 := by
  intro rec μ hI
  have h5 : wr (v5 + 5) = v5 + 5 := wr_n (by omega) (by omega)
  have g1 : 0 ≤ wr (v5 + 1) ∧ wr (v5 + 1) < scL := by rw [wr_n (by omega) (by omega)]; omega
  have g2 : 0 ≤ wr (v5 + 2) ∧ wr (v5 + 2) < scL := by rw [wr_n (by omega) (by omega)]; omega
  unfold qL_law_j480
  simp only [if_pos g1, if_pos g2, h5]
  exact opE (moveIn_ok (N := N)) hI (by omega)
theorem lturn_4 (hN : N ≤ 998000000) (h0 : 0 ≤ v5) (h1 : v5 + 5 ≤ scL) (h2 : scL ≤ 2560) : Turn N scL scV v5 qL_law_j548 := by
  intro rec μ hI
  have h5 : wr (v5 + 5) = v5 + 5 := wr_n (by omega) (by omega)
  have g1 : 0 ≤ wr (v5 + 1) ∧ wr (v5 + 1) < scL := by rw [wr_n (by omega) (by omega)]; omega
  unfold qL_law_j548
  simp only [if_pos g1, h5]
  exact opE (moveOut_ok (N := N)) hI (by omega)
theorem lturn_5 (hN : N ≤ 998000000) (h0 : 0 ≤ v5) (h1 : v5 + 5 ≤ scL) (h2 : scL ≤ 2560) : Turn N scL scV v5 qL_law_j604 := by
  intro rec μ hI
  have h5 : wr (v5 + 5) = v5 + 5 := wr_n (by omega) (by omega)
  have g1 : 0 ≤ wr (v5 + 1) ∧ wr (v5 + 1) < scL := by rw [wr_n (by omega) (by omega)]; omega
  have g2 : 0 ≤ wr (v5 + 2) ∧ wr (v5 + 2) < scL := by rw [wr_n (by omega) (by omega)]; omega
  unfold qL_law_j604
  simp only [if_pos g1, if_pos g2, h5]
  exact opE (setRent_ok (N := N)) hI (by omega)
theorem lturn_6 (hN : N ≤ 998000000) (h0 : 0 ≤ v5) (h1 : v5 + 5 ≤ scL) (h2 : scL ≤ 2560) : Turn N scL scV v5 qL_law_j672 := by
  intro rec μ hI
  have h5 : wr (v5 + 5) = v5 + 5 := wr_n (by omega) (by omega)
  have g1 : 0 ≤ wr (v5 + 1) ∧ wr (v5 + 1) < scL := by rw [wr_n (by omega) (by omega)]; omega
  have g2 : 0 ≤ wr (v5 + 2) ∧ wr (v5 + 2) < scL := by rw [wr_n (by omega) (by omega)]; omega
  unfold qL_law_j672
  simp only [if_pos g1, if_pos g2, h5]
  exact opE (give_ok (N := N) (by omega)) hI (by omega)
theorem lturn_7 (hN : N ≤ 998000000) (h0 : 0 ≤ v5) (h1 : v5 + 5 ≤ scL) (h2 : scL ≤ 2560) : Turn N scL scV v5 qL_law_j740 := by
  intro rec μ hI
  have h5 : wr (v5 + 5) = v5 + 5 := wr_n (by omega) (by omega)
  unfold qL_law_j740
  simp only [h5]
  exact doE (settle_ok (N := N)) hI (by omega)
theorem lturn_8 (hN : N ≤ 998000000) (h0 : 0 ≤ v5) (h1 : v5 + 5 ≤ scL) (h2 : scL ≤ 2560) : Turn N scL scV v5 qL_law_j753 := by
  intro rec μ hI
  have h5 : wr (v5 + 5) = v5 + 5 := wr_n (by omega) (by omega)
  have g1 : 0 ≤ wr (v5 + 1) ∧ wr (v5 + 1) < scL := by rw [wr_n (by omega) (by omega)]; omega
  unfold qL_law_j753
  simp only [if_pos g1, h5]
  exact opE (pass_ok (N := N) (by omega)) hI (by omega)
theorem lturn_9 (hN : N ≤ 998000000) (h0 : 0 ≤ v5) (h1 : v5 + 5 ≤ scL) (h2 : scL ≤ 2560) : Turn N scL scV v5 qL_law_j809 := by
  intro rec μ hI
  have h5 : wr (v5 + 5) = v5 + 5 := wr_n (by omega) (by omega)
  unfold qL_law_j809
  simp only [h5]
  exact askE (flats_ok (N := N)) hI
theorem lturn_10 (hN : N ≤ 998000000) (h0 : 0 ≤ v5) (h1 : v5 + 5 ≤ scL) (h2 : scL ≤ 2560) : Turn N scL scV v5 qL_law_j822 := by
  intro rec μ hI
  have h5 : wr (v5 + 5) = v5 + 5 := wr_n (by omega) (by omega)
  have g1 : 0 ≤ wr (v5 + 1) ∧ wr (v5 + 1) < scL := by rw [wr_n (by omega) (by omega)]; omega
  unfold qL_law_j822
  simp only [if_pos g1, h5]
  exact opE (floorOf_ok (N := N)) hI (by omega)
theorem lturn_11 (hN : N ≤ 998000000) (h0 : 0 ≤ v5) (h1 : v5 + 5 ≤ scL) (h2 : scL ≤ 2560) : Turn N scL scV v5 qL_law_j878 := by
  intro rec μ hI
  have h5 : wr (v5 + 5) = v5 + 5 := wr_n (by omega) (by omega)
  have g1 : 0 ≤ wr (v5 + 1) ∧ wr (v5 + 1) < scL := by rw [wr_n (by omega) (by omega)]; omega
  unfold qL_law_j878
  simp only [if_pos g1, h5]
  exact opE (rentOf_ok (N := N)) hI (by omega)
theorem lturn_12 (hN : N ≤ 998000000) (h0 : 0 ≤ v5) (h1 : v5 + 5 ≤ scL) (h2 : scL ≤ 2560) : Turn N scL scV v5 qL_law_j934 := by
  intro rec μ hI
  have h5 : wr (v5 + 5) = v5 + 5 := wr_n (by omega) (by omega)
  have g1 : 0 ≤ wr (v5 + 1) ∧ wr (v5 + 1) < scL := by rw [wr_n (by omega) (by omega)]; omega
  unfold qL_law_j934
  simp only [if_pos g1, h5]
  exact opE (tenantIn_ok (N := N)) hI (by omega)
theorem lturn_13 (hN : N ≤ 998000000) (h0 : 0 ≤ v5) (h1 : v5 + 5 ≤ scL) (h2 : scL ≤ 2560) : Turn N scL scV v5 qL_law_j990 := by
  intro rec μ hI
  have h5 : wr (v5 + 5) = v5 + 5 := wr_n (by omega) (by omega)
  unfold qL_law_j990
  simp only [h5]
  exact askE (vacantFlats_ok (N := N)) hI
theorem lturn_14 (hN : N ≤ 998000000) (h0 : 0 ≤ v5) (h1 : v5 + 5 ≤ scL) (h2 : scL ≤ 2560) : Turn N scL scV v5 qL_law_j1003 := by
  intro rec μ hI
  have h5 : wr (v5 + 5) = v5 + 5 := wr_n (by omega) (by omega)
  unfold qL_law_j1003
  simp only [h5]
  exact askE (tenants_ok (N := N)) hI
theorem lturn_15 (hN : N ≤ 998000000) (h0 : 0 ≤ v5) (h1 : v5 + 5 ≤ scL) (h2 : scL ≤ 2560) : Turn N scL scV v5 qL_law_j1016 := by
  intro rec μ hI
  have h5 : wr (v5 + 5) = v5 + 5 := wr_n (by omega) (by omega)
  have g1 : 0 ≤ wr (v5 + 1) ∧ wr (v5 + 1) < scL := by rw [wr_n (by omega) (by omega)]; omega
  unfold qL_law_j1016
  simp only [if_pos g1, h5]
  exact askE (isPresent_ok (N := N)) hI
theorem lturn_16 (hN : N ≤ 998000000) (h0 : 0 ≤ v5) (h1 : v5 + 5 ≤ scL) (h2 : scL ≤ 2560) : Turn N scL scV v5 qL_law_j1041 := by
  intro rec μ hI
  have h5 : wr (v5 + 5) = v5 + 5 := wr_n (by omega) (by omega)
  have g1 : 0 ≤ wr (v5 + 1) ∧ wr (v5 + 1) < scL := by rw [wr_n (by omega) (by omega)]; omega
  unfold qL_law_j1041
  simp only [if_pos g1, h5]
  exact opE (weightOf_ok (N := N)) hI (by omega)
theorem lturn_17 (hN : N ≤ 998000000) (h0 : 0 ≤ v5) (h1 : v5 + 5 ≤ scL) (h2 : scL ≤ 2560) : Turn N scL scV v5 qL_law_j1097 := by
  intro rec μ hI
  have h5 : wr (v5 + 5) = v5 + 5 := wr_n (by omega) (by omega)
  have g1 : 0 ≤ wr (v5 + 1) ∧ wr (v5 + 1) < scL := by rw [wr_n (by omega) (by omega)]; omega
  unfold qL_law_j1097
  simp only [if_pos g1, h5]
  exact opE (purseOf_ok (N := N)) hI (by omega)
theorem lturn_18 (hN : N ≤ 998000000) (h0 : 0 ≤ v5) (h1 : v5 + 5 ≤ scL) (h2 : scL ≤ 2560) : Turn N scL scV v5 qL_law_j1153 := by
  intro rec μ hI
  have h5 : wr (v5 + 5) = v5 + 5 := wr_n (by omega) (by omega)
  have g1 : 0 ≤ wr (v5 + 1) ∧ wr (v5 + 1) < scL := by rw [wr_n (by omega) (by omega)]; omega
  unfold qL_law_j1153
  simp only [if_pos g1, h5]
  exact opE (noticesOf_ok (N := N)) hI (by omega)
theorem lturn_19 (hN : N ≤ 998000000) (h0 : 0 ≤ v5) (h1 : v5 + 5 ≤ scL) (h2 : scL ≤ 2560) : Turn N scL scV v5 qL_law_j1209 := by
  intro rec μ hI
  have h5 : wr (v5 + 5) = v5 + 5 := wr_n (by omega) (by omega)
  have g1 : 0 ≤ wr (v5 + 1) ∧ wr (v5 + 1) < scL := by rw [wr_n (by omega) (by omega)]; omega
  unfold qL_law_j1209
  simp only [if_pos g1, h5]
  exact opE (flatOf_ok (N := N)) hI (by omega)
theorem lturn_20 (hN : N ≤ 998000000) (h0 : 0 ≤ v5) (h1 : v5 + 5 ≤ scL) (h2 : scL ≤ 2560) : Turn N scL scV v5 qL_law_j1265 := by
  intro rec μ hI
  have h5 : wr (v5 + 5) = v5 + 5 := wr_n (by omega) (by omega)
  have g1 : 0 ≤ wr (v5 + 1) ∧ wr (v5 + 1) < scL := by rw [wr_n (by omega) (by omega)]; omega
  have g2 : 0 ≤ wr (v5 + 2) ∧ wr (v5 + 2) < scL := by rw [wr_n (by omega) (by omega)]; omega
  unfold qL_law_j1265
  simp only [if_pos g1, if_pos g2, h5]
  exact opE (burden_ok (N := N)) hI (by omega)
theorem lturn_21 (hN : N ≤ 998000000) (h0 : 0 ≤ v5) (h1 : v5 + 5 ≤ scL) (h2 : scL ≤ 2560) : Turn N scL scV v5 qL_law_j1333 := by
  intro rec μ hI
  have h5 : wr (v5 + 5) = v5 + 5 := wr_n (by omega) (by omega)
  have g1 : 0 ≤ wr (v5 + 1) ∧ wr (v5 + 1) < scL := by rw [wr_n (by omega) (by omega)]; omega
  have g2 : 0 ≤ wr (v5 + 2) ∧ wr (v5 + 2) < scL := by rw [wr_n (by omega) (by omega)]; omega
  unfold qL_law_j1333
  simp only [if_pos g1, if_pos g2, h5]
  exact opE (flatByRank_ok (N := N)) hI (by omega)
theorem lturn_22 (hN : N ≤ 998000000) (h0 : 0 ≤ v5) (h1 : v5 + 5 ≤ scL) (h2 : scL ≤ 2560) : Turn N scL scV v5 qL_law_j1401 := by
  intro rec μ hI
  have h5 : wr (v5 + 5) = v5 + 5 := wr_n (by omega) (by omega)
  have g1 : 0 ≤ wr (v5 + 1) ∧ wr (v5 + 1) < scL := by rw [wr_n (by omega) (by omega)]; omega
  unfold qL_law_j1401
  simp only [if_pos g1, h5]
  exact opE (tenantByPurse_ok (N := N)) hI (by omega)
theorem lturn_23 (hN : N ≤ 998000000) (h0 : 0 ≤ v5) (h1 : v5 + 5 ≤ scL) (h2 : scL ≤ 2560) : Turn N scL scV v5 qL_law_j1457 := by
  intro rec μ hI
  have h5 : wr (v5 + 5) = v5 + 5 := wr_n (by omega) (by omega)
  have g1 : 0 ≤ wr (v5 + 1) ∧ wr (v5 + 1) < scL := by rw [wr_n (by omega) (by omega)]; omega
  unfold qL_law_j1457
  simp only [if_pos g1, h5]
  exact opE (creak_ok (N := N)) hI (by omega)
theorem lturn_24 (hN : N ≤ 998000000) (h0 : 0 ≤ v5) (h1 : v5 + 5 ≤ scL) (h2 : scL ≤ 2560) : Turn N scL scV v5 qL_law_j1513 := by
  intro rec μ hI
  have h5 : wr (v5 + 5) = v5 + 5 := wr_n (by omega) (by omega)
  unfold qL_law_j1513
  simp only [h5]
  exact doE (censuses_ok (N := N)) hI (by omega)
theorem lturn_25 (hN : N ≤ 998000000) (h0 : 0 ≤ v5) (h1 : v5 + 5 ≤ scL) (h2 : scL ≤ 2560) : Turn N scL scV v5 qL_law_j1526 := by
  intro rec μ hI
  have h5 : wr (v5 + 5) = v5 + 5 := wr_n (by omega) (by omega)
  unfold qL_law_j1526
  simp only [h5]
  exact doE (censusesBySets_ok (N := N)) hI (by omega)
theorem lturn_26 (hN : N ≤ 998000000) (h0 : 0 ≤ v5) (h1 : v5 + 5 ≤ scL) (h2 : scL ≤ 2560) : Turn N scL scV v5 qL_law_j1539 := by
  intro rec μ hI
  have h5 : wr (v5 + 5) = v5 + 5 := wr_n (by omega) (by omega)
  have g1 : 0 ≤ wr (v5 + 1) ∧ wr (v5 + 1) < scL := by rw [wr_n (by omega) (by omega)]; omega
  unfold qL_law_j1539
  simp only [if_pos g1, h5]
  exact opE (possibleFloors_ok (N := N)) hI (by omega)
theorem lturn_27 (hN : N ≤ 998000000) (h0 : 0 ≤ v5) (h1 : v5 + 5 ≤ scL) (h2 : scL ≤ 2560) : Turn N scL scV v5 qL_law_j1595 := by
  intro rec μ hI
  have h5 : wr (v5 + 5) = v5 + 5 := wr_n (by omega) (by omega)
  have g1 : 0 ≤ wr (v5 + 1) ∧ wr (v5 + 1) < scL := by rw [wr_n (by omega) (by omega)]; omega
  unfold qL_law_j1595
  simp only [if_pos g1, h5]
  exact opE (plannedFlat_ok (N := N)) hI (by omega)
theorem lturn_28 (hN : N ≤ 998000000) (h0 : 0 ≤ v5) (h1 : v5 + 5 ≤ scL) (h2 : scL ≤ 2560) : Turn N scL scV v5 qL_law_j1651 := by
  intro rec μ hI
  have h5 : wr (v5 + 5) = v5 + 5 := wr_n (by omega) (by omega)
  have g1 : 0 ≤ wr (v5 + 1) ∧ wr (v5 + 1) < scL := by rw [wr_n (by omega) (by omega)]; omega
  unfold qL_law_j1651
  simp only [if_pos g1, h5]
  exact opE (plannedFlatByPlans_ok (N := N)) hI (by omega)
theorem lturn_29 (hN : N ≤ 998000000) (h0 : 0 ≤ v5) (h1 : v5 + 5 ≤ scL) (h2 : scL ≤ 2560) : Turn N scL scV v5 qL_law_j1707 := by
  intro rec μ hI
  have h5 : wr (v5 + 5) = v5 + 5 := wr_n (by omega) (by omega)
  unfold qL_law_j1707
  simp only [h5]
  exact doE (stablePlans_ok (N := N)) hI (by omega)
theorem lturn_30 (hN : N ≤ 998000000) (h0 : 0 ≤ v5) (h1 : v5 + 5 ≤ scL) (h2 : scL ≤ 2560) : Turn N scL scV v5 qL_law_j1720 := by
  intro rec μ hI
  have h5 : wr (v5 + 5) = v5 + 5 := wr_n (by omega) (by omega)
  unfold qL_law_j1720
  simp only [h5]
  exact doE (isStable_ok (N := N)) hI (by omega)
theorem lturn_31 (hN : N ≤ 998000000) (h0 : 0 ≤ v5) (h1 : v5 + 5 ≤ scL) (h2 : scL ≤ 2560) : Turn N scL scV v5 qL_law_j1733 := by
  intro rec μ hI
  have h5 : wr (v5 + 5) = v5 + 5 := wr_n (by omega) (by omega)
  have g1 : 0 ≤ wr (v5 + 1) ∧ wr (v5 + 1) < scL := by rw [wr_n (by omega) (by omega)]; omega
  unfold qL_law_j1733
  simp only [if_pos g1, h5]
  exact opE (chainLength_ok (N := N)) hI (by omega)
theorem lturn_32 (hN : N ≤ 998000000) (h0 : 0 ≤ v5) (h1 : v5 + 5 ≤ scL) (h2 : scL ≤ 2560) : Turn N scL scV v5 qL_law_j1789 := by
  intro rec μ hI
  have h5 : wr (v5 + 5) = v5 + 5 := wr_n (by omega) (by omega)
  unfold qL_law_j1789
  simp only [h5]
  exact opE (monthsUntilEviction_ok (N := N) (by omega)) hI (by omega)
theorem lturn_33 (hN : N ≤ 998000000) (h0 : 0 ≤ v5) (h1 : v5 + 5 ≤ scL) (h2 : scL ≤ 2560) : Turn N scL scV v5 qL_law_j1833 := by
  intro rec μ hI
  have h5 : wr (v5 + 5) = v5 + 5 := wr_n (by omega) (by omega)
  unfold qL_law_j1833
  simp only [h5]
  exact askE (month_ok (N := N)) hI
theorem lturn_34 (hN : N ≤ 998000000) (h0 : 0 ≤ v5) (h1 : v5 + 5 ≤ scL) (h2 : scL ≤ 2560) : Turn N scL scV v5 qL_law_j1846 := by
  intro rec μ hI
  have h5 : wr (v5 + 5) = v5 + 5 := wr_n (by omega) (by omega)
  unfold qL_law_j1846
  simp only [h5]
  exact askY (received_ok (N := N)) hI
theorem lturn_35 (hN : N ≤ 998000000) (h0 : 0 ≤ v5) (h1 : v5 + 5 ≤ scL) (h2 : scL ≤ 2560) : Turn N scL scV v5 qL_law_j1860 := by
  intro rec μ hI
  have h5 : wr (v5 + 5) = v5 + 5 := wr_n (by omega) (by omega)
  unfold qL_law_j1860
  simp only [h5]
  exact askY (receivedByParts_ok (N := N) (by omega)) hI
theorem lturn_36 (hN : N ≤ 998000000) (h0 : 0 ≤ v5) (h1 : v5 + 5 ≤ scL) (h2 : scL ≤ 2560) : Turn N scL scV v5 qL_law_j1874 := by
  intro rec μ hI
  have h5 : wr (v5 + 5) = v5 + 5 := wr_n (by omega) (by omega)
  unfold qL_law_j1874
  simp only [h5]
  exact askE (paidRents_ok (N := N)) hI
theorem lturn_37 (hN : N ≤ 998000000) (h0 : 0 ≤ v5) (h1 : v5 + 5 ≤ scL) (h2 : scL ≤ 2560) : Turn N scL scV v5 qL_law_j1887 := by
  intro rec μ hI
  have h5 : wr (v5 + 5) = v5 + 5 := wr_n (by omega) (by omega)
  unfold qL_law_j1887
  simp only [h5]
  exact askE (evictions_ok (N := N)) hI
theorem lturn_38 (hN : N ≤ 998000000) (h0 : 0 ≤ v5) (h1 : v5 + 5 ≤ scL) (h2 : scL ≤ 2560) : Turn N scL scV v5 qL_law_j1900 := by
  intro rec μ hI
  have h5 : wr (v5 + 5) = v5 + 5 := wr_n (by omega) (by omega)
  unfold qL_law_j1900
  simp only [h5]
  obtain ⟨a, m1, x1, m2, e1, e2, e3, e4, e5⟩ := meanBurden_ok μ hI
  rw [e1, sBnd2, e2, sBnd2]
  unfold qM_thrown
  rw [sBind, if_pos e3]
  by_cases h9 : a = 0
  · rw [if_pos h9, e4 h9]
    by_cases hc : fp_dcmpl x1 x1 = 0
    · rw [if_pos hc]; exact ⟨m2, rfl, e5.mono (by omega)⟩
    · rw [if_neg hc, if_neg hc, if_neg hc]; exact ⟨m2, rfl, e5.mono (by omega)⟩
  · rw [if_neg h9]; exact ⟨m2, rfl, e5.mono (by omega)⟩
theorem lturn_39 (hN : N ≤ 998000000) (h0 : 0 ≤ v5) (h1 : v5 + 5 ≤ scL) (h2 : scL ≤ 2560) : Turn N scL scV v5 qL_law_j1965 := by
  intro rec μ hI
  have h5 : wr (v5 + 5) = v5 + 5 := wr_n (by omega) (by omega)
  unfold qL_law_j1965
  simp only [h5]
  obtain ⟨a, m1, x1, m2, e1, e2, e3, e4, e5⟩ := occupancy_ok hI
  rw [e1, sBnd2, e2, sBnd2]
  unfold qM_thrown
  rw [sBind, if_pos e3]
  by_cases h9 : a = 0
  · rw [if_pos h9, if_pos (e4 h9).1, (e4 h9).2.1, if_pos (e4 h9).2.2]; exact ⟨m2, rfl, e5.mono (by omega)⟩
  · rw [if_neg h9]; exact ⟨m2, rfl, e5.mono (by omega)⟩
theorem lturn_40 (hN : N ≤ 998000000) (h0 : 0 ≤ v5) (h1 : v5 + 5 ≤ scL) (h2 : scL ≤ 2560) : Turn N scL scV v5 qL_law_j2031 := by
  intro rec μ hI
  have h5 : wr (v5 + 5) = v5 + 5 := wr_n (by omega) (by omega)
  unfold qL_law_j2031
  simp only [h5]
  exact doE (isConsistent_ok (N := N) (by omega)) hI (by omega)
theorem lturn_41 (hN : N ≤ 998000000) (h0 : 0 ≤ v5) (h1 : v5 + 5 ≤ scL) (h2 : scL ≤ 2560) : Turn N scL scV v5 qL_law_j2044 := by
  intro rec μ hI
  have h5 : wr (v5 + 5) = v5 + 5 := wr_n (by omega) (by omega)
  have g1 : 0 ≤ wr (v5 + 1) ∧ wr (v5 + 1) < scL := by rw [wr_n (by omega) (by omega)]; omega
  unfold qL_law_j2044
  simp only [if_pos g1, h5]
  exact opE (writeFloor_ok (N := N) (by omega)) hI (by omega)
theorem lturn_42 (hN : N ≤ 998000000) (h0 : 0 ≤ v5) (h1 : v5 + 5 ≤ scL) (h2 : scL ≤ 2560) : Turn N scL scV v5 qL_law_j2100 := by
  intro rec μ hI
  have h5 : wr (v5 + 5) = v5 + 5 := wr_n (by omega) (by omega)
  unfold qL_law_j2100
  simp only [h5]
  exact doE (writePlan_ok (N := N) (by omega)) hI (by omega)
theorem lturn_43 (hN : N ≤ 998000000) (h0 : 0 ≤ v5) (h1 : v5 + 5 ≤ scL) (h2 : scL ≤ 2560) : Turn N scL scV v5 qL_law_j2113 := by
  intro rec μ hI
  have h5 : wr (v5 + 5) = v5 + 5 := wr_n (by omega) (by omega)
  have g1 : 0 ≤ wr (v5 + 1) ∧ wr (v5 + 1) < scL := by rw [wr_n (by omega) (by omega)]; omega
  unfold qL_law_j2113
  simp only [if_pos g1, h5]
  exact opE (charAt_ok (N := N)) hI (by omega)
theorem lturn_44 (hN : N ≤ 998000000) (h0 : 0 ≤ v5) (h1 : v5 + 5 ≤ scL) (h2 : scL ≤ 2560) : Turn N scL scV v5 qL_law_j2169 := by
  intro rec μ hI
  have h5 : wr (v5 + 5) = v5 + 5 := wr_n (by omega) (by omega)
  have g1 : 0 ≤ wr (v5 + 1) ∧ wr (v5 + 1) < scL := by rw [wr_n (by omega) (by omega)]; omega
  unfold qL_law_j2169
  simp only [if_pos g1, h5]
  exact opE (type_ok (N := N) (c := scV (wr (v5 + 1)) % 65536) (by omega)) hI (by omega)
theorem lturn_45 (hN : N ≤ 998000000) (h0 : 0 ≤ v5) (h1 : v5 + 5 ≤ scL) (h2 : scL ≤ 2560) : Turn N scL scV v5 qL_law_j2227 := by
  intro rec μ hI
  have h5 : wr (v5 + 5) = v5 + 5 := wr_n (by omega) (by omega)
  unfold qL_law_j2227
  simp only [h5]
  exact opE (run_ok (N := N) (by omega)) hI (by omega)
theorem lturn_46 (hN : N ≤ 998000000) (h0 : 0 ≤ v5) (h1 : v5 + 5 ≤ scL) (h2 : scL ≤ 2560) : Turn N scL scV v5 qL_law_j2271 := by
  intro rec μ hI
  have h5 : wr (v5 + 5) = v5 + 5 := wr_n (by omega) (by omega)
  unfold qL_law_j2271
  simp only [h5]
  exact opE (errorPosition_ok (N := N)) hI (by omega)
theorem lturn_47 (hN : N ≤ 998000000) (h0 : 0 ≤ v5) (h1 : v5 + 5 ≤ scL) (h2 : scL ≤ 2560) : Turn N scL scV v5 qL_law_j2315 := by
  intro rec μ hI
  have h5 : wr (v5 + 5) = v5 + 5 := wr_n (by omega) (by omega)
  unfold qL_law_j2315
  simp only [h5]
  exact opE (failedCommand_ok (N := N)) hI (by omega)
theorem lturn_48 (hN : N ≤ 998000000) (h0 : 0 ≤ v5) (h1 : v5 + 5 ≤ scL) (h2 : scL ≤ 2560) : Turn N scL scV v5 qL_law_j2359 := by
  intro rec μ hI
  have h5 : wr (v5 + 5) = v5 + 5 := wr_n (by omega) (by omega)
  unfold qL_law_j2359
  simp only [h5]
  exact opE (undo_ok (N := N)) hI (by omega)
theorem lturn_49 (hN : N ≤ 998000000) (h0 : 0 ≤ v5) (h1 : v5 + 5 ≤ scL) (h2 : scL ≤ 2560) : Turn N scL scV v5 qL_law_j2403 := by
  intro rec μ hI
  have h5 : wr (v5 + 5) = v5 + 5 := wr_n (by omega) (by omega)
  unfold qL_law_j2403
  simp only [h5]
  exact doE (save_ok (N := N)) hI (by omega)
theorem lturn_50 (hN : N ≤ 998000000) (h0 : 0 ≤ v5) (h1 : v5 + 5 ≤ scL) (h2 : scL ≤ 2560) : Turn N scL scV v5 qL_law_j2416 := by
  intro rec μ hI
  have h5 : wr (v5 + 5) = v5 + 5 := wr_n (by omega) (by omega)
  unfold qL_law_j2416
  simp only [h5]
  exact opE (restore_ok (N := N)) hI (by omega)
end LOOP
theorem loop_l {scL : Int} {scV : Int → Int} (hL0 : 0 ≤ scL) (hL : scL ≤ 2560) : ∀ (k n : Nat) (t : Nat) (μ : zM), t + k = 512 → k < n → Inv (1300000 * t) μ → 5 * (t : Int) ≤ scL → ∃ mf, qL_law_l28 scL scV n μ (5 * t) = some (.inr (), mf) := by
  intro k
  induction k with
  | zero =>
    intro n t μ h1 hn hI h5
    obtain ⟨n, rfl⟩ : ∃ n', n = n' + 1 := ⟨n - 1, by omega⟩
    unfold qL_law_l28
    rw [wr_n (by omega) (by omega), if_pos (by omega)]
    exact ⟨μ, rfl⟩
  | succ k ih =>
    intro n t μ h1 hn hI h5
    obtain ⟨n, rfl⟩ : ∃ n', n = n' + 1 := ⟨n - 1, by omega⟩
    unfold qL_law_l28
    rw [wr_n (x := scL - 5) (by omega) (by omega)]
    by_cases hend : scL - 5 < 5 * (t : Int)
    · rw [if_pos hend]; exact ⟨μ, rfl⟩
    rw [if_neg hend, if_pos (show 0 ≤ 5 * (t : Int) ∧ 5 * (t : Int) < scL by omega)]
    have go : ∀ o : Option ((Int ⊕ Unit) × zM), (∃ m', o = qL_law_l28 scL scV n m' (5 * (t : Int) + 5) ∧ Inv (1300000 * (t : Int) + 1300000) m') → ∃ mf, o = some (.inr (), mf) := fun o ⟨m', e1, e2⟩ => by
      rw [e1, show 5 * (t : Int) + 5 = 5 * ((t + 1 : Nat) : Int) by omega]
      exact ih n (t + 1) m' (by omega) (by omega) (by rw [show 1300000 * ((t + 1 : Nat) : Int) = 1300000 * (t : Int) + 1300000 by omega]; exact e2) (by omega)
    refine go _ ?_
    generalize yand (scV (5 * (t : Int))) 63 = c
    by_cases c0 : c = 0
    · rw [if_pos c0]; exact lturn_0 (by omega) (by omega) (by omega) hL _ μ hI
    rw [if_neg c0]
    by_cases c1 : c = 1
    · rw [if_pos c1]; exact lturn_1 (by omega) (by omega) (by omega) hL _ μ hI
    rw [if_neg c1]
    by_cases c2 : c = 2
    · rw [if_pos c2]; exact lturn_2 (by omega) (by omega) (by omega) hL _ μ hI
    rw [if_neg c2]
    by_cases c3 : c = 3
    · rw [if_pos c3]; exact lturn_3 (by omega) (by omega) (by omega) hL _ μ hI
    rw [if_neg c3]
    by_cases c4 : c = 4
    · rw [if_pos c4]; exact lturn_4 (by omega) (by omega) (by omega) hL _ μ hI
    rw [if_neg c4]
    by_cases c5 : c = 5
    · rw [if_pos c5]; exact lturn_5 (by omega) (by omega) (by omega) hL _ μ hI
    rw [if_neg c5]
    by_cases c6 : c = 6
    · rw [if_pos c6]; exact lturn_6 (by omega) (by omega) (by omega) hL _ μ hI
    rw [if_neg c6]
    by_cases c7 : c = 7
    · rw [if_pos c7]; exact lturn_7 (by omega) (by omega) (by omega) hL _ μ hI
    rw [if_neg c7]
    by_cases c8 : c = 8
    · rw [if_pos c8]; exact lturn_8 (by omega) (by omega) (by omega) hL _ μ hI
    rw [if_neg c8]
    by_cases c9 : c = 9
    · rw [if_pos c9]; exact lturn_9 (by omega) (by omega) (by omega) hL _ μ hI
    rw [if_neg c9]
    by_cases c10 : c = 10
    · rw [if_pos c10]; exact lturn_10 (by omega) (by omega) (by omega) hL _ μ hI
    rw [if_neg c10]
    by_cases c11 : c = 11
    · rw [if_pos c11]; exact lturn_11 (by omega) (by omega) (by omega) hL _ μ hI
    rw [if_neg c11]
    by_cases c12 : c = 12
    · rw [if_pos c12]; exact lturn_12 (by omega) (by omega) (by omega) hL _ μ hI
    rw [if_neg c12]
    by_cases c13 : c = 13
    · rw [if_pos c13]; exact lturn_13 (by omega) (by omega) (by omega) hL _ μ hI
    rw [if_neg c13]
    by_cases c14 : c = 14
    · rw [if_pos c14]; exact lturn_14 (by omega) (by omega) (by omega) hL _ μ hI
    rw [if_neg c14]
    by_cases c15 : c = 15
    · rw [if_pos c15]; exact lturn_15 (by omega) (by omega) (by omega) hL _ μ hI
    rw [if_neg c15]
    by_cases c16 : c = 16
    · rw [if_pos c16]; exact lturn_16 (by omega) (by omega) (by omega) hL _ μ hI
    rw [if_neg c16]
    by_cases c17 : c = 17
    · rw [if_pos c17]; exact lturn_17 (by omega) (by omega) (by omega) hL _ μ hI
    rw [if_neg c17]
    by_cases c18 : c = 18
    · rw [if_pos c18]; exact lturn_18 (by omega) (by omega) (by omega) hL _ μ hI
    rw [if_neg c18]
    by_cases c19 : c = 19
    · rw [if_pos c19]; exact lturn_19 (by omega) (by omega) (by omega) hL _ μ hI
    rw [if_neg c19]
    by_cases c20 : c = 20
    · rw [if_pos c20]; exact lturn_20 (by omega) (by omega) (by omega) hL _ μ hI
    rw [if_neg c20]
    by_cases c21 : c = 21
    · rw [if_pos c21]; exact lturn_21 (by omega) (by omega) (by omega) hL _ μ hI
    rw [if_neg c21]
    by_cases c22 : c = 22
    · rw [if_pos c22]; exact lturn_22 (by omega) (by omega) (by omega) hL _ μ hI
    rw [if_neg c22]
    by_cases c23 : c = 23
    · rw [if_pos c23]; exact lturn_23 (by omega) (by omega) (by omega) hL _ μ hI
    rw [if_neg c23]
    by_cases c24 : c = 24
    · rw [if_pos c24]; exact lturn_24 (by omega) (by omega) (by omega) hL _ μ hI
    rw [if_neg c24]
    by_cases c25 : c = 25
    · rw [if_pos c25]; exact lturn_25 (by omega) (by omega) (by omega) hL _ μ hI
    rw [if_neg c25]
    by_cases c26 : c = 26
    · rw [if_pos c26]; exact lturn_26 (by omega) (by omega) (by omega) hL _ μ hI
    rw [if_neg c26]
    by_cases c27 : c = 27
    · rw [if_pos c27]; exact lturn_27 (by omega) (by omega) (by omega) hL _ μ hI
    rw [if_neg c27]
    by_cases c28 : c = 28
    · rw [if_pos c28]; exact lturn_28 (by omega) (by omega) (by omega) hL _ μ hI
    rw [if_neg c28]
    by_cases c29 : c = 29
    · rw [if_pos c29]; exact lturn_29 (by omega) (by omega) (by omega) hL _ μ hI
    rw [if_neg c29]
    by_cases c30 : c = 30
    · rw [if_pos c30]; exact lturn_30 (by omega) (by omega) (by omega) hL _ μ hI
    rw [if_neg c30]
    by_cases c31 : c = 31
    · rw [if_pos c31]; exact lturn_31 (by omega) (by omega) (by omega) hL _ μ hI
    rw [if_neg c31]
    by_cases c32 : c = 32
    · rw [if_pos c32]; exact lturn_32 (by omega) (by omega) (by omega) hL _ μ hI
    rw [if_neg c32]
    by_cases c33 : c = 33
    · rw [if_pos c33]; exact lturn_33 (by omega) (by omega) (by omega) hL _ μ hI
    rw [if_neg c33]
    by_cases c34 : c = 34
    · rw [if_pos c34]; exact lturn_34 (by omega) (by omega) (by omega) hL _ μ hI
    rw [if_neg c34]
    by_cases c35 : c = 35
    · rw [if_pos c35]; exact lturn_35 (by omega) (by omega) (by omega) hL _ μ hI
    rw [if_neg c35]
    by_cases c36 : c = 36
    · rw [if_pos c36]; exact lturn_36 (by omega) (by omega) (by omega) hL _ μ hI
    rw [if_neg c36]
    by_cases c37 : c = 37
    · rw [if_pos c37]; exact lturn_37 (by omega) (by omega) (by omega) hL _ μ hI
    rw [if_neg c37]
    by_cases c38 : c = 38
    · rw [if_pos c38]; exact lturn_38 (by omega) (by omega) (by omega) hL _ μ hI
    rw [if_neg c38]
    by_cases c39 : c = 39
    · rw [if_pos c39]; exact lturn_39 (by omega) (by omega) (by omega) hL _ μ hI
    rw [if_neg c39]
    by_cases c40 : c = 40
    · rw [if_pos c40]; exact lturn_40 (by omega) (by omega) (by omega) hL _ μ hI
    rw [if_neg c40]
    by_cases c41 : c = 41
    · rw [if_pos c41]; exact lturn_41 (by omega) (by omega) (by omega) hL _ μ hI
    rw [if_neg c41]
    by_cases c42 : c = 42
    · rw [if_pos c42]; exact lturn_42 (by omega) (by omega) (by omega) hL _ μ hI
    rw [if_neg c42]
    by_cases c43 : c = 43
    · rw [if_pos c43]; exact lturn_43 (by omega) (by omega) (by omega) hL _ μ hI
    rw [if_neg c43]
    by_cases c44 : c = 44
    · rw [if_pos c44]; exact lturn_44 (by omega) (by omega) (by omega) hL _ μ hI
    rw [if_neg c44]
    by_cases c45 : c = 45
    · rw [if_pos c45]; exact lturn_45 (by omega) (by omega) (by omega) hL _ μ hI
    rw [if_neg c45]
    by_cases c46 : c = 46
    · rw [if_pos c46]; exact lturn_46 (by omega) (by omega) (by omega) hL _ μ hI
    rw [if_neg c46]
    by_cases c47 : c = 47
    · rw [if_pos c47]; exact lturn_47 (by omega) (by omega) (by omega) hL _ μ hI
    rw [if_neg c47]
    by_cases c48 : c = 48
    · rw [if_pos c48]; exact lturn_48 (by omega) (by omega) (by omega) hL _ μ hI
    rw [if_neg c48]
    by_cases c49 : c = 49
    · rw [if_pos c49]; exact lturn_49 (by omega) (by omega) (by omega) hL _ μ hI
    rw [if_neg c49]
    by_cases c50 : c = 50
    · rw [if_pos c50]; exact lturn_50 (by omega) (by omega) (by omega) hL _ μ hI
    rw [if_neg c50]
    rw [wr_n (by omega) (by omega)]
    exact ⟨μ, rfl, hI.mono (by omega)⟩
