/-! ===== the law: what its cases do, its loop (laid by program) ===== -/
set_option maxRecDepth 100000 in
set_option maxHeartbeats 4000000 in
theorem J_qL_law_j1513 {g : yG} {a : Nat → Nat} {μ ν : zM} {o : zO} {kc ks : Nat} {scL : Int} {scV : Int → Int} {v5 : Int} {rec : zM → Int → Option ((Int ⊕ Unit) × zM)} {R : (Int ⊕ Unit) × zM} (hL : scL = (g.2.2.2.2.1 : Int)) (hLi : y_in scL) (hV : ∀ i : Int, 0 ≤ i → g.2.2.2.2.2 i.toNat = scV i) (hVi : ∀ i, y_in (scV i)) (hr : ∀ (x : Int) (m : zM), R = (.inl x, m) → o = .inl (some (zi x)) ∧ ν = m) (he : ∀ (tz : Unit) (m : zM), R = (.inr tz, m) → Z g a mL_law 2038 0 0 2466 [some (zr 1050), some (zr 0), some (zr 142), some (zr 156), some (zr 157), none, none, none, none] [] m o ν) (hrec : ∀ (μ : zM) (v5 : Int), rec μ v5 = some R → Z g a mL_law 2038 kc ks 28 [some (zr 1050), some (zr 0), some (zr 142), some (zr 156), some (zr 157), some (zi v5), none, none, none] [] μ o ν) (hq : qL_law_j1513 rec scL scV μ v5 = some R) : Z g a mL_law 2038 (kc + 2) (ks + 12) 1513 [some (zr 1050), some (zr 0), some (zr 142), some (zr 156), some (zr 157), some (zi v5), none, none, none] [] μ o ν := by
  unfold qL_law_j1513 at hq
  refine z_aload_n 1514 dL_law_1513 rfl rfl ?_
  obtain ⟨a68, m68, h68, hq⟩ := bnd2_some hq
  refine z_callV1 (as := []) (S := []) 1517 dL_law_1514 rfl (Q_qT_censuses  h68) kX9_censuses ⟨_, _, rfl⟩ ar_0 l_RL_221 rfl rfl rfl rfl rfl rfl rfl ?_
  refine z_aload_n 1518 dL_law_1517 rfl rfl ?_
  obtain ⟨a69, m69, h69, hq⟩ := bnd2_some hq
  refine z_callV1 (as := []) (S := [zi a68]) 1521 dL_law_1518 rfl (Q_qM_censuses  h69) kX10_censuses ⟨_, _, rfl⟩ ar_142 l_RL_224 rfl rfl rfl rfl rfl rfl rfl ?_
  refine z_icmp_eq 2460 1524 dL_law_1521 rfl rfl (fun hc => ?_) (fun hc => ?_)
  · replace hq := z_ip hq hc
    refine z_iinc (r := (wr (v5 + 5))) (L' := [some (zr 1050), some (zr 0), some (zr 142), some (zr 156), some (zr 157), some (zi (wr (v5 + 5))), none, none, none]) 2463 dL_law_2460 rfl rfl rfl rfl rfl rfl ?_
    refine z_goto 28 dL_law_2463 rfl ?_
    exact z_mono (by omega) (by omega) (Z.sub (zle_s (zle_s (zle_s (zle_s (zle_s (zle_s (zle_n (zle_n (zle_n zle_nil))))))))) (hrec _ _ hq))
  · replace hq := z_in hq hc
    refine z_iconst 1525 dL_law_1524 rfl (by decide) ?_
    obtain ⟨ho, hv⟩ := hr _ _ (Option.some.inj hq).symm
    exact z_conv ho hv (z_zreturn rfl dL_law_1525 (by decide))
set_option maxRecDepth 100000 in
set_option maxHeartbeats 4000000 in
theorem J_qL_law_j1526 {g : yG} {a : Nat → Nat} {μ ν : zM} {o : zO} {kc ks : Nat} {scL : Int} {scV : Int → Int} {v5 : Int} {rec : zM → Int → Option ((Int ⊕ Unit) × zM)} {R : (Int ⊕ Unit) × zM} (hL : scL = (g.2.2.2.2.1 : Int)) (hLi : y_in scL) (hV : ∀ i : Int, 0 ≤ i → g.2.2.2.2.2 i.toNat = scV i) (hVi : ∀ i, y_in (scV i)) (hr : ∀ (x : Int) (m : zM), R = (.inl x, m) → o = .inl (some (zi x)) ∧ ν = m) (he : ∀ (tz : Unit) (m : zM), R = (.inr tz, m) → Z g a mL_law 2038 0 0 2466 [some (zr 1050), some (zr 0), some (zr 142), some (zr 156), some (zr 157), none, none, none, none] [] m o ν) (hrec : ∀ (μ : zM) (v5 : Int), rec μ v5 = some R → Z g a mL_law 2038 kc ks 28 [some (zr 1050), some (zr 0), some (zr 142), some (zr 156), some (zr 157), some (zi v5), none, none, none] [] μ o ν) (hq : qL_law_j1526 rec scL scV μ v5 = some R) : Z g a mL_law 2038 (kc + 2) (ks + 12) 1526 [some (zr 1050), some (zr 0), some (zr 142), some (zr 156), some (zr 157), some (zi v5), none, none, none] [] μ o ν := by
  unfold qL_law_j1526 at hq
  refine z_aload_n 1527 dL_law_1526 rfl rfl ?_
  obtain ⟨a70, m70, h70, hq⟩ := bnd2_some hq
  refine z_callV1 (as := []) (S := []) 1530 dL_law_1527 rfl (Q_qT_censusesBySets  h70) kX9_censusesBySets ⟨_, _, rfl⟩ ar_0 l_RL_225 rfl rfl rfl rfl rfl rfl rfl ?_
  refine z_aload_n 1531 dL_law_1530 rfl rfl ?_
  obtain ⟨a71, m71, h71, hq⟩ := bnd2_some hq
  refine z_callV1 (as := []) (S := [zi a70]) 1534 dL_law_1531 rfl (Q_qM_censusesBySets  h71) kX10_censusesBySets ⟨_, _, rfl⟩ ar_142 l_RL_228 rfl rfl rfl rfl rfl rfl rfl ?_
  refine z_icmp_eq 2460 1537 dL_law_1534 rfl rfl (fun hc => ?_) (fun hc => ?_)
  · replace hq := z_ip hq hc
    refine z_iinc (r := (wr (v5 + 5))) (L' := [some (zr 1050), some (zr 0), some (zr 142), some (zr 156), some (zr 157), some (zi (wr (v5 + 5))), none, none, none]) 2463 dL_law_2460 rfl rfl rfl rfl rfl rfl ?_
    refine z_goto 28 dL_law_2463 rfl ?_
    exact z_mono (by omega) (by omega) (Z.sub (zle_s (zle_s (zle_s (zle_s (zle_s (zle_s (zle_n (zle_n (zle_n zle_nil))))))))) (hrec _ _ hq))
  · replace hq := z_in hq hc
    refine z_iconst 1538 dL_law_1537 rfl (by decide) ?_
    obtain ⟨ho, hv⟩ := hr _ _ (Option.some.inj hq).symm
    exact z_conv ho hv (z_zreturn rfl dL_law_1538 (by decide))
set_option maxRecDepth 100000 in
set_option maxHeartbeats 4000000 in
theorem J_qL_law_j1539 {g : yG} {a : Nat → Nat} {μ ν : zM} {o : zO} {kc ks : Nat} {scL : Int} {scV : Int → Int} {v5 : Int} {rec : zM → Int → Option ((Int ⊕ Unit) × zM)} {R : (Int ⊕ Unit) × zM} (hL : scL = (g.2.2.2.2.1 : Int)) (hLi : y_in scL) (hV : ∀ i : Int, 0 ≤ i → g.2.2.2.2.2 i.toNat = scV i) (hVi : ∀ i, y_in (scV i)) (hr : ∀ (x : Int) (m : zM), R = (.inl x, m) → o = .inl (some (zi x)) ∧ ν = m) (he : ∀ (tz : Unit) (m : zM), R = (.inr tz, m) → Z g a mL_law 2038 0 0 2466 [some (zr 1050), some (zr 0), some (zr 142), some (zr 156), some (zr 157), none, none, none, none] [] m o ν) (hrec : ∀ (μ : zM) (v5 : Int), rec μ v5 = some R → Z g a mL_law 2038 kc ks 28 [some (zr 1050), some (zr 0), some (zr 142), some (zr 156), some (zr 157), some (zi v5), none, none, none] [] μ o ν) (hq : qL_law_j1539 rec scL scV μ v5 = some R) : Z g a mL_law 2038 (kc + 2) (ks + 12) 1539 [some (zr 1050), some (zr 0), some (zr 142), some (zr 156), some (zr 157), some (zi v5), none, none, none] [] μ o ν := by
  unfold qL_law_j1539 at hq
  refine z_aload_n 1540 dL_law_1539 rfl rfl ?_
  refine z_aload_n 1541 dL_law_1540 rfl rfl ?_
  refine z_iload 1543 dL_law_1541 rfl rfl ?_
  refine z_iconst 1544 dL_law_1543 rfl (by decide) ?_
  refine z_iadd (r := (wr (v5 + 1))) 1545 dL_law_1544 rfl rfl ?_
  obtain ⟨hg1545, hq⟩ := z_g hq
  refine z_sld 1546 dL_law_1545 rfl ⟨hg1545.1, hL ▸ hg1545.2⟩ (hV _ hg1545.1) (hVi _) ?_
  refine z_aload_n 1547 dL_law_1546 rfl rfl ?_
  obtain ⟨a72, m72, h72, hq⟩ := bnd2_some hq
  refine z_callSH1 (as := [zr 0, zi (scV (wr (v5 + 1))), zr 156]) (S := []) (kc := kc + 1) (ks := ks + 6) 1550 dL_law_1547 rfl (Q_qL_possibleFloors h72) kL_possibleFloors l_RL_229 rfl rfl rfl rfl rfl rfl rfl ?_
  refine z_istore (L' := [some (zr 1050), some (zr 0), some (zr 142), some (zr 156), some (zr 157), some (zi v5), some (zi a72), none, none]) 1552 dL_law_1550 rfl rfl rfl rfl ?_
  refine z_aload_n 1553 dL_law_1552 rfl rfl ?_
  refine z_aload_n 1554 dL_law_1553 rfl rfl ?_
  refine z_iload 1556 dL_law_1554 rfl rfl ?_
  refine z_iconst 1557 dL_law_1556 rfl (by decide) ?_
  refine z_iadd (r := (wr (v5 + 1))) 1558 dL_law_1557 rfl rfl ?_
  obtain ⟨hg1558, hq⟩ := z_g hq
  refine z_sld 1559 dL_law_1558 rfl ⟨hg1558.1, hL ▸ hg1558.2⟩ (hV _ hg1558.1) (hVi _) ?_
  obtain ⟨a73, m73, h73, hq⟩ := bnd2_some hq
  refine z_callV1 (as := [zi (scV (wr (v5 + 1)))]) (S := []) 1562 dL_law_1559 rfl (Q_qM_possibleFloors  h73) kX10_possibleFloors ⟨_, _, rfl⟩ ar_142 l_RL_231 rfl rfl rfl rfl rfl rfl rfl ?_
  refine z_istore (L' := [some (zr 1050), some (zr 0), some (zr 142), some (zr 156), some (zr 157), some (zi v5), some (zi a72), some (zi a73), none]) 1564 dL_law_1562 rfl rfl rfl rfl ?_
  refine z_aload_n 1565 dL_law_1564 rfl rfl ?_
  obtain ⟨a74, h74, hq⟩ := z_b hq
  refine z_callV1 (as := []) (S := []) 1568 dL_law_1565 rfl (Q_qM_thrown  h74) kX10_thrown ⟨_, _, rfl⟩ ar_142 l_RL_141 rfl rfl rfl rfl rfl rfl rfl ?_
  refine z_iload 1570 dL_law_1568 rfl rfl ?_
  refine z_icmp_eq 1575 1573 dL_law_1570 rfl rfl (fun hc => ?_) (fun hc => ?_)
  · replace hq := z_ip hq hc
    refine z_iload 1577 dL_law_1575 rfl rfl ?_
    refine z_if_ne 1592 1580 dL_law_1577 rfl rfl (fun hc => ?_) (fun hc => ?_)
    · replace hq := z_in hq hc
      refine z_goto 2460 dL_law_1592 rfl ?_
      refine z_iinc (r := (wr (v5 + 5))) (L' := [some (zr 1050), some (zr 0), some (zr 142), some (zr 156), some (zr 157), some (zi (wr (v5 + 5))), some (zi a72), some (zi a73), none]) 2463 dL_law_2460 rfl rfl rfl rfl rfl rfl ?_
      refine z_goto 28 dL_law_2463 rfl ?_
      exact z_mono (by omega) (by omega) (Z.sub (zle_s (zle_s (zle_s (zle_s (zle_s (zle_s (zle_n (zle_n (zle_n zle_nil))))))))) (hrec _ _ hq))
    · replace hq := z_ip hq hc
      refine z_aload_n 1581 dL_law_1580 rfl rfl ?_
      refine z_iconst 1582 dL_law_1581 rfl (by decide) ?_
      refine z_laload (x := (m73 156 0)) 1583 dL_law_1582 rfl ar_156 ⟨by decide, by decide⟩ rfl ?_
      refine z_iload 1585 dL_law_1583 rfl rfl ?_
      refine z_i2l 1586 dL_law_1585 rfl ?_
      refine z_lcmp 1587 dL_law_1586 rfl ?_
      refine z_if_eq 1592 1590 dL_law_1587 rfl rfl (fun hc => ?_) (fun hc => ?_)
      · replace hq := z_ip hq hc
        refine z_goto 2460 dL_law_1592 rfl ?_
        refine z_iinc (r := (wr (v5 + 5))) (L' := [some (zr 1050), some (zr 0), some (zr 142), some (zr 156), some (zr 157), some (zi (wr (v5 + 5))), some (zi a72), some (zi a73), none]) 2463 dL_law_2460 rfl rfl rfl rfl rfl rfl ?_
        refine z_goto 28 dL_law_2463 rfl ?_
        exact z_mono (by omega) (by omega) (Z.sub (zle_s (zle_s (zle_s (zle_s (zle_s (zle_s (zle_n (zle_n (zle_n zle_nil))))))))) (hrec _ _ hq))
      · replace hq := z_in hq hc
        refine z_iconst 1591 dL_law_1590 rfl (by decide) ?_
        obtain ⟨ho, hv⟩ := hr _ _ (Option.some.inj hq).symm
        exact z_conv ho hv (z_zreturn rfl dL_law_1591 (by decide))
  · replace hq := z_in hq hc
    refine z_iconst 1574 dL_law_1573 rfl (by decide) ?_
    obtain ⟨ho, hv⟩ := hr _ _ (Option.some.inj hq).symm
    exact z_conv ho hv (z_zreturn rfl dL_law_1574 (by decide))
set_option maxRecDepth 100000 in
set_option maxHeartbeats 4000000 in
theorem J_qL_law_j1595 {g : yG} {a : Nat → Nat} {μ ν : zM} {o : zO} {kc ks : Nat} {scL : Int} {scV : Int → Int} {v5 : Int} {rec : zM → Int → Option ((Int ⊕ Unit) × zM)} {R : (Int ⊕ Unit) × zM} (hL : scL = (g.2.2.2.2.1 : Int)) (hLi : y_in scL) (hV : ∀ i : Int, 0 ≤ i → g.2.2.2.2.2 i.toNat = scV i) (hVi : ∀ i, y_in (scV i)) (hr : ∀ (x : Int) (m : zM), R = (.inl x, m) → o = .inl (some (zi x)) ∧ ν = m) (he : ∀ (tz : Unit) (m : zM), R = (.inr tz, m) → Z g a mL_law 2038 0 0 2466 [some (zr 1050), some (zr 0), some (zr 142), some (zr 156), some (zr 157), none, none, none, none] [] m o ν) (hrec : ∀ (μ : zM) (v5 : Int), rec μ v5 = some R → Z g a mL_law 2038 kc ks 28 [some (zr 1050), some (zr 0), some (zr 142), some (zr 156), some (zr 157), some (zi v5), none, none, none] [] μ o ν) (hq : qL_law_j1595 rec scL scV μ v5 = some R) : Z g a mL_law 2038 (kc + 2) (ks + 12) 1595 [some (zr 1050), some (zr 0), some (zr 142), some (zr 156), some (zr 157), some (zi v5), none, none, none] [] μ o ν := by
  unfold qL_law_j1595 at hq
  refine z_aload_n 1596 dL_law_1595 rfl rfl ?_
  refine z_aload_n 1597 dL_law_1596 rfl rfl ?_
  refine z_iload 1599 dL_law_1597 rfl rfl ?_
  refine z_iconst 1600 dL_law_1599 rfl (by decide) ?_
  refine z_iadd (r := (wr (v5 + 1))) 1601 dL_law_1600 rfl rfl ?_
  obtain ⟨hg1601, hq⟩ := z_g hq
  refine z_sld 1602 dL_law_1601 rfl ⟨hg1601.1, hL ▸ hg1601.2⟩ (hV _ hg1601.1) (hVi _) ?_
  refine z_aload_n 1603 dL_law_1602 rfl rfl ?_
  obtain ⟨a75, m75, h75, hq⟩ := bnd2_some hq
  refine z_callSH1 (as := [zr 0, zi (scV (wr (v5 + 1))), zr 156]) (S := []) (kc := kc + 0) (ks := ks + 0) 1606 dL_law_1603 rfl (Q_qL_plannedFlat h75) kL_plannedFlat l_RL_232 rfl rfl rfl rfl rfl rfl rfl ?_
  refine z_istore (L' := [some (zr 1050), some (zr 0), some (zr 142), some (zr 156), some (zr 157), some (zi v5), some (zi a75), none, none]) 1608 dL_law_1606 rfl rfl rfl rfl ?_
  refine z_aload_n 1609 dL_law_1608 rfl rfl ?_
  refine z_aload_n 1610 dL_law_1609 rfl rfl ?_
  refine z_iload 1612 dL_law_1610 rfl rfl ?_
  refine z_iconst 1613 dL_law_1612 rfl (by decide) ?_
  refine z_iadd (r := (wr (v5 + 1))) 1614 dL_law_1613 rfl rfl ?_
  obtain ⟨hg1614, hq⟩ := z_g hq
  refine z_sld 1615 dL_law_1614 rfl ⟨hg1614.1, hL ▸ hg1614.2⟩ (hV _ hg1614.1) (hVi _) ?_
  obtain ⟨a76, m76, h76, hq⟩ := bnd2_some hq
  refine z_callV1 (as := [zi (scV (wr (v5 + 1)))]) (S := []) 1618 dL_law_1615 rfl (Q_qM_plannedFlat  h76) kX10_plannedFlat ⟨_, _, rfl⟩ ar_142 l_RL_234 rfl rfl rfl rfl rfl rfl rfl ?_
  refine z_istore (L' := [some (zr 1050), some (zr 0), some (zr 142), some (zr 156), some (zr 157), some (zi v5), some (zi a75), some (zi a76), none]) 1620 dL_law_1618 rfl rfl rfl rfl ?_
  refine z_aload_n 1621 dL_law_1620 rfl rfl ?_
  obtain ⟨a77, h77, hq⟩ := z_b hq
  refine z_callV1 (as := []) (S := []) 1624 dL_law_1621 rfl (Q_qM_thrown  h77) kX10_thrown ⟨_, _, rfl⟩ ar_142 l_RL_141 rfl rfl rfl rfl rfl rfl rfl ?_
  refine z_iload 1626 dL_law_1624 rfl rfl ?_
  refine z_icmp_eq 1631 1629 dL_law_1626 rfl rfl (fun hc => ?_) (fun hc => ?_)
  · replace hq := z_ip hq hc
    refine z_iload 1633 dL_law_1631 rfl rfl ?_
    refine z_if_ne 1648 1636 dL_law_1633 rfl rfl (fun hc => ?_) (fun hc => ?_)
    · replace hq := z_in hq hc
      refine z_goto 2460 dL_law_1648 rfl ?_
      refine z_iinc (r := (wr (v5 + 5))) (L' := [some (zr 1050), some (zr 0), some (zr 142), some (zr 156), some (zr 157), some (zi (wr (v5 + 5))), some (zi a75), some (zi a76), none]) 2463 dL_law_2460 rfl rfl rfl rfl rfl rfl ?_
      refine z_goto 28 dL_law_2463 rfl ?_
      exact z_mono (by omega) (by omega) (Z.sub (zle_s (zle_s (zle_s (zle_s (zle_s (zle_s (zle_n (zle_n (zle_n zle_nil))))))))) (hrec _ _ hq))
    · replace hq := z_ip hq hc
      refine z_aload_n 1637 dL_law_1636 rfl rfl ?_
      refine z_iconst 1638 dL_law_1637 rfl (by decide) ?_
      refine z_laload (x := (m76 156 0)) 1639 dL_law_1638 rfl ar_156 ⟨by decide, by decide⟩ rfl ?_
      refine z_iload 1641 dL_law_1639 rfl rfl ?_
      refine z_i2l 1642 dL_law_1641 rfl ?_
      refine z_lcmp 1643 dL_law_1642 rfl ?_
      refine z_if_eq 1648 1646 dL_law_1643 rfl rfl (fun hc => ?_) (fun hc => ?_)
      · replace hq := z_ip hq hc
        refine z_goto 2460 dL_law_1648 rfl ?_
        refine z_iinc (r := (wr (v5 + 5))) (L' := [some (zr 1050), some (zr 0), some (zr 142), some (zr 156), some (zr 157), some (zi (wr (v5 + 5))), some (zi a75), some (zi a76), none]) 2463 dL_law_2460 rfl rfl rfl rfl rfl rfl ?_
        refine z_goto 28 dL_law_2463 rfl ?_
        exact z_mono (by omega) (by omega) (Z.sub (zle_s (zle_s (zle_s (zle_s (zle_s (zle_s (zle_n (zle_n (zle_n zle_nil))))))))) (hrec _ _ hq))
      · replace hq := z_in hq hc
        refine z_iconst 1647 dL_law_1646 rfl (by decide) ?_
        obtain ⟨ho, hv⟩ := hr _ _ (Option.some.inj hq).symm
        exact z_conv ho hv (z_zreturn rfl dL_law_1647 (by decide))
  · replace hq := z_in hq hc
    refine z_iconst 1630 dL_law_1629 rfl (by decide) ?_
    obtain ⟨ho, hv⟩ := hr _ _ (Option.some.inj hq).symm
    exact z_conv ho hv (z_zreturn rfl dL_law_1630 (by decide))
set_option maxRecDepth 100000 in
set_option maxHeartbeats 4000000 in
theorem J_qL_law_j1651 {g : yG} {a : Nat → Nat} {μ ν : zM} {o : zO} {kc ks : Nat} {scL : Int} {scV : Int → Int} {v5 : Int} {rec : zM → Int → Option ((Int ⊕ Unit) × zM)} {R : (Int ⊕ Unit) × zM} (hL : scL = (g.2.2.2.2.1 : Int)) (hLi : y_in scL) (hV : ∀ i : Int, 0 ≤ i → g.2.2.2.2.2 i.toNat = scV i) (hVi : ∀ i, y_in (scV i)) (hr : ∀ (x : Int) (m : zM), R = (.inl x, m) → o = .inl (some (zi x)) ∧ ν = m) (he : ∀ (tz : Unit) (m : zM), R = (.inr tz, m) → Z g a mL_law 2038 0 0 2466 [some (zr 1050), some (zr 0), some (zr 142), some (zr 156), some (zr 157), none, none, none, none] [] m o ν) (hrec : ∀ (μ : zM) (v5 : Int), rec μ v5 = some R → Z g a mL_law 2038 kc ks 28 [some (zr 1050), some (zr 0), some (zr 142), some (zr 156), some (zr 157), some (zi v5), none, none, none] [] μ o ν) (hq : qL_law_j1651 rec scL scV μ v5 = some R) : Z g a mL_law 2038 (kc + 2) (ks + 12) 1651 [some (zr 1050), some (zr 0), some (zr 142), some (zr 156), some (zr 157), some (zi v5), none, none, none] [] μ o ν := by
  unfold qL_law_j1651 at hq
  refine z_aload_n 1652 dL_law_1651 rfl rfl ?_
  refine z_aload_n 1653 dL_law_1652 rfl rfl ?_
  refine z_iload 1655 dL_law_1653 rfl rfl ?_
  refine z_iconst 1656 dL_law_1655 rfl (by decide) ?_
  refine z_iadd (r := (wr (v5 + 1))) 1657 dL_law_1656 rfl rfl ?_
  obtain ⟨hg1657, hq⟩ := z_g hq
  refine z_sld 1658 dL_law_1657 rfl ⟨hg1657.1, hL ▸ hg1657.2⟩ (hV _ hg1657.1) (hVi _) ?_
  refine z_aload_n 1659 dL_law_1658 rfl rfl ?_
  obtain ⟨a78, m78, h78, hq⟩ := bnd2_some hq
  refine z_callSH1 (as := [zr 0, zi (scV (wr (v5 + 1))), zr 156]) (S := []) (kc := kc + 0) (ks := ks + 0) 1662 dL_law_1659 rfl (Q_qL_plannedFlatByPlans h78) kL_plannedFlatByPlans l_RL_235 rfl rfl rfl rfl rfl rfl rfl ?_
  refine z_istore (L' := [some (zr 1050), some (zr 0), some (zr 142), some (zr 156), some (zr 157), some (zi v5), some (zi a78), none, none]) 1664 dL_law_1662 rfl rfl rfl rfl ?_
  refine z_aload_n 1665 dL_law_1664 rfl rfl ?_
  refine z_aload_n 1666 dL_law_1665 rfl rfl ?_
  refine z_iload 1668 dL_law_1666 rfl rfl ?_
  refine z_iconst 1669 dL_law_1668 rfl (by decide) ?_
  refine z_iadd (r := (wr (v5 + 1))) 1670 dL_law_1669 rfl rfl ?_
  obtain ⟨hg1670, hq⟩ := z_g hq
  refine z_sld 1671 dL_law_1670 rfl ⟨hg1670.1, hL ▸ hg1670.2⟩ (hV _ hg1670.1) (hVi _) ?_
  obtain ⟨a79, m79, h79, hq⟩ := bnd2_some hq
  refine z_callV1 (as := [zi (scV (wr (v5 + 1)))]) (S := []) 1674 dL_law_1671 rfl (Q_qM_plannedFlatByPlans  h79) kX10_plannedFlatByPlans ⟨_, _, rfl⟩ ar_142 l_RL_237 rfl rfl rfl rfl rfl rfl rfl ?_
  refine z_istore (L' := [some (zr 1050), some (zr 0), some (zr 142), some (zr 156), some (zr 157), some (zi v5), some (zi a78), some (zi a79), none]) 1676 dL_law_1674 rfl rfl rfl rfl ?_
  refine z_aload_n 1677 dL_law_1676 rfl rfl ?_
  obtain ⟨a80, h80, hq⟩ := z_b hq
  refine z_callV1 (as := []) (S := []) 1680 dL_law_1677 rfl (Q_qM_thrown  h80) kX10_thrown ⟨_, _, rfl⟩ ar_142 l_RL_141 rfl rfl rfl rfl rfl rfl rfl ?_
  refine z_iload 1682 dL_law_1680 rfl rfl ?_
  refine z_icmp_eq 1687 1685 dL_law_1682 rfl rfl (fun hc => ?_) (fun hc => ?_)
  · replace hq := z_ip hq hc
    refine z_iload 1689 dL_law_1687 rfl rfl ?_
    refine z_if_ne 1704 1692 dL_law_1689 rfl rfl (fun hc => ?_) (fun hc => ?_)
    · replace hq := z_in hq hc
      refine z_goto 2460 dL_law_1704 rfl ?_
      refine z_iinc (r := (wr (v5 + 5))) (L' := [some (zr 1050), some (zr 0), some (zr 142), some (zr 156), some (zr 157), some (zi (wr (v5 + 5))), some (zi a78), some (zi a79), none]) 2463 dL_law_2460 rfl rfl rfl rfl rfl rfl ?_
      refine z_goto 28 dL_law_2463 rfl ?_
      exact z_mono (by omega) (by omega) (Z.sub (zle_s (zle_s (zle_s (zle_s (zle_s (zle_s (zle_n (zle_n (zle_n zle_nil))))))))) (hrec _ _ hq))
    · replace hq := z_ip hq hc
      refine z_aload_n 1693 dL_law_1692 rfl rfl ?_
      refine z_iconst 1694 dL_law_1693 rfl (by decide) ?_
      refine z_laload (x := (m79 156 0)) 1695 dL_law_1694 rfl ar_156 ⟨by decide, by decide⟩ rfl ?_
      refine z_iload 1697 dL_law_1695 rfl rfl ?_
      refine z_i2l 1698 dL_law_1697 rfl ?_
      refine z_lcmp 1699 dL_law_1698 rfl ?_
      refine z_if_eq 1704 1702 dL_law_1699 rfl rfl (fun hc => ?_) (fun hc => ?_)
      · replace hq := z_ip hq hc
        refine z_goto 2460 dL_law_1704 rfl ?_
        refine z_iinc (r := (wr (v5 + 5))) (L' := [some (zr 1050), some (zr 0), some (zr 142), some (zr 156), some (zr 157), some (zi (wr (v5 + 5))), some (zi a78), some (zi a79), none]) 2463 dL_law_2460 rfl rfl rfl rfl rfl rfl ?_
        refine z_goto 28 dL_law_2463 rfl ?_
        exact z_mono (by omega) (by omega) (Z.sub (zle_s (zle_s (zle_s (zle_s (zle_s (zle_s (zle_n (zle_n (zle_n zle_nil))))))))) (hrec _ _ hq))
      · replace hq := z_in hq hc
        refine z_iconst 1703 dL_law_1702 rfl (by decide) ?_
        obtain ⟨ho, hv⟩ := hr _ _ (Option.some.inj hq).symm
        exact z_conv ho hv (z_zreturn rfl dL_law_1703 (by decide))
  · replace hq := z_in hq hc
    refine z_iconst 1686 dL_law_1685 rfl (by decide) ?_
    obtain ⟨ho, hv⟩ := hr _ _ (Option.some.inj hq).symm
    exact z_conv ho hv (z_zreturn rfl dL_law_1686 (by decide))
set_option maxRecDepth 100000 in
set_option maxHeartbeats 4000000 in
theorem J_qL_law_j1707 {g : yG} {a : Nat → Nat} {μ ν : zM} {o : zO} {kc ks : Nat} {scL : Int} {scV : Int → Int} {v5 : Int} {rec : zM → Int → Option ((Int ⊕ Unit) × zM)} {R : (Int ⊕ Unit) × zM} (hL : scL = (g.2.2.2.2.1 : Int)) (hLi : y_in scL) (hV : ∀ i : Int, 0 ≤ i → g.2.2.2.2.2 i.toNat = scV i) (hVi : ∀ i, y_in (scV i)) (hr : ∀ (x : Int) (m : zM), R = (.inl x, m) → o = .inl (some (zi x)) ∧ ν = m) (he : ∀ (tz : Unit) (m : zM), R = (.inr tz, m) → Z g a mL_law 2038 0 0 2466 [some (zr 1050), some (zr 0), some (zr 142), some (zr 156), some (zr 157), none, none, none, none] [] m o ν) (hrec : ∀ (μ : zM) (v5 : Int), rec μ v5 = some R → Z g a mL_law 2038 kc ks 28 [some (zr 1050), some (zr 0), some (zr 142), some (zr 156), some (zr 157), some (zi v5), none, none, none] [] μ o ν) (hq : qL_law_j1707 rec scL scV μ v5 = some R) : Z g a mL_law 2038 (kc + 2) (ks + 12) 1707 [some (zr 1050), some (zr 0), some (zr 142), some (zr 156), some (zr 157), some (zi v5), none, none, none] [] μ o ν := by
  unfold qL_law_j1707 at hq
  refine z_aload_n 1708 dL_law_1707 rfl rfl ?_
  obtain ⟨a81, m81, h81, hq⟩ := bnd2_some hq
  refine z_callV1 (as := []) (S := []) 1711 dL_law_1708 rfl (Q_qT_stablePlans  h81) kX9_stablePlans ⟨_, _, rfl⟩ ar_0 l_RL_238 rfl rfl rfl rfl rfl rfl rfl ?_
  refine z_aload_n 1712 dL_law_1711 rfl rfl ?_
  obtain ⟨a82, m82, h82, hq⟩ := bnd2_some hq
  refine z_callV1 (as := []) (S := [zi a81]) 1715 dL_law_1712 rfl (Q_qM_stablePlans  h82) kX10_stablePlans ⟨_, _, rfl⟩ ar_142 l_RL_241 rfl rfl rfl rfl rfl rfl rfl ?_
  refine z_icmp_eq 2460 1718 dL_law_1715 rfl rfl (fun hc => ?_) (fun hc => ?_)
  · replace hq := z_ip hq hc
    refine z_iinc (r := (wr (v5 + 5))) (L' := [some (zr 1050), some (zr 0), some (zr 142), some (zr 156), some (zr 157), some (zi (wr (v5 + 5))), none, none, none]) 2463 dL_law_2460 rfl rfl rfl rfl rfl rfl ?_
    refine z_goto 28 dL_law_2463 rfl ?_
    exact z_mono (by omega) (by omega) (Z.sub (zle_s (zle_s (zle_s (zle_s (zle_s (zle_s (zle_n (zle_n (zle_n zle_nil))))))))) (hrec _ _ hq))
  · replace hq := z_in hq hc
    refine z_iconst 1719 dL_law_1718 rfl (by decide) ?_
    obtain ⟨ho, hv⟩ := hr _ _ (Option.some.inj hq).symm
    exact z_conv ho hv (z_zreturn rfl dL_law_1719 (by decide))
set_option maxRecDepth 100000 in
set_option maxHeartbeats 4000000 in
theorem J_qL_law_j1720 {g : yG} {a : Nat → Nat} {μ ν : zM} {o : zO} {kc ks : Nat} {scL : Int} {scV : Int → Int} {v5 : Int} {rec : zM → Int → Option ((Int ⊕ Unit) × zM)} {R : (Int ⊕ Unit) × zM} (hL : scL = (g.2.2.2.2.1 : Int)) (hLi : y_in scL) (hV : ∀ i : Int, 0 ≤ i → g.2.2.2.2.2 i.toNat = scV i) (hVi : ∀ i, y_in (scV i)) (hr : ∀ (x : Int) (m : zM), R = (.inl x, m) → o = .inl (some (zi x)) ∧ ν = m) (he : ∀ (tz : Unit) (m : zM), R = (.inr tz, m) → Z g a mL_law 2038 0 0 2466 [some (zr 1050), some (zr 0), some (zr 142), some (zr 156), some (zr 157), none, none, none, none] [] m o ν) (hrec : ∀ (μ : zM) (v5 : Int), rec μ v5 = some R → Z g a mL_law 2038 kc ks 28 [some (zr 1050), some (zr 0), some (zr 142), some (zr 156), some (zr 157), some (zi v5), none, none, none] [] μ o ν) (hq : qL_law_j1720 rec scL scV μ v5 = some R) : Z g a mL_law 2038 (kc + 2) (ks + 12) 1720 [some (zr 1050), some (zr 0), some (zr 142), some (zr 156), some (zr 157), some (zi v5), none, none, none] [] μ o ν := by
  unfold qL_law_j1720 at hq
  refine z_aload_n 1721 dL_law_1720 rfl rfl ?_
  obtain ⟨a83, m83, h83, hq⟩ := bnd2_some hq
  refine z_callV1 (as := []) (S := []) 1724 dL_law_1721 rfl (Q_qT_isStable  h83) kX9_isStable ⟨_, _, rfl⟩ ar_0 l_RL_242 rfl rfl rfl rfl rfl rfl rfl ?_
  refine z_aload_n 1725 dL_law_1724 rfl rfl ?_
  obtain ⟨a84, m84, h84, hq⟩ := bnd2_some hq
  refine z_callV1 (as := []) (S := [zi a83]) 1728 dL_law_1725 rfl (Q_qM_isStable  h84) kX10_isStable ⟨_, _, rfl⟩ ar_142 l_RL_246 rfl rfl rfl rfl rfl rfl rfl ?_
  refine z_icmp_eq 2460 1731 dL_law_1728 rfl rfl (fun hc => ?_) (fun hc => ?_)
  · replace hq := z_ip hq hc
    refine z_iinc (r := (wr (v5 + 5))) (L' := [some (zr 1050), some (zr 0), some (zr 142), some (zr 156), some (zr 157), some (zi (wr (v5 + 5))), none, none, none]) 2463 dL_law_2460 rfl rfl rfl rfl rfl rfl ?_
    refine z_goto 28 dL_law_2463 rfl ?_
    exact z_mono (by omega) (by omega) (Z.sub (zle_s (zle_s (zle_s (zle_s (zle_s (zle_s (zle_n (zle_n (zle_n zle_nil))))))))) (hrec _ _ hq))
  · replace hq := z_in hq hc
    refine z_iconst 1732 dL_law_1731 rfl (by decide) ?_
    obtain ⟨ho, hv⟩ := hr _ _ (Option.some.inj hq).symm
    exact z_conv ho hv (z_zreturn rfl dL_law_1732 (by decide))
set_option maxRecDepth 100000 in
set_option maxHeartbeats 4000000 in
theorem J_qL_law_j1733 {g : yG} {a : Nat → Nat} {μ ν : zM} {o : zO} {kc ks : Nat} {scL : Int} {scV : Int → Int} {v5 : Int} {rec : zM → Int → Option ((Int ⊕ Unit) × zM)} {R : (Int ⊕ Unit) × zM} (hL : scL = (g.2.2.2.2.1 : Int)) (hLi : y_in scL) (hV : ∀ i : Int, 0 ≤ i → g.2.2.2.2.2 i.toNat = scV i) (hVi : ∀ i, y_in (scV i)) (hr : ∀ (x : Int) (m : zM), R = (.inl x, m) → o = .inl (some (zi x)) ∧ ν = m) (he : ∀ (tz : Unit) (m : zM), R = (.inr tz, m) → Z g a mL_law 2038 0 0 2466 [some (zr 1050), some (zr 0), some (zr 142), some (zr 156), some (zr 157), none, none, none, none] [] m o ν) (hrec : ∀ (μ : zM) (v5 : Int), rec μ v5 = some R → Z g a mL_law 2038 kc ks 28 [some (zr 1050), some (zr 0), some (zr 142), some (zr 156), some (zr 157), some (zi v5), none, none, none] [] μ o ν) (hq : qL_law_j1733 rec scL scV μ v5 = some R) : Z g a mL_law 2038 (kc + 2) (ks + 12) 1733 [some (zr 1050), some (zr 0), some (zr 142), some (zr 156), some (zr 157), some (zi v5), none, none, none] [] μ o ν := by
  unfold qL_law_j1733 at hq
  refine z_aload_n 1734 dL_law_1733 rfl rfl ?_
  refine z_aload_n 1735 dL_law_1734 rfl rfl ?_
  refine z_iload 1737 dL_law_1735 rfl rfl ?_
  refine z_iconst 1738 dL_law_1737 rfl (by decide) ?_
  refine z_iadd (r := (wr (v5 + 1))) 1739 dL_law_1738 rfl rfl ?_
  obtain ⟨hg1739, hq⟩ := z_g hq
  refine z_sld 1740 dL_law_1739 rfl ⟨hg1739.1, hL ▸ hg1739.2⟩ (hV _ hg1739.1) (hVi _) ?_
  refine z_aload_n 1741 dL_law_1740 rfl rfl ?_
  obtain ⟨a85, m85, h85, hq⟩ := bnd2_some hq
  refine z_callSH1 (as := [zr 0, zi (scV (wr (v5 + 1))), zr 156]) (S := []) (kc := kc + 0) (ks := ks + 0) 1744 dL_law_1741 rfl (Q_qL_chainLength h85) kL_chainLength l_RL_247 rfl rfl rfl rfl rfl rfl rfl ?_
  refine z_istore (L' := [some (zr 1050), some (zr 0), some (zr 142), some (zr 156), some (zr 157), some (zi v5), some (zi a85), none, none]) 1746 dL_law_1744 rfl rfl rfl rfl ?_
  refine z_aload_n 1747 dL_law_1746 rfl rfl ?_
  refine z_aload_n 1748 dL_law_1747 rfl rfl ?_
  refine z_iload 1750 dL_law_1748 rfl rfl ?_
  refine z_iconst 1751 dL_law_1750 rfl (by decide) ?_
  refine z_iadd (r := (wr (v5 + 1))) 1752 dL_law_1751 rfl rfl ?_
  obtain ⟨hg1752, hq⟩ := z_g hq
  refine z_sld 1753 dL_law_1752 rfl ⟨hg1752.1, hL ▸ hg1752.2⟩ (hV _ hg1752.1) (hVi _) ?_
  obtain ⟨a86, m86, h86, hq⟩ := bnd2_some hq
  refine z_callV1 (as := [zi (scV (wr (v5 + 1)))]) (S := []) 1756 dL_law_1753 rfl (Q_qM_chainLength  h86) kX10_chainLength ⟨_, _, rfl⟩ ar_142 l_RL_249 rfl rfl rfl rfl rfl rfl rfl ?_
  refine z_istore (L' := [some (zr 1050), some (zr 0), some (zr 142), some (zr 156), some (zr 157), some (zi v5), some (zi a85), some (zi a86), none]) 1758 dL_law_1756 rfl rfl rfl rfl ?_
  refine z_aload_n 1759 dL_law_1758 rfl rfl ?_
  obtain ⟨a87, h87, hq⟩ := z_b hq
  refine z_callV1 (as := []) (S := []) 1762 dL_law_1759 rfl (Q_qM_thrown  h87) kX10_thrown ⟨_, _, rfl⟩ ar_142 l_RL_141 rfl rfl rfl rfl rfl rfl rfl ?_
  refine z_iload 1764 dL_law_1762 rfl rfl ?_
  refine z_icmp_eq 1769 1767 dL_law_1764 rfl rfl (fun hc => ?_) (fun hc => ?_)
  · replace hq := z_ip hq hc
    refine z_iload 1771 dL_law_1769 rfl rfl ?_
    refine z_if_ne 1786 1774 dL_law_1771 rfl rfl (fun hc => ?_) (fun hc => ?_)
    · replace hq := z_in hq hc
      refine z_goto 2460 dL_law_1786 rfl ?_
      refine z_iinc (r := (wr (v5 + 5))) (L' := [some (zr 1050), some (zr 0), some (zr 142), some (zr 156), some (zr 157), some (zi (wr (v5 + 5))), some (zi a85), some (zi a86), none]) 2463 dL_law_2460 rfl rfl rfl rfl rfl rfl ?_
      refine z_goto 28 dL_law_2463 rfl ?_
      exact z_mono (by omega) (by omega) (Z.sub (zle_s (zle_s (zle_s (zle_s (zle_s (zle_s (zle_n (zle_n (zle_n zle_nil))))))))) (hrec _ _ hq))
    · replace hq := z_ip hq hc
      refine z_aload_n 1775 dL_law_1774 rfl rfl ?_
      refine z_iconst 1776 dL_law_1775 rfl (by decide) ?_
      refine z_laload (x := (m86 156 0)) 1777 dL_law_1776 rfl ar_156 ⟨by decide, by decide⟩ rfl ?_
      refine z_iload 1779 dL_law_1777 rfl rfl ?_
      refine z_i2l 1780 dL_law_1779 rfl ?_
      refine z_lcmp 1781 dL_law_1780 rfl ?_
      refine z_if_eq 1786 1784 dL_law_1781 rfl rfl (fun hc => ?_) (fun hc => ?_)
      · replace hq := z_ip hq hc
        refine z_goto 2460 dL_law_1786 rfl ?_
        refine z_iinc (r := (wr (v5 + 5))) (L' := [some (zr 1050), some (zr 0), some (zr 142), some (zr 156), some (zr 157), some (zi (wr (v5 + 5))), some (zi a85), some (zi a86), none]) 2463 dL_law_2460 rfl rfl rfl rfl rfl rfl ?_
        refine z_goto 28 dL_law_2463 rfl ?_
        exact z_mono (by omega) (by omega) (Z.sub (zle_s (zle_s (zle_s (zle_s (zle_s (zle_s (zle_n (zle_n (zle_n zle_nil))))))))) (hrec _ _ hq))
      · replace hq := z_in hq hc
        refine z_iconst 1785 dL_law_1784 rfl (by decide) ?_
        obtain ⟨ho, hv⟩ := hr _ _ (Option.some.inj hq).symm
        exact z_conv ho hv (z_zreturn rfl dL_law_1785 (by decide))
  · replace hq := z_in hq hc
    refine z_iconst 1768 dL_law_1767 rfl (by decide) ?_
    obtain ⟨ho, hv⟩ := hr _ _ (Option.some.inj hq).symm
    exact z_conv ho hv (z_zreturn rfl dL_law_1768 (by decide))
set_option maxRecDepth 100000 in
set_option maxHeartbeats 4000000 in
theorem J_qL_law_j1789 {g : yG} {a : Nat → Nat} {μ ν : zM} {o : zO} {kc ks : Nat} {scL : Int} {scV : Int → Int} {v5 : Int} {rec : zM → Int → Option ((Int ⊕ Unit) × zM)} {R : (Int ⊕ Unit) × zM} (hL : scL = (g.2.2.2.2.1 : Int)) (hLi : y_in scL) (hV : ∀ i : Int, 0 ≤ i → g.2.2.2.2.2 i.toNat = scV i) (hVi : ∀ i, y_in (scV i)) (hr : ∀ (x : Int) (m : zM), R = (.inl x, m) → o = .inl (some (zi x)) ∧ ν = m) (he : ∀ (tz : Unit) (m : zM), R = (.inr tz, m) → Z g a mL_law 2038 0 0 2466 [some (zr 1050), some (zr 0), some (zr 142), some (zr 156), some (zr 157), none, none, none, none] [] m o ν) (hrec : ∀ (μ : zM) (v5 : Int), rec μ v5 = some R → Z g a mL_law 2038 kc ks 28 [some (zr 1050), some (zr 0), some (zr 142), some (zr 156), some (zr 157), some (zi v5), none, none, none] [] μ o ν) (hq : qL_law_j1789 rec scL scV μ v5 = some R) : Z g a mL_law 2038 (kc + 2) (ks + 12) 1789 [some (zr 1050), some (zr 0), some (zr 142), some (zr 156), some (zr 157), some (zi v5), none, none, none] [] μ o ν := by
  unfold qL_law_j1789 at hq
  refine z_aload_n 1790 dL_law_1789 rfl rfl ?_
  refine z_aload_n 1791 dL_law_1790 rfl rfl ?_
  obtain ⟨a88, m88, h88, hq⟩ := bnd2_some hq
  refine z_callSH1 (as := [zr 0, zr 156]) (S := []) (kc := kc + 1) (ks := ks + 6) 1794 dL_law_1791 rfl (Q_qL_monthsUntilEviction h88) kL_monthsUntilEviction l_RL_250 rfl rfl rfl rfl rfl rfl rfl ?_
  refine z_istore (L' := [some (zr 1050), some (zr 0), some (zr 142), some (zr 156), some (zr 157), some (zi v5), some (zi a88), none, none]) 1796 dL_law_1794 rfl rfl rfl rfl ?_
  refine z_aload_n 1797 dL_law_1796 rfl rfl ?_
  obtain ⟨a89, m89, h89, hq⟩ := bnd2_some hq
  refine z_callV1 (as := []) (S := []) 1800 dL_law_1797 rfl (Q_qM_monthsUntilEviction  h89) kX10_monthsUntilEviction ⟨_, _, rfl⟩ ar_142 l_RL_253 rfl rfl rfl rfl rfl rfl rfl ?_
  refine z_istore (L' := [some (zr 1050), some (zr 0), some (zr 142), some (zr 156), some (zr 157), some (zi v5), some (zi a88), some (zi a89), none]) 1802 dL_law_1800 rfl rfl rfl rfl ?_
  refine z_aload_n 1803 dL_law_1802 rfl rfl ?_
  obtain ⟨a90, h90, hq⟩ := z_b hq
  refine z_callV1 (as := []) (S := []) 1806 dL_law_1803 rfl (Q_qM_thrown  h90) kX10_thrown ⟨_, _, rfl⟩ ar_142 l_RL_141 rfl rfl rfl rfl rfl rfl rfl ?_
  refine z_iload 1808 dL_law_1806 rfl rfl ?_
  refine z_icmp_eq 1813 1811 dL_law_1808 rfl rfl (fun hc => ?_) (fun hc => ?_)
  · replace hq := z_ip hq hc
    refine z_iload 1815 dL_law_1813 rfl rfl ?_
    refine z_if_ne 1830 1818 dL_law_1815 rfl rfl (fun hc => ?_) (fun hc => ?_)
    · replace hq := z_in hq hc
      refine z_goto 2460 dL_law_1830 rfl ?_
      refine z_iinc (r := (wr (v5 + 5))) (L' := [some (zr 1050), some (zr 0), some (zr 142), some (zr 156), some (zr 157), some (zi (wr (v5 + 5))), some (zi a88), some (zi a89), none]) 2463 dL_law_2460 rfl rfl rfl rfl rfl rfl ?_
      refine z_goto 28 dL_law_2463 rfl ?_
      exact z_mono (by omega) (by omega) (Z.sub (zle_s (zle_s (zle_s (zle_s (zle_s (zle_s (zle_n (zle_n (zle_n zle_nil))))))))) (hrec _ _ hq))
    · replace hq := z_ip hq hc
      refine z_aload_n 1819 dL_law_1818 rfl rfl ?_
      refine z_iconst 1820 dL_law_1819 rfl (by decide) ?_
      refine z_laload (x := (m89 156 0)) 1821 dL_law_1820 rfl ar_156 ⟨by decide, by decide⟩ rfl ?_
      refine z_iload 1823 dL_law_1821 rfl rfl ?_
      refine z_i2l 1824 dL_law_1823 rfl ?_
      refine z_lcmp 1825 dL_law_1824 rfl ?_
      refine z_if_eq 1830 1828 dL_law_1825 rfl rfl (fun hc => ?_) (fun hc => ?_)
      · replace hq := z_ip hq hc
        refine z_goto 2460 dL_law_1830 rfl ?_
        refine z_iinc (r := (wr (v5 + 5))) (L' := [some (zr 1050), some (zr 0), some (zr 142), some (zr 156), some (zr 157), some (zi (wr (v5 + 5))), some (zi a88), some (zi a89), none]) 2463 dL_law_2460 rfl rfl rfl rfl rfl rfl ?_
        refine z_goto 28 dL_law_2463 rfl ?_
        exact z_mono (by omega) (by omega) (Z.sub (zle_s (zle_s (zle_s (zle_s (zle_s (zle_s (zle_n (zle_n (zle_n zle_nil))))))))) (hrec _ _ hq))
      · replace hq := z_in hq hc
        refine z_iconst 1829 dL_law_1828 rfl (by decide) ?_
        obtain ⟨ho, hv⟩ := hr _ _ (Option.some.inj hq).symm
        exact z_conv ho hv (z_zreturn rfl dL_law_1829 (by decide))
  · replace hq := z_in hq hc
    refine z_iconst 1812 dL_law_1811 rfl (by decide) ?_
    obtain ⟨ho, hv⟩ := hr _ _ (Option.some.inj hq).symm
    exact z_conv ho hv (z_zreturn rfl dL_law_1812 (by decide))
set_option maxRecDepth 100000 in
set_option maxHeartbeats 4000000 in
theorem J_qL_law_j1833 {g : yG} {a : Nat → Nat} {μ ν : zM} {o : zO} {kc ks : Nat} {scL : Int} {scV : Int → Int} {v5 : Int} {rec : zM → Int → Option ((Int ⊕ Unit) × zM)} {R : (Int ⊕ Unit) × zM} (hL : scL = (g.2.2.2.2.1 : Int)) (hLi : y_in scL) (hV : ∀ i : Int, 0 ≤ i → g.2.2.2.2.2 i.toNat = scV i) (hVi : ∀ i, y_in (scV i)) (hr : ∀ (x : Int) (m : zM), R = (.inl x, m) → o = .inl (some (zi x)) ∧ ν = m) (he : ∀ (tz : Unit) (m : zM), R = (.inr tz, m) → Z g a mL_law 2038 0 0 2466 [some (zr 1050), some (zr 0), some (zr 142), some (zr 156), some (zr 157), none, none, none, none] [] m o ν) (hrec : ∀ (μ : zM) (v5 : Int), rec μ v5 = some R → Z g a mL_law 2038 kc ks 28 [some (zr 1050), some (zr 0), some (zr 142), some (zr 156), some (zr 157), some (zi v5), none, none, none] [] μ o ν) (hq : qL_law_j1833 rec scL scV μ v5 = some R) : Z g a mL_law 2038 (kc + 2) (ks + 12) 1833 [some (zr 1050), some (zr 0), some (zr 142), some (zr 156), some (zr 157), some (zi v5), none, none, none] [] μ o ν := by
  unfold qL_law_j1833 at hq
  refine z_aload_n 1834 dL_law_1833 rfl rfl ?_
  obtain ⟨a91, h91, hq⟩ := z_b hq
  refine z_callV1 (as := []) (S := []) 1837 dL_law_1834 rfl (Q_qT_month  h91) kX9_month ⟨_, _, rfl⟩ ar_0 l_RL_254 rfl rfl rfl rfl rfl rfl rfl ?_
  refine z_aload_n 1838 dL_law_1837 rfl rfl ?_
  obtain ⟨a92, m92, h92, hq⟩ := bnd2_some hq
  refine z_callV1 (as := []) (S := [zi a91]) 1841 dL_law_1838 rfl (Q_qM_month  h92) kX10_month ⟨_, _, rfl⟩ ar_142 l_RL_257 rfl rfl rfl rfl rfl rfl rfl ?_
  refine z_icmp_eq 2460 1844 dL_law_1841 rfl rfl (fun hc => ?_) (fun hc => ?_)
  · replace hq := z_ip hq hc
    refine z_iinc (r := (wr (v5 + 5))) (L' := [some (zr 1050), some (zr 0), some (zr 142), some (zr 156), some (zr 157), some (zi (wr (v5 + 5))), none, none, none]) 2463 dL_law_2460 rfl rfl rfl rfl rfl rfl ?_
    refine z_goto 28 dL_law_2463 rfl ?_
    exact z_mono (by omega) (by omega) (Z.sub (zle_s (zle_s (zle_s (zle_s (zle_s (zle_s (zle_n (zle_n (zle_n zle_nil))))))))) (hrec _ _ hq))
  · replace hq := z_in hq hc
    refine z_iconst 1845 dL_law_1844 rfl (by decide) ?_
    obtain ⟨ho, hv⟩ := hr _ _ (Option.some.inj hq).symm
    exact z_conv ho hv (z_zreturn rfl dL_law_1845 (by decide))
set_option maxRecDepth 100000 in
set_option maxHeartbeats 4000000 in
theorem J_qL_law_j1846 {g : yG} {a : Nat → Nat} {μ ν : zM} {o : zO} {kc ks : Nat} {scL : Int} {scV : Int → Int} {v5 : Int} {rec : zM → Int → Option ((Int ⊕ Unit) × zM)} {R : (Int ⊕ Unit) × zM} (hL : scL = (g.2.2.2.2.1 : Int)) (hLi : y_in scL) (hV : ∀ i : Int, 0 ≤ i → g.2.2.2.2.2 i.toNat = scV i) (hVi : ∀ i, y_in (scV i)) (hr : ∀ (x : Int) (m : zM), R = (.inl x, m) → o = .inl (some (zi x)) ∧ ν = m) (he : ∀ (tz : Unit) (m : zM), R = (.inr tz, m) → Z g a mL_law 2038 0 0 2466 [some (zr 1050), some (zr 0), some (zr 142), some (zr 156), some (zr 157), none, none, none, none] [] m o ν) (hrec : ∀ (μ : zM) (v5 : Int), rec μ v5 = some R → Z g a mL_law 2038 kc ks 28 [some (zr 1050), some (zr 0), some (zr 142), some (zr 156), some (zr 157), some (zi v5), none, none, none] [] μ o ν) (hq : qL_law_j1846 rec scL scV μ v5 = some R) : Z g a mL_law 2038 (kc + 2) (ks + 12) 1846 [some (zr 1050), some (zr 0), some (zr 142), some (zr 156), some (zr 157), some (zi v5), none, none, none] [] μ o ν := by
  unfold qL_law_j1846 at hq
  refine z_aload_n 1847 dL_law_1846 rfl rfl ?_
  obtain ⟨a93, h93, hq⟩ := z_b hq
  refine z_callV1 (as := []) (S := []) 1850 dL_law_1847 rfl (Q_qT_received  h93) kX9_received ⟨_, _, rfl⟩ ar_0 l_RL_258 rfl rfl rfl rfl rfl rfl rfl ?_
  refine z_aload_n 1851 dL_law_1850 rfl rfl ?_
  obtain ⟨a94, m94, h94, hq⟩ := bnd2_some hq
  refine z_callV1 (as := []) (S := [zl a93]) 1854 dL_law_1851 rfl (Q_qM_received  h94) kX10_received ⟨_, _, rfl⟩ ar_142 l_RL_262 rfl rfl rfl rfl rfl rfl rfl ?_
  refine z_lcmp 1855 dL_law_1854 rfl ?_
  refine z_if_eq 2460 1858 dL_law_1855 rfl rfl (fun hc => ?_) (fun hc => ?_)
  · replace hq := z_ip hq hc
    refine z_iinc (r := (wr (v5 + 5))) (L' := [some (zr 1050), some (zr 0), some (zr 142), some (zr 156), some (zr 157), some (zi (wr (v5 + 5))), none, none, none]) 2463 dL_law_2460 rfl rfl rfl rfl rfl rfl ?_
    refine z_goto 28 dL_law_2463 rfl ?_
    exact z_mono (by omega) (by omega) (Z.sub (zle_s (zle_s (zle_s (zle_s (zle_s (zle_s (zle_n (zle_n (zle_n zle_nil))))))))) (hrec _ _ hq))
  · replace hq := z_in hq hc
    refine z_iconst 1859 dL_law_1858 rfl (by decide) ?_
    obtain ⟨ho, hv⟩ := hr _ _ (Option.some.inj hq).symm
    exact z_conv ho hv (z_zreturn rfl dL_law_1859 (by decide))
set_option maxRecDepth 100000 in
set_option maxHeartbeats 4000000 in
theorem J_qL_law_j1860 {g : yG} {a : Nat → Nat} {μ ν : zM} {o : zO} {kc ks : Nat} {scL : Int} {scV : Int → Int} {v5 : Int} {rec : zM → Int → Option ((Int ⊕ Unit) × zM)} {R : (Int ⊕ Unit) × zM} (hL : scL = (g.2.2.2.2.1 : Int)) (hLi : y_in scL) (hV : ∀ i : Int, 0 ≤ i → g.2.2.2.2.2 i.toNat = scV i) (hVi : ∀ i, y_in (scV i)) (hr : ∀ (x : Int) (m : zM), R = (.inl x, m) → o = .inl (some (zi x)) ∧ ν = m) (he : ∀ (tz : Unit) (m : zM), R = (.inr tz, m) → Z g a mL_law 2038 0 0 2466 [some (zr 1050), some (zr 0), some (zr 142), some (zr 156), some (zr 157), none, none, none, none] [] m o ν) (hrec : ∀ (μ : zM) (v5 : Int), rec μ v5 = some R → Z g a mL_law 2038 kc ks 28 [some (zr 1050), some (zr 0), some (zr 142), some (zr 156), some (zr 157), some (zi v5), none, none, none] [] μ o ν) (hq : qL_law_j1860 rec scL scV μ v5 = some R) : Z g a mL_law 2038 (kc + 2) (ks + 12) 1860 [some (zr 1050), some (zr 0), some (zr 142), some (zr 156), some (zr 157), some (zi v5), none, none, none] [] μ o ν := by
  unfold qL_law_j1860 at hq
  refine z_aload_n 1861 dL_law_1860 rfl rfl ?_
  obtain ⟨a95, h95, hq⟩ := z_b hq
  refine z_callV1 (as := []) (S := []) 1864 dL_law_1861 rfl (Q_qT_receivedByParts  h95) kX9_receivedByParts ⟨_, _, rfl⟩ ar_0 l_RL_263 rfl rfl rfl rfl rfl rfl rfl ?_
  refine z_aload_n 1865 dL_law_1864 rfl rfl ?_
  obtain ⟨a96, m96, h96, hq⟩ := bnd2_some hq
  refine z_callV1 (as := []) (S := [zl a95]) 1868 dL_law_1865 rfl (Q_qM_receivedByParts  h96) kX10_receivedByParts ⟨_, _, rfl⟩ ar_142 l_RL_266 rfl rfl rfl rfl rfl rfl rfl ?_
  refine z_lcmp 1869 dL_law_1868 rfl ?_
  refine z_if_eq 2460 1872 dL_law_1869 rfl rfl (fun hc => ?_) (fun hc => ?_)
  · replace hq := z_ip hq hc
    refine z_iinc (r := (wr (v5 + 5))) (L' := [some (zr 1050), some (zr 0), some (zr 142), some (zr 156), some (zr 157), some (zi (wr (v5 + 5))), none, none, none]) 2463 dL_law_2460 rfl rfl rfl rfl rfl rfl ?_
    refine z_goto 28 dL_law_2463 rfl ?_
    exact z_mono (by omega) (by omega) (Z.sub (zle_s (zle_s (zle_s (zle_s (zle_s (zle_s (zle_n (zle_n (zle_n zle_nil))))))))) (hrec _ _ hq))
  · replace hq := z_in hq hc
    refine z_iconst 1873 dL_law_1872 rfl (by decide) ?_
    obtain ⟨ho, hv⟩ := hr _ _ (Option.some.inj hq).symm
    exact z_conv ho hv (z_zreturn rfl dL_law_1873 (by decide))
set_option maxRecDepth 100000 in
set_option maxHeartbeats 4000000 in
theorem J_qL_law_j1874 {g : yG} {a : Nat → Nat} {μ ν : zM} {o : zO} {kc ks : Nat} {scL : Int} {scV : Int → Int} {v5 : Int} {rec : zM → Int → Option ((Int ⊕ Unit) × zM)} {R : (Int ⊕ Unit) × zM} (hL : scL = (g.2.2.2.2.1 : Int)) (hLi : y_in scL) (hV : ∀ i : Int, 0 ≤ i → g.2.2.2.2.2 i.toNat = scV i) (hVi : ∀ i, y_in (scV i)) (hr : ∀ (x : Int) (m : zM), R = (.inl x, m) → o = .inl (some (zi x)) ∧ ν = m) (he : ∀ (tz : Unit) (m : zM), R = (.inr tz, m) → Z g a mL_law 2038 0 0 2466 [some (zr 1050), some (zr 0), some (zr 142), some (zr 156), some (zr 157), none, none, none, none] [] m o ν) (hrec : ∀ (μ : zM) (v5 : Int), rec μ v5 = some R → Z g a mL_law 2038 kc ks 28 [some (zr 1050), some (zr 0), some (zr 142), some (zr 156), some (zr 157), some (zi v5), none, none, none] [] μ o ν) (hq : qL_law_j1874 rec scL scV μ v5 = some R) : Z g a mL_law 2038 (kc + 2) (ks + 12) 1874 [some (zr 1050), some (zr 0), some (zr 142), some (zr 156), some (zr 157), some (zi v5), none, none, none] [] μ o ν := by
  unfold qL_law_j1874 at hq
  refine z_aload_n 1875 dL_law_1874 rfl rfl ?_
  obtain ⟨a97, h97, hq⟩ := z_b hq
  refine z_callV1 (as := []) (S := []) 1878 dL_law_1875 rfl (Q_qT_paidRents  h97) kX9_paidRents ⟨_, _, rfl⟩ ar_0 l_RL_267 rfl rfl rfl rfl rfl rfl rfl ?_
  refine z_aload_n 1879 dL_law_1878 rfl rfl ?_
  obtain ⟨a98, m98, h98, hq⟩ := bnd2_some hq
  refine z_callV1 (as := []) (S := [zi a97]) 1882 dL_law_1879 rfl (Q_qM_paidRents  h98) kX10_paidRents ⟨_, _, rfl⟩ ar_142 l_RL_270 rfl rfl rfl rfl rfl rfl rfl ?_
  refine z_icmp_eq 2460 1885 dL_law_1882 rfl rfl (fun hc => ?_) (fun hc => ?_)
  · replace hq := z_ip hq hc
    refine z_iinc (r := (wr (v5 + 5))) (L' := [some (zr 1050), some (zr 0), some (zr 142), some (zr 156), some (zr 157), some (zi (wr (v5 + 5))), none, none, none]) 2463 dL_law_2460 rfl rfl rfl rfl rfl rfl ?_
    refine z_goto 28 dL_law_2463 rfl ?_
    exact z_mono (by omega) (by omega) (Z.sub (zle_s (zle_s (zle_s (zle_s (zle_s (zle_s (zle_n (zle_n (zle_n zle_nil))))))))) (hrec _ _ hq))
  · replace hq := z_in hq hc
    refine z_iconst 1886 dL_law_1885 rfl (by decide) ?_
    obtain ⟨ho, hv⟩ := hr _ _ (Option.some.inj hq).symm
    exact z_conv ho hv (z_zreturn rfl dL_law_1886 (by decide))
set_option maxRecDepth 100000 in
set_option maxHeartbeats 4000000 in
theorem J_qL_law_j1887 {g : yG} {a : Nat → Nat} {μ ν : zM} {o : zO} {kc ks : Nat} {scL : Int} {scV : Int → Int} {v5 : Int} {rec : zM → Int → Option ((Int ⊕ Unit) × zM)} {R : (Int ⊕ Unit) × zM} (hL : scL = (g.2.2.2.2.1 : Int)) (hLi : y_in scL) (hV : ∀ i : Int, 0 ≤ i → g.2.2.2.2.2 i.toNat = scV i) (hVi : ∀ i, y_in (scV i)) (hr : ∀ (x : Int) (m : zM), R = (.inl x, m) → o = .inl (some (zi x)) ∧ ν = m) (he : ∀ (tz : Unit) (m : zM), R = (.inr tz, m) → Z g a mL_law 2038 0 0 2466 [some (zr 1050), some (zr 0), some (zr 142), some (zr 156), some (zr 157), none, none, none, none] [] m o ν) (hrec : ∀ (μ : zM) (v5 : Int), rec μ v5 = some R → Z g a mL_law 2038 kc ks 28 [some (zr 1050), some (zr 0), some (zr 142), some (zr 156), some (zr 157), some (zi v5), none, none, none] [] μ o ν) (hq : qL_law_j1887 rec scL scV μ v5 = some R) : Z g a mL_law 2038 (kc + 2) (ks + 12) 1887 [some (zr 1050), some (zr 0), some (zr 142), some (zr 156), some (zr 157), some (zi v5), none, none, none] [] μ o ν := by
  unfold qL_law_j1887 at hq
  refine z_aload_n 1888 dL_law_1887 rfl rfl ?_
  obtain ⟨a99, h99, hq⟩ := z_b hq
  refine z_callV1 (as := []) (S := []) 1891 dL_law_1888 rfl (Q_qT_evictions  h99) kX9_evictions ⟨_, _, rfl⟩ ar_0 l_RL_271 rfl rfl rfl rfl rfl rfl rfl ?_
  refine z_aload_n 1892 dL_law_1891 rfl rfl ?_
  obtain ⟨a100, m100, h100, hq⟩ := bnd2_some hq
  refine z_callV1 (as := []) (S := [zi a99]) 1895 dL_law_1892 rfl (Q_qM_evictions  h100) kX10_evictions ⟨_, _, rfl⟩ ar_142 l_RL_274 rfl rfl rfl rfl rfl rfl rfl ?_
  refine z_icmp_eq 2460 1898 dL_law_1895 rfl rfl (fun hc => ?_) (fun hc => ?_)
  · replace hq := z_ip hq hc
    refine z_iinc (r := (wr (v5 + 5))) (L' := [some (zr 1050), some (zr 0), some (zr 142), some (zr 156), some (zr 157), some (zi (wr (v5 + 5))), none, none, none]) 2463 dL_law_2460 rfl rfl rfl rfl rfl rfl ?_
    refine z_goto 28 dL_law_2463 rfl ?_
    exact z_mono (by omega) (by omega) (Z.sub (zle_s (zle_s (zle_s (zle_s (zle_s (zle_s (zle_n (zle_n (zle_n zle_nil))))))))) (hrec _ _ hq))
  · replace hq := z_in hq hc
    refine z_iconst 1899 dL_law_1898 rfl (by decide) ?_
    obtain ⟨ho, hv⟩ := hr _ _ (Option.some.inj hq).symm
    exact z_conv ho hv (z_zreturn rfl dL_law_1899 (by decide))
set_option maxRecDepth 100000 in
set_option maxHeartbeats 4000000 in
theorem J_qL_law_j1900 {g : yG} {a : Nat → Nat} {μ ν : zM} {o : zO} {kc ks : Nat} {scL : Int} {scV : Int → Int} {v5 : Int} {rec : zM → Int → Option ((Int ⊕ Unit) × zM)} {R : (Int ⊕ Unit) × zM} (hL : scL = (g.2.2.2.2.1 : Int)) (hLi : y_in scL) (hV : ∀ i : Int, 0 ≤ i → g.2.2.2.2.2 i.toNat = scV i) (hVi : ∀ i, y_in (scV i)) (hr : ∀ (x : Int) (m : zM), R = (.inl x, m) → o = .inl (some (zi x)) ∧ ν = m) (he : ∀ (tz : Unit) (m : zM), R = (.inr tz, m) → Z g a mL_law 2038 0 0 2466 [some (zr 1050), some (zr 0), some (zr 142), some (zr 156), some (zr 157), none, none, none, none] [] m o ν) (hrec : ∀ (μ : zM) (v5 : Int), rec μ v5 = some R → Z g a mL_law 2038 kc ks 28 [some (zr 1050), some (zr 0), some (zr 142), some (zr 156), some (zr 157), some (zi v5), none, none, none] [] μ o ν) (hq : qL_law_j1900 rec scL scV μ v5 = some R) : Z g a mL_law 2038 (kc + 2) (ks + 12) 1900 [some (zr 1050), some (zr 0), some (zr 142), some (zr 156), some (zr 157), some (zi v5), none, none, none] [] μ o ν := by
  unfold qL_law_j1900 at hq
  refine z_aload_n 1901 dL_law_1900 rfl rfl ?_
  refine z_aload 1903 dL_law_1901 rfl rfl ?_
  obtain ⟨a101, m101, h101, hq⟩ := bnd2_some hq
  refine z_callSH1 (as := [zr 0, zr 157]) (S := []) (kc := kc + 1) (ks := ks + 6) 1906 dL_law_1903 rfl (Q_qL_meanBurden h101) kL_meanBurden l_RL_275 rfl rfl rfl rfl rfl rfl rfl ?_
  refine z_istore (L' := [some (zr 1050), some (zr 0), some (zr 142), some (zr 156), some (zr 157), some (zi v5), some (zi a101), none, none]) 1908 dL_law_1906 rfl rfl rfl rfl ?_
  refine z_aload_n 1909 dL_law_1908 rfl rfl ?_
  obtain ⟨a102, m102, h102, hq⟩ := bnd2_some hq
  refine z_callV1 (as := []) (S := []) 1912 dL_law_1909 rfl (Q_qM_meanBurden  h102) kX10_meanBurden ⟨_, _, rfl⟩ ar_142 l_RL_278 rfl rfl rfl rfl rfl rfl rfl ?_
  refine z_dstore (L' := [some (zr 1050), some (zr 0), some (zr 142), some (zr 156), some (zr 157), some (zi v5), some (zi a101), some (zd a102), none]) 1914 dL_law_1912 rfl rfl rfl rfl ?_
  refine z_aload_n 1915 dL_law_1914 rfl rfl ?_
  obtain ⟨a103, h103, hq⟩ := z_b hq
  refine z_callV1 (as := []) (S := []) 1918 dL_law_1915 rfl (Q_qM_thrown  h103) kX10_thrown ⟨_, _, rfl⟩ ar_142 l_RL_141 rfl rfl rfl rfl rfl rfl rfl ?_
  refine z_iload 1920 dL_law_1918 rfl rfl ?_
  refine z_icmp_eq 1925 1923 dL_law_1920 rfl rfl (fun hc => ?_) (fun hc => ?_)
  · replace hq := z_ip hq hc
    refine z_iload 1927 dL_law_1925 rfl rfl ?_
    refine z_if_ne 1962 1930 dL_law_1927 rfl rfl (fun hc => ?_) (fun hc => ?_)
    · replace hq := z_in hq hc
      refine z_goto 2460 dL_law_1962 rfl ?_
      refine z_iinc (r := (wr (v5 + 5))) (L' := [some (zr 1050), some (zr 0), some (zr 142), some (zr 156), some (zr 157), some (zi (wr (v5 + 5))), some (zi a101), some (zd a102), none]) 2463 dL_law_2460 rfl rfl rfl rfl rfl rfl ?_
      refine z_goto 28 dL_law_2463 rfl ?_
      exact z_mono (by omega) (by omega) (Z.sub (zle_s (zle_s (zle_s (zle_s (zle_s (zle_s (zle_n (zle_n (zle_n zle_nil))))))))) (hrec _ _ hq))
    · replace hq := z_ip hq hc
      refine z_aload 1932 dL_law_1930 rfl rfl ?_
      refine z_iconst 1933 dL_law_1932 rfl (by decide) ?_
      refine z_daload (x := (m102 157 0)) 1934 dL_law_1933 rfl ar_157 ⟨by decide, by decide⟩ rfl ?_
      refine z_dload 1936 dL_law_1934 rfl rfl ?_
      refine z_dcmp 1937 dL_law_1936 rfl ?_
      refine z_if_eq 1962 1940 dL_law_1937 rfl rfl (fun hc => ?_) (fun hc => ?_)
      · replace hq := z_ip hq hc
        refine z_goto 2460 dL_law_1962 rfl ?_
        refine z_iinc (r := (wr (v5 + 5))) (L' := [some (zr 1050), some (zr 0), some (zr 142), some (zr 156), some (zr 157), some (zi (wr (v5 + 5))), some (zi a101), some (zd a102), none]) 2463 dL_law_2460 rfl rfl rfl rfl rfl rfl ?_
        refine z_goto 28 dL_law_2463 rfl ?_
        exact z_mono (by omega) (by omega) (Z.sub (zle_s (zle_s (zle_s (zle_s (zle_s (zle_s (zle_n (zle_n (zle_n zle_nil))))))))) (hrec _ _ hq))
      · replace hq := z_in hq hc
        refine z_aload 1942 dL_law_1940 rfl rfl ?_
        refine z_iconst 1943 dL_law_1942 rfl (by decide) ?_
        refine z_daload (x := (m102 157 0)) 1944 dL_law_1943 rfl ar_157 ⟨by decide, by decide⟩ rfl ?_
        refine z_aload 1946 dL_law_1944 rfl rfl ?_
        refine z_iconst 1947 dL_law_1946 rfl (by decide) ?_
        refine z_daload (x := (m102 157 0)) 1948 dL_law_1947 rfl ar_157 ⟨by decide, by decide⟩ rfl ?_
        refine z_dcmp 1949 dL_law_1948 rfl ?_
        refine z_if_eq 1960 1952 dL_law_1949 rfl rfl (fun hc => ?_) (fun hc => ?_)
        · replace hq := z_ip hq hc
          refine z_iconst 1961 dL_law_1960 rfl (by decide) ?_
          obtain ⟨ho, hv⟩ := hr _ _ (Option.some.inj hq).symm
          exact z_conv ho hv (z_zreturn rfl dL_law_1961 (by decide))
        · replace hq := z_in hq hc
          refine z_dload 1954 dL_law_1952 rfl rfl ?_
          refine z_dload 1956 dL_law_1954 rfl rfl ?_
          refine z_dcmp 1957 dL_law_1956 rfl ?_
          refine z_if_ne 1962 1960 dL_law_1957 rfl rfl (fun hc => ?_) (fun hc => ?_)
          · replace hq := z_in hq hc
            refine z_goto 2460 dL_law_1962 rfl ?_
            refine z_iinc (r := (wr (v5 + 5))) (L' := [some (zr 1050), some (zr 0), some (zr 142), some (zr 156), some (zr 157), some (zi (wr (v5 + 5))), some (zi a101), some (zd a102), none]) 2463 dL_law_2460 rfl rfl rfl rfl rfl rfl ?_
            refine z_goto 28 dL_law_2463 rfl ?_
            exact z_mono (by omega) (by omega) (Z.sub (zle_s (zle_s (zle_s (zle_s (zle_s (zle_s (zle_n (zle_n (zle_n zle_nil))))))))) (hrec _ _ hq))
          · replace hq := z_ip hq hc
            refine z_iconst 1961 dL_law_1960 rfl (by decide) ?_
            obtain ⟨ho, hv⟩ := hr _ _ (Option.some.inj hq).symm
            exact z_conv ho hv (z_zreturn rfl dL_law_1961 (by decide))
  · replace hq := z_in hq hc
    refine z_iconst 1924 dL_law_1923 rfl (by decide) ?_
    obtain ⟨ho, hv⟩ := hr _ _ (Option.some.inj hq).symm
    exact z_conv ho hv (z_zreturn rfl dL_law_1924 (by decide))
set_option maxRecDepth 100000 in
set_option maxHeartbeats 4000000 in
theorem J_qL_law_j1965 {g : yG} {a : Nat → Nat} {μ ν : zM} {o : zO} {kc ks : Nat} {scL : Int} {scV : Int → Int} {v5 : Int} {rec : zM → Int → Option ((Int ⊕ Unit) × zM)} {R : (Int ⊕ Unit) × zM} (hL : scL = (g.2.2.2.2.1 : Int)) (hLi : y_in scL) (hV : ∀ i : Int, 0 ≤ i → g.2.2.2.2.2 i.toNat = scV i) (hVi : ∀ i, y_in (scV i)) (hr : ∀ (x : Int) (m : zM), R = (.inl x, m) → o = .inl (some (zi x)) ∧ ν = m) (he : ∀ (tz : Unit) (m : zM), R = (.inr tz, m) → Z g a mL_law 2038 0 0 2466 [some (zr 1050), some (zr 0), some (zr 142), some (zr 156), some (zr 157), none, none, none, none] [] m o ν) (hrec : ∀ (μ : zM) (v5 : Int), rec μ v5 = some R → Z g a mL_law 2038 kc ks 28 [some (zr 1050), some (zr 0), some (zr 142), some (zr 156), some (zr 157), some (zi v5), none, none, none] [] μ o ν) (hq : qL_law_j1965 rec scL scV μ v5 = some R) : Z g a mL_law 2038 (kc + 2) (ks + 12) 1965 [some (zr 1050), some (zr 0), some (zr 142), some (zr 156), some (zr 157), some (zi v5), none, none, none] [] μ o ν := by
  unfold qL_law_j1965 at hq
  refine z_aload_n 1966 dL_law_1965 rfl rfl ?_
  refine z_aload 1968 dL_law_1966 rfl rfl ?_
  obtain ⟨a104, m104, h104, hq⟩ := bnd2_some hq
  refine z_callSH1 (as := [zr 0, zr 157]) (S := []) (kc := kc + 1) (ks := ks + 6) 1971 dL_law_1968 rfl (Q_qL_occupancy h104) kL_occupancy l_RL_279 rfl rfl rfl rfl rfl rfl rfl ?_
  refine z_istore (L' := [some (zr 1050), some (zr 0), some (zr 142), some (zr 156), some (zr 157), some (zi v5), some (zi a104), none, none]) 1973 dL_law_1971 rfl rfl rfl rfl ?_
  refine z_aload_n 1974 dL_law_1973 rfl rfl ?_
  obtain ⟨a105, m105, h105, hq⟩ := bnd2_some hq
  refine z_callV1 (as := []) (S := []) 1977 dL_law_1974 rfl (Q_qM_occupancy  h105) kX10_occupancy ⟨_, _, rfl⟩ ar_142 l_RL_281 rfl rfl rfl rfl rfl rfl rfl ?_
  refine z_fstore (L' := [some (zr 1050), some (zr 0), some (zr 142), some (zr 156), some (zr 157), some (zi v5), some (zi a104), some (zf a105), none]) 1979 dL_law_1977 rfl rfl rfl rfl ?_
  refine z_aload_n 1980 dL_law_1979 rfl rfl ?_
  obtain ⟨a106, h106, hq⟩ := z_b hq
  refine z_callV1 (as := []) (S := []) 1983 dL_law_1980 rfl (Q_qM_thrown  h106) kX10_thrown ⟨_, _, rfl⟩ ar_142 l_RL_141 rfl rfl rfl rfl rfl rfl rfl ?_
  refine z_iload 1985 dL_law_1983 rfl rfl ?_
  refine z_icmp_eq 1990 1988 dL_law_1985 rfl rfl (fun hc => ?_) (fun hc => ?_)
  · replace hq := z_ip hq hc
    refine z_iload 1992 dL_law_1990 rfl rfl ?_
    refine z_if_ne 2028 1995 dL_law_1992 rfl rfl (fun hc => ?_) (fun hc => ?_)
    · replace hq := z_in hq hc
      refine z_goto 2460 dL_law_2028 rfl ?_
      refine z_iinc (r := (wr (v5 + 5))) (L' := [some (zr 1050), some (zr 0), some (zr 142), some (zr 156), some (zr 157), some (zi (wr (v5 + 5))), some (zi a104), some (zf a105), none]) 2463 dL_law_2460 rfl rfl rfl rfl rfl rfl ?_
      refine z_goto 28 dL_law_2463 rfl ?_
      exact z_mono (by omega) (by omega) (Z.sub (zle_s (zle_s (zle_s (zle_s (zle_s (zle_s (zle_n (zle_n (zle_n zle_nil))))))))) (hrec _ _ hq))
    · replace hq := z_ip hq hc
      refine z_aload 1997 dL_law_1995 rfl rfl ?_
      refine z_iconst 1998 dL_law_1997 rfl (by decide) ?_
      refine z_daload (x := (m105 157 0)) 1999 dL_law_1998 rfl ar_157 ⟨by decide, by decide⟩ rfl ?_
      refine z_fload 2001 dL_law_1999 rfl rfl ?_
      obtain ⟨hg2001, hq⟩ := z_g hq
      refine z_f2d 2002 dL_law_2001 rfl hg2001 ?_
      refine z_dcmp 2003 dL_law_2002 rfl ?_
      refine z_if_eq 2028 2006 dL_law_2003 rfl rfl (fun hc => ?_) (fun hc => ?_)
      · replace hq := z_ip hq hc
        refine z_goto 2460 dL_law_2028 rfl ?_
        refine z_iinc (r := (wr (v5 + 5))) (L' := [some (zr 1050), some (zr 0), some (zr 142), some (zr 156), some (zr 157), some (zi (wr (v5 + 5))), some (zi a104), some (zf a105), none]) 2463 dL_law_2460 rfl rfl rfl rfl rfl rfl ?_
        refine z_goto 28 dL_law_2463 rfl ?_
        exact z_mono (by omega) (by omega) (Z.sub (zle_s (zle_s (zle_s (zle_s (zle_s (zle_s (zle_n (zle_n (zle_n zle_nil))))))))) (hrec _ _ hq))
      · replace hq := z_in hq hc
        refine z_aload 2008 dL_law_2006 rfl rfl ?_
        refine z_iconst 2009 dL_law_2008 rfl (by decide) ?_
        refine z_daload (x := (m105 157 0)) 2010 dL_law_2009 rfl ar_157 ⟨by decide, by decide⟩ rfl ?_
        refine z_aload 2012 dL_law_2010 rfl rfl ?_
        refine z_iconst 2013 dL_law_2012 rfl (by decide) ?_
        refine z_daload (x := (m105 157 0)) 2014 dL_law_2013 rfl ar_157 ⟨by decide, by decide⟩ rfl ?_
        refine z_dcmp 2015 dL_law_2014 rfl ?_
        refine z_if_eq 2026 2018 dL_law_2015 rfl rfl (fun hc => ?_) (fun hc => ?_)
        · replace hq := z_ip hq hc
          refine z_iconst 2027 dL_law_2026 rfl (by decide) ?_
          obtain ⟨ho, hv⟩ := hr _ _ (Option.some.inj hq).symm
          exact z_conv ho hv (z_zreturn rfl dL_law_2027 (by decide))
        · replace hq := z_in hq hc
          refine z_fload 2020 dL_law_2018 rfl rfl ?_
          refine z_fload 2022 dL_law_2020 rfl rfl ?_
          refine z_fcmp 2023 dL_law_2022 rfl ?_
          refine z_if_ne 2028 2026 dL_law_2023 rfl rfl (fun hc => ?_) (fun hc => ?_)
          · replace hq := z_in hq hc
            refine z_goto 2460 dL_law_2028 rfl ?_
            refine z_iinc (r := (wr (v5 + 5))) (L' := [some (zr 1050), some (zr 0), some (zr 142), some (zr 156), some (zr 157), some (zi (wr (v5 + 5))), some (zi a104), some (zf a105), none]) 2463 dL_law_2460 rfl rfl rfl rfl rfl rfl ?_
            refine z_goto 28 dL_law_2463 rfl ?_
            exact z_mono (by omega) (by omega) (Z.sub (zle_s (zle_s (zle_s (zle_s (zle_s (zle_s (zle_n (zle_n (zle_n zle_nil))))))))) (hrec _ _ hq))
          · replace hq := z_ip hq hc
            refine z_iconst 2027 dL_law_2026 rfl (by decide) ?_
            obtain ⟨ho, hv⟩ := hr _ _ (Option.some.inj hq).symm
            exact z_conv ho hv (z_zreturn rfl dL_law_2027 (by decide))
  · replace hq := z_in hq hc
    refine z_iconst 1989 dL_law_1988 rfl (by decide) ?_
    obtain ⟨ho, hv⟩ := hr _ _ (Option.some.inj hq).symm
    exact z_conv ho hv (z_zreturn rfl dL_law_1989 (by decide))
set_option maxRecDepth 100000 in
set_option maxHeartbeats 4000000 in
theorem J_qL_law_j2031 {g : yG} {a : Nat → Nat} {μ ν : zM} {o : zO} {kc ks : Nat} {scL : Int} {scV : Int → Int} {v5 : Int} {rec : zM → Int → Option ((Int ⊕ Unit) × zM)} {R : (Int ⊕ Unit) × zM} (hL : scL = (g.2.2.2.2.1 : Int)) (hLi : y_in scL) (hV : ∀ i : Int, 0 ≤ i → g.2.2.2.2.2 i.toNat = scV i) (hVi : ∀ i, y_in (scV i)) (hr : ∀ (x : Int) (m : zM), R = (.inl x, m) → o = .inl (some (zi x)) ∧ ν = m) (he : ∀ (tz : Unit) (m : zM), R = (.inr tz, m) → Z g a mL_law 2038 0 0 2466 [some (zr 1050), some (zr 0), some (zr 142), some (zr 156), some (zr 157), none, none, none, none] [] m o ν) (hrec : ∀ (μ : zM) (v5 : Int), rec μ v5 = some R → Z g a mL_law 2038 kc ks 28 [some (zr 1050), some (zr 0), some (zr 142), some (zr 156), some (zr 157), some (zi v5), none, none, none] [] μ o ν) (hq : qL_law_j2031 rec scL scV μ v5 = some R) : Z g a mL_law 2038 (kc + 2) (ks + 12) 2031 [some (zr 1050), some (zr 0), some (zr 142), some (zr 156), some (zr 157), some (zi v5), none, none, none] [] μ o ν := by
  unfold qL_law_j2031 at hq
  refine z_aload_n 2032 dL_law_2031 rfl rfl ?_
  obtain ⟨a107, m107, h107, hq⟩ := bnd2_some hq
  refine z_callV1 (as := []) (S := []) 2035 dL_law_2032 rfl (Q_qT_isConsistent  h107) kX9_isConsistent ⟨_, _, rfl⟩ ar_0 l_RL_282 rfl rfl rfl rfl rfl rfl rfl ?_
  refine z_aload_n 2036 dL_law_2035 rfl rfl ?_
  obtain ⟨a108, m108, h108, hq⟩ := bnd2_some hq
  refine z_callV1 (as := []) (S := [zi a107]) 2039 dL_law_2036 rfl (Q_qM_isConsistent  h108) kX10_isConsistent ⟨_, _, rfl⟩ ar_142 l_RL_285 rfl rfl rfl rfl rfl rfl rfl ?_
  refine z_icmp_eq 2460 2042 dL_law_2039 rfl rfl (fun hc => ?_) (fun hc => ?_)
  · replace hq := z_ip hq hc
    refine z_iinc (r := (wr (v5 + 5))) (L' := [some (zr 1050), some (zr 0), some (zr 142), some (zr 156), some (zr 157), some (zi (wr (v5 + 5))), none, none, none]) 2463 dL_law_2460 rfl rfl rfl rfl rfl rfl ?_
    refine z_goto 28 dL_law_2463 rfl ?_
    exact z_mono (by omega) (by omega) (Z.sub (zle_s (zle_s (zle_s (zle_s (zle_s (zle_s (zle_n (zle_n (zle_n zle_nil))))))))) (hrec _ _ hq))
  · replace hq := z_in hq hc
    refine z_iconst 2043 dL_law_2042 rfl (by decide) ?_
    obtain ⟨ho, hv⟩ := hr _ _ (Option.some.inj hq).symm
    exact z_conv ho hv (z_zreturn rfl dL_law_2043 (by decide))
set_option maxRecDepth 100000 in
set_option maxHeartbeats 4000000 in
theorem J_qL_law_j2044 {g : yG} {a : Nat → Nat} {μ ν : zM} {o : zO} {kc ks : Nat} {scL : Int} {scV : Int → Int} {v5 : Int} {rec : zM → Int → Option ((Int ⊕ Unit) × zM)} {R : (Int ⊕ Unit) × zM} (hL : scL = (g.2.2.2.2.1 : Int)) (hLi : y_in scL) (hV : ∀ i : Int, 0 ≤ i → g.2.2.2.2.2 i.toNat = scV i) (hVi : ∀ i, y_in (scV i)) (hr : ∀ (x : Int) (m : zM), R = (.inl x, m) → o = .inl (some (zi x)) ∧ ν = m) (he : ∀ (tz : Unit) (m : zM), R = (.inr tz, m) → Z g a mL_law 2038 0 0 2466 [some (zr 1050), some (zr 0), some (zr 142), some (zr 156), some (zr 157), none, none, none, none] [] m o ν) (hrec : ∀ (μ : zM) (v5 : Int), rec μ v5 = some R → Z g a mL_law 2038 kc ks 28 [some (zr 1050), some (zr 0), some (zr 142), some (zr 156), some (zr 157), some (zi v5), none, none, none] [] μ o ν) (hq : qL_law_j2044 rec scL scV μ v5 = some R) : Z g a mL_law 2038 (kc + 2) (ks + 12) 2044 [some (zr 1050), some (zr 0), some (zr 142), some (zr 156), some (zr 157), some (zi v5), none, none, none] [] μ o ν := by
  unfold qL_law_j2044 at hq
  refine z_aload_n 2045 dL_law_2044 rfl rfl ?_
  refine z_aload_n 2046 dL_law_2045 rfl rfl ?_
  refine z_iload 2048 dL_law_2046 rfl rfl ?_
  refine z_iconst 2049 dL_law_2048 rfl (by decide) ?_
  refine z_iadd (r := (wr (v5 + 1))) 2050 dL_law_2049 rfl rfl ?_
  obtain ⟨hg2050, hq⟩ := z_g hq
  refine z_sld 2051 dL_law_2050 rfl ⟨hg2050.1, hL ▸ hg2050.2⟩ (hV _ hg2050.1) (hVi _) ?_
  refine z_aload_n 2052 dL_law_2051 rfl rfl ?_
  obtain ⟨a109, m109, h109, hq⟩ := bnd2_some hq
  refine z_callSH1 (as := [zr 0, zi (scV (wr (v5 + 1))), zr 156]) (S := []) (kc := kc + 1) (ks := ks + 6) 2055 dL_law_2052 rfl (Q_qL_writeFloor h109) kL_writeFloor l_RL_286 rfl rfl rfl rfl rfl rfl rfl ?_
  refine z_istore (L' := [some (zr 1050), some (zr 0), some (zr 142), some (zr 156), some (zr 157), some (zi v5), some (zi a109), none, none]) 2057 dL_law_2055 rfl rfl rfl rfl ?_
  refine z_aload_n 2058 dL_law_2057 rfl rfl ?_
  refine z_aload_n 2059 dL_law_2058 rfl rfl ?_
  refine z_iload 2061 dL_law_2059 rfl rfl ?_
  refine z_iconst 2062 dL_law_2061 rfl (by decide) ?_
  refine z_iadd (r := (wr (v5 + 1))) 2063 dL_law_2062 rfl rfl ?_
  obtain ⟨hg2063, hq⟩ := z_g hq
  refine z_sld 2064 dL_law_2063 rfl ⟨hg2063.1, hL ▸ hg2063.2⟩ (hV _ hg2063.1) (hVi _) ?_
  obtain ⟨a110, m110, h110, hq⟩ := bnd2_some hq
  refine z_callV1 (as := [zi (scV (wr (v5 + 1)))]) (S := []) 2067 dL_law_2064 rfl (Q_qM_writeFloor  h110) kX10_writeFloor ⟨_, _, rfl⟩ ar_142 l_RL_288 rfl rfl rfl rfl rfl rfl rfl ?_
  refine z_istore (L' := [some (zr 1050), some (zr 0), some (zr 142), some (zr 156), some (zr 157), some (zi v5), some (zi a109), some (zi a110), none]) 2069 dL_law_2067 rfl rfl rfl rfl ?_
  refine z_aload_n 2070 dL_law_2069 rfl rfl ?_
  obtain ⟨a111, h111, hq⟩ := z_b hq
  refine z_callV1 (as := []) (S := []) 2073 dL_law_2070 rfl (Q_qM_thrown  h111) kX10_thrown ⟨_, _, rfl⟩ ar_142 l_RL_141 rfl rfl rfl rfl rfl rfl rfl ?_
  refine z_iload 2075 dL_law_2073 rfl rfl ?_
  refine z_icmp_eq 2080 2078 dL_law_2075 rfl rfl (fun hc => ?_) (fun hc => ?_)
  · replace hq := z_ip hq hc
    refine z_iload 2082 dL_law_2080 rfl rfl ?_
    refine z_if_ne 2097 2085 dL_law_2082 rfl rfl (fun hc => ?_) (fun hc => ?_)
    · replace hq := z_in hq hc
      refine z_goto 2460 dL_law_2097 rfl ?_
      refine z_iinc (r := (wr (v5 + 5))) (L' := [some (zr 1050), some (zr 0), some (zr 142), some (zr 156), some (zr 157), some (zi (wr (v5 + 5))), some (zi a109), some (zi a110), none]) 2463 dL_law_2460 rfl rfl rfl rfl rfl rfl ?_
      refine z_goto 28 dL_law_2463 rfl ?_
      exact z_mono (by omega) (by omega) (Z.sub (zle_s (zle_s (zle_s (zle_s (zle_s (zle_s (zle_n (zle_n (zle_n zle_nil))))))))) (hrec _ _ hq))
    · replace hq := z_ip hq hc
      refine z_aload_n 2086 dL_law_2085 rfl rfl ?_
      refine z_iconst 2087 dL_law_2086 rfl (by decide) ?_
      refine z_laload (x := (m110 156 0)) 2088 dL_law_2087 rfl ar_156 ⟨by decide, by decide⟩ rfl ?_
      refine z_iload 2090 dL_law_2088 rfl rfl ?_
      refine z_i2l 2091 dL_law_2090 rfl ?_
      refine z_lcmp 2092 dL_law_2091 rfl ?_
      refine z_if_eq 2097 2095 dL_law_2092 rfl rfl (fun hc => ?_) (fun hc => ?_)
      · replace hq := z_ip hq hc
        refine z_goto 2460 dL_law_2097 rfl ?_
        refine z_iinc (r := (wr (v5 + 5))) (L' := [some (zr 1050), some (zr 0), some (zr 142), some (zr 156), some (zr 157), some (zi (wr (v5 + 5))), some (zi a109), some (zi a110), none]) 2463 dL_law_2460 rfl rfl rfl rfl rfl rfl ?_
        refine z_goto 28 dL_law_2463 rfl ?_
        exact z_mono (by omega) (by omega) (Z.sub (zle_s (zle_s (zle_s (zle_s (zle_s (zle_s (zle_n (zle_n (zle_n zle_nil))))))))) (hrec _ _ hq))
      · replace hq := z_in hq hc
        refine z_iconst 2096 dL_law_2095 rfl (by decide) ?_
        obtain ⟨ho, hv⟩ := hr _ _ (Option.some.inj hq).symm
        exact z_conv ho hv (z_zreturn rfl dL_law_2096 (by decide))
  · replace hq := z_in hq hc
    refine z_iconst 2079 dL_law_2078 rfl (by decide) ?_
    obtain ⟨ho, hv⟩ := hr _ _ (Option.some.inj hq).symm
    exact z_conv ho hv (z_zreturn rfl dL_law_2079 (by decide))
set_option maxRecDepth 100000 in
set_option maxHeartbeats 4000000 in
theorem J_qL_law_j2100 {g : yG} {a : Nat → Nat} {μ ν : zM} {o : zO} {kc ks : Nat} {scL : Int} {scV : Int → Int} {v5 : Int} {rec : zM → Int → Option ((Int ⊕ Unit) × zM)} {R : (Int ⊕ Unit) × zM} (hL : scL = (g.2.2.2.2.1 : Int)) (hLi : y_in scL) (hV : ∀ i : Int, 0 ≤ i → g.2.2.2.2.2 i.toNat = scV i) (hVi : ∀ i, y_in (scV i)) (hr : ∀ (x : Int) (m : zM), R = (.inl x, m) → o = .inl (some (zi x)) ∧ ν = m) (he : ∀ (tz : Unit) (m : zM), R = (.inr tz, m) → Z g a mL_law 2038 0 0 2466 [some (zr 1050), some (zr 0), some (zr 142), some (zr 156), some (zr 157), none, none, none, none] [] m o ν) (hrec : ∀ (μ : zM) (v5 : Int), rec μ v5 = some R → Z g a mL_law 2038 kc ks 28 [some (zr 1050), some (zr 0), some (zr 142), some (zr 156), some (zr 157), some (zi v5), none, none, none] [] μ o ν) (hq : qL_law_j2100 rec scL scV μ v5 = some R) : Z g a mL_law 2038 (kc + 2) (ks + 12) 2100 [some (zr 1050), some (zr 0), some (zr 142), some (zr 156), some (zr 157), some (zi v5), none, none, none] [] μ o ν := by
  unfold qL_law_j2100 at hq
  refine z_aload_n 2101 dL_law_2100 rfl rfl ?_
  obtain ⟨a112, m112, h112, hq⟩ := bnd2_some hq
  refine z_callV1 (as := []) (S := []) 2104 dL_law_2101 rfl (Q_qT_writePlan  h112) kX9_writePlan ⟨_, _, rfl⟩ ar_0 l_RL_289 rfl rfl rfl rfl rfl rfl rfl ?_
  refine z_aload_n 2105 dL_law_2104 rfl rfl ?_
  obtain ⟨a113, m113, h113, hq⟩ := bnd2_some hq
  refine z_callV1 (as := []) (S := [zi a112]) 2108 dL_law_2105 rfl (Q_qM_writePlan  h113) kX10_writePlan ⟨_, _, rfl⟩ ar_142 l_RL_292 rfl rfl rfl rfl rfl rfl rfl ?_
  refine z_icmp_eq 2460 2111 dL_law_2108 rfl rfl (fun hc => ?_) (fun hc => ?_)
  · replace hq := z_ip hq hc
    refine z_iinc (r := (wr (v5 + 5))) (L' := [some (zr 1050), some (zr 0), some (zr 142), some (zr 156), some (zr 157), some (zi (wr (v5 + 5))), none, none, none]) 2463 dL_law_2460 rfl rfl rfl rfl rfl rfl ?_
    refine z_goto 28 dL_law_2463 rfl ?_
    exact z_mono (by omega) (by omega) (Z.sub (zle_s (zle_s (zle_s (zle_s (zle_s (zle_s (zle_n (zle_n (zle_n zle_nil))))))))) (hrec _ _ hq))
  · replace hq := z_in hq hc
    refine z_iconst 2112 dL_law_2111 rfl (by decide) ?_
    obtain ⟨ho, hv⟩ := hr _ _ (Option.some.inj hq).symm
    exact z_conv ho hv (z_zreturn rfl dL_law_2112 (by decide))
set_option maxRecDepth 100000 in
set_option maxHeartbeats 4000000 in
theorem J_qL_law_j2113 {g : yG} {a : Nat → Nat} {μ ν : zM} {o : zO} {kc ks : Nat} {scL : Int} {scV : Int → Int} {v5 : Int} {rec : zM → Int → Option ((Int ⊕ Unit) × zM)} {R : (Int ⊕ Unit) × zM} (hL : scL = (g.2.2.2.2.1 : Int)) (hLi : y_in scL) (hV : ∀ i : Int, 0 ≤ i → g.2.2.2.2.2 i.toNat = scV i) (hVi : ∀ i, y_in (scV i)) (hr : ∀ (x : Int) (m : zM), R = (.inl x, m) → o = .inl (some (zi x)) ∧ ν = m) (he : ∀ (tz : Unit) (m : zM), R = (.inr tz, m) → Z g a mL_law 2038 0 0 2466 [some (zr 1050), some (zr 0), some (zr 142), some (zr 156), some (zr 157), none, none, none, none] [] m o ν) (hrec : ∀ (μ : zM) (v5 : Int), rec μ v5 = some R → Z g a mL_law 2038 kc ks 28 [some (zr 1050), some (zr 0), some (zr 142), some (zr 156), some (zr 157), some (zi v5), none, none, none] [] μ o ν) (hq : qL_law_j2113 rec scL scV μ v5 = some R) : Z g a mL_law 2038 (kc + 2) (ks + 12) 2113 [some (zr 1050), some (zr 0), some (zr 142), some (zr 156), some (zr 157), some (zi v5), none, none, none] [] μ o ν := by
  unfold qL_law_j2113 at hq
  refine z_aload_n 2114 dL_law_2113 rfl rfl ?_
  refine z_aload_n 2115 dL_law_2114 rfl rfl ?_
  refine z_iload 2117 dL_law_2115 rfl rfl ?_
  refine z_iconst 2118 dL_law_2117 rfl (by decide) ?_
  refine z_iadd (r := (wr (v5 + 1))) 2119 dL_law_2118 rfl rfl ?_
  obtain ⟨hg2119, hq⟩ := z_g hq
  refine z_sld 2120 dL_law_2119 rfl ⟨hg2119.1, hL ▸ hg2119.2⟩ (hV _ hg2119.1) (hVi _) ?_
  refine z_aload_n 2121 dL_law_2120 rfl rfl ?_
  obtain ⟨a114, m114, h114, hq⟩ := bnd2_some hq
  refine z_callSH1 (as := [zr 0, zi (scV (wr (v5 + 1))), zr 156]) (S := []) (kc := kc + 1) (ks := ks + 6) 2124 dL_law_2121 rfl (Q_qL_charAt h114) kL_charAt l_RL_293 rfl rfl rfl rfl rfl rfl rfl ?_
  refine z_istore (L' := [some (zr 1050), some (zr 0), some (zr 142), some (zr 156), some (zr 157), some (zi v5), some (zi a114), none, none]) 2126 dL_law_2124 rfl rfl rfl rfl ?_
  refine z_aload_n 2127 dL_law_2126 rfl rfl ?_
  refine z_aload_n 2128 dL_law_2127 rfl rfl ?_
  refine z_iload 2130 dL_law_2128 rfl rfl ?_
  refine z_iconst 2131 dL_law_2130 rfl (by decide) ?_
  refine z_iadd (r := (wr (v5 + 1))) 2132 dL_law_2131 rfl rfl ?_
  obtain ⟨hg2132, hq⟩ := z_g hq
  refine z_sld 2133 dL_law_2132 rfl ⟨hg2132.1, hL ▸ hg2132.2⟩ (hV _ hg2132.1) (hVi _) ?_
  obtain ⟨a115, m115, h115, hq⟩ := bnd2_some hq
  refine z_callV1 (as := [zi (scV (wr (v5 + 1)))]) (S := []) 2136 dL_law_2133 rfl (Q_qM_charAt  h115) kX10_charAt ⟨_, _, rfl⟩ ar_142 l_RL_295 rfl rfl rfl rfl rfl rfl rfl ?_
  refine z_istore (L' := [some (zr 1050), some (zr 0), some (zr 142), some (zr 156), some (zr 157), some (zi v5), some (zi a114), some (zi a115), none]) 2138 dL_law_2136 rfl rfl rfl rfl ?_
  refine z_aload_n 2139 dL_law_2138 rfl rfl ?_
  obtain ⟨a116, h116, hq⟩ := z_b hq
  refine z_callV1 (as := []) (S := []) 2142 dL_law_2139 rfl (Q_qM_thrown  h116) kX10_thrown ⟨_, _, rfl⟩ ar_142 l_RL_141 rfl rfl rfl rfl rfl rfl rfl ?_
  refine z_iload 2144 dL_law_2142 rfl rfl ?_
  refine z_icmp_eq 2149 2147 dL_law_2144 rfl rfl (fun hc => ?_) (fun hc => ?_)
  · replace hq := z_ip hq hc
    refine z_iload 2151 dL_law_2149 rfl rfl ?_
    refine z_if_ne 2166 2154 dL_law_2151 rfl rfl (fun hc => ?_) (fun hc => ?_)
    · replace hq := z_in hq hc
      refine z_goto 2460 dL_law_2166 rfl ?_
      refine z_iinc (r := (wr (v5 + 5))) (L' := [some (zr 1050), some (zr 0), some (zr 142), some (zr 156), some (zr 157), some (zi (wr (v5 + 5))), some (zi a114), some (zi a115), none]) 2463 dL_law_2460 rfl rfl rfl rfl rfl rfl ?_
      refine z_goto 28 dL_law_2463 rfl ?_
      exact z_mono (by omega) (by omega) (Z.sub (zle_s (zle_s (zle_s (zle_s (zle_s (zle_s (zle_n (zle_n (zle_n zle_nil))))))))) (hrec _ _ hq))
    · replace hq := z_ip hq hc
      refine z_aload_n 2155 dL_law_2154 rfl rfl ?_
      refine z_iconst 2156 dL_law_2155 rfl (by decide) ?_
      refine z_laload (x := (m115 156 0)) 2157 dL_law_2156 rfl ar_156 ⟨by decide, by decide⟩ rfl ?_
      refine z_iload 2159 dL_law_2157 rfl rfl ?_
      refine z_i2l 2160 dL_law_2159 rfl ?_
      refine z_lcmp 2161 dL_law_2160 rfl ?_
      refine z_if_eq 2166 2164 dL_law_2161 rfl rfl (fun hc => ?_) (fun hc => ?_)
      · replace hq := z_ip hq hc
        refine z_goto 2460 dL_law_2166 rfl ?_
        refine z_iinc (r := (wr (v5 + 5))) (L' := [some (zr 1050), some (zr 0), some (zr 142), some (zr 156), some (zr 157), some (zi (wr (v5 + 5))), some (zi a114), some (zi a115), none]) 2463 dL_law_2460 rfl rfl rfl rfl rfl rfl ?_
        refine z_goto 28 dL_law_2463 rfl ?_
        exact z_mono (by omega) (by omega) (Z.sub (zle_s (zle_s (zle_s (zle_s (zle_s (zle_s (zle_n (zle_n (zle_n zle_nil))))))))) (hrec _ _ hq))
      · replace hq := z_in hq hc
        refine z_iconst 2165 dL_law_2164 rfl (by decide) ?_
        obtain ⟨ho, hv⟩ := hr _ _ (Option.some.inj hq).symm
        exact z_conv ho hv (z_zreturn rfl dL_law_2165 (by decide))
  · replace hq := z_in hq hc
    refine z_iconst 2148 dL_law_2147 rfl (by decide) ?_
    obtain ⟨ho, hv⟩ := hr _ _ (Option.some.inj hq).symm
    exact z_conv ho hv (z_zreturn rfl dL_law_2148 (by decide))
set_option maxRecDepth 100000 in
set_option maxHeartbeats 4000000 in
theorem J_qL_law_j2169 {g : yG} {a : Nat → Nat} {μ ν : zM} {o : zO} {kc ks : Nat} {scL : Int} {scV : Int → Int} {v5 : Int} {rec : zM → Int → Option ((Int ⊕ Unit) × zM)} {R : (Int ⊕ Unit) × zM} (hL : scL = (g.2.2.2.2.1 : Int)) (hLi : y_in scL) (hV : ∀ i : Int, 0 ≤ i → g.2.2.2.2.2 i.toNat = scV i) (hVi : ∀ i, y_in (scV i)) (hr : ∀ (x : Int) (m : zM), R = (.inl x, m) → o = .inl (some (zi x)) ∧ ν = m) (he : ∀ (tz : Unit) (m : zM), R = (.inr tz, m) → Z g a mL_law 2038 0 0 2466 [some (zr 1050), some (zr 0), some (zr 142), some (zr 156), some (zr 157), none, none, none, none] [] m o ν) (hrec : ∀ (μ : zM) (v5 : Int), rec μ v5 = some R → Z g a mL_law 2038 kc ks 28 [some (zr 1050), some (zr 0), some (zr 142), some (zr 156), some (zr 157), some (zi v5), none, none, none] [] μ o ν) (hq : qL_law_j2169 rec scL scV μ v5 = some R) : Z g a mL_law 2038 (kc + 2) (ks + 12) 2169 [some (zr 1050), some (zr 0), some (zr 142), some (zr 156), some (zr 157), some (zi v5), none, none, none] [] μ o ν := by
  unfold qL_law_j2169 at hq
  refine z_aload_n 2170 dL_law_2169 rfl rfl ?_
  refine z_aload_n 2171 dL_law_2170 rfl rfl ?_
  refine z_iload 2173 dL_law_2171 rfl rfl ?_
  refine z_iconst 2174 dL_law_2173 rfl (by decide) ?_
  refine z_iadd (r := (wr (v5 + 1))) 2175 dL_law_2174 rfl rfl ?_
  obtain ⟨hg2175, hq⟩ := z_g hq
  refine z_sld 2176 dL_law_2175 rfl ⟨hg2175.1, hL ▸ hg2175.2⟩ (hV _ hg2175.1) (hVi _) ?_
  refine z_i2c (r := ((scV (wr (v5 + 1))) % 65536)) 2177 dL_law_2176 rfl rfl ?_
  refine z_aload_n 2178 dL_law_2177 rfl rfl ?_
  obtain ⟨a117, m117, h117, hq⟩ := bnd2_some hq
  refine z_callSH1 (as := [zr 0, zi ((scV (wr (v5 + 1))) % 65536), zr 156]) (S := []) (kc := kc + 1) (ks := ks + 6) 2181 dL_law_2178 rfl (Q_qL_type h117) kL_type l_RL_296 rfl rfl rfl rfl rfl rfl rfl ?_
  refine z_istore (L' := [some (zr 1050), some (zr 0), some (zr 142), some (zr 156), some (zr 157), some (zi v5), some (zi a117), none, none]) 2183 dL_law_2181 rfl rfl rfl rfl ?_
  refine z_aload_n 2184 dL_law_2183 rfl rfl ?_
  refine z_aload_n 2185 dL_law_2184 rfl rfl ?_
  refine z_iload 2187 dL_law_2185 rfl rfl ?_
  refine z_iconst 2188 dL_law_2187 rfl (by decide) ?_
  refine z_iadd (r := (wr (v5 + 1))) 2189 dL_law_2188 rfl rfl ?_
  obtain ⟨hg2189, hq⟩ := z_g hq
  refine z_sld 2190 dL_law_2189 rfl ⟨hg2189.1, hL ▸ hg2189.2⟩ (hV _ hg2189.1) (hVi _) ?_
  refine z_i2c (r := ((scV (wr (v5 + 1))) % 65536)) 2191 dL_law_2190 rfl rfl ?_
  obtain ⟨a118, m118, h118, hq⟩ := bnd2_some hq
  refine z_callV1 (as := [zi ((scV (wr (v5 + 1))) % 65536)]) (S := []) 2194 dL_law_2191 rfl (Q_qM_type  h118) kX10_type ⟨_, _, rfl⟩ ar_142 l_RL_299 rfl rfl rfl rfl rfl rfl rfl ?_
  refine z_istore (L' := [some (zr 1050), some (zr 0), some (zr 142), some (zr 156), some (zr 157), some (zi v5), some (zi a117), some (zi a118), none]) 2196 dL_law_2194 rfl rfl rfl rfl ?_
  refine z_aload_n 2197 dL_law_2196 rfl rfl ?_
  obtain ⟨a119, h119, hq⟩ := z_b hq
  refine z_callV1 (as := []) (S := []) 2200 dL_law_2197 rfl (Q_qM_thrown  h119) kX10_thrown ⟨_, _, rfl⟩ ar_142 l_RL_141 rfl rfl rfl rfl rfl rfl rfl ?_
  refine z_iload 2202 dL_law_2200 rfl rfl ?_
  refine z_icmp_eq 2207 2205 dL_law_2202 rfl rfl (fun hc => ?_) (fun hc => ?_)
  · replace hq := z_ip hq hc
    refine z_iload 2209 dL_law_2207 rfl rfl ?_
    refine z_if_ne 2224 2212 dL_law_2209 rfl rfl (fun hc => ?_) (fun hc => ?_)
    · replace hq := z_in hq hc
      refine z_goto 2460 dL_law_2224 rfl ?_
      refine z_iinc (r := (wr (v5 + 5))) (L' := [some (zr 1050), some (zr 0), some (zr 142), some (zr 156), some (zr 157), some (zi (wr (v5 + 5))), some (zi a117), some (zi a118), none]) 2463 dL_law_2460 rfl rfl rfl rfl rfl rfl ?_
      refine z_goto 28 dL_law_2463 rfl ?_
      exact z_mono (by omega) (by omega) (Z.sub (zle_s (zle_s (zle_s (zle_s (zle_s (zle_s (zle_n (zle_n (zle_n zle_nil))))))))) (hrec _ _ hq))
    · replace hq := z_ip hq hc
      refine z_aload_n 2213 dL_law_2212 rfl rfl ?_
      refine z_iconst 2214 dL_law_2213 rfl (by decide) ?_
      refine z_laload (x := (m118 156 0)) 2215 dL_law_2214 rfl ar_156 ⟨by decide, by decide⟩ rfl ?_
      refine z_iload 2217 dL_law_2215 rfl rfl ?_
      refine z_i2l 2218 dL_law_2217 rfl ?_
      refine z_lcmp 2219 dL_law_2218 rfl ?_
      refine z_if_eq 2224 2222 dL_law_2219 rfl rfl (fun hc => ?_) (fun hc => ?_)
      · replace hq := z_ip hq hc
        refine z_goto 2460 dL_law_2224 rfl ?_
        refine z_iinc (r := (wr (v5 + 5))) (L' := [some (zr 1050), some (zr 0), some (zr 142), some (zr 156), some (zr 157), some (zi (wr (v5 + 5))), some (zi a117), some (zi a118), none]) 2463 dL_law_2460 rfl rfl rfl rfl rfl rfl ?_
        refine z_goto 28 dL_law_2463 rfl ?_
        exact z_mono (by omega) (by omega) (Z.sub (zle_s (zle_s (zle_s (zle_s (zle_s (zle_s (zle_n (zle_n (zle_n zle_nil))))))))) (hrec _ _ hq))
      · replace hq := z_in hq hc
        refine z_iconst 2223 dL_law_2222 rfl (by decide) ?_
        obtain ⟨ho, hv⟩ := hr _ _ (Option.some.inj hq).symm
        exact z_conv ho hv (z_zreturn rfl dL_law_2223 (by decide))
  · replace hq := z_in hq hc
    refine z_iconst 2206 dL_law_2205 rfl (by decide) ?_
    obtain ⟨ho, hv⟩ := hr _ _ (Option.some.inj hq).symm
    exact z_conv ho hv (z_zreturn rfl dL_law_2206 (by decide))
set_option maxRecDepth 100000 in
set_option maxHeartbeats 4000000 in
theorem J_qL_law_j2227 {g : yG} {a : Nat → Nat} {μ ν : zM} {o : zO} {kc ks : Nat} {scL : Int} {scV : Int → Int} {v5 : Int} {rec : zM → Int → Option ((Int ⊕ Unit) × zM)} {R : (Int ⊕ Unit) × zM} (hL : scL = (g.2.2.2.2.1 : Int)) (hLi : y_in scL) (hV : ∀ i : Int, 0 ≤ i → g.2.2.2.2.2 i.toNat = scV i) (hVi : ∀ i, y_in (scV i)) (hr : ∀ (x : Int) (m : zM), R = (.inl x, m) → o = .inl (some (zi x)) ∧ ν = m) (he : ∀ (tz : Unit) (m : zM), R = (.inr tz, m) → Z g a mL_law 2038 0 0 2466 [some (zr 1050), some (zr 0), some (zr 142), some (zr 156), some (zr 157), none, none, none, none] [] m o ν) (hrec : ∀ (μ : zM) (v5 : Int), rec μ v5 = some R → Z g a mL_law 2038 kc ks 28 [some (zr 1050), some (zr 0), some (zr 142), some (zr 156), some (zr 157), some (zi v5), none, none, none] [] μ o ν) (hq : qL_law_j2227 rec scL scV μ v5 = some R) : Z g a mL_law 2038 (kc + 2) (ks + 12) 2227 [some (zr 1050), some (zr 0), some (zr 142), some (zr 156), some (zr 157), some (zi v5), none, none, none] [] μ o ν := by
  unfold qL_law_j2227 at hq
  refine z_aload_n 2228 dL_law_2227 rfl rfl ?_
  refine z_aload_n 2229 dL_law_2228 rfl rfl ?_
  obtain ⟨a120, m120, h120, hq⟩ := bnd2_some hq
  refine z_callSH1 (as := [zr 0, zr 156]) (S := []) (kc := kc + 1) (ks := ks + 6) 2232 dL_law_2229 rfl (Q_qL_run h120) kL_run l_RL_300 rfl rfl rfl rfl rfl rfl rfl ?_
  refine z_istore (L' := [some (zr 1050), some (zr 0), some (zr 142), some (zr 156), some (zr 157), some (zi v5), some (zi a120), none, none]) 2234 dL_law_2232 rfl rfl rfl rfl ?_
  refine z_aload_n 2235 dL_law_2234 rfl rfl ?_
  obtain ⟨a121, m121, h121, hq⟩ := bnd2_some hq
  refine z_callV1 (as := []) (S := []) 2238 dL_law_2235 rfl (Q_qM_run  h121) kX10_run ⟨_, _, rfl⟩ ar_142 l_RL_302 rfl rfl rfl rfl rfl rfl rfl ?_
  refine z_istore (L' := [some (zr 1050), some (zr 0), some (zr 142), some (zr 156), some (zr 157), some (zi v5), some (zi a120), some (zi a121), none]) 2240 dL_law_2238 rfl rfl rfl rfl ?_
  refine z_aload_n 2241 dL_law_2240 rfl rfl ?_
  obtain ⟨a122, h122, hq⟩ := z_b hq
  refine z_callV1 (as := []) (S := []) 2244 dL_law_2241 rfl (Q_qM_thrown  h122) kX10_thrown ⟨_, _, rfl⟩ ar_142 l_RL_141 rfl rfl rfl rfl rfl rfl rfl ?_
  refine z_iload 2246 dL_law_2244 rfl rfl ?_
  refine z_icmp_eq 2251 2249 dL_law_2246 rfl rfl (fun hc => ?_) (fun hc => ?_)
  · replace hq := z_ip hq hc
    refine z_iload 2253 dL_law_2251 rfl rfl ?_
    refine z_if_ne 2268 2256 dL_law_2253 rfl rfl (fun hc => ?_) (fun hc => ?_)
    · replace hq := z_in hq hc
      refine z_goto 2460 dL_law_2268 rfl ?_
      refine z_iinc (r := (wr (v5 + 5))) (L' := [some (zr 1050), some (zr 0), some (zr 142), some (zr 156), some (zr 157), some (zi (wr (v5 + 5))), some (zi a120), some (zi a121), none]) 2463 dL_law_2460 rfl rfl rfl rfl rfl rfl ?_
      refine z_goto 28 dL_law_2463 rfl ?_
      exact z_mono (by omega) (by omega) (Z.sub (zle_s (zle_s (zle_s (zle_s (zle_s (zle_s (zle_n (zle_n (zle_n zle_nil))))))))) (hrec _ _ hq))
    · replace hq := z_ip hq hc
      refine z_aload_n 2257 dL_law_2256 rfl rfl ?_
      refine z_iconst 2258 dL_law_2257 rfl (by decide) ?_
      refine z_laload (x := (m121 156 0)) 2259 dL_law_2258 rfl ar_156 ⟨by decide, by decide⟩ rfl ?_
      refine z_iload 2261 dL_law_2259 rfl rfl ?_
      refine z_i2l 2262 dL_law_2261 rfl ?_
      refine z_lcmp 2263 dL_law_2262 rfl ?_
      refine z_if_eq 2268 2266 dL_law_2263 rfl rfl (fun hc => ?_) (fun hc => ?_)
      · replace hq := z_ip hq hc
        refine z_goto 2460 dL_law_2268 rfl ?_
        refine z_iinc (r := (wr (v5 + 5))) (L' := [some (zr 1050), some (zr 0), some (zr 142), some (zr 156), some (zr 157), some (zi (wr (v5 + 5))), some (zi a120), some (zi a121), none]) 2463 dL_law_2460 rfl rfl rfl rfl rfl rfl ?_
        refine z_goto 28 dL_law_2463 rfl ?_
        exact z_mono (by omega) (by omega) (Z.sub (zle_s (zle_s (zle_s (zle_s (zle_s (zle_s (zle_n (zle_n (zle_n zle_nil))))))))) (hrec _ _ hq))
      · replace hq := z_in hq hc
        refine z_iconst 2267 dL_law_2266 rfl (by decide) ?_
        obtain ⟨ho, hv⟩ := hr _ _ (Option.some.inj hq).symm
        exact z_conv ho hv (z_zreturn rfl dL_law_2267 (by decide))
  · replace hq := z_in hq hc
    refine z_iconst 2250 dL_law_2249 rfl (by decide) ?_
    obtain ⟨ho, hv⟩ := hr _ _ (Option.some.inj hq).symm
    exact z_conv ho hv (z_zreturn rfl dL_law_2250 (by decide))
set_option maxRecDepth 100000 in
set_option maxHeartbeats 4000000 in
theorem J_qL_law_j2271 {g : yG} {a : Nat → Nat} {μ ν : zM} {o : zO} {kc ks : Nat} {scL : Int} {scV : Int → Int} {v5 : Int} {rec : zM → Int → Option ((Int ⊕ Unit) × zM)} {R : (Int ⊕ Unit) × zM} (hL : scL = (g.2.2.2.2.1 : Int)) (hLi : y_in scL) (hV : ∀ i : Int, 0 ≤ i → g.2.2.2.2.2 i.toNat = scV i) (hVi : ∀ i, y_in (scV i)) (hr : ∀ (x : Int) (m : zM), R = (.inl x, m) → o = .inl (some (zi x)) ∧ ν = m) (he : ∀ (tz : Unit) (m : zM), R = (.inr tz, m) → Z g a mL_law 2038 0 0 2466 [some (zr 1050), some (zr 0), some (zr 142), some (zr 156), some (zr 157), none, none, none, none] [] m o ν) (hrec : ∀ (μ : zM) (v5 : Int), rec μ v5 = some R → Z g a mL_law 2038 kc ks 28 [some (zr 1050), some (zr 0), some (zr 142), some (zr 156), some (zr 157), some (zi v5), none, none, none] [] μ o ν) (hq : qL_law_j2271 rec scL scV μ v5 = some R) : Z g a mL_law 2038 (kc + 2) (ks + 12) 2271 [some (zr 1050), some (zr 0), some (zr 142), some (zr 156), some (zr 157), some (zi v5), none, none, none] [] μ o ν := by
  unfold qL_law_j2271 at hq
  refine z_aload_n 2272 dL_law_2271 rfl rfl ?_
  refine z_aload_n 2273 dL_law_2272 rfl rfl ?_
  obtain ⟨a123, m123, h123, hq⟩ := bnd2_some hq
  refine z_callSH1 (as := [zr 0, zr 156]) (S := []) (kc := kc + 1) (ks := ks + 6) 2276 dL_law_2273 rfl (Q_qL_errorPosition h123) kL_errorPosition l_RL_303 rfl rfl rfl rfl rfl rfl rfl ?_
  refine z_istore (L' := [some (zr 1050), some (zr 0), some (zr 142), some (zr 156), some (zr 157), some (zi v5), some (zi a123), none, none]) 2278 dL_law_2276 rfl rfl rfl rfl ?_
  refine z_aload_n 2279 dL_law_2278 rfl rfl ?_
  obtain ⟨a124, m124, h124, hq⟩ := bnd2_some hq
  refine z_callV1 (as := []) (S := []) 2282 dL_law_2279 rfl (Q_qM_errorPosition  h124) kX10_errorPosition ⟨_, _, rfl⟩ ar_142 l_RL_305 rfl rfl rfl rfl rfl rfl rfl ?_
  refine z_istore (L' := [some (zr 1050), some (zr 0), some (zr 142), some (zr 156), some (zr 157), some (zi v5), some (zi a123), some (zi a124), none]) 2284 dL_law_2282 rfl rfl rfl rfl ?_
  refine z_aload_n 2285 dL_law_2284 rfl rfl ?_
  obtain ⟨a125, h125, hq⟩ := z_b hq
  refine z_callV1 (as := []) (S := []) 2288 dL_law_2285 rfl (Q_qM_thrown  h125) kX10_thrown ⟨_, _, rfl⟩ ar_142 l_RL_141 rfl rfl rfl rfl rfl rfl rfl ?_
  refine z_iload 2290 dL_law_2288 rfl rfl ?_
  refine z_icmp_eq 2295 2293 dL_law_2290 rfl rfl (fun hc => ?_) (fun hc => ?_)
  · replace hq := z_ip hq hc
    refine z_iload 2297 dL_law_2295 rfl rfl ?_
    refine z_if_ne 2312 2300 dL_law_2297 rfl rfl (fun hc => ?_) (fun hc => ?_)
    · replace hq := z_in hq hc
      refine z_goto 2460 dL_law_2312 rfl ?_
      refine z_iinc (r := (wr (v5 + 5))) (L' := [some (zr 1050), some (zr 0), some (zr 142), some (zr 156), some (zr 157), some (zi (wr (v5 + 5))), some (zi a123), some (zi a124), none]) 2463 dL_law_2460 rfl rfl rfl rfl rfl rfl ?_
      refine z_goto 28 dL_law_2463 rfl ?_
      exact z_mono (by omega) (by omega) (Z.sub (zle_s (zle_s (zle_s (zle_s (zle_s (zle_s (zle_n (zle_n (zle_n zle_nil))))))))) (hrec _ _ hq))
    · replace hq := z_ip hq hc
      refine z_aload_n 2301 dL_law_2300 rfl rfl ?_
      refine z_iconst 2302 dL_law_2301 rfl (by decide) ?_
      refine z_laload (x := (m124 156 0)) 2303 dL_law_2302 rfl ar_156 ⟨by decide, by decide⟩ rfl ?_
      refine z_iload 2305 dL_law_2303 rfl rfl ?_
      refine z_i2l 2306 dL_law_2305 rfl ?_
      refine z_lcmp 2307 dL_law_2306 rfl ?_
      refine z_if_eq 2312 2310 dL_law_2307 rfl rfl (fun hc => ?_) (fun hc => ?_)
      · replace hq := z_ip hq hc
        refine z_goto 2460 dL_law_2312 rfl ?_
        refine z_iinc (r := (wr (v5 + 5))) (L' := [some (zr 1050), some (zr 0), some (zr 142), some (zr 156), some (zr 157), some (zi (wr (v5 + 5))), some (zi a123), some (zi a124), none]) 2463 dL_law_2460 rfl rfl rfl rfl rfl rfl ?_
        refine z_goto 28 dL_law_2463 rfl ?_
        exact z_mono (by omega) (by omega) (Z.sub (zle_s (zle_s (zle_s (zle_s (zle_s (zle_s (zle_n (zle_n (zle_n zle_nil))))))))) (hrec _ _ hq))
      · replace hq := z_in hq hc
        refine z_iconst 2311 dL_law_2310 rfl (by decide) ?_
        obtain ⟨ho, hv⟩ := hr _ _ (Option.some.inj hq).symm
        exact z_conv ho hv (z_zreturn rfl dL_law_2311 (by decide))
  · replace hq := z_in hq hc
    refine z_iconst 2294 dL_law_2293 rfl (by decide) ?_
    obtain ⟨ho, hv⟩ := hr _ _ (Option.some.inj hq).symm
    exact z_conv ho hv (z_zreturn rfl dL_law_2294 (by decide))
set_option maxRecDepth 100000 in
set_option maxHeartbeats 4000000 in
theorem J_qL_law_j2315 {g : yG} {a : Nat → Nat} {μ ν : zM} {o : zO} {kc ks : Nat} {scL : Int} {scV : Int → Int} {v5 : Int} {rec : zM → Int → Option ((Int ⊕ Unit) × zM)} {R : (Int ⊕ Unit) × zM} (hL : scL = (g.2.2.2.2.1 : Int)) (hLi : y_in scL) (hV : ∀ i : Int, 0 ≤ i → g.2.2.2.2.2 i.toNat = scV i) (hVi : ∀ i, y_in (scV i)) (hr : ∀ (x : Int) (m : zM), R = (.inl x, m) → o = .inl (some (zi x)) ∧ ν = m) (he : ∀ (tz : Unit) (m : zM), R = (.inr tz, m) → Z g a mL_law 2038 0 0 2466 [some (zr 1050), some (zr 0), some (zr 142), some (zr 156), some (zr 157), none, none, none, none] [] m o ν) (hrec : ∀ (μ : zM) (v5 : Int), rec μ v5 = some R → Z g a mL_law 2038 kc ks 28 [some (zr 1050), some (zr 0), some (zr 142), some (zr 156), some (zr 157), some (zi v5), none, none, none] [] μ o ν) (hq : qL_law_j2315 rec scL scV μ v5 = some R) : Z g a mL_law 2038 (kc + 2) (ks + 12) 2315 [some (zr 1050), some (zr 0), some (zr 142), some (zr 156), some (zr 157), some (zi v5), none, none, none] [] μ o ν := by
  unfold qL_law_j2315 at hq
  refine z_aload_n 2316 dL_law_2315 rfl rfl ?_
  refine z_aload_n 2317 dL_law_2316 rfl rfl ?_
  obtain ⟨a126, m126, h126, hq⟩ := bnd2_some hq
  refine z_callSH1 (as := [zr 0, zr 156]) (S := []) (kc := kc + 1) (ks := ks + 6) 2320 dL_law_2317 rfl (Q_qL_failedCommand h126) kL_failedCommand l_RL_306 rfl rfl rfl rfl rfl rfl rfl ?_
  refine z_istore (L' := [some (zr 1050), some (zr 0), some (zr 142), some (zr 156), some (zr 157), some (zi v5), some (zi a126), none, none]) 2322 dL_law_2320 rfl rfl rfl rfl ?_
  refine z_aload_n 2323 dL_law_2322 rfl rfl ?_
  obtain ⟨a127, m127, h127, hq⟩ := bnd2_some hq
  refine z_callV1 (as := []) (S := []) 2326 dL_law_2323 rfl (Q_qM_failedCommand  h127) kX10_failedCommand ⟨_, _, rfl⟩ ar_142 l_RL_308 rfl rfl rfl rfl rfl rfl rfl ?_
  refine z_istore (L' := [some (zr 1050), some (zr 0), some (zr 142), some (zr 156), some (zr 157), some (zi v5), some (zi a126), some (zi a127), none]) 2328 dL_law_2326 rfl rfl rfl rfl ?_
  refine z_aload_n 2329 dL_law_2328 rfl rfl ?_
  obtain ⟨a128, h128, hq⟩ := z_b hq
  refine z_callV1 (as := []) (S := []) 2332 dL_law_2329 rfl (Q_qM_thrown  h128) kX10_thrown ⟨_, _, rfl⟩ ar_142 l_RL_141 rfl rfl rfl rfl rfl rfl rfl ?_
  refine z_iload 2334 dL_law_2332 rfl rfl ?_
  refine z_icmp_eq 2339 2337 dL_law_2334 rfl rfl (fun hc => ?_) (fun hc => ?_)
  · replace hq := z_ip hq hc
    refine z_iload 2341 dL_law_2339 rfl rfl ?_
    refine z_if_ne 2356 2344 dL_law_2341 rfl rfl (fun hc => ?_) (fun hc => ?_)
    · replace hq := z_in hq hc
      refine z_goto 2460 dL_law_2356 rfl ?_
      refine z_iinc (r := (wr (v5 + 5))) (L' := [some (zr 1050), some (zr 0), some (zr 142), some (zr 156), some (zr 157), some (zi (wr (v5 + 5))), some (zi a126), some (zi a127), none]) 2463 dL_law_2460 rfl rfl rfl rfl rfl rfl ?_
      refine z_goto 28 dL_law_2463 rfl ?_
      exact z_mono (by omega) (by omega) (Z.sub (zle_s (zle_s (zle_s (zle_s (zle_s (zle_s (zle_n (zle_n (zle_n zle_nil))))))))) (hrec _ _ hq))
    · replace hq := z_ip hq hc
      refine z_aload_n 2345 dL_law_2344 rfl rfl ?_
      refine z_iconst 2346 dL_law_2345 rfl (by decide) ?_
      refine z_laload (x := (m127 156 0)) 2347 dL_law_2346 rfl ar_156 ⟨by decide, by decide⟩ rfl ?_
      refine z_iload 2349 dL_law_2347 rfl rfl ?_
      refine z_i2l 2350 dL_law_2349 rfl ?_
      refine z_lcmp 2351 dL_law_2350 rfl ?_
      refine z_if_eq 2356 2354 dL_law_2351 rfl rfl (fun hc => ?_) (fun hc => ?_)
      · replace hq := z_ip hq hc
        refine z_goto 2460 dL_law_2356 rfl ?_
        refine z_iinc (r := (wr (v5 + 5))) (L' := [some (zr 1050), some (zr 0), some (zr 142), some (zr 156), some (zr 157), some (zi (wr (v5 + 5))), some (zi a126), some (zi a127), none]) 2463 dL_law_2460 rfl rfl rfl rfl rfl rfl ?_
        refine z_goto 28 dL_law_2463 rfl ?_
        exact z_mono (by omega) (by omega) (Z.sub (zle_s (zle_s (zle_s (zle_s (zle_s (zle_s (zle_n (zle_n (zle_n zle_nil))))))))) (hrec _ _ hq))
      · replace hq := z_in hq hc
        refine z_iconst 2355 dL_law_2354 rfl (by decide) ?_
        obtain ⟨ho, hv⟩ := hr _ _ (Option.some.inj hq).symm
        exact z_conv ho hv (z_zreturn rfl dL_law_2355 (by decide))
  · replace hq := z_in hq hc
    refine z_iconst 2338 dL_law_2337 rfl (by decide) ?_
    obtain ⟨ho, hv⟩ := hr _ _ (Option.some.inj hq).symm
    exact z_conv ho hv (z_zreturn rfl dL_law_2338 (by decide))
set_option maxRecDepth 100000 in
set_option maxHeartbeats 4000000 in
theorem J_qL_law_j2359 {g : yG} {a : Nat → Nat} {μ ν : zM} {o : zO} {kc ks : Nat} {scL : Int} {scV : Int → Int} {v5 : Int} {rec : zM → Int → Option ((Int ⊕ Unit) × zM)} {R : (Int ⊕ Unit) × zM} (hL : scL = (g.2.2.2.2.1 : Int)) (hLi : y_in scL) (hV : ∀ i : Int, 0 ≤ i → g.2.2.2.2.2 i.toNat = scV i) (hVi : ∀ i, y_in (scV i)) (hr : ∀ (x : Int) (m : zM), R = (.inl x, m) → o = .inl (some (zi x)) ∧ ν = m) (he : ∀ (tz : Unit) (m : zM), R = (.inr tz, m) → Z g a mL_law 2038 0 0 2466 [some (zr 1050), some (zr 0), some (zr 142), some (zr 156), some (zr 157), none, none, none, none] [] m o ν) (hrec : ∀ (μ : zM) (v5 : Int), rec μ v5 = some R → Z g a mL_law 2038 kc ks 28 [some (zr 1050), some (zr 0), some (zr 142), some (zr 156), some (zr 157), some (zi v5), none, none, none] [] μ o ν) (hq : qL_law_j2359 rec scL scV μ v5 = some R) : Z g a mL_law 2038 (kc + 2) (ks + 12) 2359 [some (zr 1050), some (zr 0), some (zr 142), some (zr 156), some (zr 157), some (zi v5), none, none, none] [] μ o ν := by
  unfold qL_law_j2359 at hq
  refine z_aload_n 2360 dL_law_2359 rfl rfl ?_
  refine z_aload_n 2361 dL_law_2360 rfl rfl ?_
  obtain ⟨a129, m129, h129, hq⟩ := bnd2_some hq
  refine z_callSH1 (as := [zr 0, zr 156]) (S := []) (kc := kc + 1) (ks := ks + 6) 2364 dL_law_2361 rfl (Q_qL_undo h129) kL_undo l_RL_309 rfl rfl rfl rfl rfl rfl rfl ?_
  refine z_istore (L' := [some (zr 1050), some (zr 0), some (zr 142), some (zr 156), some (zr 157), some (zi v5), some (zi a129), none, none]) 2366 dL_law_2364 rfl rfl rfl rfl ?_
  refine z_aload_n 2367 dL_law_2366 rfl rfl ?_
  obtain ⟨a130, m130, h130, hq⟩ := bnd2_some hq
  refine z_callV1 (as := []) (S := []) 2370 dL_law_2367 rfl (Q_qM_undo  h130) kX10_undo ⟨_, _, rfl⟩ ar_142 l_RL_311 rfl rfl rfl rfl rfl rfl rfl ?_
  refine z_istore (L' := [some (zr 1050), some (zr 0), some (zr 142), some (zr 156), some (zr 157), some (zi v5), some (zi a129), some (zi a130), none]) 2372 dL_law_2370 rfl rfl rfl rfl ?_
  refine z_aload_n 2373 dL_law_2372 rfl rfl ?_
  obtain ⟨a131, h131, hq⟩ := z_b hq
  refine z_callV1 (as := []) (S := []) 2376 dL_law_2373 rfl (Q_qM_thrown  h131) kX10_thrown ⟨_, _, rfl⟩ ar_142 l_RL_141 rfl rfl rfl rfl rfl rfl rfl ?_
  refine z_iload 2378 dL_law_2376 rfl rfl ?_
  refine z_icmp_eq 2383 2381 dL_law_2378 rfl rfl (fun hc => ?_) (fun hc => ?_)
  · replace hq := z_ip hq hc
    refine z_iload 2385 dL_law_2383 rfl rfl ?_
    refine z_if_ne 2400 2388 dL_law_2385 rfl rfl (fun hc => ?_) (fun hc => ?_)
    · replace hq := z_in hq hc
      refine z_goto 2460 dL_law_2400 rfl ?_
      refine z_iinc (r := (wr (v5 + 5))) (L' := [some (zr 1050), some (zr 0), some (zr 142), some (zr 156), some (zr 157), some (zi (wr (v5 + 5))), some (zi a129), some (zi a130), none]) 2463 dL_law_2460 rfl rfl rfl rfl rfl rfl ?_
      refine z_goto 28 dL_law_2463 rfl ?_
      exact z_mono (by omega) (by omega) (Z.sub (zle_s (zle_s (zle_s (zle_s (zle_s (zle_s (zle_n (zle_n (zle_n zle_nil))))))))) (hrec _ _ hq))
    · replace hq := z_ip hq hc
      refine z_aload_n 2389 dL_law_2388 rfl rfl ?_
      refine z_iconst 2390 dL_law_2389 rfl (by decide) ?_
      refine z_laload (x := (m130 156 0)) 2391 dL_law_2390 rfl ar_156 ⟨by decide, by decide⟩ rfl ?_
      refine z_iload 2393 dL_law_2391 rfl rfl ?_
      refine z_i2l 2394 dL_law_2393 rfl ?_
      refine z_lcmp 2395 dL_law_2394 rfl ?_
      refine z_if_eq 2400 2398 dL_law_2395 rfl rfl (fun hc => ?_) (fun hc => ?_)
      · replace hq := z_ip hq hc
        refine z_goto 2460 dL_law_2400 rfl ?_
        refine z_iinc (r := (wr (v5 + 5))) (L' := [some (zr 1050), some (zr 0), some (zr 142), some (zr 156), some (zr 157), some (zi (wr (v5 + 5))), some (zi a129), some (zi a130), none]) 2463 dL_law_2460 rfl rfl rfl rfl rfl rfl ?_
        refine z_goto 28 dL_law_2463 rfl ?_
        exact z_mono (by omega) (by omega) (Z.sub (zle_s (zle_s (zle_s (zle_s (zle_s (zle_s (zle_n (zle_n (zle_n zle_nil))))))))) (hrec _ _ hq))
      · replace hq := z_in hq hc
        refine z_iconst 2399 dL_law_2398 rfl (by decide) ?_
        obtain ⟨ho, hv⟩ := hr _ _ (Option.some.inj hq).symm
        exact z_conv ho hv (z_zreturn rfl dL_law_2399 (by decide))
  · replace hq := z_in hq hc
    refine z_iconst 2382 dL_law_2381 rfl (by decide) ?_
    obtain ⟨ho, hv⟩ := hr _ _ (Option.some.inj hq).symm
    exact z_conv ho hv (z_zreturn rfl dL_law_2382 (by decide))
set_option maxRecDepth 100000 in
set_option maxHeartbeats 4000000 in
theorem J_qL_law_j2403 {g : yG} {a : Nat → Nat} {μ ν : zM} {o : zO} {kc ks : Nat} {scL : Int} {scV : Int → Int} {v5 : Int} {rec : zM → Int → Option ((Int ⊕ Unit) × zM)} {R : (Int ⊕ Unit) × zM} (hL : scL = (g.2.2.2.2.1 : Int)) (hLi : y_in scL) (hV : ∀ i : Int, 0 ≤ i → g.2.2.2.2.2 i.toNat = scV i) (hVi : ∀ i, y_in (scV i)) (hr : ∀ (x : Int) (m : zM), R = (.inl x, m) → o = .inl (some (zi x)) ∧ ν = m) (he : ∀ (tz : Unit) (m : zM), R = (.inr tz, m) → Z g a mL_law 2038 0 0 2466 [some (zr 1050), some (zr 0), some (zr 142), some (zr 156), some (zr 157), none, none, none, none] [] m o ν) (hrec : ∀ (μ : zM) (v5 : Int), rec μ v5 = some R → Z g a mL_law 2038 kc ks 28 [some (zr 1050), some (zr 0), some (zr 142), some (zr 156), some (zr 157), some (zi v5), none, none, none] [] μ o ν) (hq : qL_law_j2403 rec scL scV μ v5 = some R) : Z g a mL_law 2038 (kc + 2) (ks + 12) 2403 [some (zr 1050), some (zr 0), some (zr 142), some (zr 156), some (zr 157), some (zi v5), none, none, none] [] μ o ν := by
  unfold qL_law_j2403 at hq
  refine z_aload_n 2404 dL_law_2403 rfl rfl ?_
  obtain ⟨a132, m132, h132, hq⟩ := bnd2_some hq
  refine z_callV1 (as := []) (S := []) 2407 dL_law_2404 rfl (Q_qT_save  h132) kX9_save ⟨_, _, rfl⟩ ar_0 l_RL_312 rfl rfl rfl rfl rfl rfl rfl ?_
  refine z_aload_n 2408 dL_law_2407 rfl rfl ?_
  obtain ⟨a133, m133, h133, hq⟩ := bnd2_some hq
  refine z_callV1 (as := []) (S := [zi a132]) 2411 dL_law_2408 rfl (Q_qM_save  h133) kX10_save ⟨_, _, rfl⟩ ar_142 l_RL_315 rfl rfl rfl rfl rfl rfl rfl ?_
  refine z_icmp_eq 2460 2414 dL_law_2411 rfl rfl (fun hc => ?_) (fun hc => ?_)
  · replace hq := z_ip hq hc
    refine z_iinc (r := (wr (v5 + 5))) (L' := [some (zr 1050), some (zr 0), some (zr 142), some (zr 156), some (zr 157), some (zi (wr (v5 + 5))), none, none, none]) 2463 dL_law_2460 rfl rfl rfl rfl rfl rfl ?_
    refine z_goto 28 dL_law_2463 rfl ?_
    exact z_mono (by omega) (by omega) (Z.sub (zle_s (zle_s (zle_s (zle_s (zle_s (zle_s (zle_n (zle_n (zle_n zle_nil))))))))) (hrec _ _ hq))
  · replace hq := z_in hq hc
    refine z_iconst 2415 dL_law_2414 rfl (by decide) ?_
    obtain ⟨ho, hv⟩ := hr _ _ (Option.some.inj hq).symm
    exact z_conv ho hv (z_zreturn rfl dL_law_2415 (by decide))
set_option maxRecDepth 100000 in
set_option maxHeartbeats 4000000 in
theorem J_qL_law_j2416 {g : yG} {a : Nat → Nat} {μ ν : zM} {o : zO} {kc ks : Nat} {scL : Int} {scV : Int → Int} {v5 : Int} {rec : zM → Int → Option ((Int ⊕ Unit) × zM)} {R : (Int ⊕ Unit) × zM} (hL : scL = (g.2.2.2.2.1 : Int)) (hLi : y_in scL) (hV : ∀ i : Int, 0 ≤ i → g.2.2.2.2.2 i.toNat = scV i) (hVi : ∀ i, y_in (scV i)) (hr : ∀ (x : Int) (m : zM), R = (.inl x, m) → o = .inl (some (zi x)) ∧ ν = m) (he : ∀ (tz : Unit) (m : zM), R = (.inr tz, m) → Z g a mL_law 2038 0 0 2466 [some (zr 1050), some (zr 0), some (zr 142), some (zr 156), some (zr 157), none, none, none, none] [] m o ν) (hrec : ∀ (μ : zM) (v5 : Int), rec μ v5 = some R → Z g a mL_law 2038 kc ks 28 [some (zr 1050), some (zr 0), some (zr 142), some (zr 156), some (zr 157), some (zi v5), none, none, none] [] μ o ν) (hq : qL_law_j2416 rec scL scV μ v5 = some R) : Z g a mL_law 2038 (kc + 2) (ks + 12) 2416 [some (zr 1050), some (zr 0), some (zr 142), some (zr 156), some (zr 157), some (zi v5), none, none, none] [] μ o ν := by
  unfold qL_law_j2416 at hq
  refine z_aload_n 2417 dL_law_2416 rfl rfl ?_
  refine z_aload_n 2418 dL_law_2417 rfl rfl ?_
  obtain ⟨a134, m134, h134, hq⟩ := bnd2_some hq
  refine z_callSH1 (as := [zr 0, zr 156]) (S := []) (kc := kc + 1) (ks := ks + 6) 2421 dL_law_2418 rfl (Q_qL_restore h134) kL_restore l_RL_316 rfl rfl rfl rfl rfl rfl rfl ?_
  refine z_istore (L' := [some (zr 1050), some (zr 0), some (zr 142), some (zr 156), some (zr 157), some (zi v5), some (zi a134), none, none]) 2423 dL_law_2421 rfl rfl rfl rfl ?_
  refine z_aload_n 2424 dL_law_2423 rfl rfl ?_
  obtain ⟨a135, m135, h135, hq⟩ := bnd2_some hq
  refine z_callV1 (as := []) (S := []) 2427 dL_law_2424 rfl (Q_qM_restore  h135) kX10_restore ⟨_, _, rfl⟩ ar_142 l_RL_318 rfl rfl rfl rfl rfl rfl rfl ?_
  refine z_istore (L' := [some (zr 1050), some (zr 0), some (zr 142), some (zr 156), some (zr 157), some (zi v5), some (zi a134), some (zi a135), none]) 2429 dL_law_2427 rfl rfl rfl rfl ?_
  refine z_aload_n 2430 dL_law_2429 rfl rfl ?_
  obtain ⟨a136, h136, hq⟩ := z_b hq
  refine z_callV1 (as := []) (S := []) 2433 dL_law_2430 rfl (Q_qM_thrown  h136) kX10_thrown ⟨_, _, rfl⟩ ar_142 l_RL_141 rfl rfl rfl rfl rfl rfl rfl ?_
  refine z_iload 2435 dL_law_2433 rfl rfl ?_
  refine z_icmp_eq 2440 2438 dL_law_2435 rfl rfl (fun hc => ?_) (fun hc => ?_)
  · replace hq := z_ip hq hc
    refine z_iload 2442 dL_law_2440 rfl rfl ?_
    refine z_if_ne 2457 2445 dL_law_2442 rfl rfl (fun hc => ?_) (fun hc => ?_)
    · replace hq := z_in hq hc
      refine z_goto 2460 dL_law_2457 rfl ?_
      refine z_iinc (r := (wr (v5 + 5))) (L' := [some (zr 1050), some (zr 0), some (zr 142), some (zr 156), some (zr 157), some (zi (wr (v5 + 5))), some (zi a134), some (zi a135), none]) 2463 dL_law_2460 rfl rfl rfl rfl rfl rfl ?_
      refine z_goto 28 dL_law_2463 rfl ?_
      exact z_mono (by omega) (by omega) (Z.sub (zle_s (zle_s (zle_s (zle_s (zle_s (zle_s (zle_n (zle_n (zle_n zle_nil))))))))) (hrec _ _ hq))
    · replace hq := z_ip hq hc
      refine z_aload_n 2446 dL_law_2445 rfl rfl ?_
      refine z_iconst 2447 dL_law_2446 rfl (by decide) ?_
      refine z_laload (x := (m135 156 0)) 2448 dL_law_2447 rfl ar_156 ⟨by decide, by decide⟩ rfl ?_
      refine z_iload 2450 dL_law_2448 rfl rfl ?_
      refine z_i2l 2451 dL_law_2450 rfl ?_
      refine z_lcmp 2452 dL_law_2451 rfl ?_
      refine z_if_eq 2457 2455 dL_law_2452 rfl rfl (fun hc => ?_) (fun hc => ?_)
      · replace hq := z_ip hq hc
        refine z_goto 2460 dL_law_2457 rfl ?_
        refine z_iinc (r := (wr (v5 + 5))) (L' := [some (zr 1050), some (zr 0), some (zr 142), some (zr 156), some (zr 157), some (zi (wr (v5 + 5))), some (zi a134), some (zi a135), none]) 2463 dL_law_2460 rfl rfl rfl rfl rfl rfl ?_
        refine z_goto 28 dL_law_2463 rfl ?_
        exact z_mono (by omega) (by omega) (Z.sub (zle_s (zle_s (zle_s (zle_s (zle_s (zle_s (zle_n (zle_n (zle_n zle_nil))))))))) (hrec _ _ hq))
      · replace hq := z_in hq hc
        refine z_iconst 2456 dL_law_2455 rfl (by decide) ?_
        obtain ⟨ho, hv⟩ := hr _ _ (Option.some.inj hq).symm
        exact z_conv ho hv (z_zreturn rfl dL_law_2456 (by decide))
  · replace hq := z_in hq hc
    refine z_iconst 2439 dL_law_2438 rfl (by decide) ?_
    obtain ⟨ho, hv⟩ := hr _ _ (Option.some.inj hq).symm
    exact z_conv ho hv (z_zreturn rfl dL_law_2439 (by decide))
set_option maxRecDepth 100000 in
set_option maxHeartbeats 4000000 in
theorem L_qL_law_l28 {g : yG} {a : Nat → Nat} {ν : zM} {o : zO} {scL : Int} {scV : Int → Int}  {R : (Int ⊕ Unit) × zM} (hL : scL = (g.2.2.2.2.1 : Int)) (hLi : y_in scL) (hV : ∀ i : Int, 0 ≤ i → g.2.2.2.2.2 i.toNat = scV i) (hVi : ∀ i, y_in (scV i)) (hr : ∀ (x : Int) (m : zM), R = (.inl x, m) → o = .inl (some (zi x)) ∧ ν = m) (he : ∀ (tz : Unit) (m : zM), R = (.inr tz, m) → Z g a mL_law 2038 0 0 2466 [some (zr 1050), some (zr 0), some (zr 142), some (zr 156), some (zr 157), none, none, none, none] [] m o ν) : ∀ (n : Nat) (μ : zM) (v5 : Int), qL_law_l28 scL scV n μ v5 = some R → Z g a mL_law 2038 (2 * n) (12 * n) 28 [some (zr 1050), some (zr 0), some (zr 142), some (zr 156), some (zr 157), some (zi v5), none, none, none] [] μ o ν := by
  intro n
  induction n with
  | zero => intro μ v5 hq; cases hq
  | succ n ih =>
    intro μ v5 hq
    rw [qL_law_l28] at hq
    show Z g a mL_law 2038 (2 * n + 2) (12 * n + 12) 28 [some (zr 1050), some (zr 0), some (zr 142), some (zr 156), some (zr 157), some (zi v5), none, none, none] [] μ o ν
    refine z_iload 30 dL_law_28 rfl rfl ?_
    refine z_aload_n 31 dL_law_30 rfl rfl ?_
    refine z_slen 32 dL_law_31 rfl hL hLi ?_
    refine z_iconst 33 dL_law_32 rfl (by decide) ?_
    refine z_isub (r := (wr (scL - 5))) 34 dL_law_33 rfl rfl ?_
    refine z_icmp_gt 2466 37 dL_law_34 rfl rfl (fun hc => ?_) (fun hc => ?_)
    · replace hq := z_ip hq hc
      exact z_mono (by omega) (by omega) (Z.sub (zle_s (zle_s (zle_s (zle_s (zle_s (zle_n (zle_n (zle_n (zle_n zle_nil))))))))) (he _ _ (Option.some.inj hq).symm))
    · replace hq := z_in hq (Int.not_lt.mpr hc)
      refine z_aload_n 38 dL_law_37 rfl rfl ?_
      refine z_iload 40 dL_law_38 rfl rfl ?_
      obtain ⟨hg40, hq⟩ := z_g hq
      refine z_sld 41 dL_law_40 rfl ⟨hg40.1, hL ▸ hg40.2⟩ (hV _ hg40.1) (hVi _) ?_
      refine z_bipush 43 dL_law_41 rfl (by decide) (by decide) ?_
      refine z_iand (r := (yand (scV v5) 63)) 44 dL_law_43 rfl rfl ?_
      by_cases hs0 : (yand (scV v5) 63) = 0
      · replace hq := z_ip hq hs0
        refine z_swIn 264 dL_law_44 hs0 rfl rfl rfl ?_
        exact Z.sub (zle_s (zle_s (zle_s (zle_s (zle_s (zle_s (zle_n (zle_n (zle_n zle_nil))))))))) (J_qL_law_j264 hL hLi hV hVi hr he ih hq)
      · replace hq := z_in hq hs0
        by_cases hs1 : (yand (scV v5) 63) = 1
        · replace hq := z_ip hq hs1
          refine z_swIn 332 dL_law_44 hs1 rfl rfl rfl ?_
          exact Z.sub (zle_s (zle_s (zle_s (zle_s (zle_s (zle_s (zle_n (zle_n (zle_n zle_nil))))))))) (J_qL_law_j332 hL hLi hV hVi hr he ih hq)
        · replace hq := z_in hq hs1
          by_cases hs2 : (yand (scV v5) 63) = 2
          · replace hq := z_ip hq hs2
            refine z_swIn 424 dL_law_44 hs2 rfl rfl rfl ?_
            exact Z.sub (zle_s (zle_s (zle_s (zle_s (zle_s (zle_s (zle_n (zle_n (zle_n zle_nil))))))))) (J_qL_law_j424 hL hLi hV hVi hr he ih hq)
          · replace hq := z_in hq hs2
            by_cases hs3 : (yand (scV v5) 63) = 3
            · replace hq := z_ip hq hs3
              refine z_swIn 480 dL_law_44 hs3 rfl rfl rfl ?_
              exact Z.sub (zle_s (zle_s (zle_s (zle_s (zle_s (zle_s (zle_n (zle_n (zle_n zle_nil))))))))) (J_qL_law_j480 hL hLi hV hVi hr he ih hq)
            · replace hq := z_in hq hs3
              by_cases hs4 : (yand (scV v5) 63) = 4
              · replace hq := z_ip hq hs4
                refine z_swIn 548 dL_law_44 hs4 rfl rfl rfl ?_
                exact Z.sub (zle_s (zle_s (zle_s (zle_s (zle_s (zle_s (zle_n (zle_n (zle_n zle_nil))))))))) (J_qL_law_j548 hL hLi hV hVi hr he ih hq)
              · replace hq := z_in hq hs4
                by_cases hs5 : (yand (scV v5) 63) = 5
                · replace hq := z_ip hq hs5
                  refine z_swIn 604 dL_law_44 hs5 rfl rfl rfl ?_
                  exact Z.sub (zle_s (zle_s (zle_s (zle_s (zle_s (zle_s (zle_n (zle_n (zle_n zle_nil))))))))) (J_qL_law_j604 hL hLi hV hVi hr he ih hq)
                · replace hq := z_in hq hs5
                  by_cases hs6 : (yand (scV v5) 63) = 6
                  · replace hq := z_ip hq hs6
                    refine z_swIn 672 dL_law_44 hs6 rfl rfl rfl ?_
                    exact Z.sub (zle_s (zle_s (zle_s (zle_s (zle_s (zle_s (zle_n (zle_n (zle_n zle_nil))))))))) (J_qL_law_j672 hL hLi hV hVi hr he ih hq)
                  · replace hq := z_in hq hs6
                    by_cases hs7 : (yand (scV v5) 63) = 7
                    · replace hq := z_ip hq hs7
                      refine z_swIn 740 dL_law_44 hs7 rfl rfl rfl ?_
                      exact Z.sub (zle_s (zle_s (zle_s (zle_s (zle_s (zle_s (zle_n (zle_n (zle_n zle_nil))))))))) (J_qL_law_j740 hL hLi hV hVi hr he ih hq)
                    · replace hq := z_in hq hs7
                      by_cases hs8 : (yand (scV v5) 63) = 8
                      · replace hq := z_ip hq hs8
                        refine z_swIn 753 dL_law_44 hs8 rfl rfl rfl ?_
                        exact Z.sub (zle_s (zle_s (zle_s (zle_s (zle_s (zle_s (zle_n (zle_n (zle_n zle_nil))))))))) (J_qL_law_j753 hL hLi hV hVi hr he ih hq)
                      · replace hq := z_in hq hs8
                        by_cases hs9 : (yand (scV v5) 63) = 9
                        · replace hq := z_ip hq hs9
                          refine z_swIn 809 dL_law_44 hs9 rfl rfl rfl ?_
                          exact Z.sub (zle_s (zle_s (zle_s (zle_s (zle_s (zle_s (zle_n (zle_n (zle_n zle_nil))))))))) (J_qL_law_j809 hL hLi hV hVi hr he ih hq)
                        · replace hq := z_in hq hs9
                          by_cases hs10 : (yand (scV v5) 63) = 10
                          · replace hq := z_ip hq hs10
                            refine z_swIn 822 dL_law_44 hs10 rfl rfl rfl ?_
                            exact Z.sub (zle_s (zle_s (zle_s (zle_s (zle_s (zle_s (zle_n (zle_n (zle_n zle_nil))))))))) (J_qL_law_j822 hL hLi hV hVi hr he ih hq)
                          · replace hq := z_in hq hs10
                            by_cases hs11 : (yand (scV v5) 63) = 11
                            · replace hq := z_ip hq hs11
                              refine z_swIn 878 dL_law_44 hs11 rfl rfl rfl ?_
                              exact Z.sub (zle_s (zle_s (zle_s (zle_s (zle_s (zle_s (zle_n (zle_n (zle_n zle_nil))))))))) (J_qL_law_j878 hL hLi hV hVi hr he ih hq)
                            · replace hq := z_in hq hs11
                              by_cases hs12 : (yand (scV v5) 63) = 12
                              · replace hq := z_ip hq hs12
                                refine z_swIn 934 dL_law_44 hs12 rfl rfl rfl ?_
                                exact Z.sub (zle_s (zle_s (zle_s (zle_s (zle_s (zle_s (zle_n (zle_n (zle_n zle_nil))))))))) (J_qL_law_j934 hL hLi hV hVi hr he ih hq)
                              · replace hq := z_in hq hs12
                                by_cases hs13 : (yand (scV v5) 63) = 13
                                · replace hq := z_ip hq hs13
                                  refine z_swIn 990 dL_law_44 hs13 rfl rfl rfl ?_
                                  exact Z.sub (zle_s (zle_s (zle_s (zle_s (zle_s (zle_s (zle_n (zle_n (zle_n zle_nil))))))))) (J_qL_law_j990 hL hLi hV hVi hr he ih hq)
                                · replace hq := z_in hq hs13
                                  by_cases hs14 : (yand (scV v5) 63) = 14
                                  · replace hq := z_ip hq hs14
                                    refine z_swIn 1003 dL_law_44 hs14 rfl rfl rfl ?_
                                    exact Z.sub (zle_s (zle_s (zle_s (zle_s (zle_s (zle_s (zle_n (zle_n (zle_n zle_nil))))))))) (J_qL_law_j1003 hL hLi hV hVi hr he ih hq)
                                  · replace hq := z_in hq hs14
                                    by_cases hs15 : (yand (scV v5) 63) = 15
                                    · replace hq := z_ip hq hs15
                                      refine z_swIn 1016 dL_law_44 hs15 rfl rfl rfl ?_
                                      exact Z.sub (zle_s (zle_s (zle_s (zle_s (zle_s (zle_s (zle_n (zle_n (zle_n zle_nil))))))))) (J_qL_law_j1016 hL hLi hV hVi hr he ih hq)
                                    · replace hq := z_in hq hs15
                                      by_cases hs16 : (yand (scV v5) 63) = 16
                                      · replace hq := z_ip hq hs16
                                        refine z_swIn 1041 dL_law_44 hs16 rfl rfl rfl ?_
                                        exact Z.sub (zle_s (zle_s (zle_s (zle_s (zle_s (zle_s (zle_n (zle_n (zle_n zle_nil))))))))) (J_qL_law_j1041 hL hLi hV hVi hr he ih hq)
                                      · replace hq := z_in hq hs16
                                        by_cases hs17 : (yand (scV v5) 63) = 17
                                        · replace hq := z_ip hq hs17
                                          refine z_swIn 1097 dL_law_44 hs17 rfl rfl rfl ?_
                                          exact Z.sub (zle_s (zle_s (zle_s (zle_s (zle_s (zle_s (zle_n (zle_n (zle_n zle_nil))))))))) (J_qL_law_j1097 hL hLi hV hVi hr he ih hq)
                                        · replace hq := z_in hq hs17
                                          by_cases hs18 : (yand (scV v5) 63) = 18
                                          · replace hq := z_ip hq hs18
                                            refine z_swIn 1153 dL_law_44 hs18 rfl rfl rfl ?_
                                            exact Z.sub (zle_s (zle_s (zle_s (zle_s (zle_s (zle_s (zle_n (zle_n (zle_n zle_nil))))))))) (J_qL_law_j1153 hL hLi hV hVi hr he ih hq)
                                          · replace hq := z_in hq hs18
                                            by_cases hs19 : (yand (scV v5) 63) = 19
                                            · replace hq := z_ip hq hs19
                                              refine z_swIn 1209 dL_law_44 hs19 rfl rfl rfl ?_
                                              exact Z.sub (zle_s (zle_s (zle_s (zle_s (zle_s (zle_s (zle_n (zle_n (zle_n zle_nil))))))))) (J_qL_law_j1209 hL hLi hV hVi hr he ih hq)
                                            · replace hq := z_in hq hs19
                                              by_cases hs20 : (yand (scV v5) 63) = 20
                                              · replace hq := z_ip hq hs20
                                                refine z_swIn 1265 dL_law_44 hs20 rfl rfl rfl ?_
                                                exact Z.sub (zle_s (zle_s (zle_s (zle_s (zle_s (zle_s (zle_n (zle_n (zle_n zle_nil))))))))) (J_qL_law_j1265 hL hLi hV hVi hr he ih hq)
                                              · replace hq := z_in hq hs20
                                                by_cases hs21 : (yand (scV v5) 63) = 21
                                                · replace hq := z_ip hq hs21
                                                  refine z_swIn 1333 dL_law_44 hs21 rfl rfl rfl ?_
                                                  exact Z.sub (zle_s (zle_s (zle_s (zle_s (zle_s (zle_s (zle_n (zle_n (zle_n zle_nil))))))))) (J_qL_law_j1333 hL hLi hV hVi hr he ih hq)
                                                · replace hq := z_in hq hs21
                                                  by_cases hs22 : (yand (scV v5) 63) = 22
                                                  · replace hq := z_ip hq hs22
                                                    refine z_swIn 1401 dL_law_44 hs22 rfl rfl rfl ?_
                                                    exact Z.sub (zle_s (zle_s (zle_s (zle_s (zle_s (zle_s (zle_n (zle_n (zle_n zle_nil))))))))) (J_qL_law_j1401 hL hLi hV hVi hr he ih hq)
                                                  · replace hq := z_in hq hs22
                                                    by_cases hs23 : (yand (scV v5) 63) = 23
                                                    · replace hq := z_ip hq hs23
                                                      refine z_swIn 1457 dL_law_44 hs23 rfl rfl rfl ?_
                                                      exact Z.sub (zle_s (zle_s (zle_s (zle_s (zle_s (zle_s (zle_n (zle_n (zle_n zle_nil))))))))) (J_qL_law_j1457 hL hLi hV hVi hr he ih hq)
                                                    · replace hq := z_in hq hs23
                                                      by_cases hs24 : (yand (scV v5) 63) = 24
                                                      · replace hq := z_ip hq hs24
                                                        refine z_swIn 1513 dL_law_44 hs24 rfl rfl rfl ?_
                                                        exact Z.sub (zle_s (zle_s (zle_s (zle_s (zle_s (zle_s (zle_n (zle_n (zle_n zle_nil))))))))) (J_qL_law_j1513 hL hLi hV hVi hr he ih hq)
                                                      · replace hq := z_in hq hs24
                                                        by_cases hs25 : (yand (scV v5) 63) = 25
                                                        · replace hq := z_ip hq hs25
                                                          refine z_swIn 1526 dL_law_44 hs25 rfl rfl rfl ?_
                                                          exact Z.sub (zle_s (zle_s (zle_s (zle_s (zle_s (zle_s (zle_n (zle_n (zle_n zle_nil))))))))) (J_qL_law_j1526 hL hLi hV hVi hr he ih hq)
                                                        · replace hq := z_in hq hs25
                                                          by_cases hs26 : (yand (scV v5) 63) = 26
                                                          · replace hq := z_ip hq hs26
                                                            refine z_swIn 1539 dL_law_44 hs26 rfl rfl rfl ?_
                                                            exact Z.sub (zle_s (zle_s (zle_s (zle_s (zle_s (zle_s (zle_n (zle_n (zle_n zle_nil))))))))) (J_qL_law_j1539 hL hLi hV hVi hr he ih hq)
                                                          · replace hq := z_in hq hs26
                                                            by_cases hs27 : (yand (scV v5) 63) = 27
                                                            · replace hq := z_ip hq hs27
                                                              refine z_swIn 1595 dL_law_44 hs27 rfl rfl rfl ?_
                                                              exact Z.sub (zle_s (zle_s (zle_s (zle_s (zle_s (zle_s (zle_n (zle_n (zle_n zle_nil))))))))) (J_qL_law_j1595 hL hLi hV hVi hr he ih hq)
                                                            · replace hq := z_in hq hs27
                                                              by_cases hs28 : (yand (scV v5) 63) = 28
                                                              · replace hq := z_ip hq hs28
                                                                refine z_swIn 1651 dL_law_44 hs28 rfl rfl rfl ?_
                                                                exact Z.sub (zle_s (zle_s (zle_s (zle_s (zle_s (zle_s (zle_n (zle_n (zle_n zle_nil))))))))) (J_qL_law_j1651 hL hLi hV hVi hr he ih hq)
                                                              · replace hq := z_in hq hs28
                                                                by_cases hs29 : (yand (scV v5) 63) = 29
                                                                · replace hq := z_ip hq hs29
                                                                  refine z_swIn 1707 dL_law_44 hs29 rfl rfl rfl ?_
                                                                  exact Z.sub (zle_s (zle_s (zle_s (zle_s (zle_s (zle_s (zle_n (zle_n (zle_n zle_nil))))))))) (J_qL_law_j1707 hL hLi hV hVi hr he ih hq)
                                                                · replace hq := z_in hq hs29
                                                                  by_cases hs30 : (yand (scV v5) 63) = 30
                                                                  · replace hq := z_ip hq hs30
                                                                    refine z_swIn 1720 dL_law_44 hs30 rfl rfl rfl ?_
                                                                    exact Z.sub (zle_s (zle_s (zle_s (zle_s (zle_s (zle_s (zle_n (zle_n (zle_n zle_nil))))))))) (J_qL_law_j1720 hL hLi hV hVi hr he ih hq)
                                                                  · replace hq := z_in hq hs30
                                                                    by_cases hs31 : (yand (scV v5) 63) = 31
                                                                    · replace hq := z_ip hq hs31
                                                                      refine z_swIn 1733 dL_law_44 hs31 rfl rfl rfl ?_
                                                                      exact Z.sub (zle_s (zle_s (zle_s (zle_s (zle_s (zle_s (zle_n (zle_n (zle_n zle_nil))))))))) (J_qL_law_j1733 hL hLi hV hVi hr he ih hq)
                                                                    · replace hq := z_in hq hs31
                                                                      by_cases hs32 : (yand (scV v5) 63) = 32
                                                                      · replace hq := z_ip hq hs32
                                                                        refine z_swIn 1789 dL_law_44 hs32 rfl rfl rfl ?_
                                                                        exact Z.sub (zle_s (zle_s (zle_s (zle_s (zle_s (zle_s (zle_n (zle_n (zle_n zle_nil))))))))) (J_qL_law_j1789 hL hLi hV hVi hr he ih hq)
                                                                      · replace hq := z_in hq hs32
                                                                        by_cases hs33 : (yand (scV v5) 63) = 33
                                                                        · replace hq := z_ip hq hs33
                                                                          refine z_swIn 1833 dL_law_44 hs33 rfl rfl rfl ?_
                                                                          exact Z.sub (zle_s (zle_s (zle_s (zle_s (zle_s (zle_s (zle_n (zle_n (zle_n zle_nil))))))))) (J_qL_law_j1833 hL hLi hV hVi hr he ih hq)
                                                                        · replace hq := z_in hq hs33
                                                                          by_cases hs34 : (yand (scV v5) 63) = 34
                                                                          · replace hq := z_ip hq hs34
                                                                            refine z_swIn 1846 dL_law_44 hs34 rfl rfl rfl ?_
                                                                            exact Z.sub (zle_s (zle_s (zle_s (zle_s (zle_s (zle_s (zle_n (zle_n (zle_n zle_nil))))))))) (J_qL_law_j1846 hL hLi hV hVi hr he ih hq)
                                                                          · replace hq := z_in hq hs34
                                                                            by_cases hs35 : (yand (scV v5) 63) = 35
                                                                            · replace hq := z_ip hq hs35
                                                                              refine z_swIn 1860 dL_law_44 hs35 rfl rfl rfl ?_
                                                                              exact Z.sub (zle_s (zle_s (zle_s (zle_s (zle_s (zle_s (zle_n (zle_n (zle_n zle_nil))))))))) (J_qL_law_j1860 hL hLi hV hVi hr he ih hq)
                                                                            · replace hq := z_in hq hs35
                                                                              by_cases hs36 : (yand (scV v5) 63) = 36
                                                                              · replace hq := z_ip hq hs36
                                                                                refine z_swIn 1874 dL_law_44 hs36 rfl rfl rfl ?_
                                                                                exact Z.sub (zle_s (zle_s (zle_s (zle_s (zle_s (zle_s (zle_n (zle_n (zle_n zle_nil))))))))) (J_qL_law_j1874 hL hLi hV hVi hr he ih hq)
                                                                              · replace hq := z_in hq hs36
                                                                                by_cases hs37 : (yand (scV v5) 63) = 37
                                                                                · replace hq := z_ip hq hs37
                                                                                  refine z_swIn 1887 dL_law_44 hs37 rfl rfl rfl ?_
                                                                                  exact Z.sub (zle_s (zle_s (zle_s (zle_s (zle_s (zle_s (zle_n (zle_n (zle_n zle_nil))))))))) (J_qL_law_j1887 hL hLi hV hVi hr he ih hq)
                                                                                · replace hq := z_in hq hs37
                                                                                  by_cases hs38 : (yand (scV v5) 63) = 38
                                                                                  · replace hq := z_ip hq hs38
                                                                                    refine z_swIn 1900 dL_law_44 hs38 rfl rfl rfl ?_
                                                                                    exact Z.sub (zle_s (zle_s (zle_s (zle_s (zle_s (zle_s (zle_n (zle_n (zle_n zle_nil))))))))) (J_qL_law_j1900 hL hLi hV hVi hr he ih hq)
                                                                                  · replace hq := z_in hq hs38
                                                                                    by_cases hs39 : (yand (scV v5) 63) = 39
                                                                                    · replace hq := z_ip hq hs39
                                                                                      refine z_swIn 1965 dL_law_44 hs39 rfl rfl rfl ?_
                                                                                      exact Z.sub (zle_s (zle_s (zle_s (zle_s (zle_s (zle_s (zle_n (zle_n (zle_n zle_nil))))))))) (J_qL_law_j1965 hL hLi hV hVi hr he ih hq)
                                                                                    · replace hq := z_in hq hs39
                                                                                      by_cases hs40 : (yand (scV v5) 63) = 40
                                                                                      · replace hq := z_ip hq hs40
                                                                                        refine z_swIn 2031 dL_law_44 hs40 rfl rfl rfl ?_
                                                                                        exact Z.sub (zle_s (zle_s (zle_s (zle_s (zle_s (zle_s (zle_n (zle_n (zle_n zle_nil))))))))) (J_qL_law_j2031 hL hLi hV hVi hr he ih hq)
                                                                                      · replace hq := z_in hq hs40
                                                                                        by_cases hs41 : (yand (scV v5) 63) = 41
                                                                                        · replace hq := z_ip hq hs41
                                                                                          refine z_swIn 2044 dL_law_44 hs41 rfl rfl rfl ?_
                                                                                          exact Z.sub (zle_s (zle_s (zle_s (zle_s (zle_s (zle_s (zle_n (zle_n (zle_n zle_nil))))))))) (J_qL_law_j2044 hL hLi hV hVi hr he ih hq)
                                                                                        · replace hq := z_in hq hs41
                                                                                          by_cases hs42 : (yand (scV v5) 63) = 42
                                                                                          · replace hq := z_ip hq hs42
                                                                                            refine z_swIn 2100 dL_law_44 hs42 rfl rfl rfl ?_
                                                                                            exact Z.sub (zle_s (zle_s (zle_s (zle_s (zle_s (zle_s (zle_n (zle_n (zle_n zle_nil))))))))) (J_qL_law_j2100 hL hLi hV hVi hr he ih hq)
                                                                                          · replace hq := z_in hq hs42
                                                                                            by_cases hs43 : (yand (scV v5) 63) = 43
                                                                                            · replace hq := z_ip hq hs43
                                                                                              refine z_swIn 2113 dL_law_44 hs43 rfl rfl rfl ?_
                                                                                              exact Z.sub (zle_s (zle_s (zle_s (zle_s (zle_s (zle_s (zle_n (zle_n (zle_n zle_nil))))))))) (J_qL_law_j2113 hL hLi hV hVi hr he ih hq)
                                                                                            · replace hq := z_in hq hs43
                                                                                              by_cases hs44 : (yand (scV v5) 63) = 44
                                                                                              · replace hq := z_ip hq hs44
                                                                                                refine z_swIn 2169 dL_law_44 hs44 rfl rfl rfl ?_
                                                                                                exact Z.sub (zle_s (zle_s (zle_s (zle_s (zle_s (zle_s (zle_n (zle_n (zle_n zle_nil))))))))) (J_qL_law_j2169 hL hLi hV hVi hr he ih hq)
                                                                                              · replace hq := z_in hq hs44
                                                                                                by_cases hs45 : (yand (scV v5) 63) = 45
                                                                                                · replace hq := z_ip hq hs45
                                                                                                  refine z_swIn 2227 dL_law_44 hs45 rfl rfl rfl ?_
                                                                                                  exact Z.sub (zle_s (zle_s (zle_s (zle_s (zle_s (zle_s (zle_n (zle_n (zle_n zle_nil))))))))) (J_qL_law_j2227 hL hLi hV hVi hr he ih hq)
                                                                                                · replace hq := z_in hq hs45
                                                                                                  by_cases hs46 : (yand (scV v5) 63) = 46
                                                                                                  · replace hq := z_ip hq hs46
                                                                                                    refine z_swIn 2271 dL_law_44 hs46 rfl rfl rfl ?_
                                                                                                    exact Z.sub (zle_s (zle_s (zle_s (zle_s (zle_s (zle_s (zle_n (zle_n (zle_n zle_nil))))))))) (J_qL_law_j2271 hL hLi hV hVi hr he ih hq)
                                                                                                  · replace hq := z_in hq hs46
                                                                                                    by_cases hs47 : (yand (scV v5) 63) = 47
                                                                                                    · replace hq := z_ip hq hs47
                                                                                                      refine z_swIn 2315 dL_law_44 hs47 rfl rfl rfl ?_
                                                                                                      exact Z.sub (zle_s (zle_s (zle_s (zle_s (zle_s (zle_s (zle_n (zle_n (zle_n zle_nil))))))))) (J_qL_law_j2315 hL hLi hV hVi hr he ih hq)
                                                                                                    · replace hq := z_in hq hs47
                                                                                                      by_cases hs48 : (yand (scV v5) 63) = 48
                                                                                                      · replace hq := z_ip hq hs48
                                                                                                        refine z_swIn 2359 dL_law_44 hs48 rfl rfl rfl ?_
                                                                                                        exact Z.sub (zle_s (zle_s (zle_s (zle_s (zle_s (zle_s (zle_n (zle_n (zle_n zle_nil))))))))) (J_qL_law_j2359 hL hLi hV hVi hr he ih hq)
                                                                                                      · replace hq := z_in hq hs48
                                                                                                        by_cases hs49 : (yand (scV v5) 63) = 49
                                                                                                        · replace hq := z_ip hq hs49
                                                                                                          refine z_swIn 2403 dL_law_44 hs49 rfl rfl rfl ?_
                                                                                                          exact Z.sub (zle_s (zle_s (zle_s (zle_s (zle_s (zle_s (zle_n (zle_n (zle_n zle_nil))))))))) (J_qL_law_j2403 hL hLi hV hVi hr he ih hq)
                                                                                                        · replace hq := z_in hq hs49
                                                                                                          by_cases hs50 : (yand (scV v5) 63) = 50
                                                                                                          · replace hq := z_ip hq hs50
                                                                                                            refine z_swIn 2416 dL_law_44 hs50 rfl rfl rfl ?_
                                                                                                            exact Z.sub (zle_s (zle_s (zle_s (zle_s (zle_s (zle_s (zle_n (zle_n (zle_n zle_nil))))))))) (J_qL_law_j2416 hL hLi hV hVi hr he ih hq)
                                                                                                          · replace hq := z_in hq hs50
                                                                                                            refine z_swOut 2460 dL_law_44 (by omega) rfl ?_
                                                                                                            refine z_iinc (r := (wr (v5 + 5))) (L' := [some (zr 1050), some (zr 0), some (zr 142), some (zr 156), some (zr 157), some (zi (wr (v5 + 5))), none, none, none]) 2463 dL_law_2460 rfl rfl rfl rfl rfl rfl ?_
                                                                                                            refine z_goto 28 dL_law_2463 rfl ?_
                                                                                                            exact z_mono (by omega) (by omega) (Z.sub (zle_s (zle_s (zle_s (zle_s (zle_s (zle_s (zle_n (zle_n (zle_n zle_nil))))))))) (ih _ _ hq))
