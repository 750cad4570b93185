/-! ===== the methods do what the mirror says (laid by wip/whole/tools/proofs.py) ===== -/
set_option maxRecDepth 100000 in
set_option maxHeartbeats 4000000 in
theorem L_qS_countBySets_l32 {g : yG} {a : Nat → Nat} {ν : zM} {o : zO} {kc ks : Nat} {v1 : Nat} {v2 : Int} {R : zM}  (A_v1 : zH v1) (he : ∀ (m : zM), R = m → Z g a mX7_countBySets 2 kc ks 55 [some (zr 132), none, some (zi v2), none] [] m o ν) : ∀ (n : Nat) (μ : zM) (v3 : Int), qS_countBySets_l32 v2 n μ v3 = some R → Z g a mX7_countBySets 2 kc ks 32 [some (zr 132), none, some (zi v2), some (zi v3)] [] μ o ν := by
  intro n
  induction n with
  | zero => intro μ v3 hq; cases hq
  | succ n ih =>
    intro μ v3 hq
    rw [qS_countBySets_l32] at hq
    refine z_iload_n 33 dX7_countBySets_32 rfl rfl ?_
    refine z_bipush 35 dX7_countBySets_33 rfl (by decide) (by decide) ?_
    refine z_icmp_ge 55 38 dX7_countBySets_35 rfl rfl (fun hc => ?_) (fun hc => ?_)
    · replace hq := z_in hq (Int.not_lt.mpr hc)
      exact Z.sub (zle_s (zle_n (zle_s (zle_n zle_nil)))) (he _ (Option.some.inj hq).symm)
    · replace hq := z_ip hq hc
      refine z_aload_n 39 dX7_countBySets_38 rfl rfl ?_
      refine z_iload_n 40 dX7_countBySets_39 rfl rfl ?_
      refine z_aload_n 41 dX7_countBySets_40 rfl rfl ?_
      refine z_getR (e := 1) (r := 133) 44 dX7_countBySets_41 rfl f_RX7_9 ar_132 rfl ar_133.1 ?_
      refine z_iload_n 45 dX7_countBySets_44 rfl rfl ?_
      obtain ⟨hg45, hq⟩ := z_g hq
      refine z_iaload (x := (μ 133 v3)) 46 dX7_countBySets_45 rfl ar_133 hg45 rfl ?_
      obtain ⟨m6, h6, hq⟩ := z_b hq
      refine z_callV0 (as := [zi v2, zi (μ 133 v3)]) (S := []) 49 dX7_countBySets_46 rfl (Q_qS_improve  h6) kX7_improve ⟨_, _, rfl⟩ ar_132 l_RX7_56 rfl rfl rfl rfl rfl rfl rfl ?_
      refine z_iinc (r := (wr (v3 + 1))) (L' := [some (zr 132), none, some (zi v2), some (zi (wr (v3 + 1)))]) 52 dX7_countBySets_49 rfl rfl rfl rfl rfl rfl ?_
      refine z_goto 32 dX7_countBySets_52 rfl ?_
      exact Z.sub (zle_s (zle_n (zle_s (zle_s zle_nil)))) (ih _ _ hq)
set_option maxRecDepth 100000 in
set_option maxHeartbeats 4000000 in
theorem Q_qS_countBySets {g : yG} {a : Nat → Nat} {μ : zM} {v1 : Nat} {r : Int} {ν : zM} (A_v1 : zH v1) (hq : qS_countBySets μ v1 = some (r, ν)) : zC g a mX7_countBySets 2 0 0 [zr 132, zr v1] μ (.inl (some (zi r))) ν := by
  unfold qS_countBySets at hq
  refine z_of (L := [some (zr 132), some (zr v1), none, none]) pl_RX7 rfl (zc_of rfl) rfl rfl ?_
  refine z_aload_n 1 dX7_countBySets_0 rfl rfl ?_
  refine z_aload_n 2 dX7_countBySets_1 rfl rfl ?_
  obtain ⟨m1, h1, hq⟩ := z_b hq
  refine z_callV0 (as := [zr v1]) (S := []) 5 dX7_countBySets_2 rfl (Q_qS_measure A_v1 h1) kX7_measure ⟨_, _, rfl⟩ ar_132 l_RX7_27 rfl rfl rfl rfl rfl rfl rfl ?_
  refine z_aload_n 6 dX7_countBySets_5 rfl rfl ?_
  refine z_aload_n 7 dX7_countBySets_6 rfl rfl ?_
  obtain ⟨m2, h2, hq⟩ := z_b hq
  refine z_callV0 (as := [zr v1]) (S := []) 10 dX7_countBySets_7 rfl (Q_qS_weighSets A_v1 h2) kX7_weighSets ⟨_, _, rfl⟩ ar_132 l_RX7_45 rfl rfl rfl rfl rfl rfl rfl ?_
  refine z_aload_n 11 dX7_countBySets_10 rfl rfl ?_
  refine z_getR (e := 3) (r := 135) 14 dX7_countBySets_11 rfl f_RX7_18 ar_132 rfl ar_135.1 ?_
  refine z_iconst 15 dX7_countBySets_14 rfl (by decide) ?_
  obtain ⟨m3, h3, hq⟩ := z_b hq
  refine z_callN0 (as := [zr 135, zi 0]) (S := []) 18 dX7_countBySets_15 rfl (Q_qT_fill ar_135 h3) kX9_fill n_RX7_48 rfl rfl rfl rfl rfl rfl rfl ?_
  refine z_aload_n 19 dX7_countBySets_18 rfl rfl ?_
  refine z_getR (e := 3) (r := 135) 22 dX7_countBySets_19 rfl f_RX7_18 ar_132 rfl ar_135.1 ?_
  refine z_iconst 23 dX7_countBySets_22 rfl (by decide) ?_
  refine z_iconst 24 dX7_countBySets_23 rfl (by decide) ?_
  obtain ⟨m4, em4, hq⟩ := z_m hq
  refine z_iastore 25 dX7_countBySets_24 rfl ar_135 ⟨by decide, by decide⟩ em4 ?_
  refine z_aload_n 26 dX7_countBySets_25 rfl rfl ?_
  obtain ⟨a5, h5, hq⟩ := z_b hq
  refine z_callS1 (as := [zr v1]) (S := []) 29 dX7_countBySets_26 rfl (Q_qS_housedSet A_v1 h5) kX7_housedSet l_RX7_52 rfl rfl rfl rfl rfl rfl rfl ?_
  refine z_istore_n (L' := [some (zr 132), some (zr v1), some (zi a5), none]) 30 dX7_countBySets_29 rfl rfl rfl rfl ?_
  refine z_iconst 31 dX7_countBySets_30 rfl (by decide) ?_
  refine z_istore_n (L' := [some (zr 132), some (zr v1), some (zi a5), some (zi 0)]) 32 dX7_countBySets_31 rfl rfl rfl rfl ?_
  obtain ⟨m7, h7, hq⟩ := z_b hq
  refine Z.sub (zle_s (zle_n (zle_s (zle_s zle_nil)))) (L_qS_countBySets_l32 A_v1 (R := m7) (fun _ e => ?_) _ _ _ h7)
  cases e
  refine z_aload_n 56 dX7_countBySets_55 rfl rfl ?_
  refine z_getR (e := 3) (r := 135) 59 dX7_countBySets_56 rfl f_RX7_18 ar_132 rfl ar_135.1 ?_
  refine z_iload_n 60 dX7_countBySets_59 rfl rfl ?_
  obtain ⟨hg60, hq⟩ := z_g hq
  refine z_iaload (x := (m7 135 a5)) 61 dX7_countBySets_60 rfl ar_135 hg60 rfl ?_
  cases hq
  exact z_ireturn rfl dX7_countBySets_61
set_option maxRecDepth 100000 in
set_option maxHeartbeats 4000000 in
theorem Q_qT_censusesBySets {g : yG} {a : Nat → Nat} {μ : zM}  {r : Int} {ν : zM}  (hq : qT_censusesBySets μ = some (r, ν)) : zC g a mX9_censusesBySets 3 0 0 [zr 0] μ (.inl (some (zi r))) ν := by
  unfold qT_censusesBySets at hq
  refine z_of (L := [some (zr 0)]) pl_RX9 rfl (zc_of rfl) rfl rfl ?_
  refine z_aload_n 1 dX9_censusesBySets_0 rfl rfl ?_
  refine z_getR (e := 132) (r := 132) 4 dX9_censusesBySets_1 rfl f_RX9_39 ar_0 rfl ar_132.1 ?_
  refine z_aload_n 5 dX9_censusesBySets_4 rfl rfl ?_
  refine z_getR (e := 1) (r := 1) 8 dX9_censusesBySets_5 rfl f_RX9_12 ar_0 rfl ar_1.1 ?_
  obtain ⟨a1, m1, h1, hq⟩ := bnd2_some hq
  refine z_callV1 (as := [zr 1]) (S := []) 11 dX9_censusesBySets_8 rfl (Q_qS_countBySets zH_1 h1) kX7_countBySets ⟨_, _, rfl⟩ ar_132 l_RX9_217 rfl rfl rfl rfl rfl rfl rfl ?_
  cases hq
  exact z_ireturn rfl dX9_censusesBySets_11
set_option maxRecDepth 100000 in
set_option maxHeartbeats 4000000 in
theorem J_qS_countFloors_j79 {g : yG} {a : Nat → Nat} {μ ν : zM} {o : zO} {kc ks : Nat} {v1 : Nat} {v2 : Int} {v3 : Int} {v5 : Int} {s0 : Int} {s1 : Int} {rec : zM → Int → Int → Option ((Int) × zM)} {R : (Int) × zM}  (A_v1 : zH v1) (he : ∀ (tz : Int) (m : zM), R = (tz, m) → Z g a mX7_countFloors 21 kc ks 99 [some (zr 132), some (zr v1), some (zi v2), some (zi v3), some (zi tz), none] [] m o ν) (hrec : ∀ (μ : zM) (v4 : Int) (v5 : Int), rec μ v4 v5 = some R → Z g a mX7_countFloors 21 kc ks 30 [some (zr 132), some (zr v1), some (zi v2), some (zi v3), some (zi v4), some (zi v5)] [] μ o ν) (hq : qS_countFloors_j79 rec μ v1 v2 v3 v5 s0 s1 = some R) : Z g a mX7_countFloors 21 kc ks 79 [some (zr 132), some (zr v1), some (zi v2), some (zi v3), none, some (zi v5)] [zi s1, zi s0] μ o ν := by
  unfold qS_countFloors_j79 at hq
  refine z_iadd (r := (wr (s0 + s1))) 80 dX7_countFloors_79 rfl rfl ?_
  refine z_istore (L' := [some (zr 132), some (zr v1), some (zi v2), some (zi v3), some (zi (wr (s0 + s1))), some (zi v5)]) 82 dX7_countFloors_80 rfl rfl rfl rfl ?_
  refine z_aload_n 83 dX7_countFloors_82 rfl rfl ?_
  refine z_getR (e := 1) (r := 133) 86 dX7_countFloors_83 rfl f_RX7_9 ar_132 rfl ar_133.1 ?_
  refine z_iload 88 dX7_countFloors_86 rfl rfl ?_
  refine z_dup2 89 dX7_countFloors_88 rfl rfl rfl ?_
  obtain ⟨hg89, hq⟩ := z_g hq
  refine z_iaload (x := (μ 133 v5)) 90 dX7_countFloors_89 rfl ar_133 hg89 rfl ?_
  refine z_iload_n 91 dX7_countFloors_90 rfl rfl ?_
  refine z_iadd (r := (wr ((μ 133 v5) + v3))) 92 dX7_countFloors_91 rfl rfl ?_
  obtain ⟨hg92, hq⟩ := z_g hq
  obtain ⟨m4, em4, hq⟩ := z_m hq
  refine z_iastore 93 dX7_countFloors_92 rfl ar_133 hg92 em4 ?_
  refine z_iinc (r := (wr (v5 + 1))) (L' := [some (zr 132), some (zr v1), some (zi v2), some (zi v3), some (zi (wr (s0 + s1))), some (zi (wr (v5 + 1)))]) 96 dX7_countFloors_93 rfl rfl rfl rfl rfl rfl ?_
  refine z_goto 30 dX7_countFloors_96 rfl ?_
  exact Z.sub (zle_s (zle_s (zle_s (zle_s (zle_s (zle_s zle_nil)))))) (hrec _ _ _ hq)
set_option maxRecDepth 100000 in
set_option maxHeartbeats 4000000 in
theorem L_qS_countFloors_l30 {g : yG} {a : Nat → Nat} {ν : zM} {o : zO} {kc ks : Nat} {v1 : Nat} {v2 : Int} {v3 : Int} {R : (Int) × zM}  (A_v1 : zH v1) (he : ∀ (tz : Int) (m : zM), R = (tz, m) → Z g a mX7_countFloors 21 kc ks 99 [some (zr 132), some (zr v1), some (zi v2), some (zi v3), some (zi tz), none] [] m o ν) : ∀ (n : Nat) (μ : zM) (v4 : Int) (v5 : Int), qS_countFloors_l30 v1 v2 v3 n μ v4 v5 = some R → Z g a mX7_countFloors 21 kc ks 30 [some (zr 132), some (zr v1), some (zi v2), some (zi v3), some (zi v4), some (zi v5)] [] μ o ν := by
  intro n
  induction n with
  | zero => intro μ v4 v5 hq; cases hq
  | succ n ih =>
    intro μ v4 v5 hq
    rw [qS_countFloors_l30] at hq
    refine z_iload 32 dX7_countFloors_30 rfl rfl ?_
    refine z_bipush 34 dX7_countFloors_32 rfl (by decide) (by decide) ?_
    refine z_icmp_ge 99 37 dX7_countFloors_34 rfl rfl (fun hc => ?_) (fun hc => ?_)
    · replace hq := z_in hq (Int.not_lt.mpr hc)
      exact Z.sub (zle_s (zle_s (zle_s (zle_s (zle_s (zle_n zle_nil)))))) (he _ _ (Option.some.inj hq).symm)
    · replace hq := z_ip hq hc
      refine z_aload_n 38 dX7_countFloors_37 rfl rfl ?_
      refine z_getR (e := 1) (r := 133) 41 dX7_countFloors_38 rfl f_RX7_9 ar_132 rfl ar_133.1 ?_
      refine z_iload 43 dX7_countFloors_41 rfl rfl ?_
      obtain ⟨hg43, hq⟩ := z_g hq
      refine z_iaload (x := (μ 133 v5)) 44 dX7_countFloors_43 rfl ar_133 hg43 rfl ?_
      refine z_iload_n 45 dX7_countFloors_44 rfl rfl ?_
      refine z_icmp_lt 93 48 dX7_countFloors_45 rfl rfl (fun hc => ?_) (fun hc => ?_)
      · replace hq := z_ip hq hc
        refine z_iinc (r := (wr (v5 + 1))) (L' := [some (zr 132), some (zr v1), some (zi v2), some (zi v3), some (zi v4), some (zi (wr (v5 + 1)))]) 96 dX7_countFloors_93 rfl rfl rfl rfl rfl rfl ?_
        refine z_goto 30 dX7_countFloors_96 rfl ?_
        exact Z.sub (zle_s (zle_s (zle_s (zle_s (zle_s (zle_s zle_nil)))))) (ih _ _ _ hq)
      · replace hq := z_in hq (Int.not_lt.mpr hc)
        refine z_aload_n 49 dX7_countFloors_48 rfl rfl ?_
        refine z_getR (e := 1) (r := 133) 52 dX7_countFloors_49 rfl f_RX7_9 ar_132 rfl ar_133.1 ?_
        refine z_iload 54 dX7_countFloors_52 rfl rfl ?_
        refine z_dup2 55 dX7_countFloors_54 rfl rfl rfl ?_
        obtain ⟨hg55, hq⟩ := z_g hq
        refine z_iaload (x := (μ 133 v5)) 56 dX7_countFloors_55 rfl ar_133 hg55 rfl ?_
        refine z_iload_n 57 dX7_countFloors_56 rfl rfl ?_
        refine z_isub (r := (wr ((μ 133 v5) - v3))) 58 dX7_countFloors_57 rfl rfl ?_
        obtain ⟨hg58, hq⟩ := z_g hq
        obtain ⟨m2, em2, hq⟩ := z_m hq
        refine z_iastore 59 dX7_countFloors_58 rfl ar_133 hg58 em2 ?_
        refine z_iload 61 dX7_countFloors_59 rfl rfl ?_
        refine z_aload_n 62 dX7_countFloors_61 rfl rfl ?_
        refine z_aload_n 63 dX7_countFloors_62 rfl rfl ?_
        refine z_getR (e := 1) (r := 133) 66 dX7_countFloors_63 rfl f_RX7_9 ar_132 rfl ar_133.1 ?_
        refine z_iconst 67 dX7_countFloors_66 rfl (by decide) ?_
        refine z_iload_n 68 dX7_countFloors_67 rfl rfl ?_
        obtain ⟨a3, m3, h3, hq⟩ := bnd2_some hq
        refine z_callS1 (as := [zr v1, zr 133, zi 0, zi v2]) (S := [zi v4]) 71 dX7_countFloors_68 rfl (Q_qS_spread 20 20 (by decide) A_v1 h3) kX7_spread l_RX7_31 rfl rfl rfl rfl rfl rfl rfl ?_
        refine z_if_le 78 74 dX7_countFloors_71 rfl rfl (fun hc => ?_) (fun hc => ?_)
        · replace hq := z_in hq (Int.not_lt.mpr hc)
          refine z_iconst 79 dX7_countFloors_78 rfl (by decide) ?_
          exact Z.sub (zle_s (zle_s (zle_s (zle_s (zle_n (zle_s zle_nil)))))) (J_qS_countFloors_j79 A_v1 he ih hq)
        · replace hq := z_ip hq hc
          refine z_iconst 75 dX7_countFloors_74 rfl (by decide) ?_
          refine z_goto 79 dX7_countFloors_75 rfl ?_
          exact Z.sub (zle_s (zle_s (zle_s (zle_s (zle_n (zle_s zle_nil)))))) (J_qS_countFloors_j79 A_v1 he ih hq)
set_option maxRecDepth 100000 in
set_option maxHeartbeats 4000000 in
theorem Q_qS_countFloors {g : yG} {a : Nat → Nat} {μ : zM} {v1 : Nat} {v2 : Int} {r : Int} {ν : zM} (A_v1 : zH v1) (hq : qS_countFloors μ v1 v2 = some (r, ν)) : zC g a mX7_countFloors 21 0 0 [zr 132, zr v1, zi v2] μ (.inl (some (zi r))) ν := by
  unfold qS_countFloors at hq
  refine z_of (L := [some (zr 132), some (zr v1), some (zi v2), none, none, none]) pl_RX7 rfl (zc_of rfl) rfl rfl ?_
  refine z_aload_n 1 dX7_countFloors_0 rfl rfl ?_
  refine z_getR (e := 9) (r := (v1 + 9)) 4 dX7_countFloors_1 rfl f_RX7_39 A_v1.a0 rfl A_v1.a9.1 ?_
  refine z_iload_n 5 dX7_countFloors_4 rfl rfl ?_
  obtain ⟨hg5, hq⟩ := z_g hq
  refine z_iaload (x := (μ (v1 + 9) v2)) 6 dX7_countFloors_5 rfl A_v1.a9 hg5 rfl ?_
  refine z_iconst 7 dX7_countFloors_6 rfl (by decide) ?_
  refine z_icmp_ne 12 10 dX7_countFloors_7 rfl rfl (fun hc => ?_) (fun hc => ?_)
  · replace hq := z_in hq hc
    refine z_aload_n 13 dX7_countFloors_12 rfl rfl ?_
    refine z_aload_n 14 dX7_countFloors_13 rfl rfl ?_
    obtain ⟨m1, h1, hq⟩ := z_b hq
    refine z_callV0 (as := [zr v1]) (S := []) 17 dX7_countFloors_14 rfl (Q_qS_measure A_v1 h1) kX7_measure ⟨_, _, rfl⟩ ar_132 l_RX7_27 rfl rfl rfl rfl rfl rfl rfl ?_
    refine z_aload_n 18 dX7_countFloors_17 rfl rfl ?_
    refine z_getR (e := 4) (r := (v1 + 4)) 21 dX7_countFloors_18 rfl f_RX7_42 A_v1.a0 rfl A_v1.a4.1 ?_
    refine z_iload_n 22 dX7_countFloors_21 rfl rfl ?_
    obtain ⟨hg22, hq⟩ := z_g hq
    refine z_iaload (x := (m1 (v1 + 4) v2)) 23 dX7_countFloors_22 rfl A_v1.a4 hg22 rfl ?_
    refine z_istore_n (L' := [some (zr 132), some (zr v1), some (zi v2), some (zi (m1 (v1 + 4) v2)), none, none]) 24 dX7_countFloors_23 rfl rfl rfl rfl ?_
    refine z_iconst 25 dX7_countFloors_24 rfl (by decide) ?_
    refine z_istore (L' := [some (zr 132), some (zr v1), some (zi v2), some (zi (m1 (v1 + 4) v2)), some (zi 0), none]) 27 dX7_countFloors_25 rfl rfl rfl rfl ?_
    refine z_iconst 28 dX7_countFloors_27 rfl (by decide) ?_
    refine z_istore (L' := [some (zr 132), some (zr v1), some (zi v2), some (zi (m1 (v1 + 4) v2)), some (zi 0), some (zi 0)]) 30 dX7_countFloors_28 rfl rfl rfl rfl ?_
    obtain ⟨t5, m5, h5, hq⟩ := bnd2_some hq
    refine Z.sub (zle_s (zle_s (zle_s (zle_s (zle_s (zle_s zle_nil)))))) (L_qS_countFloors_l30 A_v1 (R := (t5, m5)) (fun _ _ e => ?_) _ _ _ _ h5)
    cases e
    refine z_iload 101 dX7_countFloors_99 rfl rfl ?_
    cases hq
    exact z_ireturn rfl dX7_countFloors_101
  · replace hq := z_ip hq hc
    refine z_iconst 11 dX7_countFloors_10 rfl (by decide) ?_
    cases hq
    exact z_ireturn rfl dX7_countFloors_11
set_option maxRecDepth 100000 in
set_option maxHeartbeats 4000000 in
theorem Q_qT_possibleFloors {g : yG} {a : Nat → Nat} {μ : zM} {v1 : Int} {r : Int ⊕ Nat} {ν : zM}  (hq : qT_possibleFloors μ v1 = some (r, ν)) : zC g a mX9_possibleFloors 22 1 6 [zr 0, zi v1] μ (zri r) ν := by
  unfold qT_possibleFloors at hq
  refine z_of (L := [some (zr 0), some (zi v1)]) pl_RX9 rfl (zc_of rfl) rfl rfl ?_
  refine z_aload_n 1 dX9_possibleFloors_0 rfl rfl ?_
  refine z_getR (e := 132) (r := 132) 4 dX9_possibleFloors_1 rfl f_RX9_39 ar_0 rfl ar_132.1 ?_
  refine z_aload_n 5 dX9_possibleFloors_4 rfl rfl ?_
  refine z_getR (e := 1) (r := 1) 8 dX9_possibleFloors_5 rfl f_RX9_12 ar_0 rfl ar_1.1 ?_
  refine z_aload_n 9 dX9_possibleFloors_8 rfl rfl ?_
  refine z_iload_n 10 dX9_possibleFloors_9 rfl rfl ?_
  rcases z_tc hq with ⟨a1, m1, h1, hq⟩ | ⟨ex1, h1, rfl⟩
  · refine z_callV1 (as := [zi v1]) (S := [zr 1, zr 132]) (kc := 0) (ks := 0) 13 dX9_possibleFloors_10 rfl (Q_qT_presentSlot  h1) kX9_presentSlot ⟨_, _, rfl⟩ ar_0 l_RX9_181 rfl rfl rfl rfl rfl rfl rfl ?_
    obtain ⟨a2, m2, h2, hq⟩ := bnd2_some hq
    refine z_callV1 (as := [zr 1, zi a1]) (S := []) (kc := 0) (ks := 0) 16 dX9_possibleFloors_13 rfl (Q_qS_countFloors zH_1 h2) kX7_countFloors ⟨_, _, rfl⟩ ar_132 l_RX9_220 rfl rfl rfl rfl rfl rfl rfl ?_
    cases hq
    exact z_ireturn rfl dX9_possibleFloors_16
  · exact z_callVX (e := ex1) (as := [zi v1]) (S := [zr 1, zr 132]) (kc := 0) (ks := 0) dX9_possibleFloors_10 (Q_qT_presentSlot  h1) kX9_presentSlot ⟨_, _, rfl⟩ ar_0 l_RX9_181 rfl rfl rfl rfl rfl rfl rfl
set_option maxRecDepth 100000 in
set_option maxHeartbeats 4000000 in
theorem Q_qT_requireGiven {g : yG} {a : Nat → Nat} {μ : zM} {v0 : Int} {r : Int ⊕ Nat} {ν : zM}  (hq : qT_requireGiven μ v0 = some (r, ν)) : zC g a mX9_requireGiven 0 1 6 [zi v0] μ (zri r) ν := by
  unfold qT_requireGiven at hq
  refine z_of (L := [some (zi v0)]) pl_RX9 rfl (zc_of rfl) rfl rfl ?_
  refine z_iload_n 1 dX9_requireGiven_0 rfl rfl ?_
  refine z_iconst 2 dX9_requireGiven_1 rfl (by decide) ?_
  refine z_icmp_ne 16 5 dX9_requireGiven_2 rfl rfl (fun hc => ?_) (fun hc => ?_)
  · replace hq := z_in hq hc
    refine z_iload_n 17 dX9_requireGiven_16 rfl rfl ?_
    cases hq
    exact z_ireturn rfl dX9_requireGiven_17
  · replace hq := z_ip hq hc
    cases hq
    exact z_throwNW (cls := "java/util/NoSuchElementException") (text := "the best plan gives no flat to the tenant") (names := ["java/lang/Exception"]) (e := 0) tf_0 (yb 638 (by decide +kernel) rfl) (yb 107 (by decide +kernel) rfl) ts_379 (by decide +kernel) t_RX9_165 rfl rfl dX9_requireGiven_5 dX9_requireGiven_8 dX9_requireGiven_9 dX9_requireGiven_12 dX9_requireGiven_15 rfl rfl rfl
set_option maxRecDepth 100000 in
set_option maxHeartbeats 4000000 in
theorem Q_qT_plannedFlat {g : yG} {a : Nat → Nat} {μ : zM} {v1 : Int} {r : Int ⊕ Nat} {ν : zM}  (hq : qT_plannedFlat μ v1 = some (r, ν)) : zC g a mX9_plannedFlat 5 2 12 [zr 0, zi v1] μ (zri r) ν := by
  unfold qT_plannedFlat at hq
  refine z_of (L := [some (zr 0), some (zi v1), none]) pl_RX9 rfl (zc_of rfl) rfl rfl ?_
  refine z_aload_n 1 dX9_plannedFlat_0 rfl rfl ?_
  refine z_iload_n 2 dX9_plannedFlat_1 rfl rfl ?_
  rcases z_tc hq with ⟨a1, m1, h1, hq⟩ | ⟨ex1, h1, rfl⟩
  · refine z_callV1 (as := [zi v1]) (S := []) (kc := 1) (ks := 6) 5 dX9_plannedFlat_2 rfl (Q_qT_presentSlot  h1) kX9_presentSlot ⟨_, _, rfl⟩ ar_0 l_RX9_181 rfl rfl rfl rfl rfl rfl rfl ?_
    refine z_istore_n (L' := [some (zr 0), some (zi v1), some (zi a1)]) 6 dX9_plannedFlat_5 rfl rfl rfl rfl ?_
    refine z_aload_n 7 dX9_plannedFlat_6 rfl rfl ?_
    refine z_getR (e := 113) (r := 113) 10 dX9_plannedFlat_7 rfl f_RX9_32 ar_0 rfl ar_113.1 ?_
    refine z_aload_n 11 dX9_plannedFlat_10 rfl rfl ?_
    refine z_getR (e := 1) (r := 1) 14 dX9_plannedFlat_11 rfl f_RX9_12 ar_0 rfl ar_1.1 ?_
    obtain ⟨m2, h2, hq⟩ := z_b hq
    refine z_callV1 (as := [zr 1]) (S := []) (kc := 1) (ks := 6) 17 dX9_plannedFlat_14 rfl (Q_qP_planByAsking zH_1 h2) kX5_planByAsking ⟨_, _, rfl⟩ ar_113 l_RX9_130 rfl rfl rfl rfl rfl rfl rfl ?_
    refine z_iload_n 18 dX9_plannedFlat_17 rfl rfl ?_
    obtain ⟨hg18, hq⟩ := z_g hq
    refine z_iaload (x := (m2 128 a1)) 19 dX9_plannedFlat_18 rfl ar_128 hg18 rfl ?_
    rcases z_tc hq with ⟨a3, m3, h3, hq⟩ | ⟨ex3, h3, rfl⟩
    · refine z_callS1 (as := [zi (m2 128 a1)]) (S := []) (kc := 0) (ks := 0) 22 dX9_plannedFlat_19 rfl (Q_qT_requireGiven  h3) kX9_requireGiven l_RX9_224 rfl rfl rfl rfl rfl rfl rfl ?_
      cases hq
      exact z_ireturn rfl dX9_plannedFlat_22
    · exact z_callSX (e := ex3) (as := [zi (m2 128 a1)]) (S := []) (kc := 0) (ks := 0) dX9_plannedFlat_19 (Q_qT_requireGiven  h3) kX9_requireGiven l_RX9_224 rfl rfl rfl rfl rfl rfl rfl
  · exact z_callVX (e := ex1) (as := [zi v1]) (S := []) (kc := 1) (ks := 6) dX9_plannedFlat_2 (Q_qT_presentSlot  h1) kX9_presentSlot ⟨_, _, rfl⟩ ar_0 l_RX9_181 rfl rfl rfl rfl rfl rfl rfl
set_option maxRecDepth 100000 in
set_option maxHeartbeats 4000000 in
theorem Q_qP_rankOf {g : yG} {a : Nat → Nat} {μ : zM} {v1 : Int} {v2 : Int} {r : Int}  (hq : qP_rankOf μ v1 v2 = some r) : zC g a mX5_rankOf 0 0 0 [zr 113, zi v1, zi v2] μ (.inl (some (zi r))) μ := by
  unfold qP_rankOf at hq
  refine z_of (L := [some (zr 113), some (zi v1), some (zi v2)]) pl_RX5 rfl (zc_of rfl) rfl rfl ?_
  refine z_iload_n 1 dX5_rankOf_0 rfl rfl ?_
  refine z_iconst 2 dX5_rankOf_1 rfl (by decide) ?_
  refine z_icmp_ne 10 5 dX5_rankOf_2 rfl rfl (fun hc => ?_) (fun hc => ?_)
  · replace hq := z_in hq hc
    refine z_aload_n 11 dX5_rankOf_10 rfl rfl ?_
    refine z_getR (e := 1) (r := 114) 14 dX5_rankOf_11 rfl f_RX5_11 ar_113 rfl ar_114.1 ?_
    refine z_iload_n 15 dX5_rankOf_14 rfl rfl ?_
    obtain ⟨hg15, hq⟩ := z_g hq
    refine z_aald5 (r := (115 + Int.toNat v1)) 16 dX5_rankOf_15 rfl ar_114 hg15 rfl (ar_row1 hg15).1 ?_
    refine z_iload_n 17 dX5_rankOf_16 rfl rfl ?_
    obtain ⟨hg17, hq⟩ := z_g hq
    refine z_iaload (x := (μ (115 + Int.toNat v1) v2)) 18 dX5_rankOf_17 rfl (ar_row1 hg15) hg17 rfl ?_
    cases hq
    exact z_ireturn rfl dX5_rankOf_18
  · replace hq := z_ip hq hc
    refine z_bipush 7 dX5_rankOf_5 rfl (by decide) (by decide) ?_
    refine z_goto 18 dX5_rankOf_7 rfl ?_
    cases hq
    exact z_ireturn rfl dX5_rankOf_18
set_option maxRecDepth 100000 in
set_option maxHeartbeats 4000000 in
theorem Q_qP_wants {g : yG} {a : Nat → Nat} {μ : zM} {v1 : Nat} {v2 : Int} {v3 : Int} {r : Int} (A_v1 : zH v1) (hq : qP_wants μ v1 v2 v3 = some r) : zC g a mX5_wants 1 0 0 [zr 113, zr v1, zi v2, zi v3] μ (.inl (some (zi r))) μ := by
  unfold qP_wants at hq
  refine z_of (L := [some (zr 113), some (zr v1), some (zi v2), some (zi v3)]) pl_RX5 rfl (zc_of rfl) rfl rfl ?_
  refine z_aload_n 1 dX5_wants_0 rfl rfl ?_
  refine z_iload_n 2 dX5_wants_1 rfl rfl ?_
  refine z_iload_n 3 dX5_wants_2 rfl rfl ?_
  obtain ⟨a1, h1, hq⟩ := z_b hq
  refine z_callV1 (as := [zi v2, zi v3]) (S := []) 6 dX5_wants_3 rfl (Q_qH_canAfford A_v1 h1) kX2_canAfford ⟨_, _, rfl⟩ A_v1.a0 l_RX5_60 rfl rfl rfl rfl rfl rfl rfl ?_
  refine z_if_eq 35 9 dX5_wants_6 rfl rfl (fun hc => ?_) (fun hc => ?_)
  · replace hq := z_ip hq hc
    refine z_iconst 36 dX5_wants_35 rfl (by decide) ?_
    cases hq
    exact z_zreturn rfl dX5_wants_36 (by decide)
  · replace hq := z_in hq hc
    refine z_aload_n 10 dX5_wants_9 rfl rfl ?_
    refine z_getR (e := 1) (r := 114) 13 dX5_wants_10 rfl f_RX5_11 ar_113 rfl ar_114.1 ?_
    refine z_iload_n 14 dX5_wants_13 rfl rfl ?_
    obtain ⟨hg14, hq⟩ := z_g hq
    refine z_aald5 (r := (115 + Int.toNat v2)) 15 dX5_wants_14 rfl ar_114 hg14 rfl (ar_row1 hg14).1 ?_
    refine z_iload_n 16 dX5_wants_15 rfl rfl ?_
    obtain ⟨hg16, hq⟩ := z_g hq
    refine z_iaload (x := (μ (115 + Int.toNat v2) v3)) 17 dX5_wants_16 rfl (ar_row1 hg14) hg16 rfl ?_
    refine z_aload_n 18 dX5_wants_17 rfl rfl ?_
    refine z_iload_n 19 dX5_wants_18 rfl rfl ?_
    refine z_aload_n 20 dX5_wants_19 rfl rfl ?_
    refine z_getR (e := 15) (r := 128) 23 dX5_wants_20 rfl f_RX5_19 ar_113 rfl ar_128.1 ?_
    refine z_iload_n 24 dX5_wants_23 rfl rfl ?_
    obtain ⟨hg24, hq⟩ := z_g hq
    refine z_iaload (x := (μ 128 v2)) 25 dX5_wants_24 rfl ar_128 hg24 rfl ?_
    obtain ⟨a2, h2, hq⟩ := z_b hq
    refine z_callV1 (as := [zi v2, zi (μ 128 v2)]) (S := [zi (μ (115 + Int.toNat v2) v3)]) 28 dX5_wants_25 rfl (Q_qP_rankOf  h2) kX5_rankOf ⟨_, _, rfl⟩ ar_113 l_RX5_98 rfl rfl rfl rfl rfl rfl rfl ?_
    refine z_icmp_ge 35 31 dX5_wants_28 rfl rfl (fun hc => ?_) (fun hc => ?_)
    · replace hq := z_in hq (Int.not_lt.mpr hc)
      refine z_iconst 36 dX5_wants_35 rfl (by decide) ?_
      cases hq
      exact z_zreturn rfl dX5_wants_36 (by decide)
    · replace hq := z_ip hq hc
      refine z_iconst 32 dX5_wants_31 rfl (by decide) ?_
      refine z_goto 36 dX5_wants_32 rfl ?_
      cases hq
      exact z_zreturn rfl dX5_wants_36 (by decide)
set_option maxRecDepth 100000 in
set_option maxHeartbeats 4000000 in
theorem L_qP_isFreeFlatWanted_l12 {g : yG} {a : Nat → Nat} {μ ν : zM} {o : zO} {kc ks : Nat} {v1 : Nat} {v2 : Int} {R : Int ⊕ Unit}  (A_v1 : zH v1) (hr : ∀ (x : Int), R = .inl x → o = .inl (some (zi x)) ∧ ν = μ) (he : ∀ (tz : Unit), R = .inr tz → Z g a mX5_isFreeFlatWanted 2 kc ks 48 [some (zr 113), some (zr v1), some (zi v2), none] [] μ o ν) : ∀ (n : Nat) (v3 : Int), qP_isFreeFlatWanted_l12 μ v1 v2 n v3 = some R → Z g a mX5_isFreeFlatWanted 2 kc ks 12 [some (zr 113), some (zr v1), some (zi v2), some (zi v3)] [] μ o ν := by
  intro n
  induction n with
  | zero => intro v3 hq; cases hq
  | succ n ih =>
    intro v3 hq
    rw [qP_isFreeFlatWanted_l12] at hq
    refine z_iload_n 13 dX5_isFreeFlatWanted_12 rfl rfl ?_
    refine z_aload_n 14 dX5_isFreeFlatWanted_13 rfl rfl ?_
    refine z_getI (x := (μ v1 3)) 17 dX5_isFreeFlatWanted_14 rfl f_RX5_40 A_v1.a0 rfl ?_
    refine z_icmp_ge 48 20 dX5_isFreeFlatWanted_17 rfl rfl (fun hc => ?_) (fun hc => ?_)
    · replace hq := z_in hq (Int.not_lt.mpr hc)
      exact Z.sub (zle_s (zle_s (zle_s (zle_n zle_nil)))) (he _ (Option.some.inj hq).symm)
    · replace hq := z_ip hq hc
      refine z_aload_n 21 dX5_isFreeFlatWanted_20 rfl rfl ?_
      refine z_getR (e := 16) (r := 129) 24 dX5_isFreeFlatWanted_21 rfl f_RX5_23 ar_113 rfl ar_129.1 ?_
      refine z_iload_n 25 dX5_isFreeFlatWanted_24 rfl rfl ?_
      obtain ⟨hg25, hq⟩ := z_g hq
      refine z_iaload (x := (μ 129 v2)) 26 dX5_isFreeFlatWanted_25 rfl ar_129 hg25 rfl ?_
      refine z_iconst 27 dX5_isFreeFlatWanted_26 rfl (by decide) ?_
      refine z_icmp_ne 48 30 dX5_isFreeFlatWanted_27 rfl rfl (fun hc => ?_) (fun hc => ?_)
      · replace hq := z_in hq hc
        exact Z.sub (zle_s (zle_s (zle_s (zle_n zle_nil)))) (he _ (Option.some.inj hq).symm)
      · replace hq := z_ip hq hc
        refine z_aload_n 31 dX5_isFreeFlatWanted_30 rfl rfl ?_
        refine z_aload_n 32 dX5_isFreeFlatWanted_31 rfl rfl ?_
        refine z_iload_n 33 dX5_isFreeFlatWanted_32 rfl rfl ?_
        refine z_iload_n 34 dX5_isFreeFlatWanted_33 rfl rfl ?_
        obtain ⟨a1, h1, hq⟩ := z_b hq
        refine z_callV1 (as := [zr v1, zi v3, zi v2]) (S := []) 37 dX5_isFreeFlatWanted_34 rfl (Q_qP_wants A_v1 h1) kX5_wants ⟨_, _, rfl⟩ ar_113 l_RX5_104 rfl rfl rfl rfl rfl rfl rfl ?_
        refine z_if_eq 42 40 dX5_isFreeFlatWanted_37 rfl rfl (fun hc => ?_) (fun hc => ?_)
        · replace hq := z_ip hq hc
          refine z_iinc (r := (wr (v3 + 1))) (L' := [some (zr 113), some (zr v1), some (zi v2), some (zi (wr (v3 + 1)))]) 45 dX5_isFreeFlatWanted_42 rfl rfl rfl rfl rfl rfl ?_
          refine z_goto 12 dX5_isFreeFlatWanted_45 rfl ?_
          exact Z.sub (zle_s (zle_s (zle_s (zle_s zle_nil)))) (ih _ hq)
        · replace hq := z_in hq hc
          refine z_iconst 41 dX5_isFreeFlatWanted_40 rfl (by decide) ?_
          obtain ⟨ho, hv⟩ := hr _ (Option.some.inj hq).symm
          exact z_conv ho hv (z_zreturn rfl dX5_isFreeFlatWanted_41 (by decide))
set_option maxRecDepth 100000 in
set_option maxHeartbeats 4000000 in
theorem L_qP_isFreeFlatWanted_l2 {g : yG} {a : Nat → Nat} {μ ν : zM} {o : zO} {kc ks : Nat} {v1 : Nat} {R : Int ⊕ Unit}  (A_v1 : zH v1) (hr : ∀ (x : Int), R = .inl x → o = .inl (some (zi x)) ∧ ν = μ) (he : ∀ (tz : Unit), R = .inr tz → Z g a mX5_isFreeFlatWanted 2 kc ks 54 [some (zr 113), some (zr v1), none, none] [] μ o ν) : ∀ (n : Nat) (v2 : Int), qP_isFreeFlatWanted_l2 μ v1 n v2 = some R → Z g a mX5_isFreeFlatWanted 2 kc ks 2 [some (zr 113), some (zr v1), some (zi v2), none] [] μ o ν := by
  intro n
  induction n with
  | zero => intro v2 hq; cases hq
  | succ n ih =>
    intro v2 hq
    rw [qP_isFreeFlatWanted_l2] at hq
    refine z_iload_n 3 dX5_isFreeFlatWanted_2 rfl rfl ?_
    refine z_aload_n 4 dX5_isFreeFlatWanted_3 rfl rfl ?_
    refine z_getI (x := (μ v1 0)) 7 dX5_isFreeFlatWanted_4 rfl f_RX5_45 A_v1.a0 rfl ?_
    refine z_icmp_ge 54 10 dX5_isFreeFlatWanted_7 rfl rfl (fun hc => ?_) (fun hc => ?_)
    · replace hq := z_in hq (Int.not_lt.mpr hc)
      exact Z.sub (zle_s (zle_s (zle_n (zle_n zle_nil)))) (he _ (Option.some.inj hq).symm)
    · replace hq := z_ip hq hc
      refine z_iconst 11 dX5_isFreeFlatWanted_10 rfl (by decide) ?_
      refine z_istore_n (L' := [some (zr 113), some (zr v1), some (zi v2), some (zi 0)]) 12 dX5_isFreeFlatWanted_11 rfl rfl rfl rfl ?_
      rcases bndS_some hq with ⟨x2, h2, hq⟩ | ⟨t2, h2, hq⟩
      · exact Z.sub (zle_s (zle_s (zle_s (zle_s zle_nil)))) (L_qP_isFreeFlatWanted_l12 A_v1 (R := .inl x2) (fun _ e => by cases e; exact hr _ (Option.some.inj hq).symm) (fun _ e => by cases e) _ _ h2)
      · refine Z.sub (zle_s (zle_s (zle_s (zle_s zle_nil)))) (L_qP_isFreeFlatWanted_l12 A_v1 (R := .inr t2) (fun _ e => by cases e) (fun _ e => ?_) _ _ h2)
        cases e
        refine z_iinc (r := (wr (v2 + 1))) (L' := [some (zr 113), some (zr v1), some (zi (wr (v2 + 1))), none]) 51 dX5_isFreeFlatWanted_48 rfl rfl rfl rfl rfl rfl ?_
        refine z_goto 2 dX5_isFreeFlatWanted_51 rfl ?_
        exact Z.sub (zle_s (zle_s (zle_s (zle_n zle_nil)))) (ih _ hq)
set_option maxRecDepth 100000 in
set_option maxHeartbeats 4000000 in
theorem Q_qP_isFreeFlatWanted {g : yG} {a : Nat → Nat} {μ : zM} {v1 : Nat} {r : Int} (A_v1 : zH v1) (hq : qP_isFreeFlatWanted μ v1 = some r) : zC g a mX5_isFreeFlatWanted 2 0 0 [zr 113, zr v1] μ (.inl (some (zi r))) μ := by
  unfold qP_isFreeFlatWanted at hq
  refine z_of (L := [some (zr 113), some (zr v1), none, none]) pl_RX5 rfl (zc_of rfl) rfl rfl ?_
  refine z_iconst 1 dX5_isFreeFlatWanted_0 rfl (by decide) ?_
  refine z_istore_n (L' := [some (zr 113), some (zr v1), some (zi 0), none]) 2 dX5_isFreeFlatWanted_1 rfl rfl rfl rfl ?_
  rcases bndS_some hq with ⟨x3, h3, hq⟩ | ⟨t3, h3, hq⟩
  · exact Z.sub (zle_s (zle_s (zle_s (zle_n zle_nil)))) (L_qP_isFreeFlatWanted_l2 A_v1 (R := .inl x3) (fun _ e => by cases e; cases hq; exact ⟨rfl, rfl⟩) (fun _ e => by cases e) _ _ h3)
  · refine Z.sub (zle_s (zle_s (zle_s (zle_n zle_nil)))) (L_qP_isFreeFlatWanted_l2 A_v1 (R := .inr t3) (fun _ e => by cases e) (fun _ e => ?_) _ _ h3)
    cases e
    refine z_iconst 55 dX5_isFreeFlatWanted_54 rfl (by decide) ?_
    cases hq
    exact z_zreturn rfl dX5_isFreeFlatWanted_55 (by decide)
set_option maxRecDepth 100000 in
set_option maxHeartbeats 4000000 in
theorem L_qP_isBetterForAll_l2 {g : yG} {a : Nat → Nat} {μ ν : zM} {o : zO} {kc ks : Nat} {v1 : Nat} {R : Int ⊕ Unit}  (A_v1 : zH v1) (hr : ∀ (x : Int), R = .inl x → o = .inl (some (zi x)) ∧ ν = μ) (he : ∀ (tz : Unit), R = .inr tz → Z g a mX5_isBetterForAll 1 kc ks 43 [some (zr 113), some (zr v1), none] [] μ o ν) : ∀ (n : Nat) (v2 : Int), qP_isBetterForAll_l2 μ v1 n v2 = some R → Z g a mX5_isBetterForAll 1 kc ks 2 [some (zr 113), some (zr v1), some (zi v2)] [] μ o ν := by
  intro n
  induction n with
  | zero => intro v2 hq; cases hq
  | succ n ih =>
    intro v2 hq
    rw [qP_isBetterForAll_l2] at hq
    refine z_iload_n 3 dX5_isBetterForAll_2 rfl rfl ?_
    refine z_aload_n 4 dX5_isBetterForAll_3 rfl rfl ?_
    refine z_getI (x := (μ v1 3)) 7 dX5_isBetterForAll_4 rfl f_RX5_40 A_v1.a0 rfl ?_
    refine z_icmp_ge 43 10 dX5_isBetterForAll_7 rfl rfl (fun hc => ?_) (fun hc => ?_)
    · replace hq := z_in hq (Int.not_lt.mpr hc)
      exact Z.sub (zle_s (zle_s (zle_n zle_nil))) (he _ (Option.some.inj hq).symm)
    · replace hq := z_ip hq hc
      refine z_aload_n 11 dX5_isBetterForAll_10 rfl rfl ?_
      refine z_iload_n 12 dX5_isBetterForAll_11 rfl rfl ?_
      refine z_aload_n 13 dX5_isBetterForAll_12 rfl rfl ?_
      refine z_getR (e := 15) (r := 128) 16 dX5_isBetterForAll_13 rfl f_RX5_19 ar_113 rfl ar_128.1 ?_
      refine z_iload_n 17 dX5_isBetterForAll_16 rfl rfl ?_
      obtain ⟨hg17, hq⟩ := z_g hq
      refine z_iaload (x := (μ 128 v2)) 18 dX5_isBetterForAll_17 rfl ar_128 hg17 rfl ?_
      obtain ⟨a1, h1, hq⟩ := z_b hq
      refine z_callV1 (as := [zi v2, zi (μ 128 v2)]) (S := []) 21 dX5_isBetterForAll_18 rfl (Q_qP_rankOf  h1) kX5_rankOf ⟨_, _, rfl⟩ ar_113 l_RX5_98 rfl rfl rfl rfl rfl rfl rfl ?_
      refine z_aload_n 22 dX5_isBetterForAll_21 rfl rfl ?_
      refine z_iload_n 23 dX5_isBetterForAll_22 rfl rfl ?_
      refine z_aload_n 24 dX5_isBetterForAll_23 rfl rfl ?_
      refine z_getR (e := 18) (r := 131) 27 dX5_isBetterForAll_24 rfl f_RX5_29 ar_113 rfl ar_131.1 ?_
      refine z_iload_n 28 dX5_isBetterForAll_27 rfl rfl ?_
      obtain ⟨hg28, hq⟩ := z_g hq
      refine z_iaload (x := (μ 131 v2)) 29 dX5_isBetterForAll_28 rfl ar_131 hg28 rfl ?_
      obtain ⟨a2, h2, hq⟩ := z_b hq
      refine z_callV1 (as := [zi v2, zi (μ 131 v2)]) (S := [zi a1]) 32 dX5_isBetterForAll_29 rfl (Q_qP_rankOf  h2) kX5_rankOf ⟨_, _, rfl⟩ ar_113 l_RX5_98 rfl rfl rfl rfl rfl rfl rfl ?_
      refine z_icmp_le 37 35 dX5_isBetterForAll_32 rfl rfl (fun hc => ?_) (fun hc => ?_)
      · replace hq := z_in hq (Int.not_lt.mpr hc)
        refine z_iinc (r := (wr (v2 + 1))) (L' := [some (zr 113), some (zr v1), some (zi (wr (v2 + 1)))]) 40 dX5_isBetterForAll_37 rfl rfl rfl rfl rfl rfl ?_
        refine z_goto 2 dX5_isBetterForAll_40 rfl ?_
        exact Z.sub (zle_s (zle_s (zle_s zle_nil))) (ih _ hq)
      · replace hq := z_ip hq hc
        refine z_iconst 36 dX5_isBetterForAll_35 rfl (by decide) ?_
        obtain ⟨ho, hv⟩ := hr _ (Option.some.inj hq).symm
        exact z_conv ho hv (z_zreturn rfl dX5_isBetterForAll_36 (by decide))
set_option maxRecDepth 100000 in
set_option maxHeartbeats 4000000 in
theorem Q_qP_isBetterForAll {g : yG} {a : Nat → Nat} {μ : zM} {v1 : Nat} {r : Int} (A_v1 : zH v1) (hq : qP_isBetterForAll μ v1 = some r) : zC g a mX5_isBetterForAll 1 0 0 [zr 113, zr v1] μ (.inl (some (zi r))) μ := by
  unfold qP_isBetterForAll at hq
  refine z_of (L := [some (zr 113), some (zr v1), none]) pl_RX5 rfl (zc_of rfl) rfl rfl ?_
  refine z_iconst 1 dX5_isBetterForAll_0 rfl (by decide) ?_
  refine z_istore_n (L' := [some (zr 113), some (zr v1), some (zi 0)]) 2 dX5_isBetterForAll_1 rfl rfl rfl rfl ?_
  rcases bndS_some hq with ⟨x3, h3, hq⟩ | ⟨t3, h3, hq⟩
  · exact Z.sub (zle_s (zle_s (zle_s zle_nil))) (L_qP_isBetterForAll_l2 A_v1 (R := .inl x3) (fun _ e => by cases e; cases hq; exact ⟨rfl, rfl⟩) (fun _ e => by cases e) _ _ h3)
  · refine Z.sub (zle_s (zle_s (zle_s zle_nil))) (L_qP_isBetterForAll_l2 A_v1 (R := .inr t3) (fun _ e => by cases e) (fun _ e => ?_) _ _ h3)
    cases e
    refine z_iconst 44 dX5_isBetterForAll_43 rfl (by decide) ?_
    cases hq
    exact z_zreturn rfl dX5_isBetterForAll_44 (by decide)
set_option maxRecDepth 100000 in
set_option maxHeartbeats 4000000 in
theorem J_qP_keepStable_j26 {g : yG} {a : Nat → Nat} {μ : zM} {kc ks : Nat} {v1 : Nat} {ν : zM}  (A_v1 : zH v1) (hq : qP_keepStable_j26 μ = some ν) : Z g a mX5_keepStable 2 kc ks 26 [some (zr 113), none] [] μ (.inl none) ν := by
  unfold qP_keepStable_j26 at hq
  refine z_aload_n 27 dX5_keepStable_26 rfl rfl ?_
  refine z_getR (e := 15) (r := 128) 30 dX5_keepStable_27 rfl f_RX5_19 ar_113 rfl ar_128.1 ?_
  refine z_iconst 31 dX5_keepStable_30 rfl (by decide) ?_
  refine z_aload_n 32 dX5_keepStable_31 rfl rfl ?_
  refine z_getR (e := 18) (r := 131) 35 dX5_keepStable_32 rfl f_RX5_29 ar_113 rfl ar_131.1 ?_
  refine z_iconst 36 dX5_keepStable_35 rfl (by decide) ?_
  refine z_bipush 38 dX5_keepStable_36 rfl (by decide) (by decide) ?_
  obtain ⟨m2, em2, hq⟩ := z_m hq
  refine z_arraycopy (n := 6) 41 dX5_keepStable_38 rfl ar_128 ar_131 rfl rfl rfl ⟨(yb 512 (by decide +kernel) rfl), (yb 373 (by decide +kernel) rfl), (yb 372 (by decide +kernel) rfl), (yb 113 (by decide +kernel) rfl)⟩ rfl em2 ?_
  cases hq
  exact z_return rfl dX5_keepStable_41
set_option maxRecDepth 100000 in
set_option maxHeartbeats 4000000 in
theorem Q_qP_keepStable {g : yG} {a : Nat → Nat} {μ : zM} {v1 : Nat} {ν : zM} (A_v1 : zH v1) (hq : qP_keepStable μ v1 = some ν) : zC g a mX5_keepStable 2 0 0 [zr 113, zr v1] μ (.inl none) ν := by
  unfold qP_keepStable at hq
  refine z_of (L := [some (zr 113), some (zr v1)]) pl_RX5 rfl (zc_of rfl) rfl rfl ?_
  refine z_aload_n 1 dX5_keepStable_0 rfl rfl ?_
  refine z_dup 2 dX5_keepStable_1 rfl rfl ?_
  refine z_getI (x := (μ 113 6)) 5 dX5_keepStable_2 rfl f_RX5_32 ar_113 rfl ?_
  refine z_iconst 6 dX5_keepStable_5 rfl (by decide) ?_
  refine z_iadd (r := (wr ((μ 113 6) + 1))) 7 dX5_keepStable_6 rfl rfl ?_
  obtain ⟨m1, em1, hq⟩ := z_m hq
  refine z_putI 10 dX5_keepStable_7 rfl p_RX5_32 ar_113 em1 ?_
  refine z_aload_n 11 dX5_keepStable_10 rfl rfl ?_
  refine z_getI (x := (m1 113 6)) 14 dX5_keepStable_11 rfl f_RX5_32 ar_113 rfl ?_
  refine z_iconst 15 dX5_keepStable_14 rfl (by decide) ?_
  refine z_icmp_eq 26 18 dX5_keepStable_15 rfl rfl (fun hc => ?_) (fun hc => ?_)
  · replace hq := z_ip hq hc
    exact Z.sub (zle_s (zle_n zle_nil)) (J_qP_keepStable_j26 A_v1 hq)
  · replace hq := z_in hq hc
    refine z_aload_n 19 dX5_keepStable_18 rfl rfl ?_
    refine z_aload_n 20 dX5_keepStable_19 rfl rfl ?_
    obtain ⟨a3, h3, hq⟩ := z_b hq
    refine z_callV1 (as := [zr v1]) (S := []) 23 dX5_keepStable_20 rfl (Q_qP_isBetterForAll A_v1 h3) kX5_isBetterForAll ⟨_, _, rfl⟩ ar_113 l_RX5_89 rfl rfl rfl rfl rfl rfl rfl ?_
    refine z_if_eq 41 26 dX5_keepStable_23 rfl rfl (fun hc => ?_) (fun hc => ?_)
    · replace hq := z_ip hq hc
      cases hq
      exact z_return rfl dX5_keepStable_41
    · replace hq := z_in hq hc
      exact Z.sub (zle_s (zle_n zle_nil)) (J_qP_keepStable_j26 A_v1 hq)
set_option maxRecDepth 100000 in
set_option maxHeartbeats 4000000 in
theorem J_qP_clashes_j34 {g : yG} {a : Nat → Nat} {μ ν : zM} {o : zO} {kc ks : Nat} {v1 : Nat} {v2 : Int} {v3 : Int} {v4 : Int} {s0 : Int} {rec : Int → Option (Int ⊕ Unit)} {R : Int ⊕ Unit}  (A_v1 : zH v1) (hr : ∀ (x : Int), R = .inl x → o = .inl (some (zi x)) ∧ ν = μ) (he : ∀ (tz : Unit), R = .inr tz → Z g a mX5_clashes 2 kc ks 72 [some (zr 113), some (zr v1), some (zi v2), none, none, none] [] μ o ν) (hrec : ∀ (v3 : Int), rec v3 = some R → Z g a mX5_clashes 2 kc ks 2 [some (zr 113), some (zr v1), some (zi v2), some (zi v3), none, none] [] μ o ν) (hq : qP_clashes_j34 rec μ v1 v2 v3 v4 s0 = some R) : Z g a mX5_clashes 2 kc ks 34 [some (zr 113), some (zr v1), some (zi v2), some (zi v3), some (zi v4), none] [zi s0] μ o ν := by
  unfold qP_clashes_j34 at hq
  refine z_istore (L' := [some (zr 113), some (zr v1), some (zi v2), some (zi v3), some (zi v4), some (zi s0)]) 36 dX5_clashes_34 rfl rfl rfl rfl ?_
  refine z_aload_n 37 dX5_clashes_36 rfl rfl ?_
  refine z_getR (e := 15) (r := 128) 40 dX5_clashes_37 rfl f_RX5_19 ar_113 rfl ar_128.1 ?_
  refine z_iload 42 dX5_clashes_40 rfl rfl ?_
  obtain ⟨hg42, hq⟩ := z_g hq
  refine z_iaload (x := (μ 128 s0)) 43 dX5_clashes_42 rfl ar_128 hg42 rfl ?_
  refine z_iconst 44 dX5_clashes_43 rfl (by decide) ?_
  refine z_icmp_eq 66 47 dX5_clashes_44 rfl rfl (fun hc => ?_) (fun hc => ?_)
  · replace hq := z_ip hq hc
    refine z_iinc (r := (wr (v3 + 1))) (L' := [some (zr 113), some (zr v1), some (zi v2), some (zi (wr (v3 + 1))), some (zi v4), some (zi s0)]) 69 dX5_clashes_66 rfl rfl rfl rfl rfl rfl ?_
    refine z_goto 2 dX5_clashes_69 rfl ?_
    exact Z.sub (zle_s (zle_s (zle_s (zle_s (zle_n (zle_n zle_nil)))))) (hrec _ hq)
  · replace hq := z_in hq hc
    refine z_aload_n 48 dX5_clashes_47 rfl rfl ?_
    refine z_aload_n 49 dX5_clashes_48 rfl rfl ?_
    refine z_iload 51 dX5_clashes_49 rfl rfl ?_
    refine z_aload_n 52 dX5_clashes_51 rfl rfl ?_
    refine z_getR (e := 15) (r := 128) 55 dX5_clashes_52 rfl f_RX5_19 ar_113 rfl ar_128.1 ?_
    refine z_iload 57 dX5_clashes_55 rfl rfl ?_
    obtain ⟨hg57, hq⟩ := z_g hq
    refine z_iaload (x := (μ 128 s0)) 58 dX5_clashes_57 rfl ar_128 hg57 rfl ?_
    obtain ⟨a2, h2, hq⟩ := z_b hq
    refine z_callV1 (as := [zr v1, zi v4, zi (μ 128 s0)]) (S := []) 61 dX5_clashes_58 rfl (Q_qP_wants A_v1 h2) kX5_wants ⟨_, _, rfl⟩ ar_113 l_RX5_104 rfl rfl rfl rfl rfl rfl rfl ?_
    refine z_if_eq 66 64 dX5_clashes_61 rfl rfl (fun hc => ?_) (fun hc => ?_)
    · replace hq := z_ip hq hc
      refine z_iinc (r := (wr (v3 + 1))) (L' := [some (zr 113), some (zr v1), some (zi v2), some (zi (wr (v3 + 1))), some (zi v4), some (zi s0)]) 69 dX5_clashes_66 rfl rfl rfl rfl rfl rfl ?_
      refine z_goto 2 dX5_clashes_69 rfl ?_
      exact Z.sub (zle_s (zle_s (zle_s (zle_s (zle_n (zle_n zle_nil)))))) (hrec _ hq)
    · replace hq := z_in hq hc
      refine z_iconst 65 dX5_clashes_64 rfl (by decide) ?_
      obtain ⟨ho, hv⟩ := hr _ (Option.some.inj hq).symm
      exact z_conv ho hv (z_zreturn rfl dX5_clashes_65 (by decide))
set_option maxRecDepth 100000 in
set_option maxHeartbeats 4000000 in
theorem J_qP_clashes_j21 {g : yG} {a : Nat → Nat} {μ ν : zM} {o : zO} {kc ks : Nat} {v1 : Nat} {v2 : Int} {v3 : Int} {s0 : Int} {rec : Int → Option (Int ⊕ Unit)} {R : Int ⊕ Unit}  (A_v1 : zH v1) (hr : ∀ (x : Int), R = .inl x → o = .inl (some (zi x)) ∧ ν = μ) (he : ∀ (tz : Unit), R = .inr tz → Z g a mX5_clashes 2 kc ks 72 [some (zr 113), some (zr v1), some (zi v2), none, none, none] [] μ o ν) (hrec : ∀ (v3 : Int), rec v3 = some R → Z g a mX5_clashes 2 kc ks 2 [some (zr 113), some (zr v1), some (zi v2), some (zi v3), none, none] [] μ o ν) (hq : qP_clashes_j21 rec μ v1 v2 v3 s0 = some R) : Z g a mX5_clashes 2 kc ks 21 [some (zr 113), some (zr v1), some (zi v2), some (zi v3), none, none] [zi s0] μ o ν := by
  unfold qP_clashes_j21 at hq
  refine z_istore (L' := [some (zr 113), some (zr v1), some (zi v2), some (zi v3), some (zi s0), none]) 23 dX5_clashes_21 rfl rfl rfl rfl ?_
  refine z_iload 25 dX5_clashes_23 rfl rfl ?_
  refine z_iload_n 26 dX5_clashes_25 rfl rfl ?_
  refine z_icmp_ne 33 29 dX5_clashes_26 rfl rfl (fun hc => ?_) (fun hc => ?_)
  · replace hq := z_in hq hc
    refine z_iload_n 34 dX5_clashes_33 rfl rfl ?_
    exact Z.sub (zle_s (zle_s (zle_s (zle_s (zle_s (zle_n zle_nil)))))) (J_qP_clashes_j34 A_v1 hr he hrec hq)
  · replace hq := z_ip hq hc
    refine z_iload_n 30 dX5_clashes_29 rfl rfl ?_
    refine z_goto 34 dX5_clashes_30 rfl ?_
    exact Z.sub (zle_s (zle_s (zle_s (zle_s (zle_s (zle_n zle_nil)))))) (J_qP_clashes_j34 A_v1 hr he hrec hq)
set_option maxRecDepth 100000 in
set_option maxHeartbeats 4000000 in
theorem L_qP_clashes_l2 {g : yG} {a : Nat → Nat} {μ ν : zM} {o : zO} {kc ks : Nat} {v1 : Nat} {v2 : Int} {R : Int ⊕ Unit}  (A_v1 : zH v1) (hr : ∀ (x : Int), R = .inl x → o = .inl (some (zi x)) ∧ ν = μ) (he : ∀ (tz : Unit), R = .inr tz → Z g a mX5_clashes 2 kc ks 72 [some (zr 113), some (zr v1), some (zi v2), none, none, none] [] μ o ν) : ∀ (n : Nat) (v3 : Int), qP_clashes_l2 μ v1 v2 n v3 = some R → Z g a mX5_clashes 2 kc ks 2 [some (zr 113), some (zr v1), some (zi v2), some (zi v3), none, none] [] μ o ν := by
  intro n
  induction n with
  | zero => intro v3 hq; cases hq
  | succ n ih =>
    intro v3 hq
    rw [qP_clashes_l2] at hq
    refine z_iload_n 3 dX5_clashes_2 rfl rfl ?_
    refine z_iload_n 4 dX5_clashes_3 rfl rfl ?_
    refine z_icmp_ge 72 7 dX5_clashes_4 rfl rfl (fun hc => ?_) (fun hc => ?_)
    · replace hq := z_in hq (Int.not_lt.mpr hc)
      exact Z.sub (zle_s (zle_s (zle_s (zle_n (zle_n (zle_n zle_nil)))))) (he _ (Option.some.inj hq).symm)
    · replace hq := z_ip hq hc
      refine z_aload_n 8 dX5_clashes_7 rfl rfl ?_
      refine z_iload_n 9 dX5_clashes_8 rfl rfl ?_
      refine z_iload_n 10 dX5_clashes_9 rfl rfl ?_
      obtain ⟨a1, h1, hq⟩ := z_b hq
      refine z_callV1 (as := [zi v2, zi v3]) (S := []) 13 dX5_clashes_10 rfl (Q_qH_isPreferredTo A_v1 h1) kX2_isPreferredTo ⟨_, _, rfl⟩ A_v1.a0 l_RX5_64 rfl rfl rfl rfl rfl rfl rfl ?_
      refine z_if_eq 20 16 dX5_clashes_13 rfl rfl (fun hc => ?_) (fun hc => ?_)
      · replace hq := z_ip hq hc
        refine z_iload_n 21 dX5_clashes_20 rfl rfl ?_
        exact Z.sub (zle_s (zle_s (zle_s (zle_s (zle_n (zle_n zle_nil)))))) (J_qP_clashes_j21 A_v1 hr he ih hq)
      · replace hq := z_in hq hc
        refine z_iload_n 17 dX5_clashes_16 rfl rfl ?_
        refine z_goto 21 dX5_clashes_17 rfl ?_
        exact Z.sub (zle_s (zle_s (zle_s (zle_s (zle_n (zle_n zle_nil)))))) (J_qP_clashes_j21 A_v1 hr he ih hq)
set_option maxRecDepth 100000 in
set_option maxHeartbeats 4000000 in
theorem Q_qP_clashes {g : yG} {a : Nat → Nat} {μ : zM} {v1 : Nat} {v2 : Int} {r : Int} (A_v1 : zH v1) (hq : qP_clashes μ v1 v2 = some r) : zC g a mX5_clashes 2 0 0 [zr 113, zr v1, zi v2] μ (.inl (some (zi r))) μ := by
  unfold qP_clashes at hq
  refine z_of (L := [some (zr 113), some (zr v1), some (zi v2), none, none, none]) pl_RX5 rfl (zc_of rfl) rfl rfl ?_
  refine z_iconst 1 dX5_clashes_0 rfl (by decide) ?_
  refine z_istore_n (L' := [some (zr 113), some (zr v1), some (zi v2), some (zi 0), none, none]) 2 dX5_clashes_1 rfl rfl rfl rfl ?_
  rcases bndS_some hq with ⟨x3, h3, hq⟩ | ⟨t3, h3, hq⟩
  · exact Z.sub (zle_s (zle_s (zle_s (zle_s (zle_n (zle_n zle_nil)))))) (L_qP_clashes_l2 A_v1 (R := .inl x3) (fun _ e => by cases e; cases hq; exact ⟨rfl, rfl⟩) (fun _ e => by cases e) _ _ h3)
  · refine Z.sub (zle_s (zle_s (zle_s (zle_s (zle_n (zle_n zle_nil)))))) (L_qP_clashes_l2 A_v1 (R := .inr t3) (fun _ e => by cases e) (fun _ e => ?_) _ _ h3)
    cases e
    refine z_iconst 73 dX5_clashes_72 rfl (by decide) ?_
    cases hq
    exact z_zreturn rfl dX5_clashes_73 (by decide)
set_option maxRecDepth 100000 in
set_option maxHeartbeats 4000000 in
theorem Q_qP_tryRest {g : yG} {a : Nat → Nat} {μ : zM} {v1 : Nat} {v2 : Int} {v3 : Int} {ν : zM} {f : zM → Nat → Int → Option zM} {D9 : Nat} (hf : ∀ {μ : zM} {v1 : Nat} {v2 : Int} {ν : zM}, zH v1 → f μ v1 v2 = some ν → zC g a mX5_tryFlats D9 0 0 [zr 113, zr v1, zi v2] μ (.inl none) ν) (hB : 3 ≤ D9) (A_v1 : zH v1) (hq : qP_tryRest f μ v1 v2 v3 = some ν) : zC g a mX5_tryRest (D9 + 1) 0 0 [zr 113, zr v1, zi v2, zi v3] μ (.inl none) ν := by
  have hd : D9 + 1 ≤ D9 + 1 := Nat.le_refl _
  unfold qP_tryRest at hq
  refine z_of (L := [some (zr 113), some (zr v1), some (zi v2), some (zi v3)]) pl_RX5 rfl (zc_of rfl) rfl rfl ?_
  refine z_aload_n 1 dX5_tryRest_0 rfl rfl ?_
  refine z_getR (e := 15) (r := 128) 4 dX5_tryRest_1 rfl f_RX5_19 ar_113 rfl ar_128.1 ?_
  refine z_iload_n 5 dX5_tryRest_4 rfl rfl ?_
  refine z_iload_n 6 dX5_tryRest_5 rfl rfl ?_
  obtain ⟨hg6, hq⟩ := z_g hq
  obtain ⟨m1, em1, hq⟩ := z_m hq
  refine z_iastore 7 dX5_tryRest_6 rfl ar_128 hg6 em1 ?_
  refine z_aload_n 8 dX5_tryRest_7 rfl rfl ?_
  refine z_aload_n 9 dX5_tryRest_8 rfl rfl ?_
  refine z_iload_n 10 dX5_tryRest_9 rfl rfl ?_
  obtain ⟨a2, h2, hq⟩ := z_b hq
  refine z_callV1 (as := [zr v1, zi v2]) (S := []) 13 dX5_tryRest_10 rfl (Q_qP_clashes A_v1 h2) kX5_clashes ⟨_, _, rfl⟩ ar_113 l_RX5_85 (Nat.ble_eq.mpr (by omega)) rfl rfl rfl rfl rfl rfl ?_
  refine z_if_ne 24 16 dX5_tryRest_13 rfl rfl (fun hc => ?_) (fun hc => ?_)
  · replace hq := z_in hq hc
    cases hq
    exact z_return rfl dX5_tryRest_24
  · replace hq := z_ip hq hc
    refine z_aload_n 17 dX5_tryRest_16 rfl rfl ?_
    refine z_aload_n 18 dX5_tryRest_17 rfl rfl ?_
    refine z_iload_n 19 dX5_tryRest_18 rfl rfl ?_
    refine z_iconst 20 dX5_tryRest_19 rfl (by decide) ?_
    refine z_iadd (r := (wr (v2 + 1))) 21 dX5_tryRest_20 rfl rfl ?_
    obtain ⟨m3, h3, hq⟩ := z_b hq
    refine z_callV0 (as := [zr v1, zi (wr (v2 + 1))]) (S := []) 24 dX5_tryRest_21 rfl (hf A_v1 h3) kX5_tryFlats ⟨_, _, rfl⟩ ar_113 l_RX5_70 (Nat.ble_eq.mpr (by omega)) rfl rfl rfl rfl rfl rfl ?_
    cases hq
    exact z_return rfl dX5_tryRest_24
set_option maxRecDepth 100000 in
set_option maxHeartbeats 4000000 in
theorem L_qP_tryFlats_l31 {g : yG} {a : Nat → Nat} {ν : zM} {o : zO} {kc ks : Nat} {v1 : Nat} {v2 : Int} {R : zM} {f : zM → Nat → Int → Option zM} {D9 : Nat} (hf : ∀ {μ : zM} {v1 : Nat} {v2 : Int} {ν : zM}, zH v1 → f μ v1 v2 = some ν → zC g a mX5_tryFlats D9 0 0 [zr 113, zr v1, zi v2] μ (.inl none) ν) {d : Nat} (hd : D9 + 2 ≤ d) (hB : 3 ≤ D9)  (A_v1 : zH v1) (he : ∀ (m : zM), R = m → Z g a mX5_tryFlats d kc ks 85 [some (zr 113), some (zr v1), some (zi v2), none] [] m o ν) : ∀ (n : Nat) (μ : zM) (v3 : Int), qP_tryFlats_l31 f v1 v2 n μ v3 = some R → Z g a mX5_tryFlats d kc ks 31 [some (zr 113), some (zr v1), some (zi v2), some (zi v3)] [] μ o ν := by
  intro n
  induction n with
  | zero => intro μ v3 hq; cases hq
  | succ n ih =>
    intro μ v3 hq
    rw [qP_tryFlats_l31] at hq
    refine z_iload_n 32 dX5_tryFlats_31 rfl rfl ?_
    refine z_aload_n 33 dX5_tryFlats_32 rfl rfl ?_
    refine z_getI (x := (μ v1 0)) 36 dX5_tryFlats_33 rfl f_RX5_45 A_v1.a0 rfl ?_
    refine z_icmp_ge 85 39 dX5_tryFlats_36 rfl rfl (fun hc => ?_) (fun hc => ?_)
    · replace hq := z_in hq (Int.not_lt.mpr hc)
      exact Z.sub (zle_s (zle_s (zle_s (zle_n zle_nil)))) (he _ (Option.some.inj hq).symm)
    · replace hq := z_ip hq hc
      refine z_aload_n 40 dX5_tryFlats_39 rfl rfl ?_
      refine z_getR (e := 16) (r := 129) 43 dX5_tryFlats_40 rfl f_RX5_23 ar_113 rfl ar_129.1 ?_
      refine z_iload_n 44 dX5_tryFlats_43 rfl rfl ?_
      obtain ⟨hg44, hq⟩ := z_g hq
      refine z_iaload (x := (μ 129 v3)) 45 dX5_tryFlats_44 rfl ar_129 hg44 rfl ?_
      refine z_iconst 46 dX5_tryFlats_45 rfl (by decide) ?_
      refine z_icmp_ne 79 49 dX5_tryFlats_46 rfl rfl (fun hc => ?_) (fun hc => ?_)
      · replace hq := z_in hq hc
        refine z_iinc (r := (wr (v3 + 1))) (L' := [some (zr 113), some (zr v1), some (zi v2), some (zi (wr (v3 + 1)))]) 82 dX5_tryFlats_79 rfl rfl rfl rfl rfl rfl ?_
        refine z_goto 31 dX5_tryFlats_82 rfl ?_
        exact Z.sub (zle_s (zle_s (zle_s (zle_s zle_nil)))) (ih _ _ hq)
      · replace hq := z_ip hq hc
        refine z_aload_n 50 dX5_tryFlats_49 rfl rfl ?_
        refine z_iload_n 51 dX5_tryFlats_50 rfl rfl ?_
        refine z_iload_n 52 dX5_tryFlats_51 rfl rfl ?_
        obtain ⟨a2, h2, hq⟩ := z_b hq
        refine z_callV1 (as := [zi v2, zi v3]) (S := []) 55 dX5_tryFlats_52 rfl (Q_qH_canAfford A_v1 h2) kX2_canAfford ⟨_, _, rfl⟩ A_v1.a0 l_RX5_60 (Nat.ble_eq.mpr (by omega)) rfl rfl rfl rfl rfl rfl ?_
        refine z_if_eq 79 58 dX5_tryFlats_55 rfl rfl (fun hc => ?_) (fun hc => ?_)
        · replace hq := z_ip hq hc
          refine z_iinc (r := (wr (v3 + 1))) (L' := [some (zr 113), some (zr v1), some (zi v2), some (zi (wr (v3 + 1)))]) 82 dX5_tryFlats_79 rfl rfl rfl rfl rfl rfl ?_
          refine z_goto 31 dX5_tryFlats_82 rfl ?_
          exact Z.sub (zle_s (zle_s (zle_s (zle_s zle_nil)))) (ih _ _ hq)
        · replace hq := z_in hq hc
          refine z_aload_n 59 dX5_tryFlats_58 rfl rfl ?_
          refine z_getR (e := 16) (r := 129) 62 dX5_tryFlats_59 rfl f_RX5_23 ar_113 rfl ar_129.1 ?_
          refine z_iload_n 63 dX5_tryFlats_62 rfl rfl ?_
          refine z_iload_n 64 dX5_tryFlats_63 rfl rfl ?_
          obtain ⟨hg64, hq⟩ := z_g hq
          obtain ⟨m3, em3, hq⟩ := z_m hq
          refine z_iastore 65 dX5_tryFlats_64 rfl ar_129 hg64 em3 ?_
          refine z_aload_n 66 dX5_tryFlats_65 rfl rfl ?_
          refine z_aload_n 67 dX5_tryFlats_66 rfl rfl ?_
          refine z_iload_n 68 dX5_tryFlats_67 rfl rfl ?_
          refine z_iload_n 69 dX5_tryFlats_68 rfl rfl ?_
          obtain ⟨m4, h4, hq⟩ := z_b hq
          refine z_callV0 (as := [zr v1, zi v2, zi v3]) (S := []) 72 dX5_tryFlats_69 rfl (Q_qP_tryRest hf hB A_v1 h4) kX5_tryRest ⟨_, _, rfl⟩ ar_113 l_RX5_81 (Nat.ble_eq.mpr (by omega)) rfl rfl rfl rfl rfl rfl ?_
          refine z_aload_n 73 dX5_tryFlats_72 rfl rfl ?_
          refine z_getR (e := 16) (r := 129) 76 dX5_tryFlats_73 rfl f_RX5_23 ar_113 rfl ar_129.1 ?_
          refine z_iload_n 77 dX5_tryFlats_76 rfl rfl ?_
          refine z_iconst 78 dX5_tryFlats_77 rfl (by decide) ?_
          obtain ⟨hg78, hq⟩ := z_g hq
          obtain ⟨m5, em5, hq⟩ := z_m hq
          refine z_iastore 79 dX5_tryFlats_78 rfl ar_129 hg78 em5 ?_
          refine z_iinc (r := (wr (v3 + 1))) (L' := [some (zr 113), some (zr v1), some (zi v2), some (zi (wr (v3 + 1)))]) 82 dX5_tryFlats_79 rfl rfl rfl rfl rfl rfl ?_
          refine z_goto 31 dX5_tryFlats_82 rfl ?_
          exact Z.sub (zle_s (zle_s (zle_s (zle_s zle_nil)))) (ih _ _ hq)
set_option maxRecDepth 100000 in
set_option maxHeartbeats 4000000 in
theorem Q_qP_tryFlats_b {g : yG} {a : Nat → Nat} {μ : zM} {v1 : Nat} {v2 : Int} {ν : zM} {f : zM → Nat → Int → Option zM} {D9 : Nat} (hf : ∀ {μ : zM} {v1 : Nat} {v2 : Int} {ν : zM}, zH v1 → f μ v1 v2 = some ν → zC g a mX5_tryFlats D9 0 0 [zr 113, zr v1, zi v2] μ (.inl none) ν) {d : Nat} (hd : D9 + 2 ≤ d) (hB : 3 ≤ D9) (A_v1 : zH v1) (hq : qP_tryFlats_b f μ v1 v2 = some ν) : zC g a mX5_tryFlats d 0 0 [zr 113, zr v1, zi v2] μ (.inl none) ν := by
  unfold qP_tryFlats_b at hq
  refine z_of (L := [some (zr 113), some (zr v1), some (zi v2), none]) pl_RX5 rfl (zc_of rfl) rfl rfl ?_
  refine z_iload_n 1 dX5_tryFlats_0 rfl rfl ?_
  refine z_aload_n 2 dX5_tryFlats_1 rfl rfl ?_
  refine z_getI (x := (μ v1 3)) 5 dX5_tryFlats_2 rfl f_RX5_40 A_v1.a0 rfl ?_
  refine z_icmp_lt 22 8 dX5_tryFlats_5 rfl rfl (fun hc => ?_) (fun hc => ?_)
  · replace hq := z_ip hq hc
    refine z_aload_n 23 dX5_tryFlats_22 rfl rfl ?_
    refine z_aload_n 24 dX5_tryFlats_23 rfl rfl ?_
    refine z_iload_n 25 dX5_tryFlats_24 rfl rfl ?_
    refine z_iconst 26 dX5_tryFlats_25 rfl (by decide) ?_
    obtain ⟨m1, h1, hq⟩ := z_b hq
    refine z_callV0 (as := [zr v1, zi v2, zi (-1)]) (S := []) 29 dX5_tryFlats_26 rfl (Q_qP_tryRest hf hB A_v1 h1) kX5_tryRest ⟨_, _, rfl⟩ ar_113 l_RX5_81 (Nat.ble_eq.mpr (by omega)) rfl rfl rfl rfl rfl rfl ?_
    refine z_iconst 30 dX5_tryFlats_29 rfl (by decide) ?_
    refine z_istore_n (L' := [some (zr 113), some (zr v1), some (zi v2), some (zi 0)]) 31 dX5_tryFlats_30 rfl rfl rfl rfl ?_
    obtain ⟨m6, h6, hq⟩ := z_b hq
    refine Z.sub (zle_s (zle_s (zle_s (zle_s zle_nil)))) (L_qP_tryFlats_l31 hf hd hB A_v1 (R := m6) (fun _ e => ?_) _ _ _ h6)
    cases e
    cases hq
    exact z_return rfl dX5_tryFlats_85
  · replace hq := z_in hq (Int.not_lt.mpr hc)
    refine z_aload_n 9 dX5_tryFlats_8 rfl rfl ?_
    refine z_aload_n 10 dX5_tryFlats_9 rfl rfl ?_
    obtain ⟨a7, h7, hq⟩ := z_b hq
    refine z_callV1 (as := [zr v1]) (S := []) 13 dX5_tryFlats_10 rfl (Q_qP_isFreeFlatWanted A_v1 h7) kX5_isFreeFlatWanted ⟨_, _, rfl⟩ ar_113 l_RX5_74 (Nat.ble_eq.mpr (by omega)) rfl rfl rfl rfl rfl rfl ?_
    refine z_if_ne 21 16 dX5_tryFlats_13 rfl rfl (fun hc => ?_) (fun hc => ?_)
    · replace hq := z_in hq hc
      cases hq
      exact z_return rfl dX5_tryFlats_21
    · replace hq := z_ip hq hc
      refine z_aload_n 17 dX5_tryFlats_16 rfl rfl ?_
      refine z_aload_n 18 dX5_tryFlats_17 rfl rfl ?_
      obtain ⟨m8, h8, hq⟩ := z_b hq
      refine z_callV0 (as := [zr v1]) (S := []) 21 dX5_tryFlats_18 rfl (Q_qP_keepStable A_v1 h8) kX5_keepStable ⟨_, _, rfl⟩ ar_113 l_RX5_78 (Nat.ble_eq.mpr (by omega)) rfl rfl rfl rfl rfl rfl ?_
      cases hq
      exact z_return rfl dX5_tryFlats_21
set_option maxRecDepth 100000 in
set_option maxHeartbeats 4000000 in
theorem Q_qP_tryFlats {g : yG} {a : Nat → Nat} : ∀ (n d : Nat), 3 + 2 * n ≤ d → ∀ {μ : zM} {v1 : Nat} {v2 : Int} {ν : zM}, zH v1 → qP_tryFlats n μ v1 v2 = some ν → zC g a mX5_tryFlats d 0 0 [zr 113, zr v1, zi v2] μ (.inl none) ν := by
  intro n
  induction n with
  | zero => intro d hd μ _ _ _ A_v1 hq; cases hq
  | succ n ih =>
    intro d hd μ _ _ _ A_v1 hq
    rw [qP_tryFlats] at hq
    exact Q_qP_tryFlats_b (f := qP_tryFlats n) (D9 := 3 + 2 * n) (ih (3 + 2 * n) (Nat.le_refl _)) (by omega) (by omega) A_v1 hq
set_option maxRecDepth 100000 in
set_option maxHeartbeats 4000000 in
theorem Q_qP_tryAll {g : yG} {a : Nat → Nat} {μ : zM} {v1 : Nat} {ν : zM} (A_v1 : zH v1) (hq : qP_tryAll μ v1 = some ν) : zC g a mX5_tryAll 44 0 0 [zr 113, zr v1] μ (.inl none) ν := by
  unfold qP_tryAll at hq
  refine z_of (L := [some (zr 113), some (zr v1)]) pl_RX5 rfl (zc_of rfl) rfl rfl ?_
  refine z_aload_n 1 dX5_tryAll_0 rfl rfl ?_
  refine z_aload_n 2 dX5_tryAll_1 rfl rfl ?_
  obtain ⟨m1, h1, hq⟩ := z_b hq
  refine z_callV0 (as := [zr v1]) (S := []) 5 dX5_tryAll_2 rfl (Q_qP_begin A_v1 h1) kX5_begin ⟨_, _, rfl⟩ ar_113 l_RX5_52 rfl rfl rfl rfl rfl rfl rfl ?_
  refine z_aload_n 6 dX5_tryAll_5 rfl rfl ?_
  refine z_getR (e := 18) (r := 131) 9 dX5_tryAll_6 rfl f_RX5_29 ar_113 rfl ar_131.1 ?_
  refine z_iconst 10 dX5_tryAll_9 rfl (by decide) ?_
  obtain ⟨m2, h2, hq⟩ := z_b hq
  refine z_callN0 (as := [zr 131, zi (-1)]) (S := []) 13 dX5_tryAll_10 rfl (Q_qT_fill ar_131 h2) kX9_fill n_RX5_36 rfl rfl rfl rfl rfl rfl rfl ?_
  refine z_aload_n 14 dX5_tryAll_13 rfl rfl ?_
  refine z_iconst 15 dX5_tryAll_14 rfl (by decide) ?_
  obtain ⟨m3, em3, hq⟩ := z_m hq
  refine z_putI 18 dX5_tryAll_15 rfl p_RX5_32 ar_113 em3 ?_
  refine z_aload_n 19 dX5_tryAll_18 rfl rfl ?_
  refine z_aload_n 20 dX5_tryAll_19 rfl rfl ?_
  refine z_iconst 21 dX5_tryAll_20 rfl (by decide) ?_
  obtain ⟨m4, h4, hq⟩ := z_b hq
  refine z_callV0 (as := [zr v1, zi 0]) (S := []) 24 dX5_tryAll_21 rfl (Q_qP_tryFlats 20 43 (by decide) A_v1 h4) kX5_tryFlats ⟨_, _, rfl⟩ ar_113 l_RX5_70 rfl rfl rfl rfl rfl rfl rfl ?_
  cases hq
  exact z_return rfl dX5_tryAll_24
set_option maxRecDepth 100000 in
set_option maxHeartbeats 4000000 in
theorem Q_qP_planByPlans {g : yG} {a : Nat → Nat} {μ : zM} {v1 : Nat} {ν : zM} (A_v1 : zH v1) (hq : qP_planByPlans μ v1 = some ν) : zC g a mX5_planByPlans 45 0 0 [zr 113, zr v1] μ (.inl (some (zr 131))) ν := by
  unfold qP_planByPlans at hq
  refine z_of (L := [some (zr 113), some (zr v1)]) pl_RX5 rfl (zc_of rfl) rfl rfl ?_
  refine z_aload_n 1 dX5_planByPlans_0 rfl rfl ?_
  refine z_aload_n 2 dX5_planByPlans_1 rfl rfl ?_
  obtain ⟨m1, h1, hq⟩ := z_b hq
  refine z_callV0 (as := [zr v1]) (S := []) 5 dX5_planByPlans_2 rfl (Q_qP_tryAll A_v1 h1) kX5_tryAll ⟨_, _, rfl⟩ ar_113 l_RX5_67 rfl rfl rfl rfl rfl rfl rfl ?_
  refine z_aload_n 6 dX5_planByPlans_5 rfl rfl ?_
  refine z_getR (e := 18) (r := 131) 9 dX5_planByPlans_6 rfl f_RX5_29 ar_113 rfl ar_131.1 ?_
  cases hq
  exact z_areturn rfl (Or.inr ⟨_, rfl⟩) dX5_planByPlans_9
set_option maxRecDepth 100000 in
set_option maxHeartbeats 4000000 in
theorem Q_qT_plannedFlatByPlans {g : yG} {a : Nat → Nat} {μ : zM} {v1 : Int} {r : Int ⊕ Nat} {ν : zM}  (hq : qT_plannedFlatByPlans μ v1 = some (r, ν)) : zC g a mX9_plannedFlatByPlans 46 2 12 [zr 0, zi v1] μ (zri r) ν := by
  unfold qT_plannedFlatByPlans at hq
  refine z_of (L := [some (zr 0), some (zi v1), none]) pl_RX9 rfl (zc_of rfl) rfl rfl ?_
  refine z_aload_n 1 dX9_plannedFlatByPlans_0 rfl rfl ?_
  refine z_iload_n 2 dX9_plannedFlatByPlans_1 rfl rfl ?_
  rcases z_tc hq with ⟨a1, m1, h1, hq⟩ | ⟨ex1, h1, rfl⟩
  · refine z_callV1 (as := [zi v1]) (S := []) (kc := 1) (ks := 6) 5 dX9_plannedFlatByPlans_2 rfl (Q_qT_presentSlot  h1) kX9_presentSlot ⟨_, _, rfl⟩ ar_0 l_RX9_181 rfl rfl rfl rfl rfl rfl rfl ?_
    refine z_istore_n (L' := [some (zr 0), some (zi v1), some (zi a1)]) 6 dX9_plannedFlatByPlans_5 rfl rfl rfl rfl ?_
    refine z_aload_n 7 dX9_plannedFlatByPlans_6 rfl rfl ?_
    refine z_getR (e := 113) (r := 113) 10 dX9_plannedFlatByPlans_7 rfl f_RX9_32 ar_0 rfl ar_113.1 ?_
    refine z_aload_n 11 dX9_plannedFlatByPlans_10 rfl rfl ?_
    refine z_getR (e := 1) (r := 1) 14 dX9_plannedFlatByPlans_11 rfl f_RX9_12 ar_0 rfl ar_1.1 ?_
    obtain ⟨m2, h2, hq⟩ := z_b hq
    refine z_callV1 (as := [zr 1]) (S := []) (kc := 1) (ks := 6) 17 dX9_plannedFlatByPlans_14 rfl (Q_qP_planByPlans zH_1 h2) kX5_planByPlans ⟨_, _, rfl⟩ ar_113 l_RX9_227 rfl rfl rfl rfl rfl rfl rfl ?_
    refine z_iload_n 18 dX9_plannedFlatByPlans_17 rfl rfl ?_
    obtain ⟨hg18, hq⟩ := z_g hq
    refine z_iaload (x := (m2 131 a1)) 19 dX9_plannedFlatByPlans_18 rfl ar_131 hg18 rfl ?_
    rcases z_tc hq with ⟨a3, m3, h3, hq⟩ | ⟨ex3, h3, rfl⟩
    · refine z_callS1 (as := [zi (m2 131 a1)]) (S := []) (kc := 0) (ks := 0) 22 dX9_plannedFlatByPlans_19 rfl (Q_qT_requireGiven  h3) kX9_requireGiven l_RX9_224 rfl rfl rfl rfl rfl rfl rfl ?_
      cases hq
      exact z_ireturn rfl dX9_plannedFlatByPlans_22
    · exact z_callSX (e := ex3) (as := [zi (m2 131 a1)]) (S := []) (kc := 0) (ks := 0) dX9_plannedFlatByPlans_19 (Q_qT_requireGiven  h3) kX9_requireGiven l_RX9_224 rfl rfl rfl rfl rfl rfl rfl
  · exact z_callVX (e := ex1) (as := [zi v1]) (S := []) (kc := 1) (ks := 6) dX9_plannedFlatByPlans_2 (Q_qT_presentSlot  h1) kX9_presentSlot ⟨_, _, rfl⟩ ar_0 l_RX9_181 rfl rfl rfl rfl rfl rfl rfl
set_option maxRecDepth 100000 in
set_option maxHeartbeats 4000000 in
theorem Q_qP_countStable {g : yG} {a : Nat → Nat} {μ : zM} {v1 : Nat} {r : Int} {ν : zM} (A_v1 : zH v1) (hq : qP_countStable μ v1 = some (r, ν)) : zC g a mX5_countStable 45 0 0 [zr 113, zr v1] μ (.inl (some (zi r))) ν := by
  unfold qP_countStable at hq
  refine z_of (L := [some (zr 113), some (zr v1)]) pl_RX5 rfl (zc_of rfl) rfl rfl ?_
  refine z_aload_n 1 dX5_countStable_0 rfl rfl ?_
  refine z_aload_n 2 dX5_countStable_1 rfl rfl ?_
  obtain ⟨m1, h1, hq⟩ := z_b hq
  refine z_callV0 (as := [zr v1]) (S := []) 5 dX5_countStable_2 rfl (Q_qP_tryAll A_v1 h1) kX5_tryAll ⟨_, _, rfl⟩ ar_113 l_RX5_67 rfl rfl rfl rfl rfl rfl rfl ?_
  refine z_aload_n 6 dX5_countStable_5 rfl rfl ?_
  refine z_getI (x := (m1 113 6)) 9 dX5_countStable_6 rfl f_RX5_32 ar_113 rfl ?_
  cases hq
  exact z_ireturn rfl dX5_countStable_9
set_option maxRecDepth 100000 in
set_option maxHeartbeats 4000000 in
theorem Q_qT_stablePlans {g : yG} {a : Nat → Nat} {μ : zM}  {r : Int} {ν : zM}  (hq : qT_stablePlans μ = some (r, ν)) : zC g a mX9_stablePlans 46 0 0 [zr 0] μ (.inl (some (zi r))) ν := by
  unfold qT_stablePlans at hq
  refine z_of (L := [some (zr 0)]) pl_RX9 rfl (zc_of rfl) rfl rfl ?_
  refine z_aload_n 1 dX9_stablePlans_0 rfl rfl ?_
  refine z_getR (e := 113) (r := 113) 4 dX9_stablePlans_1 rfl f_RX9_32 ar_0 rfl ar_113.1 ?_
  refine z_aload_n 5 dX9_stablePlans_4 rfl rfl ?_
  refine z_getR (e := 1) (r := 1) 8 dX9_stablePlans_5 rfl f_RX9_12 ar_0 rfl ar_1.1 ?_
  obtain ⟨a1, m1, h1, hq⟩ := bnd2_some hq
  refine z_callV1 (as := [zr 1]) (S := []) 11 dX9_stablePlans_8 rfl (Q_qP_countStable zH_1 h1) kX5_countStable ⟨_, _, rfl⟩ ar_113 l_RX9_230 rfl rfl rfl rfl rfl rfl rfl ?_
  cases hq
  exact z_ireturn rfl dX9_stablePlans_11
set_option maxRecDepth 100000 in
set_option maxHeartbeats 4000000 in
theorem J_qP_isHouseStable_j45 {g : yG} {a : Nat → Nat} {μ ν : zM} {o : zO} {kc ks : Nat} {v1 : Nat} {v2 : Int} {v3 : Int} {rec : zM → Int → Option ((Int ⊕ Unit) × zM)} {R : (Int ⊕ Unit) × zM}  (A_v1 : zH v1) (hr : ∀ (x : Int) (m : zM), R = (.inl x, m) → o = .inl (some (zi x)) ∧ ν = m) (he : ∀ (tz : Unit) (m : zM), R = (.inr tz, m) → Z g a mX5_isHouseStable 4 kc ks 69 [some (zr 113), some (zr v1), none, none] [] m o ν) (hrec : ∀ (μ : zM) (v2 : Int), rec μ v2 = some R → Z g a mX5_isHouseStable 4 kc ks 7 [some (zr 113), some (zr v1), some (zi v2), none] [] μ o ν) (hq : qP_isHouseStable_j45 rec μ v1 v2 v3 = some R) : Z g a mX5_isHouseStable 4 kc ks 45 [some (zr 113), some (zr v1), some (zi v2), some (zi v3)] [] μ o ν := by
  unfold qP_isHouseStable_j45 at hq
  refine z_aload_n 46 dX5_isHouseStable_45 rfl rfl ?_
  refine z_getR (e := 15) (r := 128) 49 dX5_isHouseStable_46 rfl f_RX5_19 ar_113 rfl ar_128.1 ?_
  refine z_iload_n 50 dX5_isHouseStable_49 rfl rfl ?_
  refine z_iload_n 51 dX5_isHouseStable_50 rfl rfl ?_
  obtain ⟨hg51, hq⟩ := z_g hq
  obtain ⟨m2, em2, hq⟩ := z_m hq
  refine z_iastore 52 dX5_isHouseStable_51 rfl ar_128 hg51 em2 ?_
  refine z_aload_n 53 dX5_isHouseStable_52 rfl rfl ?_
  refine z_aload_n 54 dX5_isHouseStable_53 rfl rfl ?_
  refine z_iload_n 55 dX5_isHouseStable_54 rfl rfl ?_
  obtain ⟨a3, h3, hq⟩ := z_b hq
  refine z_callV1 (as := [zr v1, zi v2]) (S := []) 58 dX5_isHouseStable_55 rfl (Q_qP_clashes A_v1 h3) kX5_clashes ⟨_, _, rfl⟩ ar_113 l_RX5_85 rfl rfl rfl rfl rfl rfl rfl ?_
  refine z_if_eq 63 61 dX5_isHouseStable_58 rfl rfl (fun hc => ?_) (fun hc => ?_)
  · replace hq := z_ip hq hc
    refine z_iinc (r := (wr (v2 + 1))) (L' := [some (zr 113), some (zr v1), some (zi (wr (v2 + 1))), some (zi v3)]) 66 dX5_isHouseStable_63 rfl rfl rfl rfl rfl rfl ?_
    refine z_goto 7 dX5_isHouseStable_66 rfl ?_
    exact Z.sub (zle_s (zle_s (zle_s (zle_n zle_nil)))) (hrec _ _ hq)
  · replace hq := z_in hq hc
    refine z_iconst 62 dX5_isHouseStable_61 rfl (by decide) ?_
    obtain ⟨ho, hv⟩ := hr _ _ (Option.some.inj hq).symm
    exact z_conv ho hv (z_zreturn rfl dX5_isHouseStable_62 (by decide))
set_option maxRecDepth 100000 in
set_option maxHeartbeats 4000000 in
theorem L_qP_isHouseStable_l7 {g : yG} {a : Nat → Nat} {ν : zM} {o : zO} {kc ks : Nat} {v1 : Nat} {R : (Int ⊕ Unit) × zM}  (A_v1 : zH v1) (hr : ∀ (x : Int) (m : zM), R = (.inl x, m) → o = .inl (some (zi x)) ∧ ν = m) (he : ∀ (tz : Unit) (m : zM), R = (.inr tz, m) → Z g a mX5_isHouseStable 4 kc ks 69 [some (zr 113), some (zr v1), none, none] [] m o ν) : ∀ (n : Nat) (μ : zM) (v2 : Int), qP_isHouseStable_l7 v1 n μ v2 = some R → Z g a mX5_isHouseStable 4 kc ks 7 [some (zr 113), some (zr v1), some (zi v2), none] [] μ o ν := by
  intro n
  induction n with
  | zero => intro μ v2 hq; cases hq
  | succ n ih =>
    intro μ v2 hq
    rw [qP_isHouseStable_l7] at hq
    refine z_iload_n 8 dX5_isHouseStable_7 rfl rfl ?_
    refine z_aload_n 9 dX5_isHouseStable_8 rfl rfl ?_
    refine z_getI (x := (μ v1 3)) 12 dX5_isHouseStable_9 rfl f_RX5_40 A_v1.a0 rfl ?_
    refine z_icmp_ge 69 15 dX5_isHouseStable_12 rfl rfl (fun hc => ?_) (fun hc => ?_)
    · replace hq := z_in hq (Int.not_lt.mpr hc)
      exact Z.sub (zle_s (zle_s (zle_n (zle_n zle_nil)))) (he _ _ (Option.some.inj hq).symm)
    · replace hq := z_ip hq hc
      refine z_aload_n 16 dX5_isHouseStable_15 rfl rfl ?_
      refine z_getR (e := 9) (r := (v1 + 9)) 19 dX5_isHouseStable_16 rfl f_RX5_101 A_v1.a0 rfl A_v1.a9.1 ?_
      refine z_iload_n 20 dX5_isHouseStable_19 rfl rfl ?_
      obtain ⟨hg20, hq⟩ := z_g hq
      refine z_iaload (x := (μ (v1 + 9) v2)) 21 dX5_isHouseStable_20 rfl A_v1.a9 hg20 rfl ?_
      refine z_istore_n (L' := [some (zr 113), some (zr v1), some (zi v2), some (zi (μ (v1 + 9) v2))]) 22 dX5_isHouseStable_21 rfl rfl rfl rfl ?_
      refine z_iload_n 23 dX5_isHouseStable_22 rfl rfl ?_
      refine z_iconst 24 dX5_isHouseStable_23 rfl (by decide) ?_
      refine z_icmp_eq 45 27 dX5_isHouseStable_24 rfl rfl (fun hc => ?_) (fun hc => ?_)
      · replace hq := z_ip hq hc
        exact Z.sub (zle_s (zle_s (zle_s (zle_s zle_nil)))) (J_qP_isHouseStable_j45 A_v1 hr he ih hq)
      · replace hq := z_in hq hc
        refine z_aload_n 28 dX5_isHouseStable_27 rfl rfl ?_
        refine z_iload_n 29 dX5_isHouseStable_28 rfl rfl ?_
        refine z_iload_n 30 dX5_isHouseStable_29 rfl rfl ?_
        obtain ⟨a4, h4, hq⟩ := z_b hq
        refine z_callV1 (as := [zi v2, zi (μ (v1 + 9) v2)]) (S := []) 33 dX5_isHouseStable_30 rfl (Q_qH_canAfford A_v1 h4) kX2_canAfford ⟨_, _, rfl⟩ A_v1.a0 l_RX5_60 rfl rfl rfl rfl rfl rfl rfl ?_
        refine z_if_ne 38 36 dX5_isHouseStable_33 rfl rfl (fun hc => ?_) (fun hc => ?_)
        · replace hq := z_in hq hc
          refine z_aload_n 39 dX5_isHouseStable_38 rfl rfl ?_
          refine z_getR (e := 16) (r := 129) 42 dX5_isHouseStable_39 rfl f_RX5_23 ar_113 rfl ar_129.1 ?_
          refine z_iload_n 43 dX5_isHouseStable_42 rfl rfl ?_
          refine z_iload_n 44 dX5_isHouseStable_43 rfl rfl ?_
          obtain ⟨hg44, hq⟩ := z_g hq
          obtain ⟨m5, em5, hq⟩ := z_m hq
          refine z_iastore 45 dX5_isHouseStable_44 rfl ar_129 hg44 em5 ?_
          exact Z.sub (zle_s (zle_s (zle_s (zle_s zle_nil)))) (J_qP_isHouseStable_j45 A_v1 hr he ih hq)
        · replace hq := z_ip hq hc
          refine z_iconst 37 dX5_isHouseStable_36 rfl (by decide) ?_
          obtain ⟨ho, hv⟩ := hr _ _ (Option.some.inj hq).symm
          exact z_conv ho hv (z_zreturn rfl dX5_isHouseStable_37 (by decide))
set_option maxRecDepth 100000 in
set_option maxHeartbeats 4000000 in
theorem Q_qP_isHouseStable {g : yG} {a : Nat → Nat} {μ : zM} {v1 : Nat} {r : Int} {ν : zM} (A_v1 : zH v1) (hq : qP_isHouseStable μ v1 = some (r, ν)) : zC g a mX5_isHouseStable 4 0 0 [zr 113, zr v1] μ (.inl (some (zi r))) ν := by
  unfold qP_isHouseStable at hq
  refine z_of (L := [some (zr 113), some (zr v1), none, none]) pl_RX5 rfl (zc_of rfl) rfl rfl ?_
  refine z_aload_n 1 dX5_isHouseStable_0 rfl rfl ?_
  refine z_aload_n 2 dX5_isHouseStable_1 rfl rfl ?_
  obtain ⟨m1, h1, hq⟩ := z_b hq
  refine z_callV0 (as := [zr v1]) (S := []) 5 dX5_isHouseStable_2 rfl (Q_qP_begin A_v1 h1) kX5_begin ⟨_, _, rfl⟩ ar_113 l_RX5_52 rfl rfl rfl rfl rfl rfl rfl ?_
  refine z_iconst 6 dX5_isHouseStable_5 rfl (by decide) ?_
  refine z_istore_n (L' := [some (zr 113), some (zr v1), some (zi 0), none]) 7 dX5_isHouseStable_6 rfl rfl rfl rfl ?_
  rcases bndS2_some hq with ⟨x6, m6, h6, hq⟩ | ⟨t6, m6, h6, hq⟩
  · exact Z.sub (zle_s (zle_s (zle_s (zle_n zle_nil)))) (L_qP_isHouseStable_l7 A_v1 (R := (.inl x6, m6)) (fun _ _ e => by cases e; cases hq; exact ⟨rfl, rfl⟩) (fun _ _ e => by cases e) _ _ _ h6)
  · refine Z.sub (zle_s (zle_s (zle_s (zle_n zle_nil)))) (L_qP_isHouseStable_l7 A_v1 (R := (.inr t6, m6)) (fun _ _ e => by cases e) (fun _ _ e => ?_) _ _ _ h6)
    cases e
    refine z_aload_n 70 dX5_isHouseStable_69 rfl rfl ?_
    refine z_aload_n 71 dX5_isHouseStable_70 rfl rfl ?_
    obtain ⟨a7, h7, hq⟩ := z_b hq
    refine z_callV1 (as := [zr v1]) (S := []) 74 dX5_isHouseStable_71 rfl (Q_qP_isFreeFlatWanted A_v1 h7) kX5_isFreeFlatWanted ⟨_, _, rfl⟩ ar_113 l_RX5_74 rfl rfl rfl rfl rfl rfl rfl ?_
    refine z_if_ne 81 77 dX5_isHouseStable_74 rfl rfl (fun hc => ?_) (fun hc => ?_)
    · replace hq := z_in hq hc
      refine z_iconst 82 dX5_isHouseStable_81 rfl (by decide) ?_
      cases hq
      exact z_zreturn rfl dX5_isHouseStable_82 (by decide)
    · replace hq := z_ip hq hc
      refine z_iconst 78 dX5_isHouseStable_77 rfl (by decide) ?_
      refine z_goto 82 dX5_isHouseStable_78 rfl ?_
      cases hq
      exact z_zreturn rfl dX5_isHouseStable_82 (by decide)
set_option maxRecDepth 100000 in
set_option maxHeartbeats 4000000 in
theorem Q_qT_isStable {g : yG} {a : Nat → Nat} {μ : zM}  {r : Int} {ν : zM}  (hq : qT_isStable μ = some (r, ν)) : zC g a mX9_isStable 5 0 0 [zr 0] μ (.inl (some (zi r))) ν := by
  unfold qT_isStable at hq
  refine z_of (L := [some (zr 0)]) pl_RX9 rfl (zc_of rfl) rfl rfl ?_
  refine z_aload_n 1 dX9_isStable_0 rfl rfl ?_
  refine z_getR (e := 113) (r := 113) 4 dX9_isStable_1 rfl f_RX9_32 ar_0 rfl ar_113.1 ?_
  refine z_aload_n 5 dX9_isStable_4 rfl rfl ?_
  refine z_getR (e := 1) (r := 1) 8 dX9_isStable_5 rfl f_RX9_12 ar_0 rfl ar_1.1 ?_
  obtain ⟨a1, m1, h1, hq⟩ := bnd2_some hq
  refine z_callV1 (as := [zr 1]) (S := []) 11 dX9_isStable_8 rfl (Q_qP_isHouseStable zH_1 h1) kX5_isHouseStable ⟨_, _, rfl⟩ ar_113 l_RX9_233 rfl rfl rfl rfl rfl rfl rfl ?_
  obtain ⟨hgr, hq⟩ := z_g hq
  cases hq
  exact z_zreturn rfl dX9_isStable_11 hgr
set_option maxRecDepth 100000 in
set_option maxHeartbeats 4000000 in
theorem Q_qT_chainLength {g : yG} {a : Nat → Nat} {μ : zM} {v1 : Int} {r : Int ⊕ Nat} {ν : zM}  (hq : qT_chainLength μ v1 = some (r, ν)) : zC g a mX9_chainLength 4 2 12 [zr 0, zi v1] μ (zri r) ν := by
  unfold qT_chainLength at hq
  refine z_of (L := [some (zr 0), some (zi v1), none]) pl_RX9 rfl (zc_of rfl) rfl rfl ?_
  refine z_aload_n 1 dX9_chainLength_0 rfl rfl ?_
  refine z_iload_n 2 dX9_chainLength_1 rfl rfl ?_
  rcases z_tc hq with ⟨a1, m1, h1, hq⟩ | ⟨ex1, h1, rfl⟩
  · refine z_callV1 (as := [zi v1]) (S := []) (kc := 0) (ks := 0) 5 dX9_chainLength_2 rfl (Q_qT_housedSlot  h1) kX9_housedSlot ⟨_, _, rfl⟩ ar_0 l_RX9_193 rfl rfl rfl rfl rfl rfl rfl ?_
    refine z_istore_n (L' := [some (zr 0), some (zi v1), some (zi a1)]) 6 dX9_chainLength_5 rfl rfl rfl rfl ?_
    refine z_aload_n 7 dX9_chainLength_6 rfl rfl ?_
    refine z_getR (e := 11) (r := 11) 10 dX9_chainLength_7 rfl f_RX9_16 ar_0 rfl ar_11.1 ?_
    refine z_aload_n 11 dX9_chainLength_10 rfl rfl ?_
    refine z_getR (e := 1) (r := 1) 14 dX9_chainLength_11 rfl f_RX9_12 ar_0 rfl ar_1.1 ?_
    obtain ⟨m2, h2, hq⟩ := z_b hq
    refine z_callV0 (as := [zr 1]) (S := []) (kc := 0) (ks := 0) 17 dX9_chainLength_14 rfl (Q_qH_copyFrom zH_11 zH_1 h2) kX2_copyFrom ⟨_, _, rfl⟩ ar_11 l_RX9_237 rfl rfl rfl rfl rfl rfl rfl ?_
    refine z_aload_n 18 dX9_chainLength_17 rfl rfl ?_
    refine z_getR (e := 11) (r := 11) 21 dX9_chainLength_18 rfl f_RX9_16 ar_0 rfl ar_11.1 ?_
    refine z_iload_n 22 dX9_chainLength_21 rfl rfl ?_
    obtain ⟨a3, m3, h3, hq⟩ := bnd2_some hq
    refine z_callV1 (as := [zi a1]) (S := []) (kc := 0) (ks := 0) 25 dX9_chainLength_22 rfl (Q_qH_leaveHome zH_11 h3) kX2_leaveHome ⟨_, _, rfl⟩ ar_11 l_RX9_115 rfl rfl rfl rfl rfl rfl rfl ?_
    cases hq
    exact z_ireturn rfl dX9_chainLength_25
  · exact z_callVX (e := ex1) (as := [zi v1]) (S := []) (kc := 0) (ks := 0) dX9_chainLength_2 (Q_qT_housedSlot  h1) kX9_housedSlot ⟨_, _, rfl⟩ ar_0 l_RX9_193 rfl rfl rfl rfl rfl rfl rfl
set_option maxRecDepth 100000 in
set_option maxHeartbeats 4000000 in
theorem L_qT_monthsUntilEviction_l13 {g : yG} {a : Nat → Nat} {ν : zM} {o : zO} {kc ks : Nat}  {R : (Int ⊕ Unit) × zM}   (hr : ∀ (x : Int) (m : zM), R = (.inl x, m) → o = .inl (some (zi x)) ∧ ν = m) (he : ∀ (tz : Unit) (m : zM), R = (.inr tz, m) → Z g a mX9_monthsUntilEviction 6 kc ks 38 [some (zr 0), none] [] m o ν) : ∀ (n : Nat) (μ : zM) (v1 : Int), qT_monthsUntilEviction_l13 n μ v1 = some R → Z g a mX9_monthsUntilEviction 6 kc ks 13 [some (zr 0), some (zi v1)] [] μ o ν := by
  intro n
  induction n with
  | zero => intro μ v1 hq; cases hq
  | succ n ih =>
    intro μ v1 hq
    rw [qT_monthsUntilEviction_l13] at hq
    refine z_iload_n 14 dX9_monthsUntilEviction_13 rfl rfl ?_
    refine z_bipush 16 dX9_monthsUntilEviction_14 rfl (by decide) (by decide) ?_
    refine z_icmp_gt 38 19 dX9_monthsUntilEviction_16 rfl rfl (fun hc => ?_) (fun hc => ?_)
    · replace hq := z_ip hq hc
      exact Z.sub (zle_s (zle_n zle_nil)) (he _ _ (Option.some.inj hq).symm)
    · replace hq := z_in hq (Int.not_lt.mpr hc)
      refine z_aload_n 20 dX9_monthsUntilEviction_19 rfl rfl ?_
      refine z_getR (e := 11) (r := 11) 23 dX9_monthsUntilEviction_20 rfl f_RX9_16 ar_0 rfl ar_11.1 ?_
      refine z_iconst 24 dX9_monthsUntilEviction_23 rfl (by decide) ?_
      obtain ⟨a2, m2, h2, hq⟩ := bnd2_some hq
      refine z_callV1 (as := [zi 1]) (S := []) 27 dX9_monthsUntilEviction_24 rfl (Q_qH_letMonthsPass zH_11 h2) kX2_letMonthsPass ⟨_, _, rfl⟩ ar_11 l_RX9_141 rfl rfl rfl rfl rfl rfl rfl ?_
      refine z_if_le 32 30 dX9_monthsUntilEviction_27 rfl rfl (fun hc => ?_) (fun hc => ?_)
      · replace hq := z_in hq (Int.not_lt.mpr hc)
        refine z_iinc (r := (wr (v1 + 1))) (L' := [some (zr 0), some (zi (wr (v1 + 1)))]) 35 dX9_monthsUntilEviction_32 rfl rfl rfl rfl rfl rfl ?_
        refine z_goto 13 dX9_monthsUntilEviction_35 rfl ?_
        exact Z.sub (zle_s (zle_s zle_nil)) (ih _ _ hq)
      · replace hq := z_ip hq hc
        refine z_iload_n 31 dX9_monthsUntilEviction_30 rfl rfl ?_
        obtain ⟨ho, hv⟩ := hr _ _ (Option.some.inj hq).symm
        exact z_conv ho hv (z_ireturn rfl dX9_monthsUntilEviction_31)
set_option maxRecDepth 100000 in
set_option maxHeartbeats 4000000 in
theorem Q_qT_monthsUntilEviction {g : yG} {a : Nat → Nat} {μ : zM}  {r : Int ⊕ Nat} {ν : zM}  (hq : qT_monthsUntilEviction μ = some (r, ν)) : zC g a mX9_monthsUntilEviction 6 1 6 [zr 0] μ (zri r) ν := by
  unfold qT_monthsUntilEviction at hq
  refine z_of (L := [some (zr 0), none]) pl_RX9 rfl (zc_of rfl) rfl rfl ?_
  refine z_aload_n 1 dX9_monthsUntilEviction_0 rfl rfl ?_
  refine z_getR (e := 11) (r := 11) 4 dX9_monthsUntilEviction_1 rfl f_RX9_16 ar_0 rfl ar_11.1 ?_
  refine z_aload_n 5 dX9_monthsUntilEviction_4 rfl rfl ?_
  refine z_getR (e := 1) (r := 1) 8 dX9_monthsUntilEviction_5 rfl f_RX9_12 ar_0 rfl ar_1.1 ?_
  obtain ⟨m1, h1, hq⟩ := z_b hq
  refine z_callV0 (as := [zr 1]) (S := []) (kc := 1) (ks := 6) 11 dX9_monthsUntilEviction_8 rfl (Q_qH_copyFrom zH_11 zH_1 h1) kX2_copyFrom ⟨_, _, rfl⟩ ar_11 l_RX9_237 rfl rfl rfl rfl rfl rfl rfl ?_
  refine z_iconst 12 dX9_monthsUntilEviction_11 rfl (by decide) ?_
  refine z_istore_n (L' := [some (zr 0), some (zi 1)]) 13 dX9_monthsUntilEviction_12 rfl rfl rfl rfl ?_
  rcases bndS2_some hq with ⟨x3, m3, h3, hq⟩ | ⟨t3, m3, h3, hq⟩
  · exact Z.sub (zle_s (zle_s zle_nil)) (L_qT_monthsUntilEviction_l13  (R := (.inl x3, m3)) (fun _ _ e => by cases e; cases hq; exact ⟨rfl, rfl⟩) (fun _ _ e => by cases e) _ _ _ h3)
  · refine Z.sub (zle_s (zle_s zle_nil)) (L_qT_monthsUntilEviction_l13  (R := (.inr t3, m3)) (fun _ _ e => by cases e) (fun _ _ e => ?_) _ _ _ h3)
    cases e
    cases hq
    exact z_throwN (cls := "java/util/NoSuchElementException") (text := "no tenant is evicted in these months") (names := ["java/lang/Exception"]) (e := 0) tf_0 (yb 638 (by decide +kernel) rfl) (yb 107 (by decide +kernel) rfl) ts_240 (by decide +kernel) t_RX9_165 rfl rfl dX9_monthsUntilEviction_38 dX9_monthsUntilEviction_41 dX9_monthsUntilEviction_42 dX9_monthsUntilEviction_44 dX9_monthsUntilEviction_47 rfl rfl rfl
set_option maxRecDepth 100000 in
set_option maxHeartbeats 4000000 in
theorem Q_qT_month {g : yG} {a : Nat → Nat} {μ : zM}  {r : Int}  (hq : qT_month μ = some r) : zC g a mX9_month 0 0 0 [zr 0] μ (.inl (some (zi r))) μ := by
  unfold qT_month at hq
  refine z_of (L := [some (zr 0)]) pl_RX9 rfl (zc_of rfl) rfl rfl ?_
  refine z_aload_n 1 dX9_month_0 rfl rfl ?_
  refine z_getR (e := 1) (r := 1) 4 dX9_month_1 rfl f_RX9_12 ar_0 rfl ar_1.1 ?_
  refine z_getI (x := (μ 1 12)) 7 dX9_month_4 rfl f_RX9_242 ar_1 rfl ?_
  cases hq
  exact z_ireturn rfl dX9_month_7
set_option maxRecDepth 100000 in
set_option maxHeartbeats 4000000 in
theorem Q_qT_received {g : yG} {a : Nat → Nat} {μ : zM}  {r : Int}  (hq : qT_received μ = some r) : zC g a mX9_received 0 0 0 [zr 0] μ (.inl (some (zl r))) μ := by
  unfold qT_received at hq
  refine z_of (L := [some (zr 0)]) pl_RX9 rfl (zc_of rfl) rfl rfl ?_
  refine z_aload_n 1 dX9_received_0 rfl rfl ?_
  refine z_getR (e := 1) (r := 1) 4 dX9_received_1 rfl f_RX9_12 ar_0 rfl ar_1.1 ?_
  refine z_getJ (x := (μ 1 15)) 7 dX9_received_4 rfl f_RX9_245 ar_1 rfl ?_
  cases hq
  exact z_lreturn rfl dX9_received_7
set_option maxRecDepth 100000 in
set_option maxHeartbeats 4000000 in
theorem L_qH_sumOfParts_l13 {g : yG} {a : Nat → Nat} {μ ν : zM} {o : zO} {kc ks : Nat} {h : Nat} {R : Int}  (A_h : zH h) (he : ∀ (tz : Int), R = tz → Z g a mX2_sumOfParts 0 kc ks 37 [some (zr h), some (zl tz), none, none] [] μ o ν) : ∀ (n : Nat) (v1 : Int) (v3 : Int), qH_sumOfParts_l13 μ h n v1 v3 = some R → Z g a mX2_sumOfParts 0 kc ks 13 [some (zr h), some (zl v1), none, some (zi v3)] [] μ o ν := by
  intro n
  induction n with
  | zero => intro v1 v3 hq; cases hq
  | succ n ih =>
    intro v1 v3 hq
    rw [qH_sumOfParts_l13] at hq
    refine z_iload_n 14 dX2_sumOfParts_13 rfl rfl ?_
    refine z_aload_n 15 dX2_sumOfParts_14 rfl rfl ?_
    refine z_getI (x := (μ h 3)) 18 dX2_sumOfParts_15 rfl f_RX2_22 A_h.a0 rfl ?_
    refine z_icmp_ge 37 21 dX2_sumOfParts_18 rfl rfl (fun hc => ?_) (fun hc => ?_)
    · replace hq := z_in hq (Int.not_lt.mpr hc)
      exact Z.sub (zle_s (zle_s (zle_n (zle_n zle_nil)))) (he _ (Option.some.inj hq).symm)
    · replace hq := z_ip hq hc
      refine z_lload_n 22 dX2_sumOfParts_21 rfl rfl ?_
      refine z_aload_n 23 dX2_sumOfParts_22 rfl rfl ?_
      refine z_getR (e := 7) (r := (h + 7)) 26 dX2_sumOfParts_23 rfl f_RX2_40 A_h.a0 rfl A_h.a7.1 ?_
      refine z_iload_n 27 dX2_sumOfParts_26 rfl rfl ?_
      obtain ⟨hg27, hq⟩ := z_g hq
      refine z_iaload (x := (μ (h + 7) v3)) 28 dX2_sumOfParts_27 rfl A_h.a7 hg27 rfl ?_
      refine z_i2l 29 dX2_sumOfParts_28 rfl ?_
      obtain ⟨hg29, hq⟩ := z_g hq
      refine z_ladd 30 dX2_sumOfParts_29 rfl hg29 ?_
      refine z_lstore_n (L' := [some (zr h), some (zl (v1 + (μ (h + 7) v3))), none, some (zi v3)]) 31 dX2_sumOfParts_30 rfl rfl rfl rfl ?_
      refine z_iinc (r := (wr (v3 + 1))) (L' := [some (zr h), some (zl (v1 + (μ (h + 7) v3))), none, some (zi (wr (v3 + 1)))]) 34 dX2_sumOfParts_31 rfl rfl rfl rfl rfl rfl ?_
      refine z_goto 13 dX2_sumOfParts_34 rfl ?_
      exact Z.sub (zle_s (zle_s (zle_n (zle_s zle_nil)))) (ih _ _ hq)
set_option maxRecDepth 100000 in
set_option maxHeartbeats 4000000 in
theorem Q_qH_sumOfParts {g : yG} {a : Nat → Nat} {μ : zM} {h : Nat} {r : Int} (A_h : zH h) (hq : qH_sumOfParts μ h = some r) : zC g a mX2_sumOfParts 0 0 0 [zr h] μ (.inl (some (zl r))) μ := by
  unfold qH_sumOfParts at hq
  refine z_of (L := [some (zr h), none, none, none]) pl_RX2 rfl (zc_of rfl) rfl rfl ?_
  refine z_aload_n 1 dX2_sumOfParts_0 rfl rfl ?_
  refine z_getJ (x := (μ h 16)) 4 dX2_sumOfParts_1 rfl f_RX2_62 A_h.a0 rfl ?_
  refine z_aload_n 5 dX2_sumOfParts_4 rfl rfl ?_
  refine z_getI (x := (μ h 14)) 8 dX2_sumOfParts_5 rfl f_RX2_55 A_h.a0 rfl ?_
  refine z_i2l 9 dX2_sumOfParts_8 rfl ?_
  obtain ⟨hg9, hq⟩ := z_g hq
  refine z_ladd 10 dX2_sumOfParts_9 rfl hg9 ?_
  refine z_lstore_n (L' := [some (zr h), some (zl ((μ h 16) + (μ h 14))), none, none]) 11 dX2_sumOfParts_10 rfl rfl rfl rfl ?_
  refine z_iconst 12 dX2_sumOfParts_11 rfl (by decide) ?_
  refine z_istore_n (L' := [some (zr h), some (zl ((μ h 16) + (μ h 14))), none, some (zi 0)]) 13 dX2_sumOfParts_12 rfl rfl rfl rfl ?_
  obtain ⟨t1, h1, hq⟩ := z_b hq
  refine Z.sub (zle_s (zle_s (zle_n (zle_s zle_nil)))) (L_qH_sumOfParts_l13 A_h (R := t1) (fun _ e => ?_) _ _ _ h1)
  cases e
  refine z_lload_n 38 dX2_sumOfParts_37 rfl rfl ?_
  cases hq
  exact z_lreturn rfl dX2_sumOfParts_38
set_option maxRecDepth 100000 in
set_option maxHeartbeats 4000000 in
theorem Q_qT_receivedByParts {g : yG} {a : Nat → Nat} {μ : zM}  {r : Int}  (hq : qT_receivedByParts μ = some r) : zC g a mX9_receivedByParts 1 0 0 [zr 0] μ (.inl (some (zl r))) μ := by
  unfold qT_receivedByParts at hq
  refine z_of (L := [some (zr 0)]) pl_RX9 rfl (zc_of rfl) rfl rfl ?_
  refine z_aload_n 1 dX9_receivedByParts_0 rfl rfl ?_
  refine z_getR (e := 1) (r := 1) 4 dX9_receivedByParts_1 rfl f_RX9_12 ar_0 rfl ar_1.1 ?_
  obtain ⟨a1, h1, hq⟩ := z_b hq
  refine z_callV1 (as := []) (S := []) 7 dX9_receivedByParts_4 rfl (Q_qH_sumOfParts zH_1 h1) kX2_sumOfParts ⟨_, _, rfl⟩ ar_1 l_RX9_249 rfl rfl rfl rfl rfl rfl rfl ?_
  cases hq
  exact z_lreturn rfl dX9_receivedByParts_7
set_option maxRecDepth 100000 in
set_option maxHeartbeats 4000000 in
theorem Q_qT_paidRents {g : yG} {a : Nat → Nat} {μ : zM}  {r : Int}  (hq : qT_paidRents μ = some r) : zC g a mX9_paidRents 0 0 0 [zr 0] μ (.inl (some (zi r))) μ := by
  unfold qT_paidRents at hq
  refine z_of (L := [some (zr 0)]) pl_RX9 rfl (zc_of rfl) rfl rfl ?_
  refine z_aload_n 1 dX9_paidRents_0 rfl rfl ?_
  refine z_getR (e := 1) (r := 1) 4 dX9_paidRents_1 rfl f_RX9_12 ar_0 rfl ar_1.1 ?_
  refine z_getI (x := (μ 1 14)) 7 dX9_paidRents_4 rfl f_RX9_253 ar_1 rfl ?_
  cases hq
  exact z_ireturn rfl dX9_paidRents_7
set_option maxRecDepth 100000 in
set_option maxHeartbeats 4000000 in
theorem Q_qT_evictions {g : yG} {a : Nat → Nat} {μ : zM}  {r : Int}  (hq : qT_evictions μ = some r) : zC g a mX9_evictions 0 0 0 [zr 0] μ (.inl (some (zi r))) μ := by
  unfold qT_evictions at hq
  refine z_of (L := [some (zr 0)]) pl_RX9 rfl (zc_of rfl) rfl rfl ?_
  refine z_aload_n 1 dX9_evictions_0 rfl rfl ?_
  refine z_getR (e := 1) (r := 1) 4 dX9_evictions_1 rfl f_RX9_12 ar_0 rfl ar_1.1 ?_
  refine z_getI (x := (μ 1 13)) 7 dX9_evictions_4 rfl f_RX9_256 ar_1 rfl ?_
  cases hq
  exact z_ireturn rfl dX9_evictions_7
set_option maxRecDepth 100000 in
set_option maxHeartbeats 4000000 in
theorem L_qH_sumOfBurdens_l4 {g : yG} {a : Nat → Nat} {μ ν : zM} {o : zO} {kc ks : Nat} {h : Nat} {R : Int}  (A_h : zH h) (he : ∀ (tz : Int), R = tz → Z g a mX2_sumOfBurdens 1 kc ks 42 [some (zr h), some (zi tz), none] [] μ o ν) : ∀ (n : Nat) (v1 : Int) (v2 : Int), qH_sumOfBurdens_l4 μ h n v1 v2 = some R → Z g a mX2_sumOfBurdens 1 kc ks 4 [some (zr h), some (zi v1), some (zi v2)] [] μ o ν := by
  intro n
  induction n with
  | zero => intro v1 v2 hq; cases hq
  | succ n ih =>
    intro v1 v2 hq
    rw [qH_sumOfBurdens_l4] at hq
    refine z_iload_n 5 dX2_sumOfBurdens_4 rfl rfl ?_
    refine z_aload_n 6 dX2_sumOfBurdens_5 rfl rfl ?_
    refine z_getI (x := (μ h 3)) 9 dX2_sumOfBurdens_6 rfl f_RX2_22 A_h.a0 rfl ?_
    refine z_icmp_ge 42 12 dX2_sumOfBurdens_9 rfl rfl (fun hc => ?_) (fun hc => ?_)
    · replace hq := z_in hq (Int.not_lt.mpr hc)
      exact Z.sub (zle_s (zle_s (zle_n zle_nil))) (he _ (Option.some.inj hq).symm)
    · replace hq := z_ip hq hc
      refine z_aload_n 13 dX2_sumOfBurdens_12 rfl rfl ?_
      refine z_getR (e := 9) (r := (h + 9)) 16 dX2_sumOfBurdens_13 rfl f_RX2_46 A_h.a0 rfl A_h.a9.1 ?_
      refine z_iload_n 17 dX2_sumOfBurdens_16 rfl rfl ?_
      obtain ⟨hg17, hq⟩ := z_g hq
      refine z_iaload (x := (μ (h + 9) v2)) 18 dX2_sumOfBurdens_17 rfl A_h.a9 hg17 rfl ?_
      refine z_iconst 19 dX2_sumOfBurdens_18 rfl (by decide) ?_
      refine z_icmp_eq 36 22 dX2_sumOfBurdens_19 rfl rfl (fun hc => ?_) (fun hc => ?_)
      · replace hq := z_ip hq hc
        refine z_iinc (r := (wr (v2 + 1))) (L' := [some (zr h), some (zi v1), some (zi (wr (v2 + 1)))]) 39 dX2_sumOfBurdens_36 rfl rfl rfl rfl rfl rfl ?_
        refine z_goto 4 dX2_sumOfBurdens_39 rfl ?_
        exact Z.sub (zle_s (zle_s (zle_s zle_nil))) (ih _ _ hq)
      · replace hq := z_in hq hc
        refine z_iload_n 23 dX2_sumOfBurdens_22 rfl rfl ?_
        refine z_aload_n 24 dX2_sumOfBurdens_23 rfl rfl ?_
        refine z_iload_n 25 dX2_sumOfBurdens_24 rfl rfl ?_
        refine z_aload_n 26 dX2_sumOfBurdens_25 rfl rfl ?_
        refine z_getR (e := 9) (r := (h + 9)) 29 dX2_sumOfBurdens_26 rfl f_RX2_46 A_h.a0 rfl A_h.a9.1 ?_
        refine z_iload_n 30 dX2_sumOfBurdens_29 rfl rfl ?_
        obtain ⟨hg30, hq⟩ := z_g hq
        refine z_iaload (x := (μ (h + 9) v2)) 31 dX2_sumOfBurdens_30 rfl A_h.a9 hg30 rfl ?_
        obtain ⟨a1, h1, hq⟩ := z_b hq
        refine z_callV1 (as := [zi v2, zi (μ (h + 9) v2)]) (S := [zi v1]) 34 dX2_sumOfBurdens_31 rfl (Q_qH_burdenFor A_h h1) kX2_burdenFor ⟨_, _, rfl⟩ A_h.a0 l_RX2_125 rfl rfl rfl rfl rfl rfl rfl ?_
        refine z_iadd (r := (wr (v1 + a1))) 35 dX2_sumOfBurdens_34 rfl rfl ?_
        refine z_istore_n (L' := [some (zr h), some (zi (wr (v1 + a1))), some (zi v2)]) 36 dX2_sumOfBurdens_35 rfl rfl rfl rfl ?_
        refine z_iinc (r := (wr (v2 + 1))) (L' := [some (zr h), some (zi (wr (v1 + a1))), some (zi (wr (v2 + 1)))]) 39 dX2_sumOfBurdens_36 rfl rfl rfl rfl rfl rfl ?_
        refine z_goto 4 dX2_sumOfBurdens_39 rfl ?_
        exact Z.sub (zle_s (zle_s (zle_s zle_nil))) (ih _ _ hq)
set_option maxRecDepth 100000 in
set_option maxHeartbeats 4000000 in
theorem Q_qH_sumOfBurdens {g : yG} {a : Nat → Nat} {μ : zM} {h : Nat} {r : Int} (A_h : zH h) (hq : qH_sumOfBurdens μ h = some r) : zC g a mX2_sumOfBurdens 1 0 0 [zr h] μ (.inl (some (zi r))) μ := by
  unfold qH_sumOfBurdens at hq
  refine z_of (L := [some (zr h), none, none]) pl_RX2 rfl (zc_of rfl) rfl rfl ?_
  refine z_iconst 1 dX2_sumOfBurdens_0 rfl (by decide) ?_
  refine z_istore_n (L' := [some (zr h), some (zi 0), none]) 2 dX2_sumOfBurdens_1 rfl rfl rfl rfl ?_
  refine z_iconst 3 dX2_sumOfBurdens_2 rfl (by decide) ?_
  refine z_istore_n (L' := [some (zr h), some (zi 0), some (zi 0)]) 4 dX2_sumOfBurdens_3 rfl rfl rfl rfl ?_
  obtain ⟨t2, h2, hq⟩ := z_b hq
  refine Z.sub (zle_s (zle_s (zle_s zle_nil))) (L_qH_sumOfBurdens_l4 A_h (R := t2) (fun _ e => ?_) _ _ _ h2)
  cases e
  refine z_iload_n 43 dX2_sumOfBurdens_42 rfl rfl ?_
  cases hq
  exact z_ireturn rfl dX2_sumOfBurdens_43
set_option maxRecDepth 100000 in
set_option maxHeartbeats 4000000 in
theorem Q_qT_meanBurden {g : yG} {a : Nat → Nat} {μ : zM}  {r : Int ⊕ Nat} {ν : zM}  (hq : qT_meanBurden μ = some (r, ν)) : zC g a mX9_meanBurden 2 1 6 [zr 0] μ (zrd r) ν := by
  unfold qT_meanBurden at hq
  refine z_of (L := [some (zr 0), none]) pl_RX9 rfl (zc_of rfl) rfl rfl ?_
  refine z_aload_n 1 dX9_meanBurden_0 rfl rfl ?_
  refine z_getR (e := 1) (r := 1) 4 dX9_meanBurden_1 rfl f_RX9_12 ar_0 rfl ar_1.1 ?_
  obtain ⟨a1, h1, hq⟩ := z_b hq
  refine z_callV1 (as := []) (S := []) (kc := 1) (ks := 6) 7 dX9_meanBurden_4 rfl (Q_qH_housedCount zH_1 h1) kX2_housedCount ⟨_, _, rfl⟩ ar_1 l_RX9_171 rfl rfl rfl rfl rfl rfl rfl ?_
  refine z_istore_n (L' := [some (zr 0), some (zi a1)]) 8 dX9_meanBurden_7 rfl rfl rfl rfl ?_
  refine z_iload_n 9 dX9_meanBurden_8 rfl rfl ?_
  refine z_if_ne 23 12 dX9_meanBurden_9 rfl rfl (fun hc => ?_) (fun hc => ?_)
  · replace hq := z_in hq hc
    refine z_aload_n 24 dX9_meanBurden_23 rfl rfl ?_
    refine z_getR (e := 1) (r := 1) 27 dX9_meanBurden_24 rfl f_RX9_12 ar_0 rfl ar_1.1 ?_
    obtain ⟨a2, h2, hq⟩ := z_b hq
    refine z_callV1 (as := []) (S := []) (kc := 1) (ks := 6) 30 dX9_meanBurden_27 rfl (Q_qH_sumOfBurdens zH_1 h2) kX2_sumOfBurdens ⟨_, _, rfl⟩ ar_1 l_RX9_264 rfl rfl rfl rfl rfl rfl rfl ?_
    refine z_i2d 31 dX9_meanBurden_30 rfl ?_
    refine z_iload_n 32 dX9_meanBurden_31 rfl rfl ?_
    refine z_i2d 33 dX9_meanBurden_32 rfl ?_
    obtain ⟨hg33, hq⟩ := z_g hq
    refine z_ddiv 34 dX9_meanBurden_33 rfl hg33 ?_
    cases hq
    exact z_dreturn rfl dX9_meanBurden_34
  · replace hq := z_ip hq hc
    cases hq
    exact z_throwSW (cls := "java/lang/ArithmeticException") (text := "nobody lives in a flat") (names := ["java/lang/RuntimeException", "java/lang/Exception"]) (e := 5) tf_5 (yb 1103 (by decide +kernel) rfl) (yb 116 (by decide +kernel) rfl) ts_261 (by decide +kernel) t_RX9_263 rfl rfl dX9_meanBurden_12 dX9_meanBurden_15 dX9_meanBurden_16 dX9_meanBurden_19 dX9_meanBurden_22 rfl rfl rfl
set_option maxRecDepth 100000 in
set_option maxHeartbeats 4000000 in
theorem Q_qT_occupancy {g : yG} {a : Nat → Nat} {μ : zM}  {r : Int ⊕ Nat} {ν : zM}  (hq : qT_occupancy μ = some (r, ν)) : zC g a mX9_occupancy 1 1 6 [zr 0] μ (zrf r) ν := by
  unfold qT_occupancy at hq
  refine z_of (L := [some (zr 0), none]) pl_RX9 rfl (zc_of rfl) rfl rfl ?_
  refine z_aload_n 1 dX9_occupancy_0 rfl rfl ?_
  refine z_getR (e := 1) (r := 1) 4 dX9_occupancy_1 rfl f_RX9_12 ar_0 rfl ar_1.1 ?_
  refine z_getI (x := (μ 1 0)) 7 dX9_occupancy_4 rfl f_RX9_144 ar_1 rfl ?_
  refine z_istore_n (L' := [some (zr 0), some (zi (μ 1 0))]) 8 dX9_occupancy_7 rfl rfl rfl rfl ?_
  refine z_iload_n 9 dX9_occupancy_8 rfl rfl ?_
  refine z_if_ne 23 12 dX9_occupancy_9 rfl rfl (fun hc => ?_) (fun hc => ?_)
  · replace hq := z_in hq hc
    refine z_aload_n 24 dX9_occupancy_23 rfl rfl ?_
    refine z_getR (e := 1) (r := 1) 27 dX9_occupancy_24 rfl f_RX9_12 ar_0 rfl ar_1.1 ?_
    obtain ⟨a1, h1, hq⟩ := z_b hq
    refine z_callV1 (as := []) (S := []) (kc := 1) (ks := 6) 30 dX9_occupancy_27 rfl (Q_qH_housedCount zH_1 h1) kX2_housedCount ⟨_, _, rfl⟩ ar_1 l_RX9_171 rfl rfl rfl rfl rfl rfl rfl ?_
    refine z_i2f 31 dX9_occupancy_30 rfl ?_
    refine z_iload_n 32 dX9_occupancy_31 rfl rfl ?_
    refine z_i2f 33 dX9_occupancy_32 rfl ?_
    obtain ⟨hg33, hq⟩ := z_g hq
    refine z_fdiv 34 dX9_occupancy_33 rfl hg33 ?_
    cases hq
    exact z_freturn rfl dX9_occupancy_34
  · replace hq := z_ip hq hc
    cases hq
    exact z_throwSW (cls := "java/lang/ArithmeticException") (text := "there are no flats") (names := ["java/lang/RuntimeException", "java/lang/Exception"]) (e := 5) tf_5 (yb 1103 (by decide +kernel) rfl) (yb 116 (by decide +kernel) rfl) ts_267 (by decide +kernel) t_RX9_263 rfl rfl dX9_occupancy_12 dX9_occupancy_15 dX9_occupancy_16 dX9_occupancy_19 dX9_occupancy_22 rfl rfl rfl
set_option maxRecDepth 100000 in
set_option maxHeartbeats 4000000 in
theorem J_qH_isTenantSound_j16 {g : yG} {a : Nat → Nat} {μ : zM} {kc ks : Nat} {h : Nat} {v1 : Int} {s0 : Int} {r : Int}  (A_h : zH h) (hq : qH_isTenantSound_j16 μ h v1 s0 = some r) : Z g a mX2_isTenantSound 1 kc ks 16 [some (zr h), some (zi v1), none] [zi s0] μ (.inl (some (zi r))) μ := by
  unfold qH_isTenantSound_j16 at hq
  refine z_istore_n (L' := [some (zr h), some (zi v1), some (zi s0)]) 17 dX2_isTenantSound_16 rfl rfl rfl rfl ?_
  refine z_aload_n 18 dX2_isTenantSound_17 rfl rfl ?_
  refine z_getR (e := 3) (r := (h + 3)) 21 dX2_isTenantSound_18 rfl f_RX2_28 A_h.a0 rfl A_h.a3.1 ?_
  refine z_iload_n 22 dX2_isTenantSound_21 rfl rfl ?_
  obtain ⟨hg22, hq⟩ := z_g hq
  refine z_iaload (x := (μ (h + 3) v1)) 23 dX2_isTenantSound_22 rfl A_h.a3 hg22 rfl ?_
  refine z_iload_n 24 dX2_isTenantSound_23 rfl rfl ?_
  refine z_icmp_le 111 27 dX2_isTenantSound_24 rfl rfl (fun hc => ?_) (fun hc => ?_)
  · replace hq := z_in hq (Int.not_lt.mpr hc)
    refine z_iconst 112 dX2_isTenantSound_111 rfl (by decide) ?_
    cases hq
    exact z_zreturn rfl dX2_isTenantSound_112 (by decide)
  · replace hq := z_ip hq hc
    refine z_aload_n 28 dX2_isTenantSound_27 rfl rfl ?_
    refine z_getR (e := 3) (r := (h + 3)) 31 dX2_isTenantSound_28 rfl f_RX2_28 A_h.a0 rfl A_h.a3.1 ?_
    refine z_iload_n 32 dX2_isTenantSound_31 rfl rfl ?_
    obtain ⟨hg32, hq⟩ := z_g hq
    refine z_iaload (x := (μ (h + 3) v1)) 33 dX2_isTenantSound_32 rfl A_h.a3 hg32 rfl ?_
    refine z_aload_n 34 dX2_isTenantSound_33 rfl rfl ?_
    refine z_getI (x := (μ h 4)) 37 dX2_isTenantSound_34 rfl f_RX2_25 A_h.a0 rfl ?_
    refine z_icmp_ge 111 40 dX2_isTenantSound_37 rfl rfl (fun hc => ?_) (fun hc => ?_)
    · replace hq := z_in hq (Int.not_lt.mpr hc)
      refine z_iconst 112 dX2_isTenantSound_111 rfl (by decide) ?_
      cases hq
      exact z_zreturn rfl dX2_isTenantSound_112 (by decide)
    · replace hq := z_ip hq hc
      refine z_aload_n 41 dX2_isTenantSound_40 rfl rfl ?_
      refine z_getR (e := 4) (r := (h + 4)) 44 dX2_isTenantSound_41 rfl f_RX2_31 A_h.a0 rfl A_h.a4.1 ?_
      refine z_iload_n 45 dX2_isTenantSound_44 rfl rfl ?_
      obtain ⟨hg45, hq⟩ := z_g hq
      refine z_iaload (x := (μ (h + 4) v1)) 46 dX2_isTenantSound_45 rfl A_h.a4 hg45 rfl ?_
      refine z_iconst 47 dX2_isTenantSound_46 rfl (by decide) ?_
      refine z_bipush 49 dX2_isTenantSound_47 rfl (by decide) (by decide) ?_
      obtain ⟨a1, h1, hq⟩ := z_b hq
      refine z_callN1 (as := [zi (μ (h + 4) v1), zi 1, zi 50]) (S := []) 52 dX2_isTenantSound_49 rfl (Q_qT_isWithin  h1) kX9_isWithin n_RX2_81 rfl rfl rfl rfl rfl rfl rfl ?_
      refine z_if_eq 111 55 dX2_isTenantSound_52 rfl rfl (fun hc => ?_) (fun hc => ?_)
      · replace hq := z_ip hq hc
        refine z_iconst 112 dX2_isTenantSound_111 rfl (by decide) ?_
        cases hq
        exact z_zreturn rfl dX2_isTenantSound_112 (by decide)
      · replace hq := z_in hq hc
        refine z_aload_n 56 dX2_isTenantSound_55 rfl rfl ?_
        refine z_getR (e := 5) (r := (h + 5)) 59 dX2_isTenantSound_56 rfl f_RX2_34 A_h.a0 rfl A_h.a5.1 ?_
        refine z_iload_n 60 dX2_isTenantSound_59 rfl rfl ?_
        obtain ⟨hg60, hq⟩ := z_g hq
        refine z_iaload (x := (μ (h + 5) v1)) 61 dX2_isTenantSound_60 rfl A_h.a5 hg60 rfl ?_
        refine z_iconst 62 dX2_isTenantSound_61 rfl (by decide) ?_
        refine z_iconst 63 dX2_isTenantSound_62 rfl (by decide) ?_
        obtain ⟨a2, h2, hq⟩ := z_b hq
        refine z_callN1 (as := [zi (μ (h + 5) v1), zi 0, zi 5]) (S := []) 66 dX2_isTenantSound_63 rfl (Q_qT_isWithin  h2) kX9_isWithin n_RX2_81 rfl rfl rfl rfl rfl rfl rfl ?_
        refine z_if_eq 111 69 dX2_isTenantSound_66 rfl rfl (fun hc => ?_) (fun hc => ?_)
        · replace hq := z_ip hq hc
          refine z_iconst 112 dX2_isTenantSound_111 rfl (by decide) ?_
          cases hq
          exact z_zreturn rfl dX2_isTenantSound_112 (by decide)
        · replace hq := z_in hq hc
          refine z_aload_n 70 dX2_isTenantSound_69 rfl rfl ?_
          refine z_getR (e := 6) (r := (h + 6)) 73 dX2_isTenantSound_70 rfl f_RX2_37 A_h.a0 rfl A_h.a6.1 ?_
          refine z_iload_n 74 dX2_isTenantSound_73 rfl rfl ?_
          obtain ⟨hg74, hq⟩ := z_g hq
          refine z_iaload (x := (μ (h + 6) v1)) 75 dX2_isTenantSound_74 rfl A_h.a6 hg74 rfl ?_
          refine z_iconst 76 dX2_isTenantSound_75 rfl (by decide) ?_
          refine z_bipush 78 dX2_isTenantSound_76 rfl (by decide) (by decide) ?_
          obtain ⟨a3, h3, hq⟩ := z_b hq
          refine z_callN1 (as := [zi (μ (h + 6) v1), zi 1, zi 40]) (S := []) 81 dX2_isTenantSound_78 rfl (Q_qT_isWithin  h3) kX9_isWithin n_RX2_81 rfl rfl rfl rfl rfl rfl rfl ?_
          refine z_if_eq 111 84 dX2_isTenantSound_81 rfl rfl (fun hc => ?_) (fun hc => ?_)
          · replace hq := z_ip hq hc
            refine z_iconst 112 dX2_isTenantSound_111 rfl (by decide) ?_
            cases hq
            exact z_zreturn rfl dX2_isTenantSound_112 (by decide)
          · replace hq := z_in hq hc
            refine z_aload_n 85 dX2_isTenantSound_84 rfl rfl ?_
            refine z_getR (e := 7) (r := (h + 7)) 88 dX2_isTenantSound_85 rfl f_RX2_40 A_h.a0 rfl A_h.a7.1 ?_
            refine z_iload_n 89 dX2_isTenantSound_88 rfl rfl ?_
            obtain ⟨hg89, hq⟩ := z_g hq
            refine z_iaload (x := (μ (h + 7) v1)) 90 dX2_isTenantSound_89 rfl A_h.a7 hg89 rfl ?_
            refine z_if_lt 111 93 dX2_isTenantSound_90 rfl rfl (fun hc => ?_) (fun hc => ?_)
            · replace hq := z_ip hq hc
              refine z_iconst 112 dX2_isTenantSound_111 rfl (by decide) ?_
              cases hq
              exact z_zreturn rfl dX2_isTenantSound_112 (by decide)
            · replace hq := z_in hq (Int.not_lt.mpr hc)
              refine z_aload_n 94 dX2_isTenantSound_93 rfl rfl ?_
              refine z_getR (e := 8) (r := (h + 8)) 97 dX2_isTenantSound_94 rfl f_RX2_43 A_h.a0 rfl A_h.a8.1 ?_
              refine z_iload_n 98 dX2_isTenantSound_97 rfl rfl ?_
              obtain ⟨hg98, hq⟩ := z_g hq
              refine z_iaload (x := (μ (h + 8) v1)) 99 dX2_isTenantSound_98 rfl A_h.a8 hg98 rfl ?_
              refine z_iconst 100 dX2_isTenantSound_99 rfl (by decide) ?_
              refine z_iconst 101 dX2_isTenantSound_100 rfl (by decide) ?_
              obtain ⟨a4, h4, hq⟩ := z_b hq
              refine z_callN1 (as := [zi (μ (h + 8) v1), zi 0, zi 1]) (S := []) 104 dX2_isTenantSound_101 rfl (Q_qT_isWithin  h4) kX9_isWithin n_RX2_81 rfl rfl rfl rfl rfl rfl rfl ?_
              refine z_if_eq 111 107 dX2_isTenantSound_104 rfl rfl (fun hc => ?_) (fun hc => ?_)
              · replace hq := z_ip hq hc
                refine z_iconst 112 dX2_isTenantSound_111 rfl (by decide) ?_
                cases hq
                exact z_zreturn rfl dX2_isTenantSound_112 (by decide)
              · replace hq := z_in hq hc
                refine z_iconst 108 dX2_isTenantSound_107 rfl (by decide) ?_
                refine z_goto 112 dX2_isTenantSound_108 rfl ?_
                cases hq
                exact z_zreturn rfl dX2_isTenantSound_112 (by decide)
set_option maxRecDepth 100000 in
set_option maxHeartbeats 4000000 in
theorem Q_qH_isTenantSound {g : yG} {a : Nat → Nat} {μ : zM} {h : Nat} {v1 : Int} {r : Int} (A_h : zH h) (hq : qH_isTenantSound μ h v1 = some r) : zC g a mX2_isTenantSound 1 0 0 [zr h, zi v1] μ (.inl (some (zi r))) μ := by
  unfold qH_isTenantSound at hq
  refine z_of (L := [some (zr h), some (zi v1), none]) pl_RX2 rfl (zc_of rfl) rfl rfl ?_
  refine z_iload_n 1 dX2_isTenantSound_0 rfl rfl ?_
  refine z_if_ne 8 4 dX2_isTenantSound_1 rfl rfl (fun hc => ?_) (fun hc => ?_)
  · replace hq := z_in hq hc
    refine z_aload_n 9 dX2_isTenantSound_8 rfl rfl ?_
    refine z_getR (e := 3) (r := (h + 3)) 12 dX2_isTenantSound_9 rfl f_RX2_28 A_h.a0 rfl A_h.a3.1 ?_
    refine z_iload_n 13 dX2_isTenantSound_12 rfl rfl ?_
    refine z_iconst 14 dX2_isTenantSound_13 rfl (by decide) ?_
    refine z_isub (r := (wr (v1 - 1))) 15 dX2_isTenantSound_14 rfl rfl ?_
    obtain ⟨hg15, hq⟩ := z_g hq
    refine z_iaload (x := (μ (h + 3) (wr (v1 - 1)))) 16 dX2_isTenantSound_15 rfl A_h.a3 hg15 rfl ?_
    exact Z.sub (zle_s (zle_s (zle_n zle_nil))) (J_qH_isTenantSound_j16 A_h hq)
  · replace hq := z_ip hq hc
    refine z_iconst 5 dX2_isTenantSound_4 rfl (by decide) ?_
    refine z_goto 16 dX2_isTenantSound_5 rfl ?_
    exact Z.sub (zle_s (zle_s (zle_n zle_nil))) (J_qH_isTenantSound_j16 A_h hq)
set_option maxRecDepth 100000 in
set_option maxHeartbeats 4000000 in
theorem Q_qH_isHomeSound {g : yG} {a : Nat → Nat} {μ : zM} {h : Nat} {v1 : Int} {r : Int} (A_h : zH h) (hq : qH_isHomeSound μ h v1 = some r) : zC g a mX2_isHomeSound 1 0 0 [zr h, zi v1] μ (.inl (some (zi r))) μ := by
  unfold qH_isHomeSound at hq
  refine z_of (L := [some (zr h), some (zi v1), none]) pl_RX2 rfl (zc_of rfl) rfl rfl ?_
  refine z_aload_n 1 dX2_isHomeSound_0 rfl rfl ?_
  refine z_getR (e := 9) (r := (h + 9)) 4 dX2_isHomeSound_1 rfl f_RX2_46 A_h.a0 rfl A_h.a9.1 ?_
  refine z_iload_n 5 dX2_isHomeSound_4 rfl rfl ?_
  obtain ⟨hg5, hq⟩ := z_g hq
  refine z_iaload (x := (μ (h + 9) v1)) 6 dX2_isHomeSound_5 rfl A_h.a9 hg5 rfl ?_
  refine z_istore_n (L' := [some (zr h), some (zi v1), some (zi (μ (h + 9) v1))]) 7 dX2_isHomeSound_6 rfl rfl rfl rfl ?_
  refine z_iload_n 8 dX2_isHomeSound_7 rfl rfl ?_
  refine z_iconst 9 dX2_isHomeSound_8 rfl (by decide) ?_
  refine z_icmp_eq 29 12 dX2_isHomeSound_9 rfl rfl (fun hc => ?_) (fun hc => ?_)
  · replace hq := z_ip hq hc
    refine z_iconst 30 dX2_isHomeSound_29 rfl (by decide) ?_
    refine z_goto 34 dX2_isHomeSound_30 rfl ?_
    cases hq
    exact z_zreturn rfl dX2_isHomeSound_34 (by decide)
  · replace hq := z_in hq hc
    refine z_aload_n 13 dX2_isHomeSound_12 rfl rfl ?_
    refine z_iload_n 14 dX2_isHomeSound_13 rfl rfl ?_
    obtain ⟨a1, h1, hq⟩ := z_b hq
    refine z_callV1 (as := [zi (μ (h + 9) v1)]) (S := []) 17 dX2_isHomeSound_14 rfl (Q_qH_hasFlat A_h h1) kX2_hasFlat ⟨_, _, rfl⟩ A_h.a0 l_RX2_104 rfl rfl rfl rfl rfl rfl rfl ?_
    refine z_if_eq 33 20 dX2_isHomeSound_17 rfl rfl (fun hc => ?_) (fun hc => ?_)
    · replace hq := z_ip hq hc
      refine z_iconst 34 dX2_isHomeSound_33 rfl (by decide) ?_
      cases hq
      exact z_zreturn rfl dX2_isHomeSound_34 (by decide)
    · replace hq := z_in hq hc
      refine z_aload_n 21 dX2_isHomeSound_20 rfl rfl ?_
      refine z_iload_n 22 dX2_isHomeSound_21 rfl rfl ?_
      obtain ⟨a2, h2, hq⟩ := z_b hq
      refine z_callV1 (as := [zi (μ (h + 9) v1)]) (S := []) 25 dX2_isHomeSound_22 rfl (Q_qH_slotIn A_h h2) kX2_slotIn ⟨_, _, rfl⟩ A_h.a0 l_RX2_111 rfl rfl rfl rfl rfl rfl rfl ?_
      refine z_iload_n 26 dX2_isHomeSound_25 rfl rfl ?_
      refine z_icmp_ne 33 29 dX2_isHomeSound_26 rfl rfl (fun hc => ?_) (fun hc => ?_)
      · replace hq := z_in hq hc
        refine z_iconst 34 dX2_isHomeSound_33 rfl (by decide) ?_
        cases hq
        exact z_zreturn rfl dX2_isHomeSound_34 (by decide)
      · replace hq := z_ip hq hc
        refine z_iconst 30 dX2_isHomeSound_29 rfl (by decide) ?_
        refine z_goto 34 dX2_isHomeSound_30 rfl ?_
        cases hq
        exact z_zreturn rfl dX2_isHomeSound_34 (by decide)
set_option maxRecDepth 100000 in
set_option maxHeartbeats 4000000 in
theorem L_qH_isSound_l30 {g : yG} {a : Nat → Nat} {μ ν : zM} {o : zO} {kc ks : Nat} {h : Nat} {R : Int ⊕ Unit}  (A_h : zH h) (hr : ∀ (x : Int), R = .inl x → o = .inl (some (zi x)) ∧ ν = μ) (he : ∀ (tz : Unit), R = .inr tz → Z g a mX2_isSound 2 kc ks 75 [some (zr h), none] [] μ o ν) : ∀ (n : Nat) (v1 : Int), qH_isSound_l30 μ h n v1 = some R → Z g a mX2_isSound 2 kc ks 30 [some (zr h), some (zi v1)] [] μ o ν := by
  intro n
  induction n with
  | zero => intro v1 hq; cases hq
  | succ n ih =>
    intro v1 hq
    rw [qH_isSound_l30] at hq
    refine z_iload_n 31 dX2_isSound_30 rfl rfl ?_
    refine z_aload_n 32 dX2_isSound_31 rfl rfl ?_
    refine z_getI (x := (μ h 0)) 35 dX2_isSound_32 rfl f_RX2_9 A_h.a0 rfl ?_
    refine z_icmp_ge 75 38 dX2_isSound_35 rfl rfl (fun hc => ?_) (fun hc => ?_)
    · replace hq := z_in hq (Int.not_lt.mpr hc)
      exact Z.sub (zle_s (zle_n zle_nil)) (he _ (Option.some.inj hq).symm)
    · replace hq := z_ip hq hc
      refine z_aload_n 39 dX2_isSound_38 rfl rfl ?_
      refine z_getR (e := 1) (r := (h + 1)) 42 dX2_isSound_39 rfl f_RX2_15 A_h.a0 rfl A_h.a1.1 ?_
      refine z_iload_n 43 dX2_isSound_42 rfl rfl ?_
      obtain ⟨hg43, hq⟩ := z_g hq
      refine z_iaload (x := (μ (h + 1) v1)) 44 dX2_isSound_43 rfl A_h.a1 hg43 rfl ?_
      refine z_iconst 45 dX2_isSound_44 rfl (by decide) ?_
      refine z_iconst 46 dX2_isSound_45 rfl (by decide) ?_
      obtain ⟨a3, h3, hq⟩ := z_b hq
      refine z_callN1 (as := [zi (μ (h + 1) v1), zi 0, zi 5]) (S := []) 49 dX2_isSound_46 rfl (Q_qT_isWithin  h3) kX9_isWithin n_RX2_81 rfl rfl rfl rfl rfl rfl rfl ?_
      refine z_if_eq 67 52 dX2_isSound_49 rfl rfl (fun hc => ?_) (fun hc => ?_)
      · replace hq := z_ip hq hc
        refine z_iconst 68 dX2_isSound_67 rfl (by decide) ?_
        obtain ⟨ho, hv⟩ := hr _ (Option.some.inj hq).symm
        exact z_conv ho hv (z_zreturn rfl dX2_isSound_68 (by decide))
      · replace hq := z_in hq hc
        refine z_aload_n 53 dX2_isSound_52 rfl rfl ?_
        refine z_getR (e := 2) (r := (h + 2)) 56 dX2_isSound_53 rfl f_RX2_19 A_h.a0 rfl A_h.a2.1 ?_
        refine z_iload_n 57 dX2_isSound_56 rfl rfl ?_
        obtain ⟨hg57, hq⟩ := z_g hq
        refine z_iaload (x := (μ (h + 2) v1)) 58 dX2_isSound_57 rfl A_h.a2 hg57 rfl ?_
        refine z_iconst 59 dX2_isSound_58 rfl (by decide) ?_
        refine z_bipush 61 dX2_isSound_59 rfl (by decide) (by decide) ?_
        obtain ⟨a4, h4, hq⟩ := z_b hq
        refine z_callN1 (as := [zi (μ (h + 2) v1), zi 1, zi 99]) (S := []) 64 dX2_isSound_61 rfl (Q_qT_isWithin  h4) kX9_isWithin n_RX2_81 rfl rfl rfl rfl rfl rfl rfl ?_
        refine z_if_ne 69 67 dX2_isSound_64 rfl rfl (fun hc => ?_) (fun hc => ?_)
        · replace hq := z_in hq hc
          refine z_iinc (r := (wr (v1 + 1))) (L' := [some (zr h), some (zi (wr (v1 + 1)))]) 72 dX2_isSound_69 rfl rfl rfl rfl rfl rfl ?_
          refine z_goto 30 dX2_isSound_72 rfl ?_
          exact Z.sub (zle_s (zle_s zle_nil)) (ih _ hq)
        · replace hq := z_ip hq hc
          refine z_iconst 68 dX2_isSound_67 rfl (by decide) ?_
          obtain ⟨ho, hv⟩ := hr _ (Option.some.inj hq).symm
          exact z_conv ho hv (z_zreturn rfl dX2_isSound_68 (by decide))
set_option maxRecDepth 100000 in
set_option maxHeartbeats 4000000 in
theorem L_qH_isSound_l77 {g : yG} {a : Nat → Nat} {μ ν : zM} {o : zO} {kc ks : Nat} {h : Nat} {R : Int ⊕ Unit}  (A_h : zH h) (hr : ∀ (x : Int), R = .inl x → o = .inl (some (zi x)) ∧ ν = μ) (he : ∀ (tz : Unit), R = .inr tz → Z g a mX2_isSound 2 kc ks 109 [some (zr h), none] [] μ o ν) : ∀ (n : Nat) (v1 : Int), qH_isSound_l77 μ h n v1 = some R → Z g a mX2_isSound 2 kc ks 77 [some (zr h), some (zi v1)] [] μ o ν := by
  intro n
  induction n with
  | zero => intro v1 hq; cases hq
  | succ n ih =>
    intro v1 hq
    rw [qH_isSound_l77] at hq
    refine z_iload_n 78 dX2_isSound_77 rfl rfl ?_
    refine z_aload_n 79 dX2_isSound_78 rfl rfl ?_
    refine z_getI (x := (μ h 3)) 82 dX2_isSound_79 rfl f_RX2_22 A_h.a0 rfl ?_
    refine z_icmp_ge 109 85 dX2_isSound_82 rfl rfl (fun hc => ?_) (fun hc => ?_)
    · replace hq := z_in hq (Int.not_lt.mpr hc)
      exact Z.sub (zle_s (zle_n zle_nil)) (he _ (Option.some.inj hq).symm)
    · replace hq := z_ip hq hc
      refine z_aload_n 86 dX2_isSound_85 rfl rfl ?_
      refine z_iload_n 87 dX2_isSound_86 rfl rfl ?_
      obtain ⟨a6, h6, hq⟩ := z_b hq
      refine z_callV1 (as := [zi v1]) (S := []) 90 dX2_isSound_87 rfl (Q_qH_isTenantSound A_h h6) kX2_isTenantSound ⟨_, _, rfl⟩ A_h.a0 l_RX2_147 rfl rfl rfl rfl rfl rfl rfl ?_
      refine z_if_eq 101 93 dX2_isSound_90 rfl rfl (fun hc => ?_) (fun hc => ?_)
      · replace hq := z_ip hq hc
        refine z_iconst 102 dX2_isSound_101 rfl (by decide) ?_
        obtain ⟨ho, hv⟩ := hr _ (Option.some.inj hq).symm
        exact z_conv ho hv (z_zreturn rfl dX2_isSound_102 (by decide))
      · replace hq := z_in hq hc
        refine z_aload_n 94 dX2_isSound_93 rfl rfl ?_
        refine z_iload_n 95 dX2_isSound_94 rfl rfl ?_
        obtain ⟨a7, h7, hq⟩ := z_b hq
        refine z_callV1 (as := [zi v1]) (S := []) 98 dX2_isSound_95 rfl (Q_qH_isHomeSound A_h h7) kX2_isHomeSound ⟨_, _, rfl⟩ A_h.a0 l_RX2_150 rfl rfl rfl rfl rfl rfl rfl ?_
        refine z_if_ne 103 101 dX2_isSound_98 rfl rfl (fun hc => ?_) (fun hc => ?_)
        · replace hq := z_in hq hc
          refine z_iinc (r := (wr (v1 + 1))) (L' := [some (zr h), some (zi (wr (v1 + 1)))]) 106 dX2_isSound_103 rfl rfl rfl rfl rfl rfl ?_
          refine z_goto 77 dX2_isSound_106 rfl ?_
          exact Z.sub (zle_s (zle_s zle_nil)) (ih _ hq)
        · replace hq := z_ip hq hc
          refine z_iconst 102 dX2_isSound_101 rfl (by decide) ?_
          obtain ⟨ho, hv⟩ := hr _ (Option.some.inj hq).symm
          exact z_conv ho hv (z_zreturn rfl dX2_isSound_102 (by decide))
set_option maxRecDepth 100000 in
set_option maxHeartbeats 4000000 in
theorem Q_qH_isSound {g : yG} {a : Nat → Nat} {μ : zM} {h : Nat} {r : Int} (A_h : zH h) (hq : qH_isSound μ h = some r) : zC g a mX2_isSound 2 0 0 [zr h] μ (.inl (some (zi r))) μ := by
  unfold qH_isSound at hq
  refine z_of (L := [some (zr h), none]) pl_RX2 rfl (zc_of rfl) rfl rfl ?_
  refine z_aload_n 1 dX2_isSound_0 rfl rfl ?_
  refine z_getI (x := (μ h 0)) 4 dX2_isSound_1 rfl f_RX2_9 A_h.a0 rfl ?_
  refine z_iconst 5 dX2_isSound_4 rfl (by decide) ?_
  refine z_bipush 7 dX2_isSound_5 rfl (by decide) (by decide) ?_
  obtain ⟨a1, h1, hq⟩ := z_b hq
  refine z_callN1 (as := [zi (μ h 0), zi 0, zi 6]) (S := []) 10 dX2_isSound_7 rfl (Q_qT_isWithin  h1) kX9_isWithin n_RX2_81 rfl rfl rfl rfl rfl rfl rfl ?_
  refine z_if_eq 26 13 dX2_isSound_10 rfl rfl (fun hc => ?_) (fun hc => ?_)
  · replace hq := z_ip hq hc
    refine z_iconst 27 dX2_isSound_26 rfl (by decide) ?_
    cases hq
    exact z_zreturn rfl dX2_isSound_27 (by decide)
  · replace hq := z_in hq hc
    refine z_aload_n 14 dX2_isSound_13 rfl rfl ?_
    refine z_getI (x := (μ h 3)) 17 dX2_isSound_14 rfl f_RX2_22 A_h.a0 rfl ?_
    refine z_iconst 18 dX2_isSound_17 rfl (by decide) ?_
    refine z_bipush 20 dX2_isSound_18 rfl (by decide) (by decide) ?_
    obtain ⟨a2, h2, hq⟩ := z_b hq
    refine z_callN1 (as := [zi (μ h 3), zi 0, zi 6]) (S := []) 23 dX2_isSound_20 rfl (Q_qT_isWithin  h2) kX9_isWithin n_RX2_81 rfl rfl rfl rfl rfl rfl rfl ?_
    refine z_if_ne 28 26 dX2_isSound_23 rfl rfl (fun hc => ?_) (fun hc => ?_)
    · replace hq := z_in hq hc
      refine z_iconst 29 dX2_isSound_28 rfl (by decide) ?_
      refine z_istore_n (L' := [some (zr h), some (zi 0)]) 30 dX2_isSound_29 rfl rfl rfl rfl ?_
      rcases bndS_some hq with ⟨x5, h5, hq⟩ | ⟨t5, h5, hq⟩
      · exact Z.sub (zle_s (zle_s zle_nil)) (L_qH_isSound_l30 A_h (R := .inl x5) (fun _ e => by cases e; cases hq; exact ⟨rfl, rfl⟩) (fun _ e => by cases e) _ _ h5)
      · refine Z.sub (zle_s (zle_s zle_nil)) (L_qH_isSound_l30 A_h (R := .inr t5) (fun _ e => by cases e) (fun _ e => ?_) _ _ h5)
        cases e
        refine z_iconst 76 dX2_isSound_75 rfl (by decide) ?_
        refine z_istore_n (L' := [some (zr h), some (zi 0)]) 77 dX2_isSound_76 rfl rfl rfl rfl ?_
        rcases bndS_some hq with ⟨x8, h8, hq⟩ | ⟨t8, h8, hq⟩
        · exact Z.sub (zle_s (zle_s zle_nil)) (L_qH_isSound_l77 A_h (R := .inl x8) (fun _ e => by cases e; cases hq; exact ⟨rfl, rfl⟩) (fun _ e => by cases e) _ _ h8)
        · refine Z.sub (zle_s (zle_s zle_nil)) (L_qH_isSound_l77 A_h (R := .inr t8) (fun _ e => by cases e) (fun _ e => ?_) _ _ h8)
          cases e
          refine z_aload_n 110 dX2_isSound_109 rfl rfl ?_
          refine z_getJ (x := (μ h 15)) 113 dX2_isSound_110 rfl f_RX2_58 A_h.a0 rfl ?_
          refine z_aload_n 114 dX2_isSound_113 rfl rfl ?_
          obtain ⟨a9, h9, hq⟩ := z_b hq
          refine z_callV1 (as := []) (S := [zl (μ h 15)]) 117 dX2_isSound_114 rfl (Q_qH_sumOfParts A_h h9) kX2_sumOfParts ⟨_, _, rfl⟩ A_h.a0 l_RX2_153 rfl rfl rfl rfl rfl rfl rfl ?_
          refine z_lcmp 118 dX2_isSound_117 rfl ?_
          refine z_if_ne 125 121 dX2_isSound_118 rfl rfl (fun hc => ?_) (fun hc => ?_)
          · replace hq := z_in hq hc
            refine z_iconst 126 dX2_isSound_125 rfl (by decide) ?_
            cases hq
            exact z_zreturn rfl dX2_isSound_126 (by decide)
          · replace hq := z_ip hq hc
            refine z_iconst 122 dX2_isSound_121 rfl (by decide) ?_
            refine z_goto 126 dX2_isSound_122 rfl ?_
            cases hq
            exact z_zreturn rfl dX2_isSound_126 (by decide)
    · replace hq := z_ip hq hc
      refine z_iconst 27 dX2_isSound_26 rfl (by decide) ?_
      cases hq
      exact z_zreturn rfl dX2_isSound_27 (by decide)
set_option maxRecDepth 100000 in
set_option maxHeartbeats 4000000 in
theorem L_qP_doWaysAgree_l13 {g : yG} {a : Nat → Nat} {μ ν : zM} {o : zO} {kc ks : Nat} {v1 : Nat} {R : Int ⊕ Unit}  (A_v1 : zH v1) (hr : ∀ (x : Int), R = .inl x → o = .inl (some (zi x)) ∧ ν = μ) (he : ∀ (tz : Unit), R = .inr tz → Z g a mX5_doWaysAgree 45 kc ks 44 [some (zr 113), some (zr v1), none] [] μ o ν) : ∀ (n : Nat) (v2 : Int), qP_doWaysAgree_l13 μ v1 n v2 = some R → Z g a mX5_doWaysAgree 45 kc ks 13 [some (zr 113), some (zr v1), some (zi v2)] [] μ o ν := by
  intro n
  induction n with
  | zero => intro v2 hq; cases hq
  | succ n ih =>
    intro v2 hq
    rw [qP_doWaysAgree_l13] at hq
    refine z_iload_n 14 dX5_doWaysAgree_13 rfl rfl ?_
    refine z_aload_n 15 dX5_doWaysAgree_14 rfl rfl ?_
    refine z_getI (x := (μ v1 3)) 18 dX5_doWaysAgree_15 rfl f_RX5_40 A_v1.a0 rfl ?_
    refine z_icmp_ge 44 21 dX5_doWaysAgree_18 rfl rfl (fun hc => ?_) (fun hc => ?_)
    · replace hq := z_in hq (Int.not_lt.mpr hc)
      exact Z.sub (zle_s (zle_s (zle_n zle_nil))) (he _ (Option.some.inj hq).symm)
    · replace hq := z_ip hq hc
      refine z_aload_n 22 dX5_doWaysAgree_21 rfl rfl ?_
      refine z_getR (e := 15) (r := 128) 25 dX5_doWaysAgree_22 rfl f_RX5_19 ar_113 rfl ar_128.1 ?_
      refine z_iload_n 26 dX5_doWaysAgree_25 rfl rfl ?_
      obtain ⟨hg26, hq⟩ := z_g hq
      refine z_iaload (x := (μ 128 v2)) 27 dX5_doWaysAgree_26 rfl ar_128 hg26 rfl ?_
      refine z_aload_n 28 dX5_doWaysAgree_27 rfl rfl ?_
      refine z_getR (e := 18) (r := 131) 31 dX5_doWaysAgree_28 rfl f_RX5_29 ar_113 rfl ar_131.1 ?_
      refine z_iload_n 32 dX5_doWaysAgree_31 rfl rfl ?_
      obtain ⟨hg32, hq⟩ := z_g hq
      refine z_iaload (x := (μ 131 v2)) 33 dX5_doWaysAgree_32 rfl ar_131 hg32 rfl ?_
      refine z_icmp_eq 38 36 dX5_doWaysAgree_33 rfl rfl (fun hc => ?_) (fun hc => ?_)
      · replace hq := z_ip hq hc
        refine z_iinc (r := (wr (v2 + 1))) (L' := [some (zr 113), some (zr v1), some (zi (wr (v2 + 1)))]) 41 dX5_doWaysAgree_38 rfl rfl rfl rfl rfl rfl ?_
        refine z_goto 13 dX5_doWaysAgree_41 rfl ?_
        exact Z.sub (zle_s (zle_s (zle_s zle_nil))) (ih _ hq)
      · replace hq := z_in hq hc
        refine z_iconst 37 dX5_doWaysAgree_36 rfl (by decide) ?_
        obtain ⟨ho, hv⟩ := hr _ (Option.some.inj hq).symm
        exact z_conv ho hv (z_zreturn rfl dX5_doWaysAgree_37 (by decide))
set_option maxRecDepth 100000 in
set_option maxHeartbeats 4000000 in
theorem Q_qP_doWaysAgree {g : yG} {a : Nat → Nat} {μ : zM} {v1 : Nat} {r : Int} {ν : zM} (A_v1 : zH v1) (hq : qP_doWaysAgree μ v1 = some (r, ν)) : zC g a mX5_doWaysAgree 45 0 0 [zr 113, zr v1] μ (.inl (some (zi r))) ν := by
  unfold qP_doWaysAgree at hq
  refine z_of (L := [some (zr 113), some (zr v1), none]) pl_RX5 rfl (zc_of rfl) rfl rfl ?_
  refine z_aload_n 1 dX5_doWaysAgree_0 rfl rfl ?_
  refine z_aload_n 2 dX5_doWaysAgree_1 rfl rfl ?_
  obtain ⟨m1, h1, hq⟩ := z_b hq
  refine z_callV0 (as := [zr v1]) (S := []) 5 dX5_doWaysAgree_2 rfl (Q_qP_tryAll A_v1 h1) kX5_tryAll ⟨_, _, rfl⟩ ar_113 l_RX5_67 rfl rfl rfl rfl rfl rfl rfl ?_
  refine z_aload_n 6 dX5_doWaysAgree_5 rfl rfl ?_
  refine z_aload_n 7 dX5_doWaysAgree_6 rfl rfl ?_
  obtain ⟨m2, h2, hq⟩ := z_b hq
  refine z_callV1 (as := [zr v1]) (S := []) 10 dX5_doWaysAgree_7 rfl (Q_qP_planByAsking A_v1 h2) kX5_planByAsking ⟨_, _, rfl⟩ ar_113 l_RX5_108 rfl rfl rfl rfl rfl rfl rfl ?_
  refine z_pop 11 dX5_doWaysAgree_10 rfl rfl ?_
  refine z_iconst 12 dX5_doWaysAgree_11 rfl (by decide) ?_
  refine z_istore_n (L' := [some (zr 113), some (zr v1), some (zi 0)]) 13 dX5_doWaysAgree_12 rfl rfl rfl rfl ?_
  rcases bndS_some hq with ⟨x3, h3, hq⟩ | ⟨t3, h3, hq⟩
  · exact Z.sub (zle_s (zle_s (zle_s zle_nil))) (L_qP_doWaysAgree_l13 A_v1 (R := .inl x3) (fun _ e => by cases e; cases hq; exact ⟨rfl, rfl⟩) (fun _ e => by cases e) _ _ h3)
  · refine Z.sub (zle_s (zle_s (zle_s zle_nil))) (L_qP_doWaysAgree_l13 A_v1 (R := .inr t3) (fun _ e => by cases e) (fun _ e => ?_) _ _ h3)
    cases e
    refine z_aload_n 45 dX5_doWaysAgree_44 rfl rfl ?_
    refine z_getI (x := (m2 113 6)) 48 dX5_doWaysAgree_45 rfl f_RX5_32 ar_113 rfl ?_
    refine z_iconst 49 dX5_doWaysAgree_48 rfl (by decide) ?_
    refine z_icmp_lt 56 52 dX5_doWaysAgree_49 rfl rfl (fun hc => ?_) (fun hc => ?_)
    · replace hq := z_ip hq hc
      refine z_iconst 57 dX5_doWaysAgree_56 rfl (by decide) ?_
      cases hq
      exact z_zreturn rfl dX5_doWaysAgree_57 (by decide)
    · replace hq := z_in hq (Int.not_lt.mpr hc)
      refine z_iconst 53 dX5_doWaysAgree_52 rfl (by decide) ?_
      refine z_goto 57 dX5_doWaysAgree_53 rfl ?_
      cases hq
      exact z_zreturn rfl dX5_doWaysAgree_57 (by decide)
set_option maxRecDepth 100000 in
set_option maxHeartbeats 4000000 in
theorem Q_qT_isConsistent {g : yG} {a : Nat → Nat} {μ : zM}  {r : Int} {ν : zM}  (hq : qT_isConsistent μ = some (r, ν)) : zC g a mX9_isConsistent 46 0 0 [zr 0] μ (.inl (some (zi r))) ν := by
  unfold qT_isConsistent at hq
  refine z_of (L := [some (zr 0)]) pl_RX9 rfl (zc_of rfl) rfl rfl ?_
  refine z_aload_n 1 dX9_isConsistent_0 rfl rfl ?_
  refine z_getR (e := 1) (r := 1) 4 dX9_isConsistent_1 rfl f_RX9_12 ar_0 rfl ar_1.1 ?_
  obtain ⟨a1, h1, hq⟩ := z_b hq
  refine z_callV1 (as := []) (S := []) 7 dX9_isConsistent_4 rfl (Q_qH_isSound zH_1 h1) kX2_isSound ⟨_, _, rfl⟩ ar_1 l_RX9_269 rfl rfl rfl rfl rfl rfl rfl ?_
  refine z_if_eq 53 10 dX9_isConsistent_7 rfl rfl (fun hc => ?_) (fun hc => ?_)
  · replace hq := z_ip hq hc
    refine z_iconst 54 dX9_isConsistent_53 rfl (by decide) ?_
    cases hq
    exact z_zreturn rfl dX9_isConsistent_54 (by decide)
  · replace hq := z_in hq hc
    refine z_aload_n 11 dX9_isConsistent_10 rfl rfl ?_
    refine z_getR (e := 132) (r := 132) 14 dX9_isConsistent_11 rfl f_RX9_39 ar_0 rfl ar_132.1 ?_
    refine z_aload_n 15 dX9_isConsistent_14 rfl rfl ?_
    refine z_getR (e := 1) (r := 1) 18 dX9_isConsistent_15 rfl f_RX9_12 ar_0 rfl ar_1.1 ?_
    obtain ⟨a2, m2, h2, hq⟩ := bnd2_some hq
    refine z_callV1 (as := [zr 1]) (S := []) 21 dX9_isConsistent_18 rfl (Q_qS_countByTrying zH_1 h2) kX7_countByTrying ⟨_, _, rfl⟩ ar_132 l_RX9_213 rfl rfl rfl rfl rfl rfl rfl ?_
    refine z_aload_n 22 dX9_isConsistent_21 rfl rfl ?_
    refine z_getR (e := 132) (r := 132) 25 dX9_isConsistent_22 rfl f_RX9_39 ar_0 rfl ar_132.1 ?_
    refine z_aload_n 26 dX9_isConsistent_25 rfl rfl ?_
    refine z_getR (e := 1) (r := 1) 29 dX9_isConsistent_26 rfl f_RX9_12 ar_0 rfl ar_1.1 ?_
    obtain ⟨a3, m3, h3, hq⟩ := bnd2_some hq
    refine z_callV1 (as := [zr 1]) (S := [zi a2]) 32 dX9_isConsistent_29 rfl (Q_qS_countBySets zH_1 h3) kX7_countBySets ⟨_, _, rfl⟩ ar_132 l_RX9_217 rfl rfl rfl rfl rfl rfl rfl ?_
    refine z_icmp_ne 53 35 dX9_isConsistent_32 rfl rfl (fun hc => ?_) (fun hc => ?_)
    · replace hq := z_in hq hc
      refine z_iconst 54 dX9_isConsistent_53 rfl (by decide) ?_
      cases hq
      exact z_zreturn rfl dX9_isConsistent_54 (by decide)
    · replace hq := z_ip hq hc
      refine z_aload_n 36 dX9_isConsistent_35 rfl rfl ?_
      refine z_getR (e := 113) (r := 113) 39 dX9_isConsistent_36 rfl f_RX9_32 ar_0 rfl ar_113.1 ?_
      refine z_aload_n 40 dX9_isConsistent_39 rfl rfl ?_
      refine z_getR (e := 1) (r := 1) 43 dX9_isConsistent_40 rfl f_RX9_12 ar_0 rfl ar_1.1 ?_
      obtain ⟨a4, m4, h4, hq⟩ := bnd2_some hq
      refine z_callV1 (as := [zr 1]) (S := []) 46 dX9_isConsistent_43 rfl (Q_qP_doWaysAgree zH_1 h4) kX5_doWaysAgree ⟨_, _, rfl⟩ ar_113 l_RX9_273 rfl rfl rfl rfl rfl rfl rfl ?_
      refine z_if_eq 53 49 dX9_isConsistent_46 rfl rfl (fun hc => ?_) (fun hc => ?_)
      · replace hq := z_ip hq hc
        refine z_iconst 54 dX9_isConsistent_53 rfl (by decide) ?_
        cases hq
        exact z_zreturn rfl dX9_isConsistent_54 (by decide)
      · replace hq := z_in hq hc
        refine z_iconst 50 dX9_isConsistent_49 rfl (by decide) ?_
        refine z_goto 54 dX9_isConsistent_50 rfl ?_
        cases hq
        exact z_zreturn rfl dX9_isConsistent_54 (by decide)
