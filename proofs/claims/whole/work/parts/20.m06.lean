/-! ===== the methods do what the mirror says (laid by wip/whole/tools/proofs.py) ===== -/
set_option maxRecDepth 100000 in
set_option maxHeartbeats 4000000 in
theorem L_qM_findsCreaks_l2 {g : yG} {a : Nat → Nat} {ν : zM} {o : zO} {kc ks : Nat}  {R : zM}   (he : ∀ (m : zM), R = m → Z g a mX10_findsCreaks 1 kc ks 21 [some (zr 142), none] [] m o ν) : ∀ (n : Nat) (μ : zM) (v1 : Int), qM_findsCreaks_l2 n μ v1 = some R → Z g a mX10_findsCreaks 1 kc ks 2 [some (zr 142), some (zi v1)] [] μ o ν := by
  intro n
  induction n with
  | zero => intro μ v1 hq; cases hq
  | succ n ih =>
    intro μ v1 hq
    rw [qM_findsCreaks_l2] at hq
    refine z_iload_n 3 dX10_findsCreaks_2 rfl rfl ?_
    refine z_bipush 5 dX10_findsCreaks_3 rfl (by decide) (by decide) ?_
    refine z_icmp_ge 21 8 dX10_findsCreaks_5 rfl rfl (fun hc => ?_) (fun hc => ?_)
    · replace hq := z_in hq (Int.not_lt.mpr hc)
      exact Z.sub (zle_s (zle_n zle_nil)) (he _ (Option.some.inj hq).symm)
    · replace hq := z_ip hq hc
      refine z_aload_n 9 dX10_findsCreaks_8 rfl rfl ?_
      refine z_getR (e := 8) (r := 150) 12 dX10_findsCreaks_9 rfl f_RX10_31 ar_142 rfl ar_150.1 ?_
      refine z_iload_n 13 dX10_findsCreaks_12 rfl rfl ?_
      refine z_iconst 14 dX10_findsCreaks_13 rfl (by decide) ?_
      obtain ⟨hg14, hq⟩ := z_g hq
      obtain ⟨m1, em1, hq⟩ := z_m hq
      refine z_iastore 15 dX10_findsCreaks_14 rfl ar_150 hg14 em1 ?_
      refine z_iinc (r := (wr (v1 + 1))) (L' := [some (zr 142), some (zi (wr (v1 + 1)))]) 18 dX10_findsCreaks_15 rfl rfl rfl rfl rfl rfl ?_
      refine z_goto 2 dX10_findsCreaks_18 rfl ?_
      exact Z.sub (zle_s (zle_s zle_nil)) (ih _ _ hq)
set_option maxRecDepth 100000 in
set_option maxHeartbeats 4000000 in
theorem L_qM_findsCreaks_l23 {g : yG} {a : Nat → Nat} {ν : zM} {o : zO} {kc ks : Nat}  {R : zM}   (he : ∀ (m : zM), R = m → Z g a mX10_findsCreaks 1 kc ks 77 [some (zr 142), none] [] m o ν) : ∀ (n : Nat) (μ : zM) (v1 : Int), qM_findsCreaks_l23 n μ v1 = some R → Z g a mX10_findsCreaks 1 kc ks 23 [some (zr 142), some (zi v1)] [] μ o ν := by
  intro n
  induction n with
  | zero => intro μ v1 hq; cases hq
  | succ n ih =>
    intro μ v1 hq
    rw [qM_findsCreaks_l23] at hq
    refine z_iload_n 24 dX10_findsCreaks_23 rfl rfl ?_
    refine z_aload_n 25 dX10_findsCreaks_24 rfl rfl ?_
    refine z_getR (e := 1) (r := 143) 28 dX10_findsCreaks_25 rfl f_RX10_7 ar_142 rfl ar_143.1 ?_
    refine z_iconst 29 dX10_findsCreaks_28 rfl (by decide) ?_
    refine z_iaload (x := (μ 143 1)) 30 dX10_findsCreaks_29 rfl ar_143 ⟨by decide, by decide⟩ rfl ?_
    refine z_icmp_ge 77 33 dX10_findsCreaks_30 rfl rfl (fun hc => ?_) (fun hc => ?_)
    · replace hq := z_in hq (Int.not_lt.mpr hc)
      exact Z.sub (zle_s (zle_n zle_nil)) (he _ (Option.some.inj hq).symm)
    · replace hq := z_ip hq hc
      refine z_aload_n 34 dX10_findsCreaks_33 rfl rfl ?_
      refine z_iload_n 35 dX10_findsCreaks_34 rfl rfl ?_
      refine z_bipush 37 dX10_findsCreaks_35 rfl (by decide) (by decide) ?_
      obtain ⟨a3, h3, hq⟩ := z_b hq
      refine z_callV1 (as := [zi v1, zi 6]) (S := []) 40 dX10_findsCreaks_37 rfl (Q_qM_of  h3) kX10_of ⟨_, _, rfl⟩ ar_142 l_RX10_76 rfl rfl rfl rfl rfl rfl rfl ?_
      refine z_if_le 71 43 dX10_findsCreaks_40 rfl rfl (fun hc => ?_) (fun hc => ?_)
      · replace hq := z_in hq (Int.not_lt.mpr hc)
        refine z_iinc (r := (wr (v1 + 1))) (L' := [some (zr 142), some (zi (wr (v1 + 1)))]) 74 dX10_findsCreaks_71 rfl rfl rfl rfl rfl rfl ?_
        refine z_goto 23 dX10_findsCreaks_74 rfl ?_
        exact Z.sub (zle_s (zle_s zle_nil)) (ih _ _ hq)
      · replace hq := z_ip hq hc
        refine z_aload_n 44 dX10_findsCreaks_43 rfl rfl ?_
        refine z_getR (e := 8) (r := 150) 47 dX10_findsCreaks_44 rfl f_RX10_31 ar_142 rfl ar_150.1 ?_
        refine z_aload_n 48 dX10_findsCreaks_47 rfl rfl ?_
        refine z_aload_n 49 dX10_findsCreaks_48 rfl rfl ?_
        refine z_iload_n 50 dX10_findsCreaks_49 rfl rfl ?_
        refine z_bipush 52 dX10_findsCreaks_50 rfl (by decide) (by decide) ?_
        obtain ⟨a4, h4, hq⟩ := z_b hq
        refine z_callV1 (as := [zi v1, zi 6]) (S := [zr 142, zr 150]) 55 dX10_findsCreaks_52 rfl (Q_qM_of  h4) kX10_of ⟨_, _, rfl⟩ ar_142 l_RX10_76 rfl rfl rfl rfl rfl rfl rfl ?_
        refine z_iconst 56 dX10_findsCreaks_55 rfl (by decide) ?_
        refine z_isub (r := (wr (a4 - 1))) 57 dX10_findsCreaks_56 rfl rfl ?_
        refine z_iconst 58 dX10_findsCreaks_57 rfl (by decide) ?_
        obtain ⟨a5, h5, hq⟩ := z_b hq
        refine z_callV1 (as := [zi (wr (a4 - 1)), zi 0]) (S := [zr 150]) 61 dX10_findsCreaks_58 rfl (Q_qM_flat  h5) kX10_flat ⟨_, _, rfl⟩ ar_142 l_RX10_80 rfl rfl rfl rfl rfl rfl rfl ?_
        refine z_dup2 62 dX10_findsCreaks_61 rfl rfl rfl ?_
        obtain ⟨hg62, hq⟩ := z_g hq
        refine z_iaload (x := (μ 150 a5)) 63 dX10_findsCreaks_62 rfl ar_150 hg62 rfl ?_
        refine z_aload_n 64 dX10_findsCreaks_63 rfl rfl ?_
        refine z_iload_n 65 dX10_findsCreaks_64 rfl rfl ?_
        refine z_iconst 66 dX10_findsCreaks_65 rfl (by decide) ?_
        obtain ⟨a6, h6, hq⟩ := z_b hq
        refine z_callV1 (as := [zi v1, zi 1]) (S := [zi (μ 150 a5), zi a5, zr 150]) 69 dX10_findsCreaks_66 rfl (Q_qM_of  h6) kX10_of ⟨_, _, rfl⟩ ar_142 l_RX10_76 rfl rfl rfl rfl rfl rfl rfl ?_
        refine z_iadd (r := (wr ((μ 150 a5) + a6))) 70 dX10_findsCreaks_69 rfl rfl ?_
        obtain ⟨hg70, hq⟩ := z_g hq
        obtain ⟨m7, em7, hq⟩ := z_m hq
        refine z_iastore 71 dX10_findsCreaks_70 rfl ar_150 hg70 em7 ?_
        refine z_iinc (r := (wr (v1 + 1))) (L' := [some (zr 142), some (zi (wr (v1 + 1)))]) 74 dX10_findsCreaks_71 rfl rfl rfl rfl rfl rfl ?_
        refine z_goto 23 dX10_findsCreaks_74 rfl ?_
        exact Z.sub (zle_s (zle_s zle_nil)) (ih _ _ hq)
set_option maxRecDepth 100000 in
set_option maxHeartbeats 4000000 in
theorem Q_qM_findsCreaks {g : yG} {a : Nat → Nat} {μ : zM}  {ν : zM}  (hq : qM_findsCreaks μ = some ν) : zC g a mX10_findsCreaks 1 0 0 [zr 142] μ (.inl none) ν := by
  unfold qM_findsCreaks at hq
  refine z_of (L := [some (zr 142), none]) pl_RX10 rfl (zc_of rfl) rfl rfl ?_
  refine z_iconst 1 dX10_findsCreaks_0 rfl (by decide) ?_
  refine z_istore_n (L' := [some (zr 142), some (zi 0)]) 2 dX10_findsCreaks_1 rfl rfl rfl rfl ?_
  obtain ⟨m2, h2, hq⟩ := z_b hq
  refine Z.sub (zle_s (zle_s zle_nil)) (L_qM_findsCreaks_l2  (R := m2) (fun _ e => ?_) _ _ _ h2)
  cases e
  refine z_iconst 22 dX10_findsCreaks_21 rfl (by decide) ?_
  refine z_istore_n (L' := [some (zr 142), some (zi 0)]) 23 dX10_findsCreaks_22 rfl rfl rfl rfl ?_
  obtain ⟨m8, h8, hq⟩ := z_b hq
  refine Z.sub (zle_s (zle_s zle_nil)) (L_qM_findsCreaks_l23  (R := m8) (fun _ e => ?_) _ _ _ h8)
  cases e
  cases hq
  exact z_return rfl dX10_findsCreaks_77
set_option maxRecDepth 100000 in
set_option maxHeartbeats 4000000 in
theorem Q_qM_creak {g : yG} {a : Nat → Nat} {μ : zM} {v1 : Int} {r : Int} {ν : zM}  (hq : qM_creak μ v1 = some (r, ν)) : zC g a mX10_creak 2 0 0 [zr 142, zi v1] μ (.inl (some (zi r))) ν := by
  unfold qM_creak at hq
  refine z_of (L := [some (zr 142), some (zi v1)]) pl_RX10 rfl (zc_of rfl) rfl rfl ?_
  refine z_aload_n 1 dX10_creak_0 rfl rfl ?_
  refine z_iconst 2 dX10_creak_1 rfl (by decide) ?_
  obtain ⟨m1, em1, hq⟩ := z_m hq
  refine z_putI 5 dX10_creak_2 rfl p_RX10_57 ar_142 em1 ?_
  refine z_iload_n 6 dX10_creak_5 rfl rfl ?_
  refine z_iconst 7 dX10_creak_6 rfl (by decide) ?_
  refine z_iconst 8 dX10_creak_7 rfl (by decide) ?_
  obtain ⟨a2, h2, hq⟩ := z_b hq
  refine z_callS1 (as := [zi v1, zi 0, zi 5]) (S := []) 11 dX10_creak_8 rfl (Q_qM_isBetween  h2) kX10_isBetween l_RX10_72 rfl rfl rfl rfl rfl rfl rfl ?_
  refine z_if_ne 20 14 dX10_creak_11 rfl rfl (fun hc => ?_) (fun hc => ?_)
  · replace hq := z_in hq hc
    refine z_aload_n 21 dX10_creak_20 rfl rfl ?_
    obtain ⟨m3, h3, hq⟩ := z_b hq
    refine z_callV0 (as := []) (S := []) 24 dX10_creak_21 rfl (Q_qM_findsCreaks  h3) kX10_findsCreaks ⟨_, _, rfl⟩ ar_142 l_RX10_192 rfl rfl rfl rfl rfl rfl rfl ?_
    refine z_aload_n 25 dX10_creak_24 rfl rfl ?_
    refine z_getR (e := 8) (r := 150) 28 dX10_creak_25 rfl f_RX10_31 ar_142 rfl ar_150.1 ?_
    refine z_iload_n 29 dX10_creak_28 rfl rfl ?_
    obtain ⟨hg29, hq⟩ := z_g hq
    refine z_iaload (x := (m3 150 v1)) 30 dX10_creak_29 rfl ar_150 hg29 rfl ?_
    cases hq
    exact z_ireturn rfl dX10_creak_30
  · replace hq := z_ip hq hc
    refine z_aload_n 15 dX10_creak_14 rfl rfl ?_
    refine z_iconst 16 dX10_creak_15 rfl (by decide) ?_
    obtain ⟨a4, m4, h4, hq⟩ := bnd2_some hq
    refine z_callV1 (as := [zi 1]) (S := []) 19 dX10_creak_16 rfl (Q_qM_fails  h4) kX10_fails ⟨_, _, rfl⟩ ar_142 l_RX10_89 rfl rfl rfl rfl rfl rfl rfl ?_
    cases hq
    exact z_ireturn rfl dX10_creak_19
set_option maxRecDepth 100000 in
set_option maxHeartbeats 4000000 in
theorem L_qM_isCensus_l4 {g : yG} {a : Nat → Nat} {ν : zM} {o : zO} {kc ks : Nat} {v2 : Int} {R : zM}   (he : ∀ (m : zM), R = m → Z g a mX10_isCensus 1 kc ks 23 [some (zr 142), none, some (zi v2), none] [] m o ν) : ∀ (n : Nat) (μ : zM) (v3 : Int), qM_isCensus_l4 v2 n μ v3 = some R → Z g a mX10_isCensus 1 kc ks 4 [some (zr 142), none, some (zi v2), some (zi v3)] [] μ o ν := by
  intro n
  induction n with
  | zero => intro μ v3 hq; cases hq
  | succ n ih =>
    intro μ v3 hq
    rw [qM_isCensus_l4] at hq
    refine z_iload_n 5 dX10_isCensus_4 rfl rfl ?_
    refine z_bipush 7 dX10_isCensus_5 rfl (by decide) (by decide) ?_
    refine z_icmp_ge 23 10 dX10_isCensus_7 rfl rfl (fun hc => ?_) (fun hc => ?_)
    · replace hq := z_in hq (Int.not_lt.mpr hc)
      exact Z.sub (zle_s (zle_n (zle_s (zle_n zle_nil)))) (he _ (Option.some.inj hq).symm)
    · replace hq := z_ip hq hc
      refine z_aload_n 11 dX10_isCensus_10 rfl rfl ?_
      refine z_getR (e := 9) (r := 151) 14 dX10_isCensus_11 rfl f_RX10_34 ar_142 rfl ar_151.1 ?_
      refine z_iload_n 15 dX10_isCensus_14 rfl rfl ?_
      refine z_iconst 16 dX10_isCensus_15 rfl (by decide) ?_
      obtain ⟨hg16, hq⟩ := z_g hq
      obtain ⟨m1, em1, hq⟩ := z_m hq
      refine z_iastore 17 dX10_isCensus_16 rfl ar_151 hg16 em1 ?_
      refine z_iinc (r := (wr (v3 + 1))) (L' := [some (zr 142), none, some (zi v2), some (zi (wr (v3 + 1)))]) 20 dX10_isCensus_17 rfl rfl rfl rfl rfl rfl ?_
      refine z_goto 4 dX10_isCensus_20 rfl ?_
      exact Z.sub (zle_s (zle_n (zle_s (zle_s zle_nil)))) (ih _ _ hq)
set_option maxRecDepth 100000 in
set_option maxHeartbeats 4000000 in
theorem J_qM_isCensus_j71 {g : yG} {a : Nat → Nat} {μ ν : zM} {o : zO} {kc ks : Nat} {v2 : Int} {v3 : Int} {rec : zM → Int → Int → Option ((Int ⊕ Unit) × zM)} {R : (Int ⊕ Unit) × zM}   (hr : ∀ (x : Int) (m : zM), R = (.inl x, m) → o = .inl (some (zi x)) ∧ ν = m) (he : ∀ (tz : Unit) (m : zM), R = (.inr tz, m) → Z g a mX10_isCensus 1 kc ks 107 [some (zr 142), none, none, none] [] m o ν) (hrec : ∀ (μ : zM) (v2 : Int) (v3 : Int), rec μ v2 v3 = some R → Z g a mX10_isCensus 1 kc ks 25 [some (zr 142), none, some (zi v2), some (zi v3)] [] μ o ν) (hq : qM_isCensus_j71 rec μ v2 v3 = some R) : Z g a mX10_isCensus 1 kc ks 71 [some (zr 142), none, some (zi v2), some (zi v3)] [] μ o ν := by
  unfold qM_isCensus_j71 at hq
  refine z_aload_n 72 dX10_isCensus_71 rfl rfl ?_
  refine z_iload_n 73 dX10_isCensus_72 rfl rfl ?_
  refine z_bipush 75 dX10_isCensus_73 rfl (by decide) (by decide) ?_
  obtain ⟨a5, h5, hq⟩ := z_b hq
  refine z_callV1 (as := [zi v3, zi 6]) (S := []) 78 dX10_isCensus_75 rfl (Q_qM_of  h5) kX10_of ⟨_, _, rfl⟩ ar_142 l_RX10_76 rfl rfl rfl rfl rfl rfl rfl ?_
  refine z_if_le 101 81 dX10_isCensus_78 rfl rfl (fun hc => ?_) (fun hc => ?_)
  · replace hq := z_in hq (Int.not_lt.mpr hc)
    refine z_iinc (r := (wr (v3 + 1))) (L' := [some (zr 142), none, some (zi v2), some (zi (wr (v3 + 1)))]) 104 dX10_isCensus_101 rfl rfl rfl rfl rfl rfl ?_
    refine z_goto 25 dX10_isCensus_104 rfl ?_
    exact Z.sub (zle_s (zle_n (zle_s (zle_s zle_nil)))) (hrec _ _ _ hq)
  · replace hq := z_ip hq hc
    refine z_aload_n 82 dX10_isCensus_81 rfl rfl ?_
    refine z_getR (e := 9) (r := 151) 85 dX10_isCensus_82 rfl f_RX10_34 ar_142 rfl ar_151.1 ?_
    refine z_aload_n 86 dX10_isCensus_85 rfl rfl ?_
    refine z_getR (e := 10) (r := 152) 89 dX10_isCensus_86 rfl f_RX10_37 ar_142 rfl ar_152.1 ?_
    refine z_iload_n 90 dX10_isCensus_89 rfl rfl ?_
    obtain ⟨hg90, hq⟩ := z_g hq
    refine z_iaload (x := (μ 152 v3)) 91 dX10_isCensus_90 rfl ar_152 hg90 rfl ?_
    refine z_dup2 92 dX10_isCensus_91 rfl rfl rfl ?_
    obtain ⟨hg92, hq⟩ := z_g hq
    refine z_iaload (x := (μ 151 (μ 152 v3))) 93 dX10_isCensus_92 rfl ar_151 hg92 rfl ?_
    refine z_aload_n 94 dX10_isCensus_93 rfl rfl ?_
    refine z_iload_n 95 dX10_isCensus_94 rfl rfl ?_
    refine z_iconst 96 dX10_isCensus_95 rfl (by decide) ?_
    obtain ⟨a6, h6, hq⟩ := z_b hq
    refine z_callV1 (as := [zi v3, zi 1]) (S := [zi (μ 151 (μ 152 v3)), zi (μ 152 v3), zr 151]) 99 dX10_isCensus_96 rfl (Q_qM_of  h6) kX10_of ⟨_, _, rfl⟩ ar_142 l_RX10_76 rfl rfl rfl rfl rfl rfl rfl ?_
    refine z_iadd (r := (wr ((μ 151 (μ 152 v3)) + a6))) 100 dX10_isCensus_99 rfl rfl ?_
    obtain ⟨hg100, hq⟩ := z_g hq
    obtain ⟨m7, em7, hq⟩ := z_m hq
    refine z_iastore 101 dX10_isCensus_100 rfl ar_151 hg100 em7 ?_
    refine z_iinc (r := (wr (v3 + 1))) (L' := [some (zr 142), none, some (zi v2), some (zi (wr (v3 + 1)))]) 104 dX10_isCensus_101 rfl rfl rfl rfl rfl rfl ?_
    refine z_goto 25 dX10_isCensus_104 rfl ?_
    exact Z.sub (zle_s (zle_n (zle_s (zle_s zle_nil)))) (hrec _ _ _ hq)
set_option maxRecDepth 100000 in
set_option maxHeartbeats 4000000 in
theorem L_qM_isCensus_l25 {g : yG} {a : Nat → Nat} {ν : zM} {o : zO} {kc ks : Nat}  {R : (Int ⊕ Unit) × zM}   (hr : ∀ (x : Int) (m : zM), R = (.inl x, m) → o = .inl (some (zi x)) ∧ ν = m) (he : ∀ (tz : Unit) (m : zM), R = (.inr tz, m) → Z g a mX10_isCensus 1 kc ks 107 [some (zr 142), none, none, none] [] m o ν) : ∀ (n : Nat) (μ : zM) (v2 : Int) (v3 : Int), qM_isCensus_l25 n μ v2 v3 = some R → Z g a mX10_isCensus 1 kc ks 25 [some (zr 142), none, some (zi v2), some (zi v3)] [] μ o ν := by
  intro n
  induction n with
  | zero => intro μ v2 v3 hq; cases hq
  | succ n ih =>
    intro μ v2 v3 hq
    rw [qM_isCensus_l25] at hq
    refine z_iload_n 26 dX10_isCensus_25 rfl rfl ?_
    refine z_aload_n 27 dX10_isCensus_26 rfl rfl ?_
    refine z_getR (e := 1) (r := 143) 30 dX10_isCensus_27 rfl f_RX10_7 ar_142 rfl ar_143.1 ?_
    refine z_iconst 31 dX10_isCensus_30 rfl (by decide) ?_
    refine z_iaload (x := (μ 143 1)) 32 dX10_isCensus_31 rfl ar_143 ⟨by decide, by decide⟩ rfl ?_
    refine z_icmp_ge 107 35 dX10_isCensus_32 rfl rfl (fun hc => ?_) (fun hc => ?_)
    · replace hq := z_in hq (Int.not_lt.mpr hc)
      exact Z.sub (zle_s (zle_n (zle_n (zle_n zle_nil)))) (he _ _ (Option.some.inj hq).symm)
    · replace hq := z_ip hq hc
      refine z_aload_n 36 dX10_isCensus_35 rfl rfl ?_
      refine z_getR (e := 10) (r := 152) 39 dX10_isCensus_36 rfl f_RX10_37 ar_142 rfl ar_152.1 ?_
      refine z_iload_n 40 dX10_isCensus_39 rfl rfl ?_
      refine z_iload_n 41 dX10_isCensus_40 rfl rfl ?_
      refine z_bipush 43 dX10_isCensus_41 rfl (by decide) (by decide) ?_
      refine z_irem 44 dX10_isCensus_43 rfl (by decide) ?_
      obtain ⟨hg44, hq⟩ := z_g hq
      obtain ⟨m3, em3, hq⟩ := z_m hq
      refine z_iastore 45 dX10_isCensus_44 rfl ar_152 hg44 em3 ?_
      refine z_iload_n 46 dX10_isCensus_45 rfl rfl ?_
      refine z_bipush 48 dX10_isCensus_46 rfl (by decide) (by decide) ?_
      refine z_idiv 49 dX10_isCensus_48 rfl (by decide) ?_
      refine z_istore_n (L' := [some (zr 142), none, some (zi (wr (Int.tdiv v2 6))), some (zi v3)]) 50 dX10_isCensus_49 rfl rfl rfl rfl ?_
      refine z_aload_n 51 dX10_isCensus_50 rfl rfl ?_
      refine z_iload_n 52 dX10_isCensus_51 rfl rfl ?_
      refine z_bipush 54 dX10_isCensus_52 rfl (by decide) (by decide) ?_
      obtain ⟨a4, h4, hq⟩ := z_b hq
      refine z_callV1 (as := [zi v3, zi 6]) (S := []) 57 dX10_isCensus_54 rfl (Q_qM_of  h4) kX10_of ⟨_, _, rfl⟩ ar_142 l_RX10_76 rfl rfl rfl rfl rfl rfl rfl ?_
      refine z_if_ne 71 60 dX10_isCensus_57 rfl rfl (fun hc => ?_) (fun hc => ?_)
      · replace hq := z_in hq hc
        exact Z.sub (zle_s (zle_n (zle_s (zle_s zle_nil)))) (J_qM_isCensus_j71 hr he ih hq)
      · replace hq := z_ip hq hc
        refine z_aload_n 61 dX10_isCensus_60 rfl rfl ?_
        refine z_getR (e := 10) (r := 152) 64 dX10_isCensus_61 rfl f_RX10_37 ar_142 rfl ar_152.1 ?_
        refine z_iload_n 65 dX10_isCensus_64 rfl rfl ?_
        obtain ⟨hg65, hq⟩ := z_g hq
        refine z_iaload (x := (m3 152 v3)) 66 dX10_isCensus_65 rfl ar_152 hg65 rfl ?_
        refine z_if_le 71 69 dX10_isCensus_66 rfl rfl (fun hc => ?_) (fun hc => ?_)
        · replace hq := z_in hq (Int.not_lt.mpr hc)
          exact Z.sub (zle_s (zle_n (zle_s (zle_s zle_nil)))) (J_qM_isCensus_j71 hr he ih hq)
        · replace hq := z_ip hq hc
          refine z_iconst 70 dX10_isCensus_69 rfl (by decide) ?_
          obtain ⟨ho, hv⟩ := hr _ _ (Option.some.inj hq).symm
          exact z_conv ho hv (z_zreturn rfl dX10_isCensus_70 (by decide))
set_option maxRecDepth 100000 in
set_option maxHeartbeats 4000000 in
theorem L_qM_isCensus_l109 {g : yG} {a : Nat → Nat} {μ ν : zM} {o : zO} {kc ks : Nat}  {R : Int ⊕ Unit}   (hr : ∀ (x : Int), R = .inl x → o = .inl (some (zi x)) ∧ ν = μ) (he : ∀ (tz : Unit), R = .inr tz → Z g a mX10_isCensus 1 kc ks 138 [some (zr 142), none, none, none] [] μ o ν) : ∀ (n : Nat) (v3 : Int), qM_isCensus_l109 μ n v3 = some R → Z g a mX10_isCensus 1 kc ks 109 [some (zr 142), none, none, some (zi v3)] [] μ o ν := by
  intro n
  induction n with
  | zero => intro v3 hq; cases hq
  | succ n ih =>
    intro v3 hq
    rw [qM_isCensus_l109] at hq
    refine z_iload_n 110 dX10_isCensus_109 rfl rfl ?_
    refine z_bipush 112 dX10_isCensus_110 rfl (by decide) (by decide) ?_
    refine z_icmp_ge 138 115 dX10_isCensus_112 rfl rfl (fun hc => ?_) (fun hc => ?_)
    · replace hq := z_in hq (Int.not_lt.mpr hc)
      exact Z.sub (zle_s (zle_n (zle_n (zle_n zle_nil)))) (he _ (Option.some.inj hq).symm)
    · replace hq := z_ip hq hc
      refine z_aload_n 116 dX10_isCensus_115 rfl rfl ?_
      refine z_getR (e := 9) (r := 151) 119 dX10_isCensus_116 rfl f_RX10_34 ar_142 rfl ar_151.1 ?_
      refine z_iload_n 120 dX10_isCensus_119 rfl rfl ?_
      obtain ⟨hg120, hq⟩ := z_g hq
      refine z_iaload (x := (μ 151 v3)) 121 dX10_isCensus_120 rfl ar_151 hg120 rfl ?_
      refine z_aload_n 122 dX10_isCensus_121 rfl rfl ?_
      refine z_getR (e := 8) (r := 150) 125 dX10_isCensus_122 rfl f_RX10_31 ar_142 rfl ar_150.1 ?_
      refine z_iload_n 126 dX10_isCensus_125 rfl rfl ?_
      obtain ⟨hg126, hq⟩ := z_g hq
      refine z_iaload (x := (μ 150 v3)) 127 dX10_isCensus_126 rfl ar_150 hg126 rfl ?_
      refine z_icmp_eq 132 130 dX10_isCensus_127 rfl rfl (fun hc => ?_) (fun hc => ?_)
      · replace hq := z_ip hq hc
        refine z_iinc (r := (wr (v3 + 1))) (L' := [some (zr 142), none, none, some (zi (wr (v3 + 1)))]) 135 dX10_isCensus_132 rfl rfl rfl rfl rfl rfl ?_
        refine z_goto 109 dX10_isCensus_135 rfl ?_
        exact Z.sub (zle_s (zle_n (zle_n (zle_s zle_nil)))) (ih _ hq)
      · replace hq := z_in hq hc
        refine z_iconst 131 dX10_isCensus_130 rfl (by decide) ?_
        obtain ⟨ho, hv⟩ := hr _ (Option.some.inj hq).symm
        exact z_conv ho hv (z_zreturn rfl dX10_isCensus_131 (by decide))
set_option maxRecDepth 100000 in
set_option maxHeartbeats 4000000 in
theorem Q_qM_isCensus {g : yG} {a : Nat → Nat} {μ : zM} {v1 : Int} {r : Int} {ν : zM}  (hq : qM_isCensus μ v1 = some (r, ν)) : zC g a mX10_isCensus 1 0 0 [zr 142, zi v1] μ (.inl (some (zi r))) ν := by
  unfold qM_isCensus at hq
  refine z_of (L := [some (zr 142), some (zi v1), none, none]) pl_RX10 rfl (zc_of rfl) rfl rfl ?_
  refine z_iload_n 1 dX10_isCensus_0 rfl rfl ?_
  refine z_istore_n (L' := [some (zr 142), some (zi v1), some (zi v1), none]) 2 dX10_isCensus_1 rfl rfl rfl rfl ?_
  refine z_iconst 3 dX10_isCensus_2 rfl (by decide) ?_
  refine z_istore_n (L' := [some (zr 142), some (zi v1), some (zi v1), some (zi 0)]) 4 dX10_isCensus_3 rfl rfl rfl rfl ?_
  obtain ⟨m2, h2, hq⟩ := z_b hq
  refine Z.sub (zle_s (zle_n (zle_s (zle_s zle_nil)))) (L_qM_isCensus_l4  (R := m2) (fun _ e => ?_) _ _ _ h2)
  cases e
  refine z_iconst 24 dX10_isCensus_23 rfl (by decide) ?_
  refine z_istore_n (L' := [some (zr 142), none, some (zi v1), some (zi 0)]) 25 dX10_isCensus_24 rfl rfl rfl rfl ?_
  rcases bndS2_some hq with ⟨x8, m8, h8, hq⟩ | ⟨t8, m8, h8, hq⟩
  · exact Z.sub (zle_s (zle_n (zle_s (zle_s zle_nil)))) (L_qM_isCensus_l25  (R := (.inl x8, m8)) (fun _ _ e => by cases e; cases hq; exact ⟨rfl, rfl⟩) (fun _ _ e => by cases e) _ _ _ _ h8)
  · refine Z.sub (zle_s (zle_n (zle_s (zle_s zle_nil)))) (L_qM_isCensus_l25  (R := (.inr t8, m8)) (fun _ _ e => by cases e) (fun _ _ e => ?_) _ _ _ _ h8)
    cases e
    refine z_iconst 108 dX10_isCensus_107 rfl (by decide) ?_
    refine z_istore_n (L' := [some (zr 142), none, none, some (zi 0)]) 109 dX10_isCensus_108 rfl rfl rfl rfl ?_
    rcases bndS_some hq with ⟨x9, h9, hq⟩ | ⟨t9, h9, hq⟩
    · exact Z.sub (zle_s (zle_n (zle_n (zle_s zle_nil)))) (L_qM_isCensus_l109  (R := .inl x9) (fun _ e => by cases e; cases hq; exact ⟨rfl, rfl⟩) (fun _ e => by cases e) _ _ h9)
    · refine Z.sub (zle_s (zle_n (zle_n (zle_s zle_nil)))) (L_qM_isCensus_l109  (R := .inr t9) (fun _ e => by cases e) (fun _ e => ?_) _ _ h9)
      cases e
      refine z_iconst 139 dX10_isCensus_138 rfl (by decide) ?_
      cases hq
      exact z_zreturn rfl dX10_isCensus_139 (by decide)
set_option maxRecDepth 100000 in
set_option maxHeartbeats 4000000 in
theorem L_qM_numbers_l4 {g : yG} {a : Nat → Nat} {μ ν : zM} {o : zO} {kc ks : Nat}  {R : Int}   (he : ∀ (tz : Int), R = tz → Z g a mX10_numbers 0 kc ks 25 [some (zr 142), some (zi tz), none] [] μ o ν) : ∀ (n : Nat) (v1 : Int) (v2 : Int), qM_numbers_l4 μ n v1 v2 = some R → Z g a mX10_numbers 0 kc ks 4 [some (zr 142), some (zi v1), some (zi v2)] [] μ o ν := by
  intro n
  induction n with
  | zero => intro v1 v2 hq; cases hq
  | succ n ih =>
    intro v1 v2 hq
    rw [qM_numbers_l4] at hq
    refine z_iload_n 5 dX10_numbers_4 rfl rfl ?_
    refine z_aload_n 6 dX10_numbers_5 rfl rfl ?_
    refine z_getR (e := 1) (r := 143) 9 dX10_numbers_6 rfl f_RX10_7 ar_142 rfl ar_143.1 ?_
    refine z_iconst 10 dX10_numbers_9 rfl (by decide) ?_
    refine z_iaload (x := (μ 143 1)) 11 dX10_numbers_10 rfl ar_143 ⟨by decide, by decide⟩ rfl ?_
    refine z_icmp_ge 25 14 dX10_numbers_11 rfl rfl (fun hc => ?_) (fun hc => ?_)
    · replace hq := z_in hq (Int.not_lt.mpr hc)
      exact Z.sub (zle_s (zle_s (zle_n zle_nil))) (he _ (Option.some.inj hq).symm)
    · replace hq := z_ip hq hc
      refine z_iload_n 15 dX10_numbers_14 rfl rfl ?_
      refine z_bipush 17 dX10_numbers_15 rfl (by decide) (by decide) ?_
      refine z_imul (r := (wr (v1 * 6))) 18 dX10_numbers_17 rfl rfl ?_
      refine z_istore_n (L' := [some (zr 142), some (zi (wr (v1 * 6))), some (zi v2)]) 19 dX10_numbers_18 rfl rfl rfl rfl ?_
      refine z_iinc (r := (wr (v2 + 1))) (L' := [some (zr 142), some (zi (wr (v1 * 6))), some (zi (wr (v2 + 1)))]) 22 dX10_numbers_19 rfl rfl rfl rfl rfl rfl ?_
      refine z_goto 4 dX10_numbers_22 rfl ?_
      exact Z.sub (zle_s (zle_s (zle_s zle_nil))) (ih _ _ hq)
set_option maxRecDepth 100000 in
set_option maxHeartbeats 4000000 in
theorem Q_qM_numbers {g : yG} {a : Nat → Nat} {μ : zM}  {r : Int}  (hq : qM_numbers μ = some r) : zC g a mX10_numbers 0 0 0 [zr 142] μ (.inl (some (zi r))) μ := by
  unfold qM_numbers at hq
  refine z_of (L := [some (zr 142), none, none]) pl_RX10 rfl (zc_of rfl) rfl rfl ?_
  refine z_iconst 1 dX10_numbers_0 rfl (by decide) ?_
  refine z_istore_n (L' := [some (zr 142), some (zi 1), none]) 2 dX10_numbers_1 rfl rfl rfl rfl ?_
  refine z_iconst 3 dX10_numbers_2 rfl (by decide) ?_
  refine z_istore_n (L' := [some (zr 142), some (zi 1), some (zi 0)]) 4 dX10_numbers_3 rfl rfl rfl rfl ?_
  obtain ⟨t1, h1, hq⟩ := z_b hq
  refine Z.sub (zle_s (zle_s (zle_s zle_nil))) (L_qM_numbers_l4  (R := t1) (fun _ e => ?_) _ _ _ h1)
  cases e
  refine z_iload_n 26 dX10_numbers_25 rfl rfl ?_
  cases hq
  exact z_ireturn rfl dX10_numbers_26
set_option maxRecDepth 100000 in
set_option maxHeartbeats 4000000 in
theorem L_qM_censuses_l13 {g : yG} {a : Nat → Nat} {ν : zM} {o : zO} {kc ks : Nat}  {R : (Int) × zM}   (he : ∀ (tz : Int) (m : zM), R = (tz, m) → Z g a mX10_censuses 2 kc ks 43 [some (zr 142), some (zi tz), none] [] m o ν) : ∀ (n : Nat) (μ : zM) (v1 : Int) (v2 : Int), qM_censuses_l13 n μ v1 v2 = some R → Z g a mX10_censuses 2 kc ks 13 [some (zr 142), some (zi v1), some (zi v2)] [] μ o ν := by
  intro n
  induction n with
  | zero => intro μ v1 v2 hq; cases hq
  | succ n ih =>
    intro μ v1 v2 hq
    rw [qM_censuses_l13] at hq
    refine z_iload_n 14 dX10_censuses_13 rfl rfl ?_
    refine z_aload_n 15 dX10_censuses_14 rfl rfl ?_
    obtain ⟨a3, h3, hq⟩ := z_b hq
    refine z_callV1 (as := []) (S := [zi v2]) 18 dX10_censuses_15 rfl (Q_qM_numbers  h3) kX10_numbers ⟨_, _, rfl⟩ ar_142 l_RX10_195 rfl rfl rfl rfl rfl rfl rfl ?_
    refine z_icmp_ge 43 21 dX10_censuses_18 rfl rfl (fun hc => ?_) (fun hc => ?_)
    · replace hq := z_in hq (Int.not_lt.mpr hc)
      exact Z.sub (zle_s (zle_s (zle_n zle_nil))) (he _ _ (Option.some.inj hq).symm)
    · replace hq := z_ip hq hc
      refine z_iload_n 22 dX10_censuses_21 rfl rfl ?_
      refine z_aload_n 23 dX10_censuses_22 rfl rfl ?_
      refine z_iload_n 24 dX10_censuses_23 rfl rfl ?_
      obtain ⟨a4, m4, h4, hq⟩ := bnd2_some hq
      refine z_callV1 (as := [zi v2]) (S := [zi v1]) 27 dX10_censuses_24 rfl (Q_qM_isCensus  h4) kX10_isCensus ⟨_, _, rfl⟩ ar_142 l_RX10_197 rfl rfl rfl rfl rfl rfl rfl ?_
      refine z_if_eq 34 30 dX10_censuses_27 rfl rfl (fun hc => ?_) (fun hc => ?_)
      · replace hq := z_ip hq hc
        refine z_iconst 35 dX10_censuses_34 rfl (by decide) ?_
        refine z_iadd (r := (wr (v1 + 0))) 36 dX10_censuses_35 rfl rfl ?_
        refine z_istore_n (L' := [some (zr 142), some (zi (wr (v1 + 0))), some (zi v2)]) 37 dX10_censuses_36 rfl rfl rfl rfl ?_
        refine z_iinc (r := (wr (v2 + 1))) (L' := [some (zr 142), some (zi (wr (v1 + 0))), some (zi (wr (v2 + 1)))]) 40 dX10_censuses_37 rfl rfl rfl rfl rfl rfl ?_
        refine z_goto 13 dX10_censuses_40 rfl ?_
        exact Z.sub (zle_s (zle_s (zle_s zle_nil))) (ih _ _ _ hq)
      · replace hq := z_in hq hc
        refine z_iconst 31 dX10_censuses_30 rfl (by decide) ?_
        refine z_goto 35 dX10_censuses_31 rfl ?_
        refine z_iadd (r := (wr (v1 + 1))) 36 dX10_censuses_35 rfl rfl ?_
        refine z_istore_n (L' := [some (zr 142), some (zi (wr (v1 + 1))), some (zi v2)]) 37 dX10_censuses_36 rfl rfl rfl rfl ?_
        refine z_iinc (r := (wr (v2 + 1))) (L' := [some (zr 142), some (zi (wr (v1 + 1))), some (zi (wr (v2 + 1)))]) 40 dX10_censuses_37 rfl rfl rfl rfl rfl rfl ?_
        refine z_goto 13 dX10_censuses_40 rfl ?_
        exact Z.sub (zle_s (zle_s (zle_s zle_nil))) (ih _ _ _ hq)
set_option maxRecDepth 100000 in
set_option maxHeartbeats 4000000 in
theorem Q_qM_censuses {g : yG} {a : Nat → Nat} {μ : zM}  {r : Int} {ν : zM}  (hq : qM_censuses μ = some (r, ν)) : zC g a mX10_censuses 2 0 0 [zr 142] μ (.inl (some (zi r))) ν := by
  unfold qM_censuses at hq
  refine z_of (L := [some (zr 142), none, none]) pl_RX10 rfl (zc_of rfl) rfl rfl ?_
  refine z_aload_n 1 dX10_censuses_0 rfl rfl ?_
  refine z_iconst 2 dX10_censuses_1 rfl (by decide) ?_
  obtain ⟨m1, em1, hq⟩ := z_m hq
  refine z_putI 5 dX10_censuses_2 rfl p_RX10_57 ar_142 em1 ?_
  refine z_aload_n 6 dX10_censuses_5 rfl rfl ?_
  obtain ⟨m2, h2, hq⟩ := z_b hq
  refine z_callV0 (as := []) (S := []) 9 dX10_censuses_6 rfl (Q_qM_findsCreaks  h2) kX10_findsCreaks ⟨_, _, rfl⟩ ar_142 l_RX10_192 rfl rfl rfl rfl rfl rfl rfl ?_
  refine z_iconst 10 dX10_censuses_9 rfl (by decide) ?_
  refine z_istore_n (L' := [some (zr 142), some (zi 0), none]) 11 dX10_censuses_10 rfl rfl rfl rfl ?_
  refine z_iconst 12 dX10_censuses_11 rfl (by decide) ?_
  refine z_istore_n (L' := [some (zr 142), some (zi 0), some (zi 0)]) 13 dX10_censuses_12 rfl rfl rfl rfl ?_
  obtain ⟨t5, m5, h5, hq⟩ := bnd2_some hq
  refine Z.sub (zle_s (zle_s (zle_s zle_nil))) (L_qM_censuses_l13  (R := (t5, m5)) (fun _ _ e => ?_) _ _ _ _ h5)
  cases e
  refine z_iload_n 44 dX10_censuses_43 rfl rfl ?_
  cases hq
  exact z_ireturn rfl dX10_censuses_44
set_option maxRecDepth 100000 in
set_option maxHeartbeats 4000000 in
theorem Q_qM_censusesBySets {g : yG} {a : Nat → Nat} {μ : zM}  {r : Int} {ν : zM}  (hq : qM_censusesBySets μ = some (r, ν)) : zC g a mX10_censusesBySets 3 0 0 [zr 142] μ (.inl (some (zi r))) ν := by
  unfold qM_censusesBySets at hq
  refine z_of (L := [some (zr 142)]) pl_RX10 rfl (zc_of rfl) rfl rfl ?_
  refine z_aload_n 1 dX10_censusesBySets_0 rfl rfl ?_
  obtain ⟨a1, m1, h1, hq⟩ := bnd2_some hq
  refine z_callV1 (as := []) (S := []) 4 dX10_censusesBySets_1 rfl (Q_qM_censuses  h1) kX10_censuses ⟨_, _, rfl⟩ ar_142 l_RX10_200 rfl rfl rfl rfl rfl rfl rfl ?_
  cases hq
  exact z_ireturn rfl dX10_censusesBySets_4
set_option maxRecDepth 100000 in
set_option maxHeartbeats 4000000 in
theorem L_qM_possibleFloors_l42 {g : yG} {a : Nat → Nat} {ν : zM} {o : zO} {kc ks : Nat} {v2 : Int} {R : (Int) × zM}   (he : ∀ (tz : Int) (m : zM), R = (tz, m) → Z g a mX10_possibleFloors 2 kc ks 77 [some (zr 142), none, some (zi v2), some (zi tz), none, none] [] m o ν) : ∀ (n : Nat) (μ : zM) (v3 : Int) (v4 : Int), qM_possibleFloors_l42 v2 n μ v3 v4 = some R → Z g a mX10_possibleFloors 2 kc ks 42 [some (zr 142), none, some (zi v2), some (zi v3), some (zi v4), none] [] μ o ν := by
  intro n
  induction n with
  | zero => intro μ v3 v4 hq; cases hq
  | succ n ih =>
    intro μ v3 v4 hq
    rw [qM_possibleFloors_l42] at hq
    refine z_iload 44 dX10_possibleFloors_42 rfl rfl ?_
    refine z_aload_n 45 dX10_possibleFloors_44 rfl rfl ?_
    obtain ⟨a5, h5, hq⟩ := z_b hq
    refine z_callV1 (as := []) (S := [zi v4]) 48 dX10_possibleFloors_45 rfl (Q_qM_numbers  h5) kX10_numbers ⟨_, _, rfl⟩ ar_142 l_RX10_195 rfl rfl rfl rfl rfl rfl rfl ?_
    refine z_icmp_ge 77 51 dX10_possibleFloors_48 rfl rfl (fun hc => ?_) (fun hc => ?_)
    · replace hq := z_in hq (Int.not_lt.mpr hc)
      exact Z.sub (zle_s (zle_n (zle_s (zle_s (zle_n (zle_n zle_nil)))))) (he _ _ (Option.some.inj hq).symm)
    · replace hq := z_ip hq hc
      refine z_aload_n 52 dX10_possibleFloors_51 rfl rfl ?_
      refine z_iload 54 dX10_possibleFloors_52 rfl rfl ?_
      obtain ⟨a6, m6, h6, hq⟩ := bnd2_some hq
      refine z_callV1 (as := [zi v4]) (S := []) 57 dX10_possibleFloors_54 rfl (Q_qM_isCensus  h6) kX10_isCensus ⟨_, _, rfl⟩ ar_142 l_RX10_197 rfl rfl rfl rfl rfl rfl rfl ?_
      refine z_if_eq 71 60 dX10_possibleFloors_57 rfl rfl (fun hc => ?_) (fun hc => ?_)
      · replace hq := z_ip hq hc
        refine z_iinc (r := (wr (v4 + 1))) (L' := [some (zr 142), none, some (zi v2), some (zi v3), some (zi (wr (v4 + 1))), none]) 74 dX10_possibleFloors_71 rfl rfl rfl rfl rfl rfl ?_
        refine z_goto 42 dX10_possibleFloors_74 rfl ?_
        exact Z.sub (zle_s (zle_n (zle_s (zle_s (zle_s (zle_n zle_nil)))))) (ih _ _ _ hq)
      · replace hq := z_in hq hc
        refine z_iload_n 61 dX10_possibleFloors_60 rfl rfl ?_
        refine z_iconst 62 dX10_possibleFloors_61 rfl (by decide) ?_
        refine z_aload_n 63 dX10_possibleFloors_62 rfl rfl ?_
        refine z_getR (e := 10) (r := 152) 66 dX10_possibleFloors_63 rfl f_RX10_37 ar_142 rfl ar_152.1 ?_
        refine z_iload_n 67 dX10_possibleFloors_66 rfl rfl ?_
        obtain ⟨hg67, hq⟩ := z_g hq
        refine z_iaload (x := (m6 152 v2)) 68 dX10_possibleFloors_67 rfl ar_152 hg67 rfl ?_
        refine z_ishl (r := (yshl 1 (m6 152 v2))) 69 dX10_possibleFloors_68 rfl rfl ?_
        refine z_ior (r := (yor v3 (yshl 1 (m6 152 v2)))) 70 dX10_possibleFloors_69 rfl rfl ?_
        refine z_istore_n (L' := [some (zr 142), none, some (zi v2), some (zi (yor v3 (yshl 1 (m6 152 v2)))), some (zi v4), none]) 71 dX10_possibleFloors_70 rfl rfl rfl rfl ?_
        refine z_iinc (r := (wr (v4 + 1))) (L' := [some (zr 142), none, some (zi v2), some (zi (yor v3 (yshl 1 (m6 152 v2)))), some (zi (wr (v4 + 1))), none]) 74 dX10_possibleFloors_71 rfl rfl rfl rfl rfl rfl ?_
        refine z_goto 42 dX10_possibleFloors_74 rfl ?_
        exact Z.sub (zle_s (zle_n (zle_s (zle_s (zle_s (zle_n zle_nil)))))) (ih _ _ _ hq)
set_option maxRecDepth 100000 in
set_option maxHeartbeats 4000000 in
theorem L_qM_possibleFloors_l83 {g : yG} {a : Nat → Nat} {μ ν : zM} {o : zO} {kc ks : Nat} {v3 : Int} {R : Int}   (he : ∀ (tz : Int), R = tz → Z g a mX10_possibleFloors 2 kc ks 107 [none, none, none, some (zi v3), some (zi tz), none] [] μ o ν) : ∀ (n : Nat) (v4 : Int) (v5 : Int), qM_possibleFloors_l83 μ v3 n v4 v5 = some R → Z g a mX10_possibleFloors 2 kc ks 83 [none, none, none, some (zi v3), some (zi v4), some (zi v5)] [] μ o ν := by
  intro n
  induction n with
  | zero => intro v4 v5 hq; cases hq
  | succ n ih =>
    intro v4 v5 hq
    rw [qM_possibleFloors_l83] at hq
    refine z_iload 85 dX10_possibleFloors_83 rfl rfl ?_
    refine z_bipush 87 dX10_possibleFloors_85 rfl (by decide) (by decide) ?_
    refine z_icmp_ge 107 90 dX10_possibleFloors_87 rfl rfl (fun hc => ?_) (fun hc => ?_)
    · replace hq := z_in hq (Int.not_lt.mpr hc)
      exact Z.sub (zle_n (zle_n (zle_n (zle_s (zle_s (zle_n zle_nil)))))) (he _ (Option.some.inj hq).symm)
    · replace hq := z_ip hq hc
      refine z_iload 92 dX10_possibleFloors_90 rfl rfl ?_
      refine z_iload_n 93 dX10_possibleFloors_92 rfl rfl ?_
      refine z_iload 95 dX10_possibleFloors_93 rfl rfl ?_
      refine z_ishr (r := (yshr v3 v5)) 96 dX10_possibleFloors_95 rfl rfl ?_
      refine z_iconst 97 dX10_possibleFloors_96 rfl (by decide) ?_
      refine z_iand (r := (yand (yshr v3 v5) 1)) 98 dX10_possibleFloors_97 rfl rfl ?_
      refine z_iadd (r := (wr (v4 + (yand (yshr v3 v5) 1)))) 99 dX10_possibleFloors_98 rfl rfl ?_
      refine z_istore (L' := [none, none, none, some (zi v3), some (zi (wr (v4 + (yand (yshr v3 v5) 1)))), some (zi v5)]) 101 dX10_possibleFloors_99 rfl rfl rfl rfl ?_
      refine z_iinc (r := (wr (v5 + 1))) (L' := [none, none, none, some (zi v3), some (zi (wr (v4 + (yand (yshr v3 v5) 1)))), some (zi (wr (v5 + 1)))]) 104 dX10_possibleFloors_101 rfl rfl rfl rfl rfl rfl ?_
      refine z_goto 83 dX10_possibleFloors_104 rfl ?_
      exact Z.sub (zle_n (zle_n (zle_n (zle_s (zle_s (zle_s zle_nil)))))) (ih _ _ hq)
set_option maxRecDepth 100000 in
set_option maxHeartbeats 4000000 in
theorem Q_qM_possibleFloors {g : yG} {a : Nat → Nat} {μ : zM} {v1 : Int} {r : Int} {ν : zM}  (hq : qM_possibleFloors μ v1 = some (r, ν)) : zC g a mX10_possibleFloors 2 0 0 [zr 142, zi v1] μ (.inl (some (zi r))) ν := by
  unfold qM_possibleFloors at hq
  refine z_of (L := [some (zr 142), some (zi v1), none, none, none, none]) pl_RX10 rfl (zc_of rfl) rfl rfl ?_
  refine z_aload_n 1 dX10_possibleFloors_0 rfl rfl ?_
  refine z_iconst 2 dX10_possibleFloors_1 rfl (by decide) ?_
  obtain ⟨m1, em1, hq⟩ := z_m hq
  refine z_putI 5 dX10_possibleFloors_2 rfl p_RX10_57 ar_142 em1 ?_
  refine z_aload_n 6 dX10_possibleFloors_5 rfl rfl ?_
  refine z_iload_n 7 dX10_possibleFloors_6 rfl rfl ?_
  obtain ⟨a2, h2, hq⟩ := z_b hq
  refine z_callV1 (as := [zi v1]) (S := []) 10 dX10_possibleFloors_7 rfl (Q_qM_place  h2) kX10_place ⟨_, _, rfl⟩ ar_142 l_RX10_110 rfl rfl rfl rfl rfl rfl rfl ?_
  refine z_istore_n (L' := [some (zr 142), some (zi v1), some (zi a2), none, none, none]) 11 dX10_possibleFloors_10 rfl rfl rfl rfl ?_
  refine z_iload_n 12 dX10_possibleFloors_11 rfl rfl ?_
  refine z_if_ge 21 15 dX10_possibleFloors_12 rfl rfl (fun hc => ?_) (fun hc => ?_)
  · replace hq := z_in hq (Int.not_lt.mpr hc)
    refine z_aload_n 22 dX10_possibleFloors_21 rfl rfl ?_
    refine z_iload_n 23 dX10_possibleFloors_22 rfl rfl ?_
    refine z_bipush 25 dX10_possibleFloors_23 rfl (by decide) (by decide) ?_
    obtain ⟨a3, h3, hq⟩ := z_b hq
    refine z_callV1 (as := [zi a2, zi 6]) (S := []) 28 dX10_possibleFloors_25 rfl (Q_qM_of  h3) kX10_of ⟨_, _, rfl⟩ ar_142 l_RX10_76 rfl rfl rfl rfl rfl rfl rfl ?_
    refine z_if_ne 33 31 dX10_possibleFloors_28 rfl rfl (fun hc => ?_) (fun hc => ?_)
    · replace hq := z_in hq hc
      refine z_aload_n 34 dX10_possibleFloors_33 rfl rfl ?_
      obtain ⟨m4, h4, hq⟩ := z_b hq
      refine z_callV0 (as := []) (S := []) 37 dX10_possibleFloors_34 rfl (Q_qM_findsCreaks  h4) kX10_findsCreaks ⟨_, _, rfl⟩ ar_142 l_RX10_192 rfl rfl rfl rfl rfl rfl rfl ?_
      refine z_iconst 38 dX10_possibleFloors_37 rfl (by decide) ?_
      refine z_istore_n (L' := [some (zr 142), some (zi v1), some (zi a2), some (zi 0), none, none]) 39 dX10_possibleFloors_38 rfl rfl rfl rfl ?_
      refine z_iconst 40 dX10_possibleFloors_39 rfl (by decide) ?_
      refine z_istore (L' := [some (zr 142), some (zi v1), some (zi a2), some (zi 0), some (zi 0), none]) 42 dX10_possibleFloors_40 rfl rfl rfl rfl ?_
      obtain ⟨t7, m7, h7, hq⟩ := bnd2_some hq
      refine Z.sub (zle_s (zle_n (zle_s (zle_s (zle_s (zle_n zle_nil)))))) (L_qM_possibleFloors_l42  (R := (t7, m7)) (fun _ _ e => ?_) _ _ _ _ h7)
      cases e
      refine z_iconst 78 dX10_possibleFloors_77 rfl (by decide) ?_
      refine z_istore (L' := [some (zr 142), none, some (zi a2), some (zi t7), some (zi 0), none]) 80 dX10_possibleFloors_78 rfl rfl rfl rfl ?_
      refine z_iconst 81 dX10_possibleFloors_80 rfl (by decide) ?_
      refine z_istore (L' := [some (zr 142), none, some (zi a2), some (zi t7), some (zi 0), some (zi 0)]) 83 dX10_possibleFloors_81 rfl rfl rfl rfl ?_
      obtain ⟨t8, h8, hq⟩ := z_b hq
      refine Z.sub (zle_n (zle_n (zle_n (zle_s (zle_s (zle_s zle_nil)))))) (L_qM_possibleFloors_l83  (R := t8) (fun _ e => ?_) _ _ _ h8)
      cases e
      refine z_iload 109 dX10_possibleFloors_107 rfl rfl ?_
      cases hq
      exact z_ireturn rfl dX10_possibleFloors_109
    · replace hq := z_ip hq hc
      refine z_iconst 32 dX10_possibleFloors_31 rfl (by decide) ?_
      cases hq
      exact z_ireturn rfl dX10_possibleFloors_32
  · replace hq := z_ip hq hc
    refine z_aload_n 16 dX10_possibleFloors_15 rfl rfl ?_
    refine z_iconst 17 dX10_possibleFloors_16 rfl (by decide) ?_
    obtain ⟨a9, m9, h9, hq⟩ := bnd2_some hq
    refine z_callV1 (as := [zi 1]) (S := []) 20 dX10_possibleFloors_17 rfl (Q_qM_fails  h9) kX10_fails ⟨_, _, rfl⟩ ar_142 l_RX10_89 rfl rfl rfl rfl rfl rfl rfl ?_
    cases hq
    exact z_ireturn rfl dX10_possibleFloors_20
set_option maxRecDepth 100000 in
set_option maxHeartbeats 4000000 in
theorem Q_qM_plannedFlat {g : yG} {a : Nat → Nat} {μ : zM} {v1 : Int} {r : Int} {ν : zM}  (hq : qM_plannedFlat μ v1 = some (r, ν)) : zC g a mX10_plannedFlat 6 0 0 [zr 142, zi v1] μ (.inl (some (zi r))) ν := by
  unfold qM_plannedFlat at hq
  refine z_of (L := [some (zr 142), some (zi v1)]) pl_RX10 rfl (zc_of rfl) rfl rfl ?_
  refine z_aload_n 1 dX10_plannedFlat_0 rfl rfl ?_
  refine z_iconst 2 dX10_plannedFlat_1 rfl (by decide) ?_
  obtain ⟨m1, em1, hq⟩ := z_m hq
  refine z_putI 5 dX10_plannedFlat_2 rfl p_RX10_57 ar_142 em1 ?_
  refine z_aload_n 6 dX10_plannedFlat_5 rfl rfl ?_
  refine z_iload_n 7 dX10_plannedFlat_6 rfl rfl ?_
  obtain ⟨a2, h2, hq⟩ := z_b hq
  refine z_callV1 (as := [zi v1]) (S := []) 10 dX10_plannedFlat_7 rfl (Q_qM_place  h2) kX10_place ⟨_, _, rfl⟩ ar_142 l_RX10_110 rfl rfl rfl rfl rfl rfl rfl ?_
  refine z_if_ge 19 13 dX10_plannedFlat_10 rfl rfl (fun hc => ?_) (fun hc => ?_)
  · replace hq := z_in hq (Int.not_lt.mpr hc)
    refine z_aload_n 20 dX10_plannedFlat_19 rfl rfl ?_
    obtain ⟨m3, h3, hq⟩ := z_b hq
    refine z_callV0 (as := []) (S := []) 23 dX10_plannedFlat_20 rfl (Q_qM_findsPlan  h3) kX10_findsPlan ⟨_, _, rfl⟩ ar_142 l_RX10_170 rfl rfl rfl rfl rfl rfl rfl ?_
    refine z_aload_n 24 dX10_plannedFlat_23 rfl rfl ?_
    refine z_getR (e := 6) (r := 148) 27 dX10_plannedFlat_24 rfl f_RX10_25 ar_142 rfl ar_148.1 ?_
    refine z_aload_n 28 dX10_plannedFlat_27 rfl rfl ?_
    refine z_iload_n 29 dX10_plannedFlat_28 rfl rfl ?_
    obtain ⟨a4, h4, hq⟩ := z_b hq
    refine z_callV1 (as := [zi v1]) (S := [zr 148]) 32 dX10_plannedFlat_29 rfl (Q_qM_place  h4) kX10_place ⟨_, _, rfl⟩ ar_142 l_RX10_110 rfl rfl rfl rfl rfl rfl rfl ?_
    obtain ⟨hg32, hq⟩ := z_g hq
    refine z_iaload (x := (m3 148 a4)) 33 dX10_plannedFlat_32 rfl ar_148 hg32 rfl ?_
    refine z_if_ge 44 36 dX10_plannedFlat_33 rfl rfl (fun hc => ?_) (fun hc => ?_)
    · replace hq := z_in hq (Int.not_lt.mpr hc)
      refine z_aload_n 45 dX10_plannedFlat_44 rfl rfl ?_
      refine z_getR (e := 6) (r := 148) 48 dX10_plannedFlat_45 rfl f_RX10_25 ar_142 rfl ar_148.1 ?_
      refine z_aload_n 49 dX10_plannedFlat_48 rfl rfl ?_
      refine z_iload_n 50 dX10_plannedFlat_49 rfl rfl ?_
      obtain ⟨a5, h5, hq⟩ := z_b hq
      refine z_callV1 (as := [zi v1]) (S := [zr 148]) 53 dX10_plannedFlat_50 rfl (Q_qM_place  h5) kX10_place ⟨_, _, rfl⟩ ar_142 l_RX10_110 rfl rfl rfl rfl rfl rfl rfl ?_
      obtain ⟨hg53, hq⟩ := z_g hq
      refine z_iaload (x := (m3 148 a5)) 54 dX10_plannedFlat_53 rfl ar_148 hg53 rfl ?_
      cases hq
      exact z_ireturn rfl dX10_plannedFlat_54
    · replace hq := z_ip hq hc
      refine z_aload_n 37 dX10_plannedFlat_36 rfl rfl ?_
      refine z_iconst 38 dX10_plannedFlat_37 rfl (by decide) ?_
      obtain ⟨a6, m6, h6, hq⟩ := bnd2_some hq
      refine z_callV1 (as := [zi 1]) (S := []) 41 dX10_plannedFlat_38 rfl (Q_qM_fails  h6) kX10_fails ⟨_, _, rfl⟩ ar_142 l_RX10_89 rfl rfl rfl rfl rfl rfl rfl ?_
      refine z_goto 54 dX10_plannedFlat_41 rfl ?_
      cases hq
      exact z_ireturn rfl dX10_plannedFlat_54
  · replace hq := z_ip hq hc
    refine z_aload_n 14 dX10_plannedFlat_13 rfl rfl ?_
    refine z_iconst 15 dX10_plannedFlat_14 rfl (by decide) ?_
    obtain ⟨a7, m7, h7, hq⟩ := bnd2_some hq
    refine z_callV1 (as := [zi 1]) (S := []) 18 dX10_plannedFlat_15 rfl (Q_qM_fails  h7) kX10_fails ⟨_, _, rfl⟩ ar_142 l_RX10_89 rfl rfl rfl rfl rfl rfl rfl ?_
    cases hq
    exact z_ireturn rfl dX10_plannedFlat_18
set_option maxRecDepth 100000 in
set_option maxHeartbeats 4000000 in
theorem Q_qM_plannedFlatByPlans {g : yG} {a : Nat → Nat} {μ : zM} {v1 : Int} {r : Int} {ν : zM}  (hq : qM_plannedFlatByPlans μ v1 = some (r, ν)) : zC g a mX10_plannedFlatByPlans 7 0 0 [zr 142, zi v1] μ (.inl (some (zi r))) ν := by
  unfold qM_plannedFlatByPlans at hq
  refine z_of (L := [some (zr 142), some (zi v1)]) pl_RX10 rfl (zc_of rfl) rfl rfl ?_
  refine z_aload_n 1 dX10_plannedFlatByPlans_0 rfl rfl ?_
  refine z_iload_n 2 dX10_plannedFlatByPlans_1 rfl rfl ?_
  obtain ⟨a1, m1, h1, hq⟩ := bnd2_some hq
  refine z_callV1 (as := [zi v1]) (S := []) 5 dX10_plannedFlatByPlans_2 rfl (Q_qM_plannedFlat  h1) kX10_plannedFlat ⟨_, _, rfl⟩ ar_142 l_RX10_203 rfl rfl rfl rfl rfl rfl rfl ?_
  cases hq
  exact z_ireturn rfl dX10_plannedFlatByPlans_5
set_option maxRecDepth 100000 in
set_option maxHeartbeats 4000000 in
theorem L_qM_stablePlans_l9 {g : yG} {a : Nat → Nat} {μ ν : zM} {o : zO} {kc ks : Nat}  {R : Int}   (he : ∀ (tz : Int), R = tz → Z g a mX10_stablePlans 4 kc ks 36 [some (zr 142), some (zi tz), none, none, none, none] [] μ o ν) : ∀ (n : Nat) (v1 : Int) (v2 : Int), qM_stablePlans_l9 μ n v1 v2 = some R → Z g a mX10_stablePlans 4 kc ks 9 [some (zr 142), some (zi v1), some (zi v2), none, none, none] [] μ o ν := by
  intro n
  induction n with
  | zero => intro v1 v2 hq; cases hq
  | succ n ih =>
    intro v1 v2 hq
    rw [qM_stablePlans_l9] at hq
    refine z_iload_n 10 dX10_stablePlans_9 rfl rfl ?_
    refine z_aload_n 11 dX10_stablePlans_10 rfl rfl ?_
    refine z_getR (e := 1) (r := 143) 14 dX10_stablePlans_11 rfl f_RX10_7 ar_142 rfl ar_143.1 ?_
    refine z_iconst 15 dX10_stablePlans_14 rfl (by decide) ?_
    refine z_iaload (x := (μ 143 1)) 16 dX10_stablePlans_15 rfl ar_143 ⟨by decide, by decide⟩ rfl ?_
    refine z_icmp_ge 36 19 dX10_stablePlans_16 rfl rfl (fun hc => ?_) (fun hc => ?_)
    · replace hq := z_in hq (Int.not_lt.mpr hc)
      exact Z.sub (zle_s (zle_s (zle_n (zle_n (zle_n (zle_n zle_nil)))))) (he _ (Option.some.inj hq).symm)
    · replace hq := z_ip hq hc
      refine z_iload_n 20 dX10_stablePlans_19 rfl rfl ?_
      refine z_aload_n 21 dX10_stablePlans_20 rfl rfl ?_
      refine z_getR (e := 1) (r := 143) 24 dX10_stablePlans_21 rfl f_RX10_7 ar_142 rfl ar_143.1 ?_
      refine z_iconst 25 dX10_stablePlans_24 rfl (by decide) ?_
      refine z_iaload (x := (μ 143 0)) 26 dX10_stablePlans_25 rfl ar_143 ⟨by decide, by decide⟩ rfl ?_
      refine z_iconst 27 dX10_stablePlans_26 rfl (by decide) ?_
      refine z_iadd (r := (wr ((μ 143 0) + 1))) 28 dX10_stablePlans_27 rfl rfl ?_
      refine z_imul (r := (wr (v1 * (wr ((μ 143 0) + 1))))) 29 dX10_stablePlans_28 rfl rfl ?_
      refine z_istore_n (L' := [some (zr 142), some (zi (wr (v1 * (wr ((μ 143 0) + 1))))), some (zi v2), none, none, none]) 30 dX10_stablePlans_29 rfl rfl rfl rfl ?_
      refine z_iinc (r := (wr (v2 + 1))) (L' := [some (zr 142), some (zi (wr (v1 * (wr ((μ 143 0) + 1))))), some (zi (wr (v2 + 1))), none, none, none]) 33 dX10_stablePlans_30 rfl rfl rfl rfl rfl rfl ?_
      refine z_goto 9 dX10_stablePlans_33 rfl ?_
      exact Z.sub (zle_s (zle_s (zle_s (zle_n (zle_n (zle_n zle_nil)))))) (ih _ _ hq)
set_option maxRecDepth 100000 in
set_option maxHeartbeats 4000000 in
theorem L_qM_stablePlans_l51 {g : yG} {a : Nat → Nat} {ν : zM} {o : zO} {kc ks : Nat} {v1 : Int} {v2 : Int} {v3 : Int} {R : zM}   (he : ∀ (m : zM), R = m → Z g a mX10_stablePlans 4 kc ks 101 [some (zr 142), some (zi v1), some (zi v2), some (zi v3), none, none] [] m o ν) : ∀ (n : Nat) (μ : zM) (v4 : Int) (v5 : Int), qM_stablePlans_l51 v1 v2 v3 n μ v4 v5 = some R → Z g a mX10_stablePlans 4 kc ks 51 [some (zr 142), some (zi v1), some (zi v2), some (zi v3), some (zi v4), some (zi v5)] [] μ o ν := by
  intro n
  induction n with
  | zero => intro μ v4 v5 hq; cases hq
  | succ n ih =>
    intro μ v4 v5 hq
    rw [qM_stablePlans_l51] at hq
    refine z_iload 53 dX10_stablePlans_51 rfl rfl ?_
    refine z_aload_n 54 dX10_stablePlans_53 rfl rfl ?_
    refine z_getR (e := 1) (r := 143) 57 dX10_stablePlans_54 rfl f_RX10_7 ar_142 rfl ar_143.1 ?_
    refine z_iconst 58 dX10_stablePlans_57 rfl (by decide) ?_
    refine z_iaload (x := (μ 143 1)) 59 dX10_stablePlans_58 rfl ar_143 ⟨by decide, by decide⟩ rfl ?_
    refine z_icmp_ge 101 62 dX10_stablePlans_59 rfl rfl (fun hc => ?_) (fun hc => ?_)
    · replace hq := z_in hq (Int.not_lt.mpr hc)
      exact Z.sub (zle_s (zle_s (zle_s (zle_s (zle_n (zle_n zle_nil)))))) (he _ (Option.some.inj hq).symm)
    · replace hq := z_ip hq hc
      refine z_aload_n 63 dX10_stablePlans_62 rfl rfl ?_
      refine z_getR (e := 6) (r := 148) 66 dX10_stablePlans_63 rfl f_RX10_25 ar_142 rfl ar_148.1 ?_
      refine z_iload 68 dX10_stablePlans_66 rfl rfl ?_
      refine z_iload 70 dX10_stablePlans_68 rfl rfl ?_
      refine z_aload_n 71 dX10_stablePlans_70 rfl rfl ?_
      refine z_getR (e := 1) (r := 143) 74 dX10_stablePlans_71 rfl f_RX10_7 ar_142 rfl ar_143.1 ?_
      refine z_iconst 75 dX10_stablePlans_74 rfl (by decide) ?_
      refine z_iaload (x := (μ 143 0)) 76 dX10_stablePlans_75 rfl ar_143 ⟨by decide, by decide⟩ rfl ?_
      refine z_iconst 77 dX10_stablePlans_76 rfl (by decide) ?_
      refine z_iadd (r := (wr ((μ 143 0) + 1))) 78 dX10_stablePlans_77 rfl rfl ?_
      obtain ⟨hg78, hq⟩ := z_g hq
      refine z_irem 79 dX10_stablePlans_78 rfl hg78 ?_
      refine z_iconst 80 dX10_stablePlans_79 rfl (by decide) ?_
      refine z_isub (r := (wr ((Int.tmod v4 (wr ((μ 143 0) + 1))) - 1))) 81 dX10_stablePlans_80 rfl rfl ?_
      obtain ⟨hg81, hq⟩ := z_g hq
      obtain ⟨m3, em3, hq⟩ := z_m hq
      refine z_iastore 82 dX10_stablePlans_81 rfl ar_148 hg81 em3 ?_
      refine z_iload 84 dX10_stablePlans_82 rfl rfl ?_
      refine z_aload_n 85 dX10_stablePlans_84 rfl rfl ?_
      refine z_getR (e := 1) (r := 143) 88 dX10_stablePlans_85 rfl f_RX10_7 ar_142 rfl ar_143.1 ?_
      refine z_iconst 89 dX10_stablePlans_88 rfl (by decide) ?_
      refine z_iaload (x := (m3 143 0)) 90 dX10_stablePlans_89 rfl ar_143 ⟨by decide, by decide⟩ rfl ?_
      refine z_iconst 91 dX10_stablePlans_90 rfl (by decide) ?_
      refine z_iadd (r := (wr ((m3 143 0) + 1))) 92 dX10_stablePlans_91 rfl rfl ?_
      obtain ⟨hg92, hq⟩ := z_g hq
      refine z_idiv 93 dX10_stablePlans_92 rfl hg92 ?_
      refine z_istore (L' := [some (zr 142), some (zi v1), some (zi v2), some (zi v3), some (zi (wr (Int.tdiv v4 (wr ((m3 143 0) + 1))))), some (zi v5)]) 95 dX10_stablePlans_93 rfl rfl rfl rfl ?_
      refine z_iinc (r := (wr (v5 + 1))) (L' := [some (zr 142), some (zi v1), some (zi v2), some (zi v3), some (zi (wr (Int.tdiv v4 (wr ((m3 143 0) + 1))))), some (zi (wr (v5 + 1)))]) 98 dX10_stablePlans_95 rfl rfl rfl rfl rfl rfl ?_
      refine z_goto 51 dX10_stablePlans_98 rfl ?_
      exact Z.sub (zle_s (zle_s (zle_s (zle_s (zle_s (zle_s zle_nil)))))) (ih _ _ _ hq)
set_option maxRecDepth 100000 in
set_option maxHeartbeats 4000000 in
theorem L_qM_stablePlans_l40 {g : yG} {a : Nat → Nat} {ν : zM} {o : zO} {kc ks : Nat} {v1 : Int} {R : (Int) × zM}   (he : ∀ (tz : Int) (m : zM), R = (tz, m) → Z g a mX10_stablePlans 4 kc ks 122 [some (zr 142), some (zi v1), some (zi tz), none, none, none] [] m o ν) : ∀ (n : Nat) (μ : zM) (v2 : Int) (v3 : Int), qM_stablePlans_l40 v1 n μ v2 v3 = some R → Z g a mX10_stablePlans 4 kc ks 40 [some (zr 142), some (zi v1), some (zi v2), some (zi v3), none, none] [] μ o ν := by
  intro n
  induction n with
  | zero => intro μ v2 v3 hq; cases hq
  | succ n ih =>
    intro μ v2 v3 hq
    rw [qM_stablePlans_l40] at hq
    refine z_iload_n 41 dX10_stablePlans_40 rfl rfl ?_
    refine z_iload_n 42 dX10_stablePlans_41 rfl rfl ?_
    refine z_icmp_ge 122 45 dX10_stablePlans_42 rfl rfl (fun hc => ?_) (fun hc => ?_)
    · replace hq := z_in hq (Int.not_lt.mpr hc)
      exact Z.sub (zle_s (zle_s (zle_s (zle_n (zle_n (zle_n zle_nil)))))) (he _ _ (Option.some.inj hq).symm)
    · replace hq := z_ip hq hc
      refine z_iload_n 46 dX10_stablePlans_45 rfl rfl ?_
      refine z_istore (L' := [some (zr 142), some (zi v1), some (zi v2), some (zi v3), some (zi v3), none]) 48 dX10_stablePlans_46 rfl rfl rfl rfl ?_
      refine z_iconst 49 dX10_stablePlans_48 rfl (by decide) ?_
      refine z_istore (L' := [some (zr 142), some (zi v1), some (zi v2), some (zi v3), some (zi v3), some (zi 0)]) 51 dX10_stablePlans_49 rfl rfl rfl rfl ?_
      obtain ⟨m4, h4, hq⟩ := z_b hq
      refine Z.sub (zle_s (zle_s (zle_s (zle_s (zle_s (zle_s zle_nil)))))) (L_qM_stablePlans_l51  (R := m4) (fun _ e => ?_) _ _ _ _ h4)
      cases e
      refine z_iload_n 102 dX10_stablePlans_101 rfl rfl ?_
      refine z_aload_n 103 dX10_stablePlans_102 rfl rfl ?_
      obtain ⟨a5, h5, hq⟩ := z_b hq
      refine z_callV1 (as := []) (S := [zi v2]) 106 dX10_stablePlans_103 rfl (Q_qM_isStablePlan  h5) kX10_isStablePlan ⟨_, _, rfl⟩ ar_142 l_RX10_206 rfl rfl rfl rfl rfl rfl rfl ?_
      refine z_if_eq 113 109 dX10_stablePlans_106 rfl rfl (fun hc => ?_) (fun hc => ?_)
      · replace hq := z_ip hq hc
        refine z_iconst 114 dX10_stablePlans_113 rfl (by decide) ?_
        refine z_iadd (r := (wr (v2 + 0))) 115 dX10_stablePlans_114 rfl rfl ?_
        refine z_istore_n (L' := [some (zr 142), some (zi v1), some (zi (wr (v2 + 0))), some (zi v3), none, none]) 116 dX10_stablePlans_115 rfl rfl rfl rfl ?_
        refine z_iinc (r := (wr (v3 + 1))) (L' := [some (zr 142), some (zi v1), some (zi (wr (v2 + 0))), some (zi (wr (v3 + 1))), none, none]) 119 dX10_stablePlans_116 rfl rfl rfl rfl rfl rfl ?_
        refine z_goto 40 dX10_stablePlans_119 rfl ?_
        exact Z.sub (zle_s (zle_s (zle_s (zle_s (zle_n (zle_n zle_nil)))))) (ih _ _ _ hq)
      · replace hq := z_in hq hc
        refine z_iconst 110 dX10_stablePlans_109 rfl (by decide) ?_
        refine z_goto 114 dX10_stablePlans_110 rfl ?_
        refine z_iadd (r := (wr (v2 + 1))) 115 dX10_stablePlans_114 rfl rfl ?_
        refine z_istore_n (L' := [some (zr 142), some (zi v1), some (zi (wr (v2 + 1))), some (zi v3), none, none]) 116 dX10_stablePlans_115 rfl rfl rfl rfl ?_
        refine z_iinc (r := (wr (v3 + 1))) (L' := [some (zr 142), some (zi v1), some (zi (wr (v2 + 1))), some (zi (wr (v3 + 1))), none, none]) 119 dX10_stablePlans_116 rfl rfl rfl rfl rfl rfl ?_
        refine z_goto 40 dX10_stablePlans_119 rfl ?_
        exact Z.sub (zle_s (zle_s (zle_s (zle_s (zle_n (zle_n zle_nil)))))) (ih _ _ _ hq)
set_option maxRecDepth 100000 in
set_option maxHeartbeats 4000000 in
theorem Q_qM_stablePlans {g : yG} {a : Nat → Nat} {μ : zM}  {r : Int} {ν : zM}  (hq : qM_stablePlans μ = some (r, ν)) : zC g a mX10_stablePlans 4 0 0 [zr 142] μ (.inl (some (zi r))) ν := by
  unfold qM_stablePlans at hq
  refine z_of (L := [some (zr 142), none, none, none, none, none]) pl_RX10 rfl (zc_of rfl) rfl rfl ?_
  refine z_aload_n 1 dX10_stablePlans_0 rfl rfl ?_
  refine z_iconst 2 dX10_stablePlans_1 rfl (by decide) ?_
  obtain ⟨m1, em1, hq⟩ := z_m hq
  refine z_putI 5 dX10_stablePlans_2 rfl p_RX10_57 ar_142 em1 ?_
  refine z_iconst 6 dX10_stablePlans_5 rfl (by decide) ?_
  refine z_istore_n (L' := [some (zr 142), some (zi 1), none, none, none, none]) 7 dX10_stablePlans_6 rfl rfl rfl rfl ?_
  refine z_iconst 8 dX10_stablePlans_7 rfl (by decide) ?_
  refine z_istore_n (L' := [some (zr 142), some (zi 1), some (zi 0), none, none, none]) 9 dX10_stablePlans_8 rfl rfl rfl rfl ?_
  obtain ⟨t2, h2, hq⟩ := z_b hq
  refine Z.sub (zle_s (zle_s (zle_s (zle_n (zle_n (zle_n zle_nil)))))) (L_qM_stablePlans_l9  (R := t2) (fun _ e => ?_) _ _ _ h2)
  cases e
  refine z_iconst 37 dX10_stablePlans_36 rfl (by decide) ?_
  refine z_istore_n (L' := [some (zr 142), some (zi t2), some (zi 0), none, none, none]) 38 dX10_stablePlans_37 rfl rfl rfl rfl ?_
  refine z_iconst 39 dX10_stablePlans_38 rfl (by decide) ?_
  refine z_istore_n (L' := [some (zr 142), some (zi t2), some (zi 0), some (zi 0), none, none]) 40 dX10_stablePlans_39 rfl rfl rfl rfl ?_
  obtain ⟨t6, m6, h6, hq⟩ := bnd2_some hq
  refine Z.sub (zle_s (zle_s (zle_s (zle_s (zle_n (zle_n zle_nil)))))) (L_qM_stablePlans_l40  (R := (t6, m6)) (fun _ _ e => ?_) _ _ _ _ h6)
  cases e
  refine z_iload_n 123 dX10_stablePlans_122 rfl rfl ?_
  cases hq
  exact z_ireturn rfl dX10_stablePlans_123
set_option maxRecDepth 100000 in
set_option maxHeartbeats 4000000 in
theorem L_qM_isStable_l7 {g : yG} {a : Nat → Nat} {ν : zM} {o : zO} {kc ks : Nat}  {R : zM}   (he : ∀ (m : zM), R = m → Z g a mX10_isStable 4 kc ks 38 [some (zr 142), none] [] m o ν) : ∀ (n : Nat) (μ : zM) (v1 : Int), qM_isStable_l7 n μ v1 = some R → Z g a mX10_isStable 4 kc ks 7 [some (zr 142), some (zi v1)] [] μ o ν := by
  intro n
  induction n with
  | zero => intro μ v1 hq; cases hq
  | succ n ih =>
    intro μ v1 hq
    rw [qM_isStable_l7] at hq
    refine z_iload_n 8 dX10_isStable_7 rfl rfl ?_
    refine z_aload_n 9 dX10_isStable_8 rfl rfl ?_
    refine z_getR (e := 1) (r := 143) 12 dX10_isStable_9 rfl f_RX10_7 ar_142 rfl ar_143.1 ?_
    refine z_iconst 13 dX10_isStable_12 rfl (by decide) ?_
    refine z_iaload (x := (μ 143 1)) 14 dX10_isStable_13 rfl ar_143 ⟨by decide, by decide⟩ rfl ?_
    refine z_icmp_ge 38 17 dX10_isStable_14 rfl rfl (fun hc => ?_) (fun hc => ?_)
    · replace hq := z_in hq (Int.not_lt.mpr hc)
      exact Z.sub (zle_s (zle_n zle_nil)) (he _ (Option.some.inj hq).symm)
    · replace hq := z_ip hq hc
      refine z_aload_n 18 dX10_isStable_17 rfl rfl ?_
      refine z_getR (e := 6) (r := 148) 21 dX10_isStable_18 rfl f_RX10_25 ar_142 rfl ar_148.1 ?_
      refine z_iload_n 22 dX10_isStable_21 rfl rfl ?_
      refine z_aload_n 23 dX10_isStable_22 rfl rfl ?_
      refine z_iload_n 24 dX10_isStable_23 rfl rfl ?_
      refine z_bipush 26 dX10_isStable_24 rfl (by decide) (by decide) ?_
      obtain ⟨a2, h2, hq⟩ := z_b hq
      refine z_callV1 (as := [zi v1, zi 6]) (S := [zi v1, zr 148]) 29 dX10_isStable_26 rfl (Q_qM_of  h2) kX10_of ⟨_, _, rfl⟩ ar_142 l_RX10_76 rfl rfl rfl rfl rfl rfl rfl ?_
      refine z_iconst 30 dX10_isStable_29 rfl (by decide) ?_
      refine z_isub (r := (wr (a2 - 1))) 31 dX10_isStable_30 rfl rfl ?_
      obtain ⟨hg31, hq⟩ := z_g hq
      obtain ⟨m3, em3, hq⟩ := z_m hq
      refine z_iastore 32 dX10_isStable_31 rfl ar_148 hg31 em3 ?_
      refine z_iinc (r := (wr (v1 + 1))) (L' := [some (zr 142), some (zi (wr (v1 + 1)))]) 35 dX10_isStable_32 rfl rfl rfl rfl rfl rfl ?_
      refine z_goto 7 dX10_isStable_35 rfl ?_
      exact Z.sub (zle_s (zle_s zle_nil)) (ih _ _ hq)
set_option maxRecDepth 100000 in
set_option maxHeartbeats 4000000 in
theorem Q_qM_isStable {g : yG} {a : Nat → Nat} {μ : zM}  {r : Int} {ν : zM}  (hq : qM_isStable μ = some (r, ν)) : zC g a mX10_isStable 4 0 0 [zr 142] μ (.inl (some (zi r))) ν := by
  unfold qM_isStable at hq
  refine z_of (L := [some (zr 142), none]) pl_RX10 rfl (zc_of rfl) rfl rfl ?_
  refine z_aload_n 1 dX10_isStable_0 rfl rfl ?_
  refine z_iconst 2 dX10_isStable_1 rfl (by decide) ?_
  obtain ⟨m1, em1, hq⟩ := z_m hq
  refine z_putI 5 dX10_isStable_2 rfl p_RX10_57 ar_142 em1 ?_
  refine z_iconst 6 dX10_isStable_5 rfl (by decide) ?_
  refine z_istore_n (L' := [some (zr 142), some (zi 0)]) 7 dX10_isStable_6 rfl rfl rfl rfl ?_
  obtain ⟨m4, h4, hq⟩ := z_b hq
  refine Z.sub (zle_s (zle_s zle_nil)) (L_qM_isStable_l7  (R := m4) (fun _ e => ?_) _ _ _ h4)
  cases e
  refine z_aload_n 39 dX10_isStable_38 rfl rfl ?_
  obtain ⟨a5, h5, hq⟩ := z_b hq
  refine z_callV1 (as := []) (S := []) 42 dX10_isStable_39 rfl (Q_qM_isStablePlan  h5) kX10_isStablePlan ⟨_, _, rfl⟩ ar_142 l_RX10_206 rfl rfl rfl rfl rfl rfl rfl ?_
  obtain ⟨hgr, hq⟩ := z_g hq
  cases hq
  exact z_zreturn rfl dX10_isStable_42 hgr
set_option maxRecDepth 100000 in
set_option maxHeartbeats 4000000 in
theorem Q_qM_chainLength {g : yG} {a : Nat → Nat} {μ : zM} {v1 : Int} {r : Int} {ν : zM}  (hq : qM_chainLength μ v1 = some (r, ν)) : zC g a mX10_chainLength 5 0 0 [zr 142, zi v1] μ (.inl (some (zi r))) ν := by
  unfold qM_chainLength at hq
  refine z_of (L := [some (zr 142), some (zi v1), none]) pl_RX10 rfl (zc_of rfl) rfl rfl ?_
  refine z_aload_n 1 dX10_chainLength_0 rfl rfl ?_
  refine z_iconst 2 dX10_chainLength_1 rfl (by decide) ?_
  obtain ⟨m1, em1, hq⟩ := z_m hq
  refine z_putI 5 dX10_chainLength_2 rfl p_RX10_57 ar_142 em1 ?_
  refine z_aload_n 6 dX10_chainLength_5 rfl rfl ?_
  refine z_iload_n 7 dX10_chainLength_6 rfl rfl ?_
  obtain ⟨a2, h2, hq⟩ := z_b hq
  refine z_callV1 (as := [zi v1]) (S := []) 10 dX10_chainLength_7 rfl (Q_qM_notOut  h2) kX10_notOut ⟨_, _, rfl⟩ ar_142 l_RX10_139 rfl rfl rfl rfl rfl rfl rfl ?_
  refine z_if_eq 19 13 dX10_chainLength_10 rfl rfl (fun hc => ?_) (fun hc => ?_)
  · replace hq := z_ip hq hc
    refine z_aload_n 20 dX10_chainLength_19 rfl rfl ?_
    obtain ⟨m3, h3, hq⟩ := z_b hq
    refine z_callV0 (as := []) (S := []) 23 dX10_chainLength_20 rfl (Q_qM_looksAhead  h3) kX10_looksAhead ⟨_, _, rfl⟩ ar_142 l_RX10_209 rfl rfl rfl rfl rfl rfl rfl ?_
    refine z_aload_n 24 dX10_chainLength_23 rfl rfl ?_
    refine z_aload_n 25 dX10_chainLength_24 rfl rfl ?_
    refine z_iload_n 26 dX10_chainLength_25 rfl rfl ?_
    obtain ⟨a4, h4, hq⟩ := z_b hq
    refine z_callV1 (as := [zi v1]) (S := [zr 142]) 29 dX10_chainLength_26 rfl (Q_qM_place  h4) kX10_place ⟨_, _, rfl⟩ ar_142 l_RX10_110 rfl rfl rfl rfl rfl rfl rfl ?_
    obtain ⟨a5, m5, h5, hq⟩ := bnd2_some hq
    refine z_callV1 (as := [zi a4]) (S := []) 32 dX10_chainLength_29 rfl (Q_qM_leaves  h5) kX10_leaves ⟨_, _, rfl⟩ ar_142 l_RX10_142 rfl rfl rfl rfl rfl rfl rfl ?_
    refine z_istore_n (L' := [some (zr 142), some (zi v1), some (zi a5)]) 33 dX10_chainLength_32 rfl rfl rfl rfl ?_
    refine z_aload_n 34 dX10_chainLength_33 rfl rfl ?_
    obtain ⟨m6, h6, hq⟩ := z_b hq
    refine z_callV0 (as := []) (S := []) 37 dX10_chainLength_34 rfl (Q_qM_comesBack  h6) kX10_comesBack ⟨_, _, rfl⟩ ar_142 l_RX10_212 rfl rfl rfl rfl rfl rfl rfl ?_
    refine z_iload_n 38 dX10_chainLength_37 rfl rfl ?_
    cases hq
    exact z_ireturn rfl dX10_chainLength_38
  · replace hq := z_in hq hc
    refine z_aload_n 14 dX10_chainLength_13 rfl rfl ?_
    refine z_iconst 15 dX10_chainLength_14 rfl (by decide) ?_
    obtain ⟨a7, m7, h7, hq⟩ := bnd2_some hq
    refine z_callV1 (as := [zi 1]) (S := []) 18 dX10_chainLength_15 rfl (Q_qM_fails  h7) kX10_fails ⟨_, _, rfl⟩ ar_142 l_RX10_89 rfl rfl rfl rfl rfl rfl rfl ?_
    cases hq
    exact z_ireturn rfl dX10_chainLength_18
set_option maxRecDepth 100000 in
set_option maxHeartbeats 4000000 in
theorem L_qM_monthsUntilEviction_l13 {g : yG} {a : Nat → Nat} {ν : zM} {o : zO} {kc ks : Nat}  {R : (Int × Int) × zM}   (he : ∀ (tz : Int × Int) (m : zM), R = (tz, m) → Z g a mX10_monthsUntilEviction 7 kc ks 35 [some (zr 142), some (zi tz.1), some (zi tz.2)] [] m o ν) : ∀ (n : Nat) (μ : zM) (v1 : Int) (v2 : Int), qM_monthsUntilEviction_l13 n μ v1 v2 = some R → Z g a mX10_monthsUntilEviction 7 kc ks 13 [some (zr 142), some (zi v1), some (zi v2)] [] μ o ν := by
  intro n
  induction n with
  | zero => intro μ v1 v2 hq; cases hq
  | succ n ih =>
    intro μ v1 v2 hq
    rw [qM_monthsUntilEviction_l13] at hq
    refine z_iload_n 14 dX10_monthsUntilEviction_13 rfl rfl ?_
    refine z_bipush 16 dX10_monthsUntilEviction_14 rfl (by decide) (by decide) ?_
    refine z_icmp_ge 35 19 dX10_monthsUntilEviction_16 rfl rfl (fun hc => ?_) (fun hc => ?_)
    · replace hq := z_in hq (Int.not_lt.mpr hc)
      exact Z.sub (zle_s (zle_s (zle_s zle_nil))) (he _ _ (Option.some.inj hq).symm)
    · replace hq := z_ip hq hc
      refine z_iload_n 20 dX10_monthsUntilEviction_19 rfl rfl ?_
      refine z_if_ne 35 23 dX10_monthsUntilEviction_20 rfl rfl (fun hc => ?_) (fun hc => ?_)
      · replace hq := z_in hq hc
        exact Z.sub (zle_s (zle_s (zle_s zle_nil))) (he _ _ (Option.some.inj hq).symm)
      · replace hq := z_ip hq hc
        refine z_aload_n 24 dX10_monthsUntilEviction_23 rfl rfl ?_
        refine z_iconst 25 dX10_monthsUntilEviction_24 rfl (by decide) ?_
        obtain ⟨a3, m3, h3, hq⟩ := bnd2_some hq
        refine z_callV1 (as := [zi 1]) (S := []) 28 dX10_monthsUntilEviction_25 rfl (Q_qM_passes  h3) kX10_passes ⟨_, _, rfl⟩ ar_142 l_RX10_183 rfl rfl rfl rfl rfl rfl rfl ?_
        refine z_istore_n (L' := [some (zr 142), some (zi v1), some (zi a3)]) 29 dX10_monthsUntilEviction_28 rfl rfl rfl rfl ?_
        refine z_iinc (r := (wr (v1 + 1))) (L' := [some (zr 142), some (zi (wr (v1 + 1))), some (zi a3)]) 32 dX10_monthsUntilEviction_29 rfl rfl rfl rfl rfl rfl ?_
        refine z_goto 13 dX10_monthsUntilEviction_32 rfl ?_
        exact Z.sub (zle_s (zle_s (zle_s zle_nil))) (ih _ _ _ hq)
set_option maxRecDepth 100000 in
set_option maxHeartbeats 4000000 in
theorem Q_qM_monthsUntilEviction {g : yG} {a : Nat → Nat} {μ : zM}  {r : Int} {ν : zM}  (hq : qM_monthsUntilEviction μ = some (r, ν)) : zC g a mX10_monthsUntilEviction 7 0 0 [zr 142] μ (.inl (some (zi r))) ν := by
  unfold qM_monthsUntilEviction at hq
  refine z_of (L := [some (zr 142), none, none]) pl_RX10 rfl (zc_of rfl) rfl rfl ?_
  refine z_aload_n 1 dX10_monthsUntilEviction_0 rfl rfl ?_
  refine z_iconst 2 dX10_monthsUntilEviction_1 rfl (by decide) ?_
  obtain ⟨m1, em1, hq⟩ := z_m hq
  refine z_putI 5 dX10_monthsUntilEviction_2 rfl p_RX10_57 ar_142 em1 ?_
  refine z_aload_n 6 dX10_monthsUntilEviction_5 rfl rfl ?_
  obtain ⟨m2, h2, hq⟩ := z_b hq
  refine z_callV0 (as := []) (S := []) 9 dX10_monthsUntilEviction_6 rfl (Q_qM_looksAhead  h2) kX10_looksAhead ⟨_, _, rfl⟩ ar_142 l_RX10_209 rfl rfl rfl rfl rfl rfl rfl ?_
  refine z_iconst 10 dX10_monthsUntilEviction_9 rfl (by decide) ?_
  refine z_istore_n (L' := [some (zr 142), some (zi 0), none]) 11 dX10_monthsUntilEviction_10 rfl rfl rfl rfl ?_
  refine z_iconst 12 dX10_monthsUntilEviction_11 rfl (by decide) ?_
  refine z_istore_n (L' := [some (zr 142), some (zi 0), some (zi 0)]) 13 dX10_monthsUntilEviction_12 rfl rfl rfl rfl ?_
  obtain ⟨t4, m4, h4, hq⟩ := bnd2_some hq
  refine Z.sub (zle_s (zle_s (zle_s zle_nil))) (L_qM_monthsUntilEviction_l13  (R := (t4, m4)) (fun _ _ e => ?_) _ _ _ _ h4)
  cases e
  refine z_aload_n 36 dX10_monthsUntilEviction_35 rfl rfl ?_
  obtain ⟨m5, h5, hq⟩ := z_b hq
  refine z_callV0 (as := []) (S := []) 39 dX10_monthsUntilEviction_36 rfl (Q_qM_comesBack  h5) kX10_comesBack ⟨_, _, rfl⟩ ar_142 l_RX10_212 rfl rfl rfl rfl rfl rfl rfl ?_
  refine z_iload_n 40 dX10_monthsUntilEviction_39 rfl rfl ?_
  refine z_if_le 47 43 dX10_monthsUntilEviction_40 rfl rfl (fun hc => ?_) (fun hc => ?_)
  · replace hq := z_in hq (Int.not_lt.mpr hc)
    refine z_aload_n 48 dX10_monthsUntilEviction_47 rfl rfl ?_
    refine z_iconst 49 dX10_monthsUntilEviction_48 rfl (by decide) ?_
    obtain ⟨a6, m6, h6, hq⟩ := bnd2_some hq
    refine z_callV1 (as := [zi 1]) (S := []) 52 dX10_monthsUntilEviction_49 rfl (Q_qM_fails  h6) kX10_fails ⟨_, _, rfl⟩ ar_142 l_RX10_89 rfl rfl rfl rfl rfl rfl rfl ?_
    cases hq
    exact z_ireturn rfl dX10_monthsUntilEviction_52
  · replace hq := z_ip hq hc
    refine z_iload_n 44 dX10_monthsUntilEviction_43 rfl rfl ?_
    refine z_goto 52 dX10_monthsUntilEviction_44 rfl ?_
    cases hq
    exact z_ireturn rfl dX10_monthsUntilEviction_52
set_option maxRecDepth 100000 in
set_option maxHeartbeats 4000000 in
theorem Q_qM_month {g : yG} {a : Nat → Nat} {μ : zM}  {r : Int} {ν : zM}  (hq : qM_month μ = some (r, ν)) : zC g a mX10_month 1 0 0 [zr 142] μ (.inl (some (zi r))) ν := by
  unfold qM_month at hq
  refine z_of (L := [some (zr 142)]) pl_RX10 rfl (zc_of rfl) rfl rfl ?_
  refine z_aload_n 1 dX10_month_0 rfl rfl ?_
  refine z_iconst 2 dX10_month_1 rfl (by decide) ?_
  obtain ⟨a1, m1, h1, hq⟩ := bnd2_some hq
  refine z_callV1 (as := [zi 3]) (S := []) 5 dX10_month_2 rfl (Q_qM_told  h1) kX10_told ⟨_, _, rfl⟩ ar_142 l_RX10_186 rfl rfl rfl rfl rfl rfl rfl ?_
  cases hq
  exact z_ireturn rfl dX10_month_5
set_option maxRecDepth 100000 in
set_option maxHeartbeats 4000000 in
theorem Q_qM_received {g : yG} {a : Nat → Nat} {μ : zM}  {r : Int} {ν : zM}  (hq : qM_received μ = some (r, ν)) : zC g a mX10_received 0 0 0 [zr 142] μ (.inl (some (zl r))) ν := by
  unfold qM_received at hq
  refine z_of (L := [some (zr 142)]) pl_RX10 rfl (zc_of rfl) rfl rfl ?_
  refine z_aload_n 1 dX10_received_0 rfl rfl ?_
  refine z_iconst 2 dX10_received_1 rfl (by decide) ?_
  obtain ⟨m1, em1, hq⟩ := z_m hq
  refine z_putI 5 dX10_received_2 rfl p_RX10_57 ar_142 em1 ?_
  refine z_aload_n 6 dX10_received_5 rfl rfl ?_
  refine z_getR (e := 1) (r := 143) 9 dX10_received_6 rfl f_RX10_7 ar_142 rfl ar_143.1 ?_
  refine z_bipush 11 dX10_received_9 rfl (by decide) (by decide) ?_
  refine z_iaload (x := (m1 143 7)) 12 dX10_received_11 rfl ar_143 ⟨by decide, by decide⟩ rfl ?_
  refine z_i2l 13 dX10_received_12 rfl ?_
  cases hq
  exact z_lreturn rfl dX10_received_13
set_option maxRecDepth 100000 in
set_option maxHeartbeats 4000000 in
theorem L_qM_purses_l4 {g : yG} {a : Nat → Nat} {μ ν : zM} {o : zO} {kc ks : Nat}  {R : Int}   (he : ∀ (tz : Int), R = tz → Z g a mX10_purses 1 kc ks 29 [some (zr 142), some (zi tz), none] [] μ o ν) : ∀ (n : Nat) (v1 : Int) (v2 : Int), qM_purses_l4 μ n v1 v2 = some R → Z g a mX10_purses 1 kc ks 4 [some (zr 142), some (zi v1), some (zi v2)] [] μ o ν := by
  intro n
  induction n with
  | zero => intro v1 v2 hq; cases hq
  | succ n ih =>
    intro v1 v2 hq
    rw [qM_purses_l4] at hq
    refine z_iload_n 5 dX10_purses_4 rfl rfl ?_
    refine z_aload_n 6 dX10_purses_5 rfl rfl ?_
    refine z_getR (e := 1) (r := 143) 9 dX10_purses_6 rfl f_RX10_7 ar_142 rfl ar_143.1 ?_
    refine z_iconst 10 dX10_purses_9 rfl (by decide) ?_
    refine z_iaload (x := (μ 143 1)) 11 dX10_purses_10 rfl ar_143 ⟨by decide, by decide⟩ rfl ?_
    refine z_icmp_ge 29 14 dX10_purses_11 rfl rfl (fun hc => ?_) (fun hc => ?_)
    · replace hq := z_in hq (Int.not_lt.mpr hc)
      exact Z.sub (zle_s (zle_s (zle_n zle_nil))) (he _ (Option.some.inj hq).symm)
    · replace hq := z_ip hq hc
      refine z_iload_n 15 dX10_purses_14 rfl rfl ?_
      refine z_aload_n 16 dX10_purses_15 rfl rfl ?_
      refine z_iload_n 17 dX10_purses_16 rfl rfl ?_
      refine z_iconst 18 dX10_purses_17 rfl (by decide) ?_
      obtain ⟨a1, h1, hq⟩ := z_b hq
      refine z_callV1 (as := [zi v2, zi 4]) (S := [zi v1]) 21 dX10_purses_18 rfl (Q_qM_of  h1) kX10_of ⟨_, _, rfl⟩ ar_142 l_RX10_76 rfl rfl rfl rfl rfl rfl rfl ?_
      refine z_iadd (r := (wr (v1 + a1))) 22 dX10_purses_21 rfl rfl ?_
      refine z_istore_n (L' := [some (zr 142), some (zi (wr (v1 + a1))), some (zi v2)]) 23 dX10_purses_22 rfl rfl rfl rfl ?_
      refine z_iinc (r := (wr (v2 + 1))) (L' := [some (zr 142), some (zi (wr (v1 + a1))), some (zi (wr (v2 + 1)))]) 26 dX10_purses_23 rfl rfl rfl rfl rfl rfl ?_
      refine z_goto 4 dX10_purses_26 rfl ?_
      exact Z.sub (zle_s (zle_s (zle_s zle_nil))) (ih _ _ hq)
set_option maxRecDepth 100000 in
set_option maxHeartbeats 4000000 in
theorem Q_qM_purses {g : yG} {a : Nat → Nat} {μ : zM}  {r : Int}  (hq : qM_purses μ = some r) : zC g a mX10_purses 1 0 0 [zr 142] μ (.inl (some (zi r))) μ := by
  unfold qM_purses at hq
  refine z_of (L := [some (zr 142), none, none]) pl_RX10 rfl (zc_of rfl) rfl rfl ?_
  refine z_iconst 1 dX10_purses_0 rfl (by decide) ?_
  refine z_istore_n (L' := [some (zr 142), some (zi 0), none]) 2 dX10_purses_1 rfl rfl rfl rfl ?_
  refine z_iconst 3 dX10_purses_2 rfl (by decide) ?_
  refine z_istore_n (L' := [some (zr 142), some (zi 0), some (zi 0)]) 4 dX10_purses_3 rfl rfl rfl rfl ?_
  obtain ⟨t2, h2, hq⟩ := z_b hq
  refine Z.sub (zle_s (zle_s (zle_s zle_nil))) (L_qM_purses_l4  (R := t2) (fun _ e => ?_) _ _ _ h2)
  cases e
  refine z_iload_n 30 dX10_purses_29 rfl rfl ?_
  cases hq
  exact z_ireturn rfl dX10_purses_30
set_option maxRecDepth 100000 in
set_option maxHeartbeats 4000000 in
theorem Q_qM_receivedByParts {g : yG} {a : Nat → Nat} {μ : zM}  {r : Int} {ν : zM}  (hq : qM_receivedByParts μ = some (r, ν)) : zC g a mX10_receivedByParts 2 0 0 [zr 142] μ (.inl (some (zl r))) ν := by
  unfold qM_receivedByParts at hq
  refine z_of (L := [some (zr 142)]) pl_RX10 rfl (zc_of rfl) rfl rfl ?_
  refine z_aload_n 1 dX10_receivedByParts_0 rfl rfl ?_
  refine z_iconst 2 dX10_receivedByParts_1 rfl (by decide) ?_
  obtain ⟨m1, em1, hq⟩ := z_m hq
  refine z_putI 5 dX10_receivedByParts_2 rfl p_RX10_57 ar_142 em1 ?_
  refine z_aload_n 6 dX10_receivedByParts_5 rfl rfl ?_
  obtain ⟨a2, h2, hq⟩ := z_b hq
  refine z_callV1 (as := []) (S := []) 9 dX10_receivedByParts_6 rfl (Q_qM_purses  h2) kX10_purses ⟨_, _, rfl⟩ ar_142 l_RX10_215 rfl rfl rfl rfl rfl rfl rfl ?_
  refine z_aload_n 10 dX10_receivedByParts_9 rfl rfl ?_
  refine z_getR (e := 1) (r := 143) 13 dX10_receivedByParts_10 rfl f_RX10_7 ar_142 rfl ar_143.1 ?_
  refine z_bipush 15 dX10_receivedByParts_13 rfl (by decide) (by decide) ?_
  refine z_iaload (x := (m1 143 6)) 16 dX10_receivedByParts_15 rfl ar_143 ⟨by decide, by decide⟩ rfl ?_
  refine z_iadd (r := (wr (a2 + (m1 143 6)))) 17 dX10_receivedByParts_16 rfl rfl ?_
  refine z_aload_n 18 dX10_receivedByParts_17 rfl rfl ?_
  refine z_getR (e := 1) (r := 143) 21 dX10_receivedByParts_18 rfl f_RX10_7 ar_142 rfl ar_143.1 ?_
  refine z_iconst 22 dX10_receivedByParts_21 rfl (by decide) ?_
  refine z_iaload (x := (m1 143 5)) 23 dX10_receivedByParts_22 rfl ar_143 ⟨by decide, by decide⟩ rfl ?_
  refine z_iadd (r := (wr ((wr (a2 + (m1 143 6))) + (m1 143 5)))) 24 dX10_receivedByParts_23 rfl rfl ?_
  refine z_i2l 25 dX10_receivedByParts_24 rfl ?_
  cases hq
  exact z_lreturn rfl dX10_receivedByParts_25
set_option maxRecDepth 100000 in
set_option maxHeartbeats 4000000 in
theorem Q_qM_paidRents {g : yG} {a : Nat → Nat} {μ : zM}  {r : Int} {ν : zM}  (hq : qM_paidRents μ = some (r, ν)) : zC g a mX10_paidRents 1 0 0 [zr 142] μ (.inl (some (zi r))) ν := by
  unfold qM_paidRents at hq
  refine z_of (L := [some (zr 142)]) pl_RX10 rfl (zc_of rfl) rfl rfl ?_
  refine z_aload_n 1 dX10_paidRents_0 rfl rfl ?_
  refine z_iconst 2 dX10_paidRents_1 rfl (by decide) ?_
  obtain ⟨a1, m1, h1, hq⟩ := bnd2_some hq
  refine z_callV1 (as := [zi 5]) (S := []) 5 dX10_paidRents_2 rfl (Q_qM_told  h1) kX10_told ⟨_, _, rfl⟩ ar_142 l_RX10_186 rfl rfl rfl rfl rfl rfl rfl ?_
  cases hq
  exact z_ireturn rfl dX10_paidRents_5
set_option maxRecDepth 100000 in
set_option maxHeartbeats 4000000 in
theorem Q_qM_evictions {g : yG} {a : Nat → Nat} {μ : zM}  {r : Int} {ν : zM}  (hq : qM_evictions μ = some (r, ν)) : zC g a mX10_evictions 1 0 0 [zr 142] μ (.inl (some (zi r))) ν := by
  unfold qM_evictions at hq
  refine z_of (L := [some (zr 142)]) pl_RX10 rfl (zc_of rfl) rfl rfl ?_
  refine z_aload_n 1 dX10_evictions_0 rfl rfl ?_
  refine z_iconst 2 dX10_evictions_1 rfl (by decide) ?_
  obtain ⟨a1, m1, h1, hq⟩ := bnd2_some hq
  refine z_callV1 (as := [zi 4]) (S := []) 5 dX10_evictions_2 rfl (Q_qM_told  h1) kX10_told ⟨_, _, rfl⟩ ar_142 l_RX10_186 rfl rfl rfl rfl rfl rfl rfl ?_
  cases hq
  exact z_ireturn rfl dX10_evictions_5
set_option maxRecDepth 100000 in
set_option maxHeartbeats 4000000 in
theorem L_qM_meanBurden_l11 {g : yG} {a : Nat → Nat} {μ ν : zM} {o : zO} {kc ks : Nat}  {R : Int × Int}   (he : ∀ (tz : Int × Int), R = tz → Z g a mX10_meanBurden 2 kc ks 60 [some (zr 142), some (zi tz.1), some (zi tz.2), none] [] μ o ν) : ∀ (n : Nat) (v1 : Int) (v2 : Int) (v3 : Int), qM_meanBurden_l11 μ n v1 v2 v3 = some R → Z g a mX10_meanBurden 2 kc ks 11 [some (zr 142), some (zi v1), some (zi v2), some (zi v3)] [] μ o ν := by
  intro n
  induction n with
  | zero => intro v1 v2 v3 hq; cases hq
  | succ n ih =>
    intro v1 v2 v3 hq
    rw [qM_meanBurden_l11] at hq
    refine z_iload_n 12 dX10_meanBurden_11 rfl rfl ?_
    refine z_aload_n 13 dX10_meanBurden_12 rfl rfl ?_
    refine z_getR (e := 1) (r := 143) 16 dX10_meanBurden_13 rfl f_RX10_7 ar_142 rfl ar_143.1 ?_
    refine z_iconst 17 dX10_meanBurden_16 rfl (by decide) ?_
    refine z_iaload (x := (μ 143 1)) 18 dX10_meanBurden_17 rfl ar_143 ⟨by decide, by decide⟩ rfl ?_
    refine z_icmp_ge 60 21 dX10_meanBurden_18 rfl rfl (fun hc => ?_) (fun hc => ?_)
    · replace hq := z_in hq (Int.not_lt.mpr hc)
      exact Z.sub (zle_s (zle_s (zle_s (zle_n zle_nil)))) (he _ (Option.some.inj hq).symm)
    · replace hq := z_ip hq hc
      refine z_aload_n 22 dX10_meanBurden_21 rfl rfl ?_
      refine z_iload_n 23 dX10_meanBurden_22 rfl rfl ?_
      refine z_bipush 25 dX10_meanBurden_23 rfl (by decide) (by decide) ?_
      obtain ⟨a2, h2, hq⟩ := z_b hq
      refine z_callV1 (as := [zi v3, zi 6]) (S := []) 28 dX10_meanBurden_25 rfl (Q_qM_of  h2) kX10_of ⟨_, _, rfl⟩ ar_142 l_RX10_76 rfl rfl rfl rfl rfl rfl rfl ?_
      refine z_if_ne 34 31 dX10_meanBurden_28 rfl rfl (fun hc => ?_) (fun hc => ?_)
      · replace hq := z_in hq hc
        refine z_iload_n 35 dX10_meanBurden_34 rfl rfl ?_
        refine z_aload_n 36 dX10_meanBurden_35 rfl rfl ?_
        refine z_iload_n 37 dX10_meanBurden_36 rfl rfl ?_
        refine z_aload_n 38 dX10_meanBurden_37 rfl rfl ?_
        refine z_iload_n 39 dX10_meanBurden_38 rfl rfl ?_
        refine z_bipush 41 dX10_meanBurden_39 rfl (by decide) (by decide) ?_
        obtain ⟨a3, h3, hq⟩ := z_b hq
        refine z_callV1 (as := [zi v3, zi 6]) (S := [zi v3, zr 142, zi v1]) 44 dX10_meanBurden_41 rfl (Q_qM_of  h3) kX10_of ⟨_, _, rfl⟩ ar_142 l_RX10_76 rfl rfl rfl rfl rfl rfl rfl ?_
        refine z_iconst 45 dX10_meanBurden_44 rfl (by decide) ?_
        refine z_isub (r := (wr (a3 - 1))) 46 dX10_meanBurden_45 rfl rfl ?_
        obtain ⟨a4, h4, hq⟩ := z_b hq
        refine z_callV1 (as := [zi v3, zi (wr (a3 - 1))]) (S := [zi v1]) 49 dX10_meanBurden_46 rfl (Q_qM_burdenOf  h4) kX10_burdenOf ⟨_, _, rfl⟩ ar_142 l_RX10_83 rfl rfl rfl rfl rfl rfl rfl ?_
        refine z_iadd (r := (wr (v1 + a4))) 50 dX10_meanBurden_49 rfl rfl ?_
        refine z_istore_n (L' := [some (zr 142), some (zi (wr (v1 + a4))), some (zi v2), some (zi v3)]) 51 dX10_meanBurden_50 rfl rfl rfl rfl ?_
        refine z_iinc (r := (wr (v2 + 1))) (L' := [some (zr 142), some (zi (wr (v1 + a4))), some (zi (wr (v2 + 1))), some (zi v3)]) 54 dX10_meanBurden_51 rfl rfl rfl rfl rfl rfl ?_
        refine z_iinc (r := (wr (v3 + 1))) (L' := [some (zr 142), some (zi (wr (v1 + a4))), some (zi (wr (v2 + 1))), some (zi (wr (v3 + 1)))]) 57 dX10_meanBurden_54 rfl rfl rfl rfl rfl rfl ?_
        refine z_goto 11 dX10_meanBurden_57 rfl ?_
        exact Z.sub (zle_s (zle_s (zle_s (zle_s zle_nil)))) (ih _ _ _ hq)
      · replace hq := z_ip hq hc
        refine z_goto 54 dX10_meanBurden_31 rfl ?_
        refine z_iinc (r := (wr (v3 + 1))) (L' := [some (zr 142), some (zi v1), some (zi v2), some (zi (wr (v3 + 1)))]) 57 dX10_meanBurden_54 rfl rfl rfl rfl rfl rfl ?_
        refine z_goto 11 dX10_meanBurden_57 rfl ?_
        exact Z.sub (zle_s (zle_s (zle_s (zle_s zle_nil)))) (ih _ _ _ hq)
set_option maxRecDepth 100000 in
set_option maxHeartbeats 4000000 in
theorem Q_qM_meanBurden {g : yG} {a : Nat → Nat} {μ : zM}  {r : Int} {ν : zM}  (hq : qM_meanBurden μ = some (r, ν)) : zC g a mX10_meanBurden 2 0 0 [zr 142] μ (.inl (some (zd r))) ν := by
  unfold qM_meanBurden at hq
  refine z_of (L := [some (zr 142), none, none, none]) pl_RX10 rfl (zc_of rfl) rfl rfl ?_
  refine z_aload_n 1 dX10_meanBurden_0 rfl rfl ?_
  refine z_iconst 2 dX10_meanBurden_1 rfl (by decide) ?_
  obtain ⟨m1, em1, hq⟩ := z_m hq
  refine z_putI 5 dX10_meanBurden_2 rfl p_RX10_57 ar_142 em1 ?_
  refine z_iconst 6 dX10_meanBurden_5 rfl (by decide) ?_
  refine z_istore_n (L' := [some (zr 142), some (zi 0), none, none]) 7 dX10_meanBurden_6 rfl rfl rfl rfl ?_
  refine z_iconst 8 dX10_meanBurden_7 rfl (by decide) ?_
  refine z_istore_n (L' := [some (zr 142), some (zi 0), some (zi 0), none]) 9 dX10_meanBurden_8 rfl rfl rfl rfl ?_
  refine z_iconst 10 dX10_meanBurden_9 rfl (by decide) ?_
  refine z_istore_n (L' := [some (zr 142), some (zi 0), some (zi 0), some (zi 0)]) 11 dX10_meanBurden_10 rfl rfl rfl rfl ?_
  obtain ⟨t5, h5, hq⟩ := z_b hq
  refine Z.sub (zle_s (zle_s (zle_s (zle_s zle_nil)))) (L_qM_meanBurden_l11  (R := t5) (fun _ e => ?_) _ _ _ _ h5)
  cases e
  refine z_iload_n 61 dX10_meanBurden_60 rfl rfl ?_
  refine z_if_ne 73 64 dX10_meanBurden_61 rfl rfl (fun hc => ?_) (fun hc => ?_)
  · replace hq := z_in hq hc
    refine z_iload_n 74 dX10_meanBurden_73 rfl rfl ?_
    refine z_i2d 75 dX10_meanBurden_74 rfl ?_
    refine z_iload_n 76 dX10_meanBurden_75 rfl rfl ?_
    refine z_i2d 77 dX10_meanBurden_76 rfl ?_
    obtain ⟨hg77, hq⟩ := z_g hq
    refine z_ddiv 78 dX10_meanBurden_77 rfl hg77 ?_
    cases hq
    exact z_dreturn rfl dX10_meanBurden_78
  · replace hq := z_ip hq hc
    refine z_aload_n 65 dX10_meanBurden_64 rfl rfl ?_
    refine z_iconst 66 dX10_meanBurden_65 rfl (by decide) ?_
    obtain ⟨a6, m6, h6, hq⟩ := bnd2_some hq
    refine z_callV1 (as := [zi 1]) (S := []) 69 dX10_meanBurden_66 rfl (Q_qM_fails  h6) kX10_fails ⟨_, _, rfl⟩ ar_142 l_RX10_89 rfl rfl rfl rfl rfl rfl rfl ?_
    refine z_i2d 70 dX10_meanBurden_69 rfl ?_
    refine z_goto 78 dX10_meanBurden_70 rfl ?_
    cases hq
    exact z_dreturn rfl dX10_meanBurden_78
set_option maxRecDepth 100000 in
set_option maxHeartbeats 4000000 in
theorem L_qM_occupancy_l25 {g : yG} {a : Nat → Nat} {μ ν : zM} {o : zO} {kc ks : Nat}  {R : Int}   (he : ∀ (tz : Int), R = tz → Z g a mX10_occupancy 2 kc ks 57 [some (zr 142), some (zi tz), none] [] μ o ν) : ∀ (n : Nat) (v1 : Int) (v2 : Int), qM_occupancy_l25 μ n v1 v2 = some R → Z g a mX10_occupancy 2 kc ks 25 [some (zr 142), some (zi v1), some (zi v2)] [] μ o ν := by
  intro n
  induction n with
  | zero => intro v1 v2 hq; cases hq
  | succ n ih =>
    intro v1 v2 hq
    rw [qM_occupancy_l25] at hq
    refine z_iload_n 26 dX10_occupancy_25 rfl rfl ?_
    refine z_aload_n 27 dX10_occupancy_26 rfl rfl ?_
    refine z_getR (e := 1) (r := 143) 30 dX10_occupancy_27 rfl f_RX10_7 ar_142 rfl ar_143.1 ?_
    refine z_iconst 31 dX10_occupancy_30 rfl (by decide) ?_
    refine z_iaload (x := (μ 143 0)) 32 dX10_occupancy_31 rfl ar_143 ⟨by decide, by decide⟩ rfl ?_
    refine z_icmp_ge 57 35 dX10_occupancy_32 rfl rfl (fun hc => ?_) (fun hc => ?_)
    · replace hq := z_in hq (Int.not_lt.mpr hc)
      exact Z.sub (zle_s (zle_s (zle_n zle_nil))) (he _ (Option.some.inj hq).symm)
    · replace hq := z_ip hq hc
      refine z_iload_n 36 dX10_occupancy_35 rfl rfl ?_
      refine z_aload_n 37 dX10_occupancy_36 rfl rfl ?_
      refine z_iload_n 38 dX10_occupancy_37 rfl rfl ?_
      obtain ⟨a2, h2, hq⟩ := z_b hq
      refine z_callV1 (as := [zi v2]) (S := [zi v1]) 41 dX10_occupancy_38 rfl (Q_qM_occupant  h2) kX10_occupant ⟨_, _, rfl⟩ ar_142 l_RX10_117 rfl rfl rfl rfl rfl rfl rfl ?_
      refine z_if_ge 48 44 dX10_occupancy_41 rfl rfl (fun hc => ?_) (fun hc => ?_)
      · replace hq := z_in hq (Int.not_lt.mpr hc)
        refine z_iconst 49 dX10_occupancy_48 rfl (by decide) ?_
        refine z_iadd (r := (wr (v1 + 1))) 50 dX10_occupancy_49 rfl rfl ?_
        refine z_istore_n (L' := [some (zr 142), some (zi (wr (v1 + 1))), some (zi v2)]) 51 dX10_occupancy_50 rfl rfl rfl rfl ?_
        refine z_iinc (r := (wr (v2 + 1))) (L' := [some (zr 142), some (zi (wr (v1 + 1))), some (zi (wr (v2 + 1)))]) 54 dX10_occupancy_51 rfl rfl rfl rfl rfl rfl ?_
        refine z_goto 25 dX10_occupancy_54 rfl ?_
        exact Z.sub (zle_s (zle_s (zle_s zle_nil))) (ih _ _ hq)
      · replace hq := z_ip hq hc
        refine z_iconst 45 dX10_occupancy_44 rfl (by decide) ?_
        refine z_goto 49 dX10_occupancy_45 rfl ?_
        refine z_iadd (r := (wr (v1 + 0))) 50 dX10_occupancy_49 rfl rfl ?_
        refine z_istore_n (L' := [some (zr 142), some (zi (wr (v1 + 0))), some (zi v2)]) 51 dX10_occupancy_50 rfl rfl rfl rfl ?_
        refine z_iinc (r := (wr (v2 + 1))) (L' := [some (zr 142), some (zi (wr (v1 + 0))), some (zi (wr (v2 + 1)))]) 54 dX10_occupancy_51 rfl rfl rfl rfl rfl rfl ?_
        refine z_goto 25 dX10_occupancy_54 rfl ?_
        exact Z.sub (zle_s (zle_s (zle_s zle_nil))) (ih _ _ hq)
set_option maxRecDepth 100000 in
set_option maxHeartbeats 4000000 in
theorem Q_qM_occupancy {g : yG} {a : Nat → Nat} {μ : zM}  {r : Int} {ν : zM}  (hq : qM_occupancy μ = some (r, ν)) : zC g a mX10_occupancy 2 0 0 [zr 142] μ (.inl (some (zf r))) ν := by
  unfold qM_occupancy at hq
  refine z_of (L := [some (zr 142), none, none]) pl_RX10 rfl (zc_of rfl) rfl rfl ?_
  refine z_aload_n 1 dX10_occupancy_0 rfl rfl ?_
  refine z_iconst 2 dX10_occupancy_1 rfl (by decide) ?_
  obtain ⟨m1, em1, hq⟩ := z_m hq
  refine z_putI 5 dX10_occupancy_2 rfl p_RX10_57 ar_142 em1 ?_
  refine z_aload_n 6 dX10_occupancy_5 rfl rfl ?_
  refine z_getR (e := 1) (r := 143) 9 dX10_occupancy_6 rfl f_RX10_7 ar_142 rfl ar_143.1 ?_
  refine z_iconst 10 dX10_occupancy_9 rfl (by decide) ?_
  refine z_iaload (x := (m1 143 0)) 11 dX10_occupancy_10 rfl ar_143 ⟨by decide, by decide⟩ rfl ?_
  refine z_if_ne 21 14 dX10_occupancy_11 rfl rfl (fun hc => ?_) (fun hc => ?_)
  · replace hq := z_in hq hc
    refine z_iconst 22 dX10_occupancy_21 rfl (by decide) ?_
    refine z_istore_n (L' := [some (zr 142), some (zi 0), none]) 23 dX10_occupancy_22 rfl rfl rfl rfl ?_
    refine z_iconst 24 dX10_occupancy_23 rfl (by decide) ?_
    refine z_istore_n (L' := [some (zr 142), some (zi 0), some (zi 0)]) 25 dX10_occupancy_24 rfl rfl rfl rfl ?_
    obtain ⟨t3, h3, hq⟩ := z_b hq
    refine Z.sub (zle_s (zle_s (zle_s zle_nil))) (L_qM_occupancy_l25  (R := t3) (fun _ e => ?_) _ _ _ h3)
    cases e
    refine z_iload_n 58 dX10_occupancy_57 rfl rfl ?_
    refine z_i2f 59 dX10_occupancy_58 rfl ?_
    refine z_aload_n 60 dX10_occupancy_59 rfl rfl ?_
    refine z_getR (e := 1) (r := 143) 63 dX10_occupancy_60 rfl f_RX10_7 ar_142 rfl ar_143.1 ?_
    refine z_iconst 64 dX10_occupancy_63 rfl (by decide) ?_
    refine z_iaload (x := (m1 143 0)) 65 dX10_occupancy_64 rfl ar_143 ⟨by decide, by decide⟩ rfl ?_
    refine z_i2f 66 dX10_occupancy_65 rfl ?_
    obtain ⟨hg66, hq⟩ := z_g hq
    refine z_fdiv 67 dX10_occupancy_66 rfl hg66 ?_
    cases hq
    exact z_freturn rfl dX10_occupancy_67
  · replace hq := z_ip hq hc
    refine z_aload_n 15 dX10_occupancy_14 rfl rfl ?_
    refine z_iconst 16 dX10_occupancy_15 rfl (by decide) ?_
    obtain ⟨a4, m4, h4, hq⟩ := bnd2_some hq
    refine z_callV1 (as := [zi 1]) (S := []) 19 dX10_occupancy_16 rfl (Q_qM_fails  h4) kX10_fails ⟨_, _, rfl⟩ ar_142 l_RX10_89 rfl rfl rfl rfl rfl rfl rfl ?_
    refine z_i2f 20 dX10_occupancy_19 rfl ?_
    cases hq
    exact z_freturn rfl dX10_occupancy_20
set_option maxRecDepth 100000 in
set_option maxHeartbeats 4000000 in
theorem Q_qM_isConsistent {g : yG} {a : Nat → Nat} {μ : zM}  {r : Int} {ν : zM}  (hq : qM_isConsistent μ = some (r, ν)) : zC g a mX10_isConsistent 2 0 0 [zr 142] μ (.inl (some (zi r))) ν := by
  unfold qM_isConsistent at hq
  refine z_of (L := [some (zr 142)]) pl_RX10 rfl (zc_of rfl) rfl rfl ?_
  refine z_aload_n 1 dX10_isConsistent_0 rfl rfl ?_
  refine z_iconst 2 dX10_isConsistent_1 rfl (by decide) ?_
  obtain ⟨m1, em1, hq⟩ := z_m hq
  refine z_putI 5 dX10_isConsistent_2 rfl p_RX10_57 ar_142 em1 ?_
  refine z_aload_n 6 dX10_isConsistent_5 rfl rfl ?_
  obtain ⟨a2, h2, hq⟩ := z_b hq
  refine z_callV1 (as := []) (S := []) 9 dX10_isConsistent_6 rfl (Q_qM_purses  h2) kX10_purses ⟨_, _, rfl⟩ ar_142 l_RX10_215 rfl rfl rfl rfl rfl rfl rfl ?_
  refine z_aload_n 10 dX10_isConsistent_9 rfl rfl ?_
  refine z_getR (e := 1) (r := 143) 13 dX10_isConsistent_10 rfl f_RX10_7 ar_142 rfl ar_143.1 ?_
  refine z_bipush 15 dX10_isConsistent_13 rfl (by decide) (by decide) ?_
  refine z_iaload (x := (m1 143 6)) 16 dX10_isConsistent_15 rfl ar_143 ⟨by decide, by decide⟩ rfl ?_
  refine z_iadd (r := (wr (a2 + (m1 143 6)))) 17 dX10_isConsistent_16 rfl rfl ?_
  refine z_aload_n 18 dX10_isConsistent_17 rfl rfl ?_
  refine z_getR (e := 1) (r := 143) 21 dX10_isConsistent_18 rfl f_RX10_7 ar_142 rfl ar_143.1 ?_
  refine z_iconst 22 dX10_isConsistent_21 rfl (by decide) ?_
  refine z_iaload (x := (m1 143 5)) 23 dX10_isConsistent_22 rfl ar_143 ⟨by decide, by decide⟩ rfl ?_
  refine z_iadd (r := (wr ((wr (a2 + (m1 143 6))) + (m1 143 5)))) 24 dX10_isConsistent_23 rfl rfl ?_
  refine z_aload_n 25 dX10_isConsistent_24 rfl rfl ?_
  refine z_getR (e := 1) (r := 143) 28 dX10_isConsistent_25 rfl f_RX10_7 ar_142 rfl ar_143.1 ?_
  refine z_bipush 30 dX10_isConsistent_28 rfl (by decide) (by decide) ?_
  refine z_iaload (x := (m1 143 7)) 31 dX10_isConsistent_30 rfl ar_143 ⟨by decide, by decide⟩ rfl ?_
  refine z_icmp_ne 38 34 dX10_isConsistent_31 rfl rfl (fun hc => ?_) (fun hc => ?_)
  · replace hq := z_in hq hc
    refine z_iconst 39 dX10_isConsistent_38 rfl (by decide) ?_
    cases hq
    exact z_zreturn rfl dX10_isConsistent_39 (by decide)
  · replace hq := z_ip hq hc
    refine z_iconst 35 dX10_isConsistent_34 rfl (by decide) ?_
    refine z_goto 39 dX10_isConsistent_35 rfl ?_
    cases hq
    exact z_zreturn rfl dX10_isConsistent_39 (by decide)
set_option maxRecDepth 100000 in
set_option maxHeartbeats 4000000 in
theorem Q_qM_writes {g : yG} {a : Nat → Nat} {μ : zM} {v1 : Int} {ν : zM}  (hq : qM_writes μ v1 = some ν) : zC g a mX10_writes 0 0 0 [zr 142, zi v1] μ (.inl none) ν := by
  unfold qM_writes at hq
  refine z_of (L := [some (zr 142), some (zi v1)]) pl_RX10 rfl (zc_of rfl) rfl rfl ?_
  refine z_aload_n 1 dX10_writes_0 rfl rfl ?_
  refine z_getR (e := 11) (r := 153) 4 dX10_writes_1 rfl f_RX10_40 ar_142 rfl ar_153.1 ?_
  refine z_aload_n 5 dX10_writes_4 rfl rfl ?_
  refine z_getI (x := (μ 142 15)) 8 dX10_writes_5 rfl f_RX10_218 ar_142 rfl ?_
  refine z_iload_n 9 dX10_writes_8 rfl rfl ?_
  refine z_i2c (r := (v1 % 65536)) 10 dX10_writes_9 rfl rfl ?_
  obtain ⟨hg10, hq⟩ := z_g hq
  obtain ⟨m1, em1, hq⟩ := z_m hq
  refine z_castore 11 dX10_writes_10 rfl ar_153 hg10.1 hg10.2 em1 ?_
  refine z_aload_n 12 dX10_writes_11 rfl rfl ?_
  refine z_dup 13 dX10_writes_12 rfl rfl ?_
  refine z_getI (x := (m1 142 15)) 16 dX10_writes_13 rfl f_RX10_218 ar_142 rfl ?_
  refine z_iconst 17 dX10_writes_16 rfl (by decide) ?_
  refine z_iadd (r := (wr ((m1 142 15) + 1))) 18 dX10_writes_17 rfl rfl ?_
  obtain ⟨m2, em2, hq⟩ := z_m hq
  refine z_putI 21 dX10_writes_18 rfl p_RX10_218 ar_142 em2 ?_
  cases hq
  exact z_return rfl dX10_writes_21
set_option maxRecDepth 100000 in
set_option maxHeartbeats 4000000 in
theorem L_qM_writesNumber_l2 {g : yG} {a : Nat → Nat} {μ ν : zM} {o : zO} {kc ks : Nat} {v1 : Int} {R : Int}   (he : ∀ (tz : Int), R = tz → Z g a mX10_writesNumber 1 kc ks 18 [some (zr 142), some (zi v1), some (zi tz), none] [] μ o ν) : ∀ (n : Nat) (v2 : Int), qM_writesNumber_l2 μ v1 n v2 = some R → Z g a mX10_writesNumber 1 kc ks 2 [some (zr 142), some (zi v1), some (zi v2), none] [] μ o ν := by
  intro n
  induction n with
  | zero => intro v2 hq; cases hq
  | succ n ih =>
    intro v2 hq
    rw [qM_writesNumber_l2] at hq
    refine z_iload_n 3 dX10_writesNumber_2 rfl rfl ?_
    refine z_iload_n 4 dX10_writesNumber_3 rfl rfl ?_
    obtain ⟨hg4, hq⟩ := z_g hq
    refine z_idiv 5 dX10_writesNumber_4 rfl hg4 ?_
    refine z_bipush 7 dX10_writesNumber_5 rfl (by decide) (by decide) ?_
    refine z_icmp_le 18 10 dX10_writesNumber_7 rfl rfl (fun hc => ?_) (fun hc => ?_)
    · replace hq := z_in hq (Int.not_lt.mpr hc)
      exact Z.sub (zle_s (zle_s (zle_s (zle_n zle_nil)))) (he _ (Option.some.inj hq).symm)
    · replace hq := z_ip hq hc
      refine z_iload_n 11 dX10_writesNumber_10 rfl rfl ?_
      refine z_bipush 13 dX10_writesNumber_11 rfl (by decide) (by decide) ?_
      refine z_imul (r := (wr (v2 * 10))) 14 dX10_writesNumber_13 rfl rfl ?_
      refine z_istore_n (L' := [some (zr 142), some (zi v1), some (zi (wr (v2 * 10))), none]) 15 dX10_writesNumber_14 rfl rfl rfl rfl ?_
      refine z_goto 2 dX10_writesNumber_15 rfl ?_
      exact Z.sub (zle_s (zle_s (zle_s (zle_n zle_nil)))) (ih _ hq)
set_option maxRecDepth 100000 in
set_option maxHeartbeats 4000000 in
theorem L_qM_writesNumber_l20 {g : yG} {a : Nat → Nat} {ν : zM} {o : zO} {kc ks : Nat} {v1 : Int} {R : zM}   (he : ∀ (m : zM), R = m → Z g a mX10_writesNumber 1 kc ks 45 [some (zr 142), some (zi v1), none, none] [] m o ν) : ∀ (n : Nat) (μ : zM) (v3 : Int), qM_writesNumber_l20 v1 n μ v3 = some R → Z g a mX10_writesNumber 1 kc ks 20 [some (zr 142), some (zi v1), none, some (zi v3)] [] μ o ν := by
  intro n
  induction n with
  | zero => intro μ v3 hq; cases hq
  | succ n ih =>
    intro μ v3 hq
    rw [qM_writesNumber_l20] at hq
    refine z_iload_n 21 dX10_writesNumber_20 rfl rfl ?_
    refine z_if_le 45 24 dX10_writesNumber_21 rfl rfl (fun hc => ?_) (fun hc => ?_)
    · replace hq := z_in hq (Int.not_lt.mpr hc)
      exact Z.sub (zle_s (zle_s (zle_n (zle_n zle_nil)))) (he _ (Option.some.inj hq).symm)
    · replace hq := z_ip hq hc
      refine z_aload_n 25 dX10_writesNumber_24 rfl rfl ?_
      refine z_bipush 27 dX10_writesNumber_25 rfl (by decide) (by decide) ?_
      refine z_iload_n 28 dX10_writesNumber_27 rfl rfl ?_
      refine z_iload_n 29 dX10_writesNumber_28 rfl rfl ?_
      obtain ⟨hg29, hq⟩ := z_g hq
      refine z_idiv 30 dX10_writesNumber_29 rfl hg29 ?_
      refine z_bipush 32 dX10_writesNumber_30 rfl (by decide) (by decide) ?_
      refine z_irem 33 dX10_writesNumber_32 rfl (by decide) ?_
      refine z_iadd (r := (wr (48 + (Int.tmod (wr (Int.tdiv v1 v3)) 10)))) 34 dX10_writesNumber_33 rfl rfl ?_
      obtain ⟨m2, h2, hq⟩ := z_b hq
      refine z_callV0 (as := [zi (wr (48 + (Int.tmod (wr (Int.tdiv v1 v3)) 10)))]) (S := []) 37 dX10_writesNumber_34 rfl (Q_qM_writes  h2) kX10_writes ⟨_, _, rfl⟩ ar_142 l_RX10_221 rfl rfl rfl rfl rfl rfl rfl ?_
      refine z_iload_n 38 dX10_writesNumber_37 rfl rfl ?_
      refine z_bipush 40 dX10_writesNumber_38 rfl (by decide) (by decide) ?_
      refine z_idiv 41 dX10_writesNumber_40 rfl (by decide) ?_
      refine z_istore_n (L' := [some (zr 142), some (zi v1), none, some (zi (wr (Int.tdiv v3 10)))]) 42 dX10_writesNumber_41 rfl rfl rfl rfl ?_
      refine z_goto 20 dX10_writesNumber_42 rfl ?_
      exact Z.sub (zle_s (zle_s (zle_n (zle_s zle_nil)))) (ih _ _ hq)
set_option maxRecDepth 100000 in
set_option maxHeartbeats 4000000 in
theorem Q_qM_writesNumber {g : yG} {a : Nat → Nat} {μ : zM} {v1 : Int} {ν : zM}  (hq : qM_writesNumber μ v1 = some ν) : zC g a mX10_writesNumber 1 0 0 [zr 142, zi v1] μ (.inl none) ν := by
  unfold qM_writesNumber at hq
  refine z_of (L := [some (zr 142), some (zi v1), none, none]) pl_RX10 rfl (zc_of rfl) rfl rfl ?_
  refine z_iconst 1 dX10_writesNumber_0 rfl (by decide) ?_
  refine z_istore_n (L' := [some (zr 142), some (zi v1), some (zi 1), none]) 2 dX10_writesNumber_1 rfl rfl rfl rfl ?_
  obtain ⟨t1, h1, hq⟩ := z_b hq
  refine Z.sub (zle_s (zle_s (zle_s (zle_n zle_nil)))) (L_qM_writesNumber_l2  (R := t1) (fun _ e => ?_) _ _ h1)
  cases e
  refine z_iload_n 19 dX10_writesNumber_18 rfl rfl ?_
  refine z_istore_n (L' := [some (zr 142), some (zi v1), some (zi t1), some (zi t1)]) 20 dX10_writesNumber_19 rfl rfl rfl rfl ?_
  obtain ⟨m3, h3, hq⟩ := z_b hq
  refine Z.sub (zle_s (zle_s (zle_n (zle_s zle_nil)))) (L_qM_writesNumber_l20  (R := m3) (fun _ e => ?_) _ _ _ h3)
  cases e
  cases hq
  exact z_return rfl dX10_writesNumber_45
set_option maxRecDepth 100000 in
set_option maxHeartbeats 4000000 in
theorem L_qM_writeFloor_l52 {g : yG} {a : Nat → Nat} {ν : zM} {o : zO} {kc ks : Nat} {v1 : Int} {R : zM}   (he : ∀ (m : zM), R = m → Z g a mX10_writeFloor 2 kc ks 139 [some (zr 142), some (zi v1), none] [] m o ν) : ∀ (n : Nat) (μ : zM) (v2 : Int), qM_writeFloor_l52 v1 n μ v2 = some R → Z g a mX10_writeFloor 2 kc ks 52 [some (zr 142), some (zi v1), some (zi v2)] [] μ o ν := by
  intro n
  induction n with
  | zero => intro μ v2 hq; cases hq
  | succ n ih =>
    intro μ v2 hq
    rw [qM_writeFloor_l52] at hq
    refine z_iload_n 53 dX10_writeFloor_52 rfl rfl ?_
    refine z_aload_n 54 dX10_writeFloor_53 rfl rfl ?_
    refine z_getR (e := 1) (r := 143) 57 dX10_writeFloor_54 rfl f_RX10_7 ar_142 rfl ar_143.1 ?_
    refine z_iconst 58 dX10_writeFloor_57 rfl (by decide) ?_
    refine z_iaload (x := (μ 143 0)) 59 dX10_writeFloor_58 rfl ar_143 ⟨by decide, by decide⟩ rfl ?_
    refine z_icmp_ge 139 62 dX10_writeFloor_59 rfl rfl (fun hc => ?_) (fun hc => ?_)
    · replace hq := z_in hq (Int.not_lt.mpr hc)
      exact Z.sub (zle_s (zle_s (zle_n zle_nil))) (he _ (Option.some.inj hq).symm)
    · replace hq := z_ip hq hc
      refine z_aload_n 63 dX10_writeFloor_62 rfl rfl ?_
      refine z_iload_n 64 dX10_writeFloor_63 rfl rfl ?_
      refine z_iconst 65 dX10_writeFloor_64 rfl (by decide) ?_
      obtain ⟨a8, h8, hq⟩ := z_b hq
      refine z_callV1 (as := [zi v2, zi 0]) (S := []) 68 dX10_writeFloor_65 rfl (Q_qM_flat  h8) kX10_flat ⟨_, _, rfl⟩ ar_142 l_RX10_80 rfl rfl rfl rfl rfl rfl rfl ?_
      refine z_iload_n 69 dX10_writeFloor_68 rfl rfl ?_
      refine z_icmp_eq 75 72 dX10_writeFloor_69 rfl rfl (fun hc => ?_) (fun hc => ?_)
      · replace hq := z_ip hq hc
        refine z_aload_n 76 dX10_writeFloor_75 rfl rfl ?_
        refine z_bipush 78 dX10_writeFloor_76 rfl (by decide) (by decide) ?_
        obtain ⟨m9, h9, hq⟩ := z_b hq
        refine z_callV0 (as := [zi 32]) (S := []) 81 dX10_writeFloor_78 rfl (Q_qM_writes  h9) kX10_writes ⟨_, _, rfl⟩ ar_142 l_RX10_221 rfl rfl rfl rfl rfl rfl rfl ?_
        refine z_aload_n 82 dX10_writeFloor_81 rfl rfl ?_
        refine z_iload_n 83 dX10_writeFloor_82 rfl rfl ?_
        obtain ⟨m10, h10, hq⟩ := z_b hq
        refine z_callV0 (as := [zi v2]) (S := []) 86 dX10_writeFloor_83 rfl (Q_qM_writesNumber  h10) kX10_writesNumber ⟨_, _, rfl⟩ ar_142 l_RX10_225 rfl rfl rfl rfl rfl rfl rfl ?_
        refine z_aload_n 87 dX10_writeFloor_86 rfl rfl ?_
        refine z_bipush 89 dX10_writeFloor_87 rfl (by decide) (by decide) ?_
        obtain ⟨m11, h11, hq⟩ := z_b hq
        refine z_callV0 (as := [zi 61]) (S := []) 92 dX10_writeFloor_89 rfl (Q_qM_writes  h11) kX10_writes ⟨_, _, rfl⟩ ar_142 l_RX10_221 rfl rfl rfl rfl rfl rfl rfl ?_
        refine z_aload_n 93 dX10_writeFloor_92 rfl rfl ?_
        refine z_aload_n 94 dX10_writeFloor_93 rfl rfl ?_
        refine z_iload_n 95 dX10_writeFloor_94 rfl rfl ?_
        refine z_iconst 96 dX10_writeFloor_95 rfl (by decide) ?_
        obtain ⟨a12, h12, hq⟩ := z_b hq
        refine z_callV1 (as := [zi v2, zi 1]) (S := [zr 142]) 99 dX10_writeFloor_96 rfl (Q_qM_flat  h12) kX10_flat ⟨_, _, rfl⟩ ar_142 l_RX10_80 rfl rfl rfl rfl rfl rfl rfl ?_
        obtain ⟨m13, h13, hq⟩ := z_b hq
        refine z_callV0 (as := [zi a12]) (S := []) 102 dX10_writeFloor_99 rfl (Q_qM_writesNumber  h13) kX10_writesNumber ⟨_, _, rfl⟩ ar_142 l_RX10_225 rfl rfl rfl rfl rfl rfl rfl ?_
        refine z_aload_n 103 dX10_writeFloor_102 rfl rfl ?_
        refine z_iload_n 104 dX10_writeFloor_103 rfl rfl ?_
        obtain ⟨a14, h14, hq⟩ := z_b hq
        refine z_callV1 (as := [zi v2]) (S := []) 107 dX10_writeFloor_104 rfl (Q_qM_occupant  h14) kX10_occupant ⟨_, _, rfl⟩ ar_142 l_RX10_117 rfl rfl rfl rfl rfl rfl rfl ?_
        refine z_if_ge 113 110 dX10_writeFloor_107 rfl rfl (fun hc => ?_) (fun hc => ?_)
        · replace hq := z_in hq (Int.not_lt.mpr hc)
          refine z_aload_n 114 dX10_writeFloor_113 rfl rfl ?_
          refine z_bipush 116 dX10_writeFloor_114 rfl (by decide) (by decide) ?_
          obtain ⟨m15, h15, hq⟩ := z_b hq
          refine z_callV0 (as := [zi 58]) (S := []) 119 dX10_writeFloor_116 rfl (Q_qM_writes  h15) kX10_writes ⟨_, _, rfl⟩ ar_142 l_RX10_221 rfl rfl rfl rfl rfl rfl rfl ?_
          refine z_aload_n 120 dX10_writeFloor_119 rfl rfl ?_
          refine z_aload_n 121 dX10_writeFloor_120 rfl rfl ?_
          refine z_aload_n 122 dX10_writeFloor_121 rfl rfl ?_
          refine z_iload_n 123 dX10_writeFloor_122 rfl rfl ?_
          obtain ⟨a16, h16, hq⟩ := z_b hq
          refine z_callV1 (as := [zi v2]) (S := [zr 142, zr 142]) 126 dX10_writeFloor_123 rfl (Q_qM_occupant  h16) kX10_occupant ⟨_, _, rfl⟩ ar_142 l_RX10_117 rfl rfl rfl rfl rfl rfl rfl ?_
          refine z_iconst 127 dX10_writeFloor_126 rfl (by decide) ?_
          obtain ⟨a17, h17, hq⟩ := z_b hq
          refine z_callV1 (as := [zi a16, zi 0]) (S := [zr 142]) 130 dX10_writeFloor_127 rfl (Q_qM_of  h17) kX10_of ⟨_, _, rfl⟩ ar_142 l_RX10_76 rfl rfl rfl rfl rfl rfl rfl ?_
          obtain ⟨m18, h18, hq⟩ := z_b hq
          refine z_callV0 (as := [zi a17]) (S := []) 133 dX10_writeFloor_130 rfl (Q_qM_writesNumber  h18) kX10_writesNumber ⟨_, _, rfl⟩ ar_142 l_RX10_225 rfl rfl rfl rfl rfl rfl rfl ?_
          refine z_iinc (r := (wr (v2 + 1))) (L' := [some (zr 142), some (zi v1), some (zi (wr (v2 + 1)))]) 136 dX10_writeFloor_133 rfl rfl rfl rfl rfl rfl ?_
          refine z_goto 52 dX10_writeFloor_136 rfl ?_
          exact Z.sub (zle_s (zle_s (zle_s zle_nil))) (ih _ _ hq)
        · replace hq := z_ip hq hc
          refine z_goto 133 dX10_writeFloor_110 rfl ?_
          refine z_iinc (r := (wr (v2 + 1))) (L' := [some (zr 142), some (zi v1), some (zi (wr (v2 + 1)))]) 136 dX10_writeFloor_133 rfl rfl rfl rfl rfl rfl ?_
          refine z_goto 52 dX10_writeFloor_136 rfl ?_
          exact Z.sub (zle_s (zle_s (zle_s zle_nil))) (ih _ _ hq)
      · replace hq := z_in hq hc
        refine z_goto 133 dX10_writeFloor_72 rfl ?_
        refine z_iinc (r := (wr (v2 + 1))) (L' := [some (zr 142), some (zi v1), some (zi (wr (v2 + 1)))]) 136 dX10_writeFloor_133 rfl rfl rfl rfl rfl rfl ?_
        refine z_goto 52 dX10_writeFloor_136 rfl ?_
        exact Z.sub (zle_s (zle_s (zle_s zle_nil))) (ih _ _ hq)
set_option maxRecDepth 100000 in
set_option maxHeartbeats 4000000 in
theorem Q_qM_writeFloor {g : yG} {a : Nat → Nat} {μ : zM} {v1 : Int} {r : Int} {ν : zM}  (hq : qM_writeFloor μ v1 = some (r, ν)) : zC g a mX10_writeFloor 2 0 0 [zr 142, zi v1] μ (.inl (some (zi r))) ν := by
  unfold qM_writeFloor at hq
  refine z_of (L := [some (zr 142), some (zi v1), none]) pl_RX10 rfl (zc_of rfl) rfl rfl ?_
  refine z_aload_n 1 dX10_writeFloor_0 rfl rfl ?_
  refine z_iconst 2 dX10_writeFloor_1 rfl (by decide) ?_
  obtain ⟨m1, em1, hq⟩ := z_m hq
  refine z_putI 5 dX10_writeFloor_2 rfl p_RX10_57 ar_142 em1 ?_
  refine z_iload_n 6 dX10_writeFloor_5 rfl rfl ?_
  refine z_iconst 7 dX10_writeFloor_6 rfl (by decide) ?_
  refine z_iconst 8 dX10_writeFloor_7 rfl (by decide) ?_
  obtain ⟨a2, h2, hq⟩ := z_b hq
  refine z_callS1 (as := [zi v1, zi 0, zi 5]) (S := []) 11 dX10_writeFloor_8 rfl (Q_qM_isBetween  h2) kX10_isBetween l_RX10_72 rfl rfl rfl rfl rfl rfl rfl ?_
  refine z_if_ne 20 14 dX10_writeFloor_11 rfl rfl (fun hc => ?_) (fun hc => ?_)
  · replace hq := z_in hq hc
    refine z_aload_n 21 dX10_writeFloor_20 rfl rfl ?_
    obtain ⟨m3, h3, hq⟩ := z_b hq
    refine z_callV0 (as := []) (S := []) 24 dX10_writeFloor_21 rfl (Q_qM_findsCreaks  h3) kX10_findsCreaks ⟨_, _, rfl⟩ ar_142 l_RX10_192 rfl rfl rfl rfl rfl rfl rfl ?_
    refine z_aload_n 25 dX10_writeFloor_24 rfl rfl ?_
    refine z_iconst 26 dX10_writeFloor_25 rfl (by decide) ?_
    obtain ⟨m4, em4, hq⟩ := z_m hq
    refine z_putI 29 dX10_writeFloor_26 rfl p_RX10_218 ar_142 em4 ?_
    refine z_aload_n 30 dX10_writeFloor_29 rfl rfl ?_
    refine z_iload_n 31 dX10_writeFloor_30 rfl rfl ?_
    obtain ⟨m5, h5, hq⟩ := z_b hq
    refine z_callV0 (as := [zi v1]) (S := []) 34 dX10_writeFloor_31 rfl (Q_qM_writesNumber  h5) kX10_writesNumber ⟨_, _, rfl⟩ ar_142 l_RX10_225 rfl rfl rfl rfl rfl rfl rfl ?_
    refine z_aload_n 35 dX10_writeFloor_34 rfl rfl ?_
    refine z_bipush 37 dX10_writeFloor_35 rfl (by decide) (by decide) ?_
    obtain ⟨m6, h6, hq⟩ := z_b hq
    refine z_callV0 (as := [zi 126]) (S := []) 40 dX10_writeFloor_37 rfl (Q_qM_writes  h6) kX10_writes ⟨_, _, rfl⟩ ar_142 l_RX10_221 rfl rfl rfl rfl rfl rfl rfl ?_
    refine z_aload_n 41 dX10_writeFloor_40 rfl rfl ?_
    refine z_aload_n 42 dX10_writeFloor_41 rfl rfl ?_
    refine z_getR (e := 8) (r := 150) 45 dX10_writeFloor_42 rfl f_RX10_31 ar_142 rfl ar_150.1 ?_
    refine z_iload_n 46 dX10_writeFloor_45 rfl rfl ?_
    obtain ⟨hg46, hq⟩ := z_g hq
    refine z_iaload (x := (m6 150 v1)) 47 dX10_writeFloor_46 rfl ar_150 hg46 rfl ?_
    obtain ⟨m7, h7, hq⟩ := z_b hq
    refine z_callV0 (as := [zi (m6 150 v1)]) (S := []) 50 dX10_writeFloor_47 rfl (Q_qM_writesNumber  h7) kX10_writesNumber ⟨_, _, rfl⟩ ar_142 l_RX10_225 rfl rfl rfl rfl rfl rfl rfl ?_
    refine z_iconst 51 dX10_writeFloor_50 rfl (by decide) ?_
    refine z_istore_n (L' := [some (zr 142), some (zi v1), some (zi 0)]) 52 dX10_writeFloor_51 rfl rfl rfl rfl ?_
    obtain ⟨m19, h19, hq⟩ := z_b hq
    refine Z.sub (zle_s (zle_s (zle_s zle_nil))) (L_qM_writeFloor_l52  (R := m19) (fun _ e => ?_) _ _ _ h19)
    cases e
    refine z_aload_n 140 dX10_writeFloor_139 rfl rfl ?_
    refine z_getI (x := (m19 142 15)) 143 dX10_writeFloor_140 rfl f_RX10_218 ar_142 rfl ?_
    cases hq
    exact z_ireturn rfl dX10_writeFloor_143
  · replace hq := z_ip hq hc
    refine z_aload_n 15 dX10_writeFloor_14 rfl rfl ?_
    refine z_iconst 16 dX10_writeFloor_15 rfl (by decide) ?_
    obtain ⟨a20, m20, h20, hq⟩ := bnd2_some hq
    refine z_callV1 (as := [zi 1]) (S := []) 19 dX10_writeFloor_16 rfl (Q_qM_fails  h20) kX10_fails ⟨_, _, rfl⟩ ar_142 l_RX10_89 rfl rfl rfl rfl rfl rfl rfl ?_
    cases hq
    exact z_ireturn rfl dX10_writeFloor_19
set_option maxRecDepth 100000 in
set_option maxHeartbeats 4000000 in
theorem J_qM_writePlan_j36 {g : yG} {a : Nat → Nat} {μ ν : zM} {o : zO} {kc ks : Nat} {v1 : Int} {rec : zM → Int → Option (zM)} {R : zM}   (he : ∀ (m : zM), R = m → Z g a mX10_writePlan 6 kc ks 86 [some (zr 142), none] [] m o ν) (hrec : ∀ (μ : zM) (v1 : Int), rec μ v1 = some R → Z g a mX10_writePlan 6 kc ks 16 [some (zr 142), some (zi v1)] [] μ o ν) (hq : qM_writePlan_j36 rec μ v1 = some R) : Z g a mX10_writePlan 6 kc ks 36 [some (zr 142), some (zi v1)] [] μ o ν := by
  unfold qM_writePlan_j36 at hq
  refine z_aload_n 37 dX10_writePlan_36 rfl rfl ?_
  refine z_aload_n 38 dX10_writePlan_37 rfl rfl ?_
  refine z_iload_n 39 dX10_writePlan_38 rfl rfl ?_
  refine z_iconst 40 dX10_writePlan_39 rfl (by decide) ?_
  obtain ⟨a4, h4, hq⟩ := z_b hq
  refine z_callV1 (as := [zi v1, zi 0]) (S := [zr 142]) 43 dX10_writePlan_40 rfl (Q_qM_of  h4) kX10_of ⟨_, _, rfl⟩ ar_142 l_RX10_76 rfl rfl rfl rfl rfl rfl rfl ?_
  obtain ⟨m5, h5, hq⟩ := z_b hq
  refine z_callV0 (as := [zi a4]) (S := []) 46 dX10_writePlan_43 rfl (Q_qM_writesNumber  h5) kX10_writesNumber ⟨_, _, rfl⟩ ar_142 l_RX10_225 rfl rfl rfl rfl rfl rfl rfl ?_
  refine z_aload_n 47 dX10_writePlan_46 rfl rfl ?_
  refine z_bipush 49 dX10_writePlan_47 rfl (by decide) (by decide) ?_
  obtain ⟨m6, h6, hq⟩ := z_b hq
  refine z_callV0 (as := [zi 62]) (S := []) 52 dX10_writePlan_49 rfl (Q_qM_writes  h6) kX10_writes ⟨_, _, rfl⟩ ar_142 l_RX10_221 rfl rfl rfl rfl rfl rfl rfl ?_
  refine z_aload_n 53 dX10_writePlan_52 rfl rfl ?_
  refine z_getR (e := 6) (r := 148) 56 dX10_writePlan_53 rfl f_RX10_25 ar_142 rfl ar_148.1 ?_
  refine z_iload_n 57 dX10_writePlan_56 rfl rfl ?_
  obtain ⟨hg57, hq⟩ := z_g hq
  refine z_iaload (x := (m6 148 v1)) 58 dX10_writePlan_57 rfl ar_148 hg57 rfl ?_
  refine z_if_ge 70 61 dX10_writePlan_58 rfl rfl (fun hc => ?_) (fun hc => ?_)
  · replace hq := z_in hq (Int.not_lt.mpr hc)
    refine z_aload_n 71 dX10_writePlan_70 rfl rfl ?_
    refine z_aload_n 72 dX10_writePlan_71 rfl rfl ?_
    refine z_getR (e := 6) (r := 148) 75 dX10_writePlan_72 rfl f_RX10_25 ar_142 rfl ar_148.1 ?_
    refine z_iload_n 76 dX10_writePlan_75 rfl rfl ?_
    obtain ⟨hg76, hq⟩ := z_g hq
    refine z_iaload (x := (m6 148 v1)) 77 dX10_writePlan_76 rfl ar_148 hg76 rfl ?_
    obtain ⟨m7, h7, hq⟩ := z_b hq
    refine z_callV0 (as := [zi (m6 148 v1)]) (S := []) 80 dX10_writePlan_77 rfl (Q_qM_writesNumber  h7) kX10_writesNumber ⟨_, _, rfl⟩ ar_142 l_RX10_225 rfl rfl rfl rfl rfl rfl rfl ?_
    refine z_iinc (r := (wr (v1 + 1))) (L' := [some (zr 142), some (zi (wr (v1 + 1)))]) 83 dX10_writePlan_80 rfl rfl rfl rfl rfl rfl ?_
    refine z_goto 16 dX10_writePlan_83 rfl ?_
    exact Z.sub (zle_s (zle_s zle_nil)) (hrec _ _ hq)
  · replace hq := z_ip hq hc
    refine z_aload_n 62 dX10_writePlan_61 rfl rfl ?_
    refine z_bipush 64 dX10_writePlan_62 rfl (by decide) (by decide) ?_
    obtain ⟨m8, h8, hq⟩ := z_b hq
    refine z_callV0 (as := [zi 45]) (S := []) 67 dX10_writePlan_64 rfl (Q_qM_writes  h8) kX10_writes ⟨_, _, rfl⟩ ar_142 l_RX10_221 rfl rfl rfl rfl rfl rfl rfl ?_
    refine z_goto 80 dX10_writePlan_67 rfl ?_
    refine z_iinc (r := (wr (v1 + 1))) (L' := [some (zr 142), some (zi (wr (v1 + 1)))]) 83 dX10_writePlan_80 rfl rfl rfl rfl rfl rfl ?_
    refine z_goto 16 dX10_writePlan_83 rfl ?_
    exact Z.sub (zle_s (zle_s zle_nil)) (hrec _ _ hq)
set_option maxRecDepth 100000 in
set_option maxHeartbeats 4000000 in
theorem L_qM_writePlan_l16 {g : yG} {a : Nat → Nat} {ν : zM} {o : zO} {kc ks : Nat}  {R : zM}   (he : ∀ (m : zM), R = m → Z g a mX10_writePlan 6 kc ks 86 [some (zr 142), none] [] m o ν) : ∀ (n : Nat) (μ : zM) (v1 : Int), qM_writePlan_l16 n μ v1 = some R → Z g a mX10_writePlan 6 kc ks 16 [some (zr 142), some (zi v1)] [] μ o ν := by
  intro n
  induction n with
  | zero => intro μ v1 hq; cases hq
  | succ n ih =>
    intro μ v1 hq
    rw [qM_writePlan_l16] at hq
    refine z_iload_n 17 dX10_writePlan_16 rfl rfl ?_
    refine z_aload_n 18 dX10_writePlan_17 rfl rfl ?_
    refine z_getR (e := 1) (r := 143) 21 dX10_writePlan_18 rfl f_RX10_7 ar_142 rfl ar_143.1 ?_
    refine z_iconst 22 dX10_writePlan_21 rfl (by decide) ?_
    refine z_iaload (x := (μ 143 1)) 23 dX10_writePlan_22 rfl ar_143 ⟨by decide, by decide⟩ rfl ?_
    refine z_icmp_ge 86 26 dX10_writePlan_23 rfl rfl (fun hc => ?_) (fun hc => ?_)
    · replace hq := z_in hq (Int.not_lt.mpr hc)
      exact Z.sub (zle_s (zle_n zle_nil)) (he _ (Option.some.inj hq).symm)
    · replace hq := z_ip hq hc
      refine z_iload_n 27 dX10_writePlan_26 rfl rfl ?_
      refine z_if_le 36 30 dX10_writePlan_27 rfl rfl (fun hc => ?_) (fun hc => ?_)
      · replace hq := z_in hq (Int.not_lt.mpr hc)
        exact Z.sub (zle_s (zle_s zle_nil)) (J_qM_writePlan_j36 he ih hq)
      · replace hq := z_ip hq hc
        refine z_aload_n 31 dX10_writePlan_30 rfl rfl ?_
        refine z_bipush 33 dX10_writePlan_31 rfl (by decide) (by decide) ?_
        obtain ⟨m9, h9, hq⟩ := z_b hq
        refine z_callV0 (as := [zi 32]) (S := []) 36 dX10_writePlan_33 rfl (Q_qM_writes  h9) kX10_writes ⟨_, _, rfl⟩ ar_142 l_RX10_221 rfl rfl rfl rfl rfl rfl rfl ?_
        exact Z.sub (zle_s (zle_s zle_nil)) (J_qM_writePlan_j36 he ih hq)
set_option maxRecDepth 100000 in
set_option maxHeartbeats 4000000 in
theorem Q_qM_writePlan {g : yG} {a : Nat → Nat} {μ : zM}  {r : Int} {ν : zM}  (hq : qM_writePlan μ = some (r, ν)) : zC g a mX10_writePlan 6 0 0 [zr 142] μ (.inl (some (zi r))) ν := by
  unfold qM_writePlan at hq
  refine z_of (L := [some (zr 142), none]) pl_RX10 rfl (zc_of rfl) rfl rfl ?_
  refine z_aload_n 1 dX10_writePlan_0 rfl rfl ?_
  refine z_iconst 2 dX10_writePlan_1 rfl (by decide) ?_
  obtain ⟨m1, em1, hq⟩ := z_m hq
  refine z_putI 5 dX10_writePlan_2 rfl p_RX10_57 ar_142 em1 ?_
  refine z_aload_n 6 dX10_writePlan_5 rfl rfl ?_
  obtain ⟨m2, h2, hq⟩ := z_b hq
  refine z_callV0 (as := []) (S := []) 9 dX10_writePlan_6 rfl (Q_qM_findsPlan  h2) kX10_findsPlan ⟨_, _, rfl⟩ ar_142 l_RX10_170 rfl rfl rfl rfl rfl rfl rfl ?_
  refine z_aload_n 10 dX10_writePlan_9 rfl rfl ?_
  refine z_iconst 11 dX10_writePlan_10 rfl (by decide) ?_
  obtain ⟨m3, em3, hq⟩ := z_m hq
  refine z_putI 14 dX10_writePlan_11 rfl p_RX10_218 ar_142 em3 ?_
  refine z_iconst 15 dX10_writePlan_14 rfl (by decide) ?_
  refine z_istore_n (L' := [some (zr 142), some (zi 0)]) 16 dX10_writePlan_15 rfl rfl rfl rfl ?_
  obtain ⟨m10, h10, hq⟩ := z_b hq
  refine Z.sub (zle_s (zle_s zle_nil)) (L_qM_writePlan_l16  (R := m10) (fun _ e => ?_) _ _ _ h10)
  cases e
  refine z_aload_n 87 dX10_writePlan_86 rfl rfl ?_
  refine z_getI (x := (m10 142 15)) 90 dX10_writePlan_87 rfl f_RX10_218 ar_142 rfl ?_
  cases hq
  exact z_ireturn rfl dX10_writePlan_90
set_option maxRecDepth 100000 in
set_option maxHeartbeats 4000000 in
theorem Q_qM_charAt {g : yG} {a : Nat → Nat} {μ : zM} {v1 : Int} {r : Int} {ν : zM}  (hq : qM_charAt μ v1 = some (r, ν)) : zC g a mX10_charAt 1 0 0 [zr 142, zi v1] μ (.inl (some (zi r))) ν := by
  unfold qM_charAt at hq
  refine z_of (L := [some (zr 142), some (zi v1)]) pl_RX10 rfl (zc_of rfl) rfl rfl ?_
  refine z_aload_n 1 dX10_charAt_0 rfl rfl ?_
  refine z_iconst 2 dX10_charAt_1 rfl (by decide) ?_
  obtain ⟨m1, em1, hq⟩ := z_m hq
  refine z_putI 5 dX10_charAt_2 rfl p_RX10_57 ar_142 em1 ?_
  refine z_iload_n 6 dX10_charAt_5 rfl rfl ?_
  refine z_iconst 7 dX10_charAt_6 rfl (by decide) ?_
  refine z_aload_n 8 dX10_charAt_7 rfl rfl ?_
  refine z_getI (x := (m1 142 15)) 11 dX10_charAt_8 rfl f_RX10_218 ar_142 rfl ?_
  refine z_iconst 12 dX10_charAt_11 rfl (by decide) ?_
  refine z_isub (r := (wr ((m1 142 15) - 1))) 13 dX10_charAt_12 rfl rfl ?_
  obtain ⟨a2, h2, hq⟩ := z_b hq
  refine z_callS1 (as := [zi v1, zi 0, zi (wr ((m1 142 15) - 1))]) (S := []) 16 dX10_charAt_13 rfl (Q_qM_isBetween  h2) kX10_isBetween l_RX10_72 rfl rfl rfl rfl rfl rfl rfl ?_
  refine z_if_eq 26 19 dX10_charAt_16 rfl rfl (fun hc => ?_) (fun hc => ?_)
  · replace hq := z_ip hq hc
    refine z_aload_n 27 dX10_charAt_26 rfl rfl ?_
    refine z_iconst 28 dX10_charAt_27 rfl (by decide) ?_
    obtain ⟨a3, m3, h3, hq⟩ := bnd2_some hq
    refine z_callV1 (as := [zi 1]) (S := []) 31 dX10_charAt_28 rfl (Q_qM_fails  h3) kX10_fails ⟨_, _, rfl⟩ ar_142 l_RX10_89 rfl rfl rfl rfl rfl rfl rfl ?_
    refine z_i2c (r := (a3 % 65536)) 32 dX10_charAt_31 rfl rfl ?_
    obtain ⟨hgr, hq⟩ := z_g hq
    cases hq
    exact z_creturn rfl dX10_charAt_32 hgr
  · replace hq := z_in hq hc
    refine z_aload_n 20 dX10_charAt_19 rfl rfl ?_
    refine z_getR (e := 11) (r := 153) 23 dX10_charAt_20 rfl f_RX10_40 ar_142 rfl ar_153.1 ?_
    refine z_iload_n 24 dX10_charAt_23 rfl rfl ?_
    obtain ⟨hg24, hq⟩ := z_g hq
    refine z_caload (x := (m1 153 v1)) 25 dX10_charAt_24 rfl ar_153 hg24 rfl ?_
    obtain ⟨hgr, hq⟩ := z_g hq
    cases hq
    exact z_creturn rfl dX10_charAt_25 hgr
set_option maxRecDepth 100000 in
set_option maxHeartbeats 4000000 in
theorem Q_qM_type {g : yG} {a : Nat → Nat} {μ : zM} {v1 : Int} {r : Int} {ν : zM}  (hq : qM_type μ v1 = some (r, ν)) : zC g a mX10_type 1 0 0 [zr 142, zi v1] μ (.inl (some (zi r))) ν := by
  unfold qM_type at hq
  refine z_of (L := [some (zr 142), some (zi v1)]) pl_RX10 rfl (zc_of rfl) rfl rfl ?_
  refine z_aload_n 1 dX10_type_0 rfl rfl ?_
  refine z_iconst 2 dX10_type_1 rfl (by decide) ?_
  obtain ⟨m1, em1, hq⟩ := z_m hq
  refine z_putI 5 dX10_type_2 rfl p_RX10_57 ar_142 em1 ?_
  refine z_aload_n 6 dX10_type_5 rfl rfl ?_
  refine z_getI (x := (m1 142 17)) 9 dX10_type_6 rfl f_RX10_228 ar_142 rfl ?_
  refine z_bipush 11 dX10_type_9 rfl (by decide) (by decide) ?_
  refine z_icmp_ne 20 14 dX10_type_11 rfl rfl (fun hc => ?_) (fun hc => ?_)
  · replace hq := z_in hq hc
    refine z_aload_n 21 dX10_type_20 rfl rfl ?_
    refine z_getR (e := 12) (r := 154) 24 dX10_type_21 rfl f_RX10_44 ar_142 rfl ar_154.1 ?_
    refine z_aload_n 25 dX10_type_24 rfl rfl ?_
    refine z_getI (x := (m1 142 17)) 28 dX10_type_25 rfl f_RX10_228 ar_142 rfl ?_
    refine z_iload_n 29 dX10_type_28 rfl rfl ?_
    obtain ⟨hg29, hq⟩ := z_g hq
    obtain ⟨m2, em2, hq⟩ := z_m hq
    refine z_castore 30 dX10_type_29 rfl ar_154 hg29.1 hg29.2 em2 ?_
    refine z_aload_n 31 dX10_type_30 rfl rfl ?_
    refine z_dup 32 dX10_type_31 rfl rfl ?_
    refine z_getI (x := (m2 142 17)) 35 dX10_type_32 rfl f_RX10_228 ar_142 rfl ?_
    refine z_iconst 36 dX10_type_35 rfl (by decide) ?_
    refine z_iadd (r := (wr ((m2 142 17) + 1))) 37 dX10_type_36 rfl rfl ?_
    obtain ⟨m3, em3, hq⟩ := z_m hq
    refine z_putI 40 dX10_type_37 rfl p_RX10_228 ar_142 em3 ?_
    refine z_aload_n 41 dX10_type_40 rfl rfl ?_
    refine z_getI (x := (m3 142 17)) 44 dX10_type_41 rfl f_RX10_228 ar_142 rfl ?_
    cases hq
    exact z_ireturn rfl dX10_type_44
  · replace hq := z_ip hq hc
    refine z_aload_n 15 dX10_type_14 rfl rfl ?_
    refine z_iconst 16 dX10_type_15 rfl (by decide) ?_
    obtain ⟨a4, m4, h4, hq⟩ := bnd2_some hq
    refine z_callV1 (as := [zi 1]) (S := []) 19 dX10_type_16 rfl (Q_qM_fails  h4) kX10_fails ⟨_, _, rfl⟩ ar_142 l_RX10_89 rfl rfl rfl rfl rfl rfl rfl ?_
    cases hq
    exact z_ireturn rfl dX10_type_19
