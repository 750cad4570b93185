/-! ===== the methods do what the mirror says (laid by wip/whole/tools/proofs.py) ===== -/
set_option maxRecDepth 100000 in
set_option maxHeartbeats 4000000 in
theorem Q_qY_forget {g : yG} {a : Nat → Nat} {μ : zM}  {ν : zM}  (hq : qY_forget μ = some ν) : zC g a mX1_forget 0 0 0 [zr 31] μ (.inl none) ν := by
  unfold qY_forget at hq
  refine z_of (L := [some (zr 31)]) pl_RX1 rfl (zc_of rfl) rfl rfl ?_
  refine z_aload_n 1 dX1_forget_0 rfl rfl ?_
  refine z_iconst 2 dX1_forget_1 rfl (by decide) ?_
  obtain ⟨m1, em1, hq⟩ := z_m hq
  refine z_putI 5 dX1_forget_2 rfl p_RX1_21 ar_31 em1 ?_
  cases hq
  exact z_return rfl dX1_forget_5
set_option maxRecDepth 100000 in
set_option maxHeartbeats 4000000 in
theorem Q_qT_restore {g : yG} {a : Nat → Nat} {μ : zM}  {r : Int ⊕ Nat} {ν : zM}  (hq : qT_restore μ = some (r, ν)) : zC g a mX9_restore 2 1 6 [zr 0] μ (zri r) ν := by
  unfold qT_restore at hq
  refine z_of (L := [some (zr 0)]) pl_RX9 rfl (zc_of rfl) rfl rfl ?_
  refine z_aload_n 1 dX9_restore_0 rfl rfl ?_
  refine z_getI (x := (μ 0 9)) 4 dX9_restore_1 rfl f_RX9_60 ar_0 rfl ?_
  refine z_if_ne 18 7 dX9_restore_4 rfl rfl (fun hc => ?_) (fun hc => ?_)
  · replace hq := z_in hq hc
    refine z_aload_n 19 dX9_restore_18 rfl rfl ?_
    refine z_getR (e := 1) (r := 1) 22 dX9_restore_19 rfl f_RX9_12 ar_0 rfl ar_1.1 ?_
    refine z_aload_n 23 dX9_restore_22 rfl rfl ?_
    refine z_getR (e := 21) (r := 21) 26 dX9_restore_23 rfl f_RX9_19 ar_0 rfl ar_21.1 ?_
    obtain ⟨m1, h1, hq⟩ := z_b hq
    refine z_callV0 (as := [zr 21]) (S := []) (kc := 1) (ks := 6) 29 dX9_restore_26 rfl (Q_qH_copyFrom zH_1 zH_21 h1) kX2_copyFrom ⟨_, _, rfl⟩ ar_1 l_RX9_237 rfl rfl rfl rfl rfl rfl rfl ?_
    refine z_aload_n 30 dX9_restore_29 rfl rfl ?_
    refine z_getR (e := 31) (r := 31) 33 dX9_restore_30 rfl f_RX9_25 ar_0 rfl ar_31.1 ?_
    obtain ⟨m2, h2, hq⟩ := z_b hq
    refine z_callV0 (as := []) (S := []) (kc := 1) (ks := 6) 36 dX9_restore_33 rfl (Q_qY_forget  h2) kX1_forget ⟨_, _, rfl⟩ ar_31 l_RX9_347 rfl rfl rfl rfl rfl rfl rfl ?_
    refine z_aload_n 37 dX9_restore_36 rfl rfl ?_
    refine z_getR (e := 1) (r := 1) 40 dX9_restore_37 rfl f_RX9_12 ar_0 rfl ar_1.1 ?_
    refine z_getI (x := (m2 1 3)) 43 dX9_restore_40 rfl f_RX9_175 ar_1 rfl ?_
    cases hq
    exact z_ireturn rfl dX9_restore_43
  · replace hq := z_ip hq hc
    cases hq
    exact z_throwSW (cls := "java/lang/IllegalStateException") (text := "no state was saved") (names := ["java/lang/RuntimeException", "java/lang/Exception"]) (e := 3) tf_3 (yb 742 (by decide +kernel) rfl) (yb 110 (by decide +kernel) rfl) ts_345 (by decide +kernel) t_RX9_305 rfl rfl dX9_restore_7 dX9_restore_10 dX9_restore_11 dX9_restore_14 dX9_restore_17 rfl rfl rfl
set_option maxRecDepth 100000 in
set_option maxHeartbeats 4000000 in
theorem Q_qM_thrown {g : yG} {a : Nat → Nat} {μ : zM}  {r : Int}  (hq : qM_thrown μ = some r) : zC g a mX10_thrown 0 0 0 [zr 142] μ (.inl (some (zi r))) μ := by
  unfold qM_thrown at hq
  refine z_of (L := [some (zr 142)]) pl_RX10 rfl (zc_of rfl) rfl rfl ?_
  refine z_aload_n 1 dX10_thrown_0 rfl rfl ?_
  refine z_getI (x := (μ 142 0)) 4 dX10_thrown_1 rfl f_RX10_57 ar_142 rfl ?_
  cases hq
  exact z_ireturn rfl dX10_thrown_4
set_option maxRecDepth 100000 in
set_option maxHeartbeats 4000000 in
theorem Q_qM_fails {g : yG} {a : Nat → Nat} {μ : zM} {v1 : Int} {r : Int} {ν : zM}  (hq : qM_fails μ v1 = some (r, ν)) : zC g a mX10_fails 0 0 0 [zr 142, zi v1] μ (.inl (some (zi r))) ν := by
  unfold qM_fails at hq
  refine z_of (L := [some (zr 142), some (zi v1)]) pl_RX10 rfl (zc_of rfl) rfl rfl ?_
  refine z_aload_n 1 dX10_fails_0 rfl rfl ?_
  refine z_iload_n 2 dX10_fails_1 rfl rfl ?_
  obtain ⟨m1, em1, hq⟩ := z_m hq
  refine z_putI 5 dX10_fails_2 rfl p_RX10_57 ar_142 em1 ?_
  refine z_iconst 6 dX10_fails_5 rfl (by decide) ?_
  cases hq
  exact z_ireturn rfl dX10_fails_6
set_option maxRecDepth 100000 in
set_option maxHeartbeats 4000000 in
theorem Q_qM_isBetween {g : yG} {a : Nat → Nat} {μ : zM} {v0 : Int} {v1 : Int} {v2 : Int} {r : Int}  (hq : qM_isBetween μ v0 v1 v2 = some r) : zC g a mX10_isBetween 0 0 0 [zi v0, zi v1, zi v2] μ (.inl (some (zi r))) μ := by
  unfold qM_isBetween at hq
  refine z_of (L := [some (zi v0), some (zi v1), some (zi v2)]) pl_RX10 rfl (zc_of rfl) rfl rfl ?_
  refine z_iload_n 1 dX10_isBetween_0 rfl rfl ?_
  refine z_iload_n 2 dX10_isBetween_1 rfl rfl ?_
  refine z_icmp_gt 14 5 dX10_isBetween_2 rfl rfl (fun hc => ?_) (fun hc => ?_)
  · replace hq := z_ip hq hc
    refine z_iconst 15 dX10_isBetween_14 rfl (by decide) ?_
    cases hq
    exact z_zreturn rfl dX10_isBetween_15 (by decide)
  · replace hq := z_in hq (Int.not_lt.mpr hc)
    refine z_iload_n 6 dX10_isBetween_5 rfl rfl ?_
    refine z_iload_n 7 dX10_isBetween_6 rfl rfl ?_
    refine z_icmp_gt 14 10 dX10_isBetween_7 rfl rfl (fun hc => ?_) (fun hc => ?_)
    · replace hq := z_ip hq hc
      refine z_iconst 15 dX10_isBetween_14 rfl (by decide) ?_
      cases hq
      exact z_zreturn rfl dX10_isBetween_15 (by decide)
    · replace hq := z_in hq (Int.not_lt.mpr hc)
      refine z_iconst 11 dX10_isBetween_10 rfl (by decide) ?_
      refine z_goto 15 dX10_isBetween_11 rfl ?_
      cases hq
      exact z_zreturn rfl dX10_isBetween_15 (by decide)
set_option maxRecDepth 100000 in
set_option maxHeartbeats 4000000 in
theorem L_qM_copies_l2 {g : yG} {a : Nat → Nat} {ν : zM} {o : zO} {kc ks : Nat}  {R : zM}   (he : ∀ (m : zM), R = m → Z g a mX10_copies 0 kc ks 26 [some (zr 142), none] [] m o ν) : ∀ (n : Nat) (μ : zM) (v1 : Int), qM_copies_l2 n μ v1 = some R → Z g a mX10_copies 0 kc ks 2 [some (zr 142), some (zi v1)] [] μ o ν := by
  intro n
  induction n with
  | zero => intro μ v1 hq; cases hq
  | succ n ih =>
    intro μ v1 hq
    rw [qM_copies_l2] at hq
    refine z_iload_n 3 dX10_copies_2 rfl rfl ?_
    refine z_bipush 5 dX10_copies_3 rfl (by decide) (by decide) ?_
    refine z_icmp_ge 26 8 dX10_copies_5 rfl rfl (fun hc => ?_) (fun hc => ?_)
    · replace hq := z_in hq (Int.not_lt.mpr hc)
      exact Z.sub (zle_s (zle_n zle_nil)) (he _ (Option.some.inj hq).symm)
    · replace hq := z_ip hq hc
      refine z_aload_n 9 dX10_copies_8 rfl rfl ?_
      refine z_getR (e := 4) (r := 146) 12 dX10_copies_9 rfl f_RX10_19 ar_142 rfl ar_146.1 ?_
      refine z_iload_n 13 dX10_copies_12 rfl rfl ?_
      refine z_aload_n 14 dX10_copies_13 rfl rfl ?_
      refine z_getR (e := 1) (r := 143) 17 dX10_copies_14 rfl f_RX10_7 ar_142 rfl ar_143.1 ?_
      refine z_iload_n 18 dX10_copies_17 rfl rfl ?_
      obtain ⟨hg18, hq⟩ := z_g hq
      refine z_iaload (x := (μ 143 v1)) 19 dX10_copies_18 rfl ar_143 hg18 rfl ?_
      obtain ⟨hg19, hq⟩ := z_g hq
      obtain ⟨m1, em1, hq⟩ := z_m hq
      refine z_iastore 20 dX10_copies_19 rfl ar_146 hg19 em1 ?_
      refine z_iinc (r := (wr (v1 + 1))) (L' := [some (zr 142), some (zi (wr (v1 + 1)))]) 23 dX10_copies_20 rfl rfl rfl rfl rfl rfl ?_
      refine z_goto 2 dX10_copies_23 rfl ?_
      exact Z.sub (zle_s (zle_s zle_nil)) (ih _ _ hq)
set_option maxRecDepth 100000 in
set_option maxHeartbeats 4000000 in
theorem Q_qM_copies {g : yG} {a : Nat → Nat} {μ : zM}  {ν : zM}  (hq : qM_copies μ = some ν) : zC g a mX10_copies 0 0 0 [zr 142] μ (.inl none) ν := by
  unfold qM_copies at hq
  refine z_of (L := [some (zr 142), none]) pl_RX10 rfl (zc_of rfl) rfl rfl ?_
  refine z_iconst 1 dX10_copies_0 rfl (by decide) ?_
  refine z_istore_n (L' := [some (zr 142), some (zi 0)]) 2 dX10_copies_1 rfl rfl rfl rfl ?_
  obtain ⟨m2, h2, hq⟩ := z_b hq
  refine Z.sub (zle_s (zle_s zle_nil)) (L_qM_copies_l2  (R := m2) (fun _ e => ?_) _ _ _ h2)
  cases e
  cases hq
  exact z_return rfl dX10_copies_26
set_option maxRecDepth 100000 in
set_option maxHeartbeats 4000000 in
theorem L_qM_goesBack_l2 {g : yG} {a : Nat → Nat} {ν : zM} {o : zO} {kc ks : Nat}  {R : zM}   (he : ∀ (m : zM), R = m → Z g a mX10_goesBack 0 kc ks 26 [some (zr 142), none] [] m o ν) : ∀ (n : Nat) (μ : zM) (v1 : Int), qM_goesBack_l2 n μ v1 = some R → Z g a mX10_goesBack 0 kc ks 2 [some (zr 142), some (zi v1)] [] μ o ν := by
  intro n
  induction n with
  | zero => intro μ v1 hq; cases hq
  | succ n ih =>
    intro μ v1 hq
    rw [qM_goesBack_l2] at hq
    refine z_iload_n 3 dX10_goesBack_2 rfl rfl ?_
    refine z_bipush 5 dX10_goesBack_3 rfl (by decide) (by decide) ?_
    refine z_icmp_ge 26 8 dX10_goesBack_5 rfl rfl (fun hc => ?_) (fun hc => ?_)
    · replace hq := z_in hq (Int.not_lt.mpr hc)
      exact Z.sub (zle_s (zle_n zle_nil)) (he _ (Option.some.inj hq).symm)
    · replace hq := z_ip hq hc
      refine z_aload_n 9 dX10_goesBack_8 rfl rfl ?_
      refine z_getR (e := 1) (r := 143) 12 dX10_goesBack_9 rfl f_RX10_7 ar_142 rfl ar_143.1 ?_
      refine z_iload_n 13 dX10_goesBack_12 rfl rfl ?_
      refine z_aload_n 14 dX10_goesBack_13 rfl rfl ?_
      refine z_getR (e := 4) (r := 146) 17 dX10_goesBack_14 rfl f_RX10_19 ar_142 rfl ar_146.1 ?_
      refine z_iload_n 18 dX10_goesBack_17 rfl rfl ?_
      obtain ⟨hg18, hq⟩ := z_g hq
      refine z_iaload (x := (μ 146 v1)) 19 dX10_goesBack_18 rfl ar_146 hg18 rfl ?_
      obtain ⟨hg19, hq⟩ := z_g hq
      obtain ⟨m1, em1, hq⟩ := z_m hq
      refine z_iastore 20 dX10_goesBack_19 rfl ar_143 hg19 em1 ?_
      refine z_iinc (r := (wr (v1 + 1))) (L' := [some (zr 142), some (zi (wr (v1 + 1)))]) 23 dX10_goesBack_20 rfl rfl rfl rfl rfl rfl ?_
      refine z_goto 2 dX10_goesBack_23 rfl ?_
      exact Z.sub (zle_s (zle_s zle_nil)) (ih _ _ hq)
set_option maxRecDepth 100000 in
set_option maxHeartbeats 4000000 in
theorem Q_qM_goesBack {g : yG} {a : Nat → Nat} {μ : zM}  {ν : zM}  (hq : qM_goesBack μ = some ν) : zC g a mX10_goesBack 0 0 0 [zr 142] μ (.inl none) ν := by
  unfold qM_goesBack at hq
  refine z_of (L := [some (zr 142), none]) pl_RX10 rfl (zc_of rfl) rfl rfl ?_
  refine z_iconst 1 dX10_goesBack_0 rfl (by decide) ?_
  refine z_istore_n (L' := [some (zr 142), some (zi 0)]) 2 dX10_goesBack_1 rfl rfl rfl rfl ?_
  obtain ⟨m2, h2, hq⟩ := z_b hq
  refine Z.sub (zle_s (zle_s zle_nil)) (L_qM_goesBack_l2  (R := m2) (fun _ e => ?_) _ _ _ h2)
  cases e
  cases hq
  exact z_return rfl dX10_goesBack_26
set_option maxRecDepth 100000 in
set_option maxHeartbeats 4000000 in
theorem L_qM_keeps_l47 {g : yG} {a : Nat → Nat} {ν : zM} {o : zO} {kc ks : Nat} {v1 : Int} {R : zM}   (he : ∀ (m : zM), R = m → Z g a mX10_keeps 0 kc ks 76 [some (zr 142), some (zi v1), none] [] m o ν) : ∀ (n : Nat) (μ : zM) (v2 : Int), qM_keeps_l47 v1 n μ v2 = some R → Z g a mX10_keeps 0 kc ks 47 [some (zr 142), some (zi v1), some (zi v2)] [] μ o ν := by
  intro n
  induction n with
  | zero => intro μ v2 hq; cases hq
  | succ n ih =>
    intro μ v2 hq
    rw [qM_keeps_l47] at hq
    refine z_iload_n 48 dX10_keeps_47 rfl rfl ?_
    refine z_bipush 50 dX10_keeps_48 rfl (by decide) (by decide) ?_
    refine z_icmp_ge 76 53 dX10_keeps_50 rfl rfl (fun hc => ?_) (fun hc => ?_)
    · replace hq := z_in hq (Int.not_lt.mpr hc)
      exact Z.sub (zle_s (zle_s (zle_n zle_nil))) (he _ (Option.some.inj hq).symm)
    · replace hq := z_ip hq hc
      refine z_aload_n 54 dX10_keeps_53 rfl rfl ?_
      refine z_getR (e := 2) (r := 144) 57 dX10_keeps_54 rfl f_RX10_13 ar_142 rfl ar_144.1 ?_
      refine z_bipush 59 dX10_keeps_57 rfl (by decide) (by decide) ?_
      refine z_iload_n 60 dX10_keeps_59 rfl rfl ?_
      refine z_imul (r := (wr (62 * v1))) 61 dX10_keeps_60 rfl rfl ?_
      refine z_iload_n 62 dX10_keeps_61 rfl rfl ?_
      refine z_iadd (r := (wr ((wr (62 * v1)) + v2))) 63 dX10_keeps_62 rfl rfl ?_
      refine z_aload_n 64 dX10_keeps_63 rfl rfl ?_
      refine z_getR (e := 4) (r := 146) 67 dX10_keeps_64 rfl f_RX10_19 ar_142 rfl ar_146.1 ?_
      refine z_iload_n 68 dX10_keeps_67 rfl rfl ?_
      obtain ⟨hg68, hq⟩ := z_g hq
      refine z_iaload (x := (μ 146 v2)) 69 dX10_keeps_68 rfl ar_146 hg68 rfl ?_
      obtain ⟨hg69, hq⟩ := z_g hq
      obtain ⟨m1, em1, hq⟩ := z_m hq
      refine z_iastore 70 dX10_keeps_69 rfl ar_144 hg69 em1 ?_
      refine z_iinc (r := (wr (v2 + 1))) (L' := [some (zr 142), some (zi v1), some (zi (wr (v2 + 1)))]) 73 dX10_keeps_70 rfl rfl rfl rfl rfl rfl ?_
      refine z_goto 47 dX10_keeps_73 rfl ?_
      exact Z.sub (zle_s (zle_s (zle_s zle_nil))) (ih _ _ hq)
set_option maxRecDepth 100000 in
set_option maxHeartbeats 4000000 in
theorem J_qM_keeps_j32 {g : yG} {a : Nat → Nat} {μ : zM} {kc ks : Nat} {ν : zM}   (hq : qM_keeps_j32 μ = some ν) : Z g a mX10_keeps 0 kc ks 32 [some (zr 142), none, none] [] μ (.inl none) ν := by
  unfold qM_keeps_j32 at hq
  refine z_aload_n 33 dX10_keeps_32 rfl rfl ?_
  refine z_getI (x := (μ 142 7)) 36 dX10_keeps_33 rfl f_RX10_63 ar_142 rfl ?_
  refine z_aload_n 37 dX10_keeps_36 rfl rfl ?_
  refine z_getI (x := (μ 142 6)) 40 dX10_keeps_37 rfl f_RX10_60 ar_142 rfl ?_
  refine z_iadd (r := (wr ((μ 142 7) + (μ 142 6)))) 41 dX10_keeps_40 rfl rfl ?_
  refine z_bipush 43 dX10_keeps_41 rfl (by decide) (by decide) ?_
  refine z_irem 44 dX10_keeps_43 rfl (by decide) ?_
  refine z_istore_n (L' := [some (zr 142), some (zi (Int.tmod (wr ((μ 142 7) + (μ 142 6))) 8)), none]) 45 dX10_keeps_44 rfl rfl rfl rfl ?_
  refine z_iconst 46 dX10_keeps_45 rfl (by decide) ?_
  refine z_istore_n (L' := [some (zr 142), some (zi (Int.tmod (wr ((μ 142 7) + (μ 142 6))) 8)), some (zi 0)]) 47 dX10_keeps_46 rfl rfl rfl rfl ?_
  obtain ⟨m2, h2, hq⟩ := z_b hq
  refine Z.sub (zle_s (zle_s (zle_s zle_nil))) (L_qM_keeps_l47  (R := m2) (fun _ e => ?_) _ _ _ h2)
  cases e
  refine z_aload_n 77 dX10_keeps_76 rfl rfl ?_
  refine z_dup 78 dX10_keeps_77 rfl rfl ?_
  refine z_getI (x := (m2 142 6)) 81 dX10_keeps_78 rfl f_RX10_60 ar_142 rfl ?_
  refine z_iconst 82 dX10_keeps_81 rfl (by decide) ?_
  refine z_iadd (r := (wr ((m2 142 6) + 1))) 83 dX10_keeps_82 rfl rfl ?_
  obtain ⟨m3, em3, hq⟩ := z_m hq
  refine z_putI 86 dX10_keeps_83 rfl p_RX10_60 ar_142 em3 ?_
  cases hq
  exact z_return rfl dX10_keeps_86
set_option maxRecDepth 100000 in
set_option maxHeartbeats 4000000 in
theorem Q_qM_keeps {g : yG} {a : Nat → Nat} {μ : zM}  {ν : zM}  (hq : qM_keeps μ = some ν) : zC g a mX10_keeps 0 0 0 [zr 142] μ (.inl none) ν := by
  unfold qM_keeps at hq
  refine z_of (L := [some (zr 142), none, none]) pl_RX10 rfl (zc_of rfl) rfl rfl ?_
  refine z_aload_n 1 dX10_keeps_0 rfl rfl ?_
  refine z_getI (x := (μ 142 6)) 4 dX10_keeps_1 rfl f_RX10_60 ar_142 rfl ?_
  refine z_bipush 6 dX10_keeps_4 rfl (by decide) (by decide) ?_
  refine z_icmp_ne 32 9 dX10_keeps_6 rfl rfl (fun hc => ?_) (fun hc => ?_)
  · replace hq := z_in hq hc
    exact Z.sub (zle_s (zle_n (zle_n zle_nil))) (J_qM_keeps_j32 hq)
  · replace hq := z_ip hq hc
    refine z_aload_n 10 dX10_keeps_9 rfl rfl ?_
    refine z_aload_n 11 dX10_keeps_10 rfl rfl ?_
    refine z_getI (x := (μ 142 7)) 14 dX10_keeps_11 rfl f_RX10_63 ar_142 rfl ?_
    refine z_iconst 15 dX10_keeps_14 rfl (by decide) ?_
    refine z_iadd (r := (wr ((μ 142 7) + 1))) 16 dX10_keeps_15 rfl rfl ?_
    refine z_bipush 18 dX10_keeps_16 rfl (by decide) (by decide) ?_
    refine z_irem 19 dX10_keeps_18 rfl (by decide) ?_
    obtain ⟨m4, em4, hq⟩ := z_m hq
    refine z_putI 22 dX10_keeps_19 rfl p_RX10_63 ar_142 em4 ?_
    refine z_aload_n 23 dX10_keeps_22 rfl rfl ?_
    refine z_dup 24 dX10_keeps_23 rfl rfl ?_
    refine z_getI (x := (m4 142 6)) 27 dX10_keeps_24 rfl f_RX10_60 ar_142 rfl ?_
    refine z_iconst 28 dX10_keeps_27 rfl (by decide) ?_
    refine z_isub (r := (wr ((m4 142 6) - 1))) 29 dX10_keeps_28 rfl rfl ?_
    obtain ⟨m5, em5, hq⟩ := z_m hq
    refine z_putI 32 dX10_keeps_29 rfl p_RX10_60 ar_142 em5 ?_
    exact Z.sub (zle_s (zle_n (zle_n zle_nil))) (J_qM_keeps_j32 hq)
set_option maxRecDepth 100000 in
set_option maxHeartbeats 4000000 in
theorem Q_qM_remembers {g : yG} {a : Nat → Nat} {μ : zM}  {ν : zM}  (hq : qM_remembers μ = some ν) : zC g a mX10_remembers 1 0 0 [zr 142] μ (.inl none) ν := by
  unfold qM_remembers at hq
  refine z_of (L := [some (zr 142)]) pl_RX10 rfl (zc_of rfl) rfl rfl ?_
  refine z_aload_n 1 dX10_remembers_0 rfl rfl ?_
  obtain ⟨m1, h1, hq⟩ := z_b hq
  refine z_callV0 (as := []) (S := []) 4 dX10_remembers_1 rfl (Q_qM_copies  h1) kX10_copies ⟨_, _, rfl⟩ ar_142 l_RX10_66 rfl rfl rfl rfl rfl rfl rfl ?_
  refine z_aload_n 5 dX10_remembers_4 rfl rfl ?_
  obtain ⟨m2, h2, hq⟩ := z_b hq
  refine z_callV0 (as := []) (S := []) 8 dX10_remembers_5 rfl (Q_qM_keeps  h2) kX10_keeps ⟨_, _, rfl⟩ ar_142 l_RX10_69 rfl rfl rfl rfl rfl rfl rfl ?_
  cases hq
  exact z_return rfl dX10_remembers_8
set_option maxRecDepth 100000 in
set_option maxHeartbeats 4000000 in
theorem L_qM_looksAhead_l2 {g : yG} {a : Nat → Nat} {ν : zM} {o : zO} {kc ks : Nat}  {R : zM}   (he : ∀ (m : zM), R = m → Z g a mX10_looksAhead 0 kc ks 26 [some (zr 142), none] [] m o ν) : ∀ (n : Nat) (μ : zM) (v1 : Int), qM_looksAhead_l2 n μ v1 = some R → Z g a mX10_looksAhead 0 kc ks 2 [some (zr 142), some (zi v1)] [] μ o ν := by
  intro n
  induction n with
  | zero => intro μ v1 hq; cases hq
  | succ n ih =>
    intro μ v1 hq
    rw [qM_looksAhead_l2] at hq
    refine z_iload_n 3 dX10_looksAhead_2 rfl rfl ?_
    refine z_bipush 5 dX10_looksAhead_3 rfl (by decide) (by decide) ?_
    refine z_icmp_ge 26 8 dX10_looksAhead_5 rfl rfl (fun hc => ?_) (fun hc => ?_)
    · replace hq := z_in hq (Int.not_lt.mpr hc)
      exact Z.sub (zle_s (zle_n zle_nil)) (he _ (Option.some.inj hq).symm)
    · replace hq := z_ip hq hc
      refine z_aload_n 9 dX10_looksAhead_8 rfl rfl ?_
      refine z_getR (e := 5) (r := 147) 12 dX10_looksAhead_9 rfl f_RX10_22 ar_142 rfl ar_147.1 ?_
      refine z_iload_n 13 dX10_looksAhead_12 rfl rfl ?_
      refine z_aload_n 14 dX10_looksAhead_13 rfl rfl ?_
      refine z_getR (e := 1) (r := 143) 17 dX10_looksAhead_14 rfl f_RX10_7 ar_142 rfl ar_143.1 ?_
      refine z_iload_n 18 dX10_looksAhead_17 rfl rfl ?_
      obtain ⟨hg18, hq⟩ := z_g hq
      refine z_iaload (x := (μ 143 v1)) 19 dX10_looksAhead_18 rfl ar_143 hg18 rfl ?_
      obtain ⟨hg19, hq⟩ := z_g hq
      obtain ⟨m1, em1, hq⟩ := z_m hq
      refine z_iastore 20 dX10_looksAhead_19 rfl ar_147 hg19 em1 ?_
      refine z_iinc (r := (wr (v1 + 1))) (L' := [some (zr 142), some (zi (wr (v1 + 1)))]) 23 dX10_looksAhead_20 rfl rfl rfl rfl rfl rfl ?_
      refine z_goto 2 dX10_looksAhead_23 rfl ?_
      exact Z.sub (zle_s (zle_s zle_nil)) (ih _ _ hq)
set_option maxRecDepth 100000 in
set_option maxHeartbeats 4000000 in
theorem Q_qM_looksAhead {g : yG} {a : Nat → Nat} {μ : zM}  {ν : zM}  (hq : qM_looksAhead μ = some ν) : zC g a mX10_looksAhead 0 0 0 [zr 142] μ (.inl none) ν := by
  unfold qM_looksAhead at hq
  refine z_of (L := [some (zr 142), none]) pl_RX10 rfl (zc_of rfl) rfl rfl ?_
  refine z_iconst 1 dX10_looksAhead_0 rfl (by decide) ?_
  refine z_istore_n (L' := [some (zr 142), some (zi 0)]) 2 dX10_looksAhead_1 rfl rfl rfl rfl ?_
  obtain ⟨m2, h2, hq⟩ := z_b hq
  refine Z.sub (zle_s (zle_s zle_nil)) (L_qM_looksAhead_l2  (R := m2) (fun _ e => ?_) _ _ _ h2)
  cases e
  cases hq
  exact z_return rfl dX10_looksAhead_26
set_option maxRecDepth 100000 in
set_option maxHeartbeats 4000000 in
theorem L_qM_comesBack_l2 {g : yG} {a : Nat → Nat} {ν : zM} {o : zO} {kc ks : Nat}  {R : zM}   (he : ∀ (m : zM), R = m → Z g a mX10_comesBack 0 kc ks 26 [some (zr 142), none] [] m o ν) : ∀ (n : Nat) (μ : zM) (v1 : Int), qM_comesBack_l2 n μ v1 = some R → Z g a mX10_comesBack 0 kc ks 2 [some (zr 142), some (zi v1)] [] μ o ν := by
  intro n
  induction n with
  | zero => intro μ v1 hq; cases hq
  | succ n ih =>
    intro μ v1 hq
    rw [qM_comesBack_l2] at hq
    refine z_iload_n 3 dX10_comesBack_2 rfl rfl ?_
    refine z_bipush 5 dX10_comesBack_3 rfl (by decide) (by decide) ?_
    refine z_icmp_ge 26 8 dX10_comesBack_5 rfl rfl (fun hc => ?_) (fun hc => ?_)
    · replace hq := z_in hq (Int.not_lt.mpr hc)
      exact Z.sub (zle_s (zle_n zle_nil)) (he _ (Option.some.inj hq).symm)
    · replace hq := z_ip hq hc
      refine z_aload_n 9 dX10_comesBack_8 rfl rfl ?_
      refine z_getR (e := 1) (r := 143) 12 dX10_comesBack_9 rfl f_RX10_7 ar_142 rfl ar_143.1 ?_
      refine z_iload_n 13 dX10_comesBack_12 rfl rfl ?_
      refine z_aload_n 14 dX10_comesBack_13 rfl rfl ?_
      refine z_getR (e := 5) (r := 147) 17 dX10_comesBack_14 rfl f_RX10_22 ar_142 rfl ar_147.1 ?_
      refine z_iload_n 18 dX10_comesBack_17 rfl rfl ?_
      obtain ⟨hg18, hq⟩ := z_g hq
      refine z_iaload (x := (μ 147 v1)) 19 dX10_comesBack_18 rfl ar_147 hg18 rfl ?_
      obtain ⟨hg19, hq⟩ := z_g hq
      obtain ⟨m1, em1, hq⟩ := z_m hq
      refine z_iastore 20 dX10_comesBack_19 rfl ar_143 hg19 em1 ?_
      refine z_iinc (r := (wr (v1 + 1))) (L' := [some (zr 142), some (zi (wr (v1 + 1)))]) 23 dX10_comesBack_20 rfl rfl rfl rfl rfl rfl ?_
      refine z_goto 2 dX10_comesBack_23 rfl ?_
      exact Z.sub (zle_s (zle_s zle_nil)) (ih _ _ hq)
set_option maxRecDepth 100000 in
set_option maxHeartbeats 4000000 in
theorem Q_qM_comesBack {g : yG} {a : Nat → Nat} {μ : zM}  {ν : zM}  (hq : qM_comesBack μ = some ν) : zC g a mX10_comesBack 0 0 0 [zr 142] μ (.inl none) ν := by
  unfold qM_comesBack at hq
  refine z_of (L := [some (zr 142), none]) pl_RX10 rfl (zc_of rfl) rfl rfl ?_
  refine z_iconst 1 dX10_comesBack_0 rfl (by decide) ?_
  refine z_istore_n (L' := [some (zr 142), some (zi 0)]) 2 dX10_comesBack_1 rfl rfl rfl rfl ?_
  obtain ⟨m2, h2, hq⟩ := z_b hq
  refine Z.sub (zle_s (zle_s zle_nil)) (L_qM_comesBack_l2  (R := m2) (fun _ e => ?_) _ _ _ h2)
  cases e
  cases hq
  exact z_return rfl dX10_comesBack_26
set_option maxRecDepth 100000 in
set_option maxHeartbeats 4000000 in
theorem Q_qM_isFlat {g : yG} {a : Nat → Nat} {μ : zM} {v1 : Int} {r : Int}  (hq : qM_isFlat μ v1 = some r) : zC g a mX10_isFlat 1 0 0 [zr 142, zi v1] μ (.inl (some (zi r))) μ := by
  unfold qM_isFlat at hq
  refine z_of (L := [some (zr 142), some (zi v1)]) pl_RX10 rfl (zc_of rfl) rfl rfl ?_
  refine z_iload_n 1 dX10_isFlat_0 rfl rfl ?_
  refine z_iconst 2 dX10_isFlat_1 rfl (by decide) ?_
  refine z_aload_n 3 dX10_isFlat_2 rfl rfl ?_
  refine z_getR (e := 1) (r := 143) 6 dX10_isFlat_3 rfl f_RX10_7 ar_142 rfl ar_143.1 ?_
  refine z_iconst 7 dX10_isFlat_6 rfl (by decide) ?_
  refine z_iaload (x := (μ 143 0)) 8 dX10_isFlat_7 rfl ar_143 ⟨by decide, by decide⟩ rfl ?_
  refine z_iconst 9 dX10_isFlat_8 rfl (by decide) ?_
  refine z_isub (r := (wr ((μ 143 0) - 1))) 10 dX10_isFlat_9 rfl rfl ?_
  obtain ⟨a1, h1, hq⟩ := z_b hq
  refine z_callS1 (as := [zi v1, zi 0, zi (wr ((μ 143 0) - 1))]) (S := []) 13 dX10_isFlat_10 rfl (Q_qM_isBetween  h1) kX10_isBetween l_RX10_72 rfl rfl rfl rfl rfl rfl rfl ?_
  obtain ⟨hgr, hq⟩ := z_g hq
  cases hq
  exact z_zreturn rfl dX10_isFlat_13 hgr
set_option maxRecDepth 100000 in
set_option maxHeartbeats 4000000 in
theorem Q_qM_flat {g : yG} {a : Nat → Nat} {μ : zM} {v1 : Int} {v2 : Int} {r : Int}  (hq : qM_flat μ v1 v2 = some r) : zC g a mX10_flat 0 0 0 [zr 142, zi v1, zi v2] μ (.inl (some (zi r))) μ := by
  unfold qM_flat at hq
  refine z_of (L := [some (zr 142), some (zi v1), some (zi v2)]) pl_RX10 rfl (zc_of rfl) rfl rfl ?_
  refine z_aload_n 1 dX10_flat_0 rfl rfl ?_
  refine z_getR (e := 1) (r := 143) 4 dX10_flat_1 rfl f_RX10_7 ar_142 rfl ar_143.1 ?_
  refine z_bipush 6 dX10_flat_4 rfl (by decide) (by decide) ?_
  refine z_iconst 7 dX10_flat_6 rfl (by decide) ?_
  refine z_iload_n 8 dX10_flat_7 rfl rfl ?_
  refine z_imul (r := (wr (2 * v1))) 9 dX10_flat_8 rfl rfl ?_
  refine z_iadd (r := (wr (8 + (wr (2 * v1))))) 10 dX10_flat_9 rfl rfl ?_
  refine z_iload_n 11 dX10_flat_10 rfl rfl ?_
  refine z_iadd (r := (wr ((wr (8 + (wr (2 * v1)))) + v2))) 12 dX10_flat_11 rfl rfl ?_
  obtain ⟨hg12, hq⟩ := z_g hq
  refine z_iaload (x := (μ 143 (wr ((wr (8 + (wr (2 * v1)))) + v2)))) 13 dX10_flat_12 rfl ar_143 hg12 rfl ?_
  cases hq
  exact z_ireturn rfl dX10_flat_13
set_option maxRecDepth 100000 in
set_option maxHeartbeats 4000000 in
theorem Q_qM_of {g : yG} {a : Nat → Nat} {μ : zM} {v1 : Int} {v2 : Int} {r : Int}  (hq : qM_of μ v1 v2 = some r) : zC g a mX10_of 0 0 0 [zr 142, zi v1, zi v2] μ (.inl (some (zi r))) μ := by
  unfold qM_of at hq
  refine z_of (L := [some (zr 142), some (zi v1), some (zi v2)]) pl_RX10 rfl (zc_of rfl) rfl rfl ?_
  refine z_aload_n 1 dX10_of_0 rfl rfl ?_
  refine z_getR (e := 1) (r := 143) 4 dX10_of_1 rfl f_RX10_7 ar_142 rfl ar_143.1 ?_
  refine z_bipush 6 dX10_of_4 rfl (by decide) (by decide) ?_
  refine z_bipush 8 dX10_of_6 rfl (by decide) (by decide) ?_
  refine z_iload_n 9 dX10_of_8 rfl rfl ?_
  refine z_imul (r := (wr (7 * v1))) 10 dX10_of_9 rfl rfl ?_
  refine z_iadd (r := (wr (20 + (wr (7 * v1))))) 11 dX10_of_10 rfl rfl ?_
  refine z_iload_n 12 dX10_of_11 rfl rfl ?_
  refine z_iadd (r := (wr ((wr (20 + (wr (7 * v1)))) + v2))) 13 dX10_of_12 rfl rfl ?_
  obtain ⟨hg13, hq⟩ := z_g hq
  refine z_iaload (x := (μ 143 (wr ((wr (20 + (wr (7 * v1)))) + v2)))) 14 dX10_of_13 rfl ar_143 hg13 rfl ?_
  cases hq
  exact z_ireturn rfl dX10_of_14
set_option maxRecDepth 100000 in
set_option maxHeartbeats 4000000 in
theorem Q_qM_puts {g : yG} {a : Nat → Nat} {μ : zM} {v1 : Int} {v2 : Int} {v3 : Int} {ν : zM}  (hq : qM_puts μ v1 v2 v3 = some ν) : zC g a mX10_puts 0 0 0 [zr 142, zi v1, zi v2, zi v3] μ (.inl none) ν := by
  unfold qM_puts at hq
  refine z_of (L := [some (zr 142), some (zi v1), some (zi v2), some (zi v3)]) pl_RX10 rfl (zc_of rfl) rfl rfl ?_
  refine z_aload_n 1 dX10_puts_0 rfl rfl ?_
  refine z_getR (e := 1) (r := 143) 4 dX10_puts_1 rfl f_RX10_7 ar_142 rfl ar_143.1 ?_
  refine z_bipush 6 dX10_puts_4 rfl (by decide) (by decide) ?_
  refine z_bipush 8 dX10_puts_6 rfl (by decide) (by decide) ?_
  refine z_iload_n 9 dX10_puts_8 rfl rfl ?_
  refine z_imul (r := (wr (7 * v1))) 10 dX10_puts_9 rfl rfl ?_
  refine z_iadd (r := (wr (20 + (wr (7 * v1))))) 11 dX10_puts_10 rfl rfl ?_
  refine z_iload_n 12 dX10_puts_11 rfl rfl ?_
  refine z_iadd (r := (wr ((wr (20 + (wr (7 * v1)))) + v2))) 13 dX10_puts_12 rfl rfl ?_
  refine z_iload_n 14 dX10_puts_13 rfl rfl ?_
  obtain ⟨hg14, hq⟩ := z_g hq
  obtain ⟨m1, em1, hq⟩ := z_m hq
  refine z_iastore 15 dX10_puts_14 rfl ar_143 hg14 em1 ?_
  cases hq
  exact z_return rfl dX10_puts_15
set_option maxRecDepth 100000 in
set_option maxHeartbeats 4000000 in
theorem L_qM_place_l2 {g : yG} {a : Nat → Nat} {μ ν : zM} {o : zO} {kc ks : Nat} {v1 : Int} {R : Int ⊕ Unit}   (hr : ∀ (x : Int), R = .inl x → o = .inl (some (zi x)) ∧ ν = μ) (he : ∀ (tz : Unit), R = .inr tz → Z g a mX10_place 1 kc ks 30 [some (zr 142), some (zi v1), none] [] μ o ν) : ∀ (n : Nat) (v2 : Int), qM_place_l2 μ v1 n v2 = some R → Z g a mX10_place 1 kc ks 2 [some (zr 142), some (zi v1), some (zi v2)] [] μ o ν := by
  intro n
  induction n with
  | zero => intro v2 hq; cases hq
  | succ n ih =>
    intro v2 hq
    rw [qM_place_l2] at hq
    refine z_iload_n 3 dX10_place_2 rfl rfl ?_
    refine z_aload_n 4 dX10_place_3 rfl rfl ?_
    refine z_getR (e := 1) (r := 143) 7 dX10_place_4 rfl f_RX10_7 ar_142 rfl ar_143.1 ?_
    refine z_iconst 8 dX10_place_7 rfl (by decide) ?_
    refine z_iaload (x := (μ 143 1)) 9 dX10_place_8 rfl ar_143 ⟨by decide, by decide⟩ rfl ?_
    refine z_icmp_ge 30 12 dX10_place_9 rfl rfl (fun hc => ?_) (fun hc => ?_)
    · replace hq := z_in hq (Int.not_lt.mpr hc)
      exact Z.sub (zle_s (zle_s (zle_n zle_nil))) (he _ (Option.some.inj hq).symm)
    · replace hq := z_ip hq hc
      refine z_aload_n 13 dX10_place_12 rfl rfl ?_
      refine z_iload_n 14 dX10_place_13 rfl rfl ?_
      refine z_iconst 15 dX10_place_14 rfl (by decide) ?_
      obtain ⟨a1, h1, hq⟩ := z_b hq
      refine z_callV1 (as := [zi v2, zi 0]) (S := []) 18 dX10_place_15 rfl (Q_qM_of  h1) kX10_of ⟨_, _, rfl⟩ ar_142 l_RX10_76 rfl rfl rfl rfl rfl rfl rfl ?_
      refine z_iload_n 19 dX10_place_18 rfl rfl ?_
      refine z_icmp_ne 24 22 dX10_place_19 rfl rfl (fun hc => ?_) (fun hc => ?_)
      · replace hq := z_in hq hc
        refine z_iinc (r := (wr (v2 + 1))) (L' := [some (zr 142), some (zi v1), some (zi (wr (v2 + 1)))]) 27 dX10_place_24 rfl rfl rfl rfl rfl rfl ?_
        refine z_goto 2 dX10_place_27 rfl ?_
        exact Z.sub (zle_s (zle_s (zle_s zle_nil))) (ih _ hq)
      · replace hq := z_ip hq hc
        refine z_iload_n 23 dX10_place_22 rfl rfl ?_
        obtain ⟨ho, hv⟩ := hr _ (Option.some.inj hq).symm
        exact z_conv ho hv (z_ireturn rfl dX10_place_23)
set_option maxRecDepth 100000 in
set_option maxHeartbeats 4000000 in
theorem Q_qM_place {g : yG} {a : Nat → Nat} {μ : zM} {v1 : Int} {r : Int}  (hq : qM_place μ v1 = some r) : zC g a mX10_place 1 0 0 [zr 142, zi v1] μ (.inl (some (zi r))) μ := by
  unfold qM_place at hq
  refine z_of (L := [some (zr 142), some (zi v1), none]) pl_RX10 rfl (zc_of rfl) rfl rfl ?_
  refine z_iconst 1 dX10_place_0 rfl (by decide) ?_
  refine z_istore_n (L' := [some (zr 142), some (zi v1), some (zi 0)]) 2 dX10_place_1 rfl rfl rfl rfl ?_
  rcases bndS_some hq with ⟨x2, h2, hq⟩ | ⟨t2, h2, hq⟩
  · exact Z.sub (zle_s (zle_s (zle_s zle_nil))) (L_qM_place_l2  (R := .inl x2) (fun _ e => by cases e; cases hq; exact ⟨rfl, rfl⟩) (fun _ e => by cases e) _ _ h2)
  · refine Z.sub (zle_s (zle_s (zle_s zle_nil))) (L_qM_place_l2  (R := .inr t2) (fun _ e => by cases e) (fun _ e => ?_) _ _ h2)
    cases e
    refine z_iconst 31 dX10_place_30 rfl (by decide) ?_
    cases hq
    exact z_ireturn rfl dX10_place_31
set_option maxRecDepth 100000 in
set_option maxHeartbeats 4000000 in
theorem L_qM_occupant_l2 {g : yG} {a : Nat → Nat} {μ ν : zM} {o : zO} {kc ks : Nat} {v1 : Int} {R : Int ⊕ Unit}   (hr : ∀ (x : Int), R = .inl x → o = .inl (some (zi x)) ∧ ν = μ) (he : ∀ (tz : Unit), R = .inr tz → Z g a mX10_occupant 1 kc ks 33 [some (zr 142), some (zi v1), none] [] μ o ν) : ∀ (n : Nat) (v2 : Int), qM_occupant_l2 μ v1 n v2 = some R → Z g a mX10_occupant 1 kc ks 2 [some (zr 142), some (zi v1), some (zi v2)] [] μ o ν := by
  intro n
  induction n with
  | zero => intro v2 hq; cases hq
  | succ n ih =>
    intro v2 hq
    rw [qM_occupant_l2] at hq
    refine z_iload_n 3 dX10_occupant_2 rfl rfl ?_
    refine z_aload_n 4 dX10_occupant_3 rfl rfl ?_
    refine z_getR (e := 1) (r := 143) 7 dX10_occupant_4 rfl f_RX10_7 ar_142 rfl ar_143.1 ?_
    refine z_iconst 8 dX10_occupant_7 rfl (by decide) ?_
    refine z_iaload (x := (μ 143 1)) 9 dX10_occupant_8 rfl ar_143 ⟨by decide, by decide⟩ rfl ?_
    refine z_icmp_ge 33 12 dX10_occupant_9 rfl rfl (fun hc => ?_) (fun hc => ?_)
    · replace hq := z_in hq (Int.not_lt.mpr hc)
      exact Z.sub (zle_s (zle_s (zle_n zle_nil))) (he _ (Option.some.inj hq).symm)
    · replace hq := z_ip hq hc
      refine z_aload_n 13 dX10_occupant_12 rfl rfl ?_
      refine z_iload_n 14 dX10_occupant_13 rfl rfl ?_
      refine z_bipush 16 dX10_occupant_14 rfl (by decide) (by decide) ?_
      obtain ⟨a1, h1, hq⟩ := z_b hq
      refine z_callV1 (as := [zi v2, zi 6]) (S := []) 19 dX10_occupant_16 rfl (Q_qM_of  h1) kX10_of ⟨_, _, rfl⟩ ar_142 l_RX10_76 rfl rfl rfl rfl rfl rfl rfl ?_
      refine z_iload_n 20 dX10_occupant_19 rfl rfl ?_
      refine z_iconst 21 dX10_occupant_20 rfl (by decide) ?_
      refine z_iadd (r := (wr (v1 + 1))) 22 dX10_occupant_21 rfl rfl ?_
      refine z_icmp_ne 27 25 dX10_occupant_22 rfl rfl (fun hc => ?_) (fun hc => ?_)
      · replace hq := z_in hq hc
        refine z_iinc (r := (wr (v2 + 1))) (L' := [some (zr 142), some (zi v1), some (zi (wr (v2 + 1)))]) 30 dX10_occupant_27 rfl rfl rfl rfl rfl rfl ?_
        refine z_goto 2 dX10_occupant_30 rfl ?_
        exact Z.sub (zle_s (zle_s (zle_s zle_nil))) (ih _ hq)
      · replace hq := z_ip hq hc
        refine z_iload_n 26 dX10_occupant_25 rfl rfl ?_
        obtain ⟨ho, hv⟩ := hr _ (Option.some.inj hq).symm
        exact z_conv ho hv (z_ireturn rfl dX10_occupant_26)
set_option maxRecDepth 100000 in
set_option maxHeartbeats 4000000 in
theorem Q_qM_occupant {g : yG} {a : Nat → Nat} {μ : zM} {v1 : Int} {r : Int}  (hq : qM_occupant μ v1 = some r) : zC g a mX10_occupant 1 0 0 [zr 142, zi v1] μ (.inl (some (zi r))) μ := by
  unfold qM_occupant at hq
  refine z_of (L := [some (zr 142), some (zi v1), none]) pl_RX10 rfl (zc_of rfl) rfl rfl ?_
  refine z_iconst 1 dX10_occupant_0 rfl (by decide) ?_
  refine z_istore_n (L' := [some (zr 142), some (zi v1), some (zi 0)]) 2 dX10_occupant_1 rfl rfl rfl rfl ?_
  rcases bndS_some hq with ⟨x2, h2, hq⟩ | ⟨t2, h2, hq⟩
  · exact Z.sub (zle_s (zle_s (zle_s zle_nil))) (L_qM_occupant_l2  (R := .inl x2) (fun _ e => by cases e; cases hq; exact ⟨rfl, rfl⟩) (fun _ e => by cases e) _ _ h2)
  · refine Z.sub (zle_s (zle_s (zle_s zle_nil))) (L_qM_occupant_l2  (R := .inr t2) (fun _ e => by cases e) (fun _ e => ?_) _ _ h2)
    cases e
    refine z_iconst 34 dX10_occupant_33 rfl (by decide) ?_
    cases hq
    exact z_ireturn rfl dX10_occupant_34
set_option maxRecDepth 100000 in
set_option maxHeartbeats 4000000 in
theorem Q_qM_burdenOf {g : yG} {a : Nat → Nat} {μ : zM} {v1 : Int} {v2 : Int} {r : Int}  (hq : qM_burdenOf μ v1 v2 = some r) : zC g a mX10_burdenOf 1 0 0 [zr 142, zi v1, zi v2] μ (.inl (some (zi r))) μ := by
  unfold qM_burdenOf at hq
  refine z_of (L := [some (zr 142), some (zi v1), some (zi v2), none]) pl_RX10 rfl (zc_of rfl) rfl rfl ?_
  refine z_aload_n 1 dX10_burdenOf_0 rfl rfl ?_
  refine z_iload_n 2 dX10_burdenOf_1 rfl rfl ?_
  refine z_iconst 3 dX10_burdenOf_2 rfl (by decide) ?_
  obtain ⟨a1, h1, hq⟩ := z_b hq
  refine z_callV1 (as := [zi v2, zi 0]) (S := []) 6 dX10_burdenOf_3 rfl (Q_qM_flat  h1) kX10_flat ⟨_, _, rfl⟩ ar_142 l_RX10_80 rfl rfl rfl rfl rfl rfl rfl ?_
  refine z_aload_n 7 dX10_burdenOf_6 rfl rfl ?_
  refine z_iload_n 8 dX10_burdenOf_7 rfl rfl ?_
  refine z_iconst 9 dX10_burdenOf_8 rfl (by decide) ?_
  obtain ⟨a2, h2, hq⟩ := z_b hq
  refine z_callV1 (as := [zi v1, zi 2]) (S := [zi a1]) 12 dX10_burdenOf_9 rfl (Q_qM_of  h2) kX10_of ⟨_, _, rfl⟩ ar_142 l_RX10_76 rfl rfl rfl rfl rfl rfl rfl ?_
  refine z_isub (r := (wr (a1 - a2))) 13 dX10_burdenOf_12 rfl rfl ?_
  refine z_istore_n (L' := [some (zr 142), some (zi v1), some (zi v2), some (zi (wr (a1 - a2)))]) 14 dX10_burdenOf_13 rfl rfl rfl rfl ?_
  refine z_aload_n 15 dX10_burdenOf_14 rfl rfl ?_
  refine z_iload_n 16 dX10_burdenOf_15 rfl rfl ?_
  refine z_iconst 17 dX10_burdenOf_16 rfl (by decide) ?_
  obtain ⟨a3, h3, hq⟩ := z_b hq
  refine z_callV1 (as := [zi v2, zi 1]) (S := []) 20 dX10_burdenOf_17 rfl (Q_qM_flat  h3) kX10_flat ⟨_, _, rfl⟩ ar_142 l_RX10_80 rfl rfl rfl rfl rfl rfl rfl ?_
  refine z_iconst 21 dX10_burdenOf_20 rfl (by decide) ?_
  refine z_iload_n 22 dX10_burdenOf_21 rfl rfl ?_
  refine z_if_ge 30 25 dX10_burdenOf_22 rfl rfl (fun hc => ?_) (fun hc => ?_)
  · replace hq := z_in hq (Int.not_lt.mpr hc)
    refine z_iload_n 31 dX10_burdenOf_30 rfl rfl ?_
    refine z_imul (r := (wr (3 * (wr (a1 - a2))))) 32 dX10_burdenOf_31 rfl rfl ?_
    refine z_iadd (r := (wr (a3 + (wr (3 * (wr (a1 - a2))))))) 33 dX10_burdenOf_32 rfl rfl ?_
    cases hq
    exact z_ireturn rfl dX10_burdenOf_33
  · replace hq := z_ip hq hc
    refine z_iload_n 26 dX10_burdenOf_25 rfl rfl ?_
    refine z_ineg (r := (wr (-(wr (a1 - a2))))) 27 dX10_burdenOf_26 rfl rfl ?_
    refine z_goto 31 dX10_burdenOf_27 rfl ?_
    refine z_imul (r := (wr (3 * (wr (-(wr (a1 - a2))))))) 32 dX10_burdenOf_31 rfl rfl ?_
    refine z_iadd (r := (wr (a3 + (wr (3 * (wr (-(wr (a1 - a2))))))))) 33 dX10_burdenOf_32 rfl rfl ?_
    cases hq
    exact z_ireturn rfl dX10_burdenOf_33
set_option maxRecDepth 100000 in
set_option maxHeartbeats 4000000 in
theorem Q_qM_affords {g : yG} {a : Nat → Nat} {μ : zM} {v1 : Int} {v2 : Int} {r : Int}  (hq : qM_affords μ v1 v2 = some r) : zC g a mX10_affords 1 0 0 [zr 142, zi v1, zi v2] μ (.inl (some (zi r))) μ := by
  unfold qM_affords at hq
  refine z_of (L := [some (zr 142), some (zi v1), some (zi v2)]) pl_RX10 rfl (zc_of rfl) rfl rfl ?_
  refine z_aload_n 1 dX10_affords_0 rfl rfl ?_
  refine z_iload_n 2 dX10_affords_1 rfl rfl ?_
  refine z_iconst 3 dX10_affords_2 rfl (by decide) ?_
  obtain ⟨a1, h1, hq⟩ := z_b hq
  refine z_callV1 (as := [zi v2, zi 1]) (S := []) 6 dX10_affords_3 rfl (Q_qM_flat  h1) kX10_flat ⟨_, _, rfl⟩ ar_142 l_RX10_80 rfl rfl rfl rfl rfl rfl rfl ?_
  refine z_aload_n 7 dX10_affords_6 rfl rfl ?_
  refine z_iload_n 8 dX10_affords_7 rfl rfl ?_
  refine z_iconst 9 dX10_affords_8 rfl (by decide) ?_
  obtain ⟨a2, h2, hq⟩ := z_b hq
  refine z_callV1 (as := [zi v1, zi 4]) (S := [zi a1]) 12 dX10_affords_9 rfl (Q_qM_of  h2) kX10_of ⟨_, _, rfl⟩ ar_142 l_RX10_76 rfl rfl rfl rfl rfl rfl rfl ?_
  refine z_icmp_gt 19 15 dX10_affords_12 rfl rfl (fun hc => ?_) (fun hc => ?_)
  · replace hq := z_ip hq hc
    refine z_iconst 20 dX10_affords_19 rfl (by decide) ?_
    cases hq
    exact z_zreturn rfl dX10_affords_20 (by decide)
  · replace hq := z_in hq (Int.not_lt.mpr hc)
    refine z_iconst 16 dX10_affords_15 rfl (by decide) ?_
    refine z_goto 20 dX10_affords_16 rfl ?_
    cases hq
    exact z_zreturn rfl dX10_affords_20 (by decide)
set_option maxRecDepth 100000 in
set_option maxHeartbeats 4000000 in
theorem Q_qM_prefers {g : yG} {a : Nat → Nat} {μ : zM} {v1 : Int} {v2 : Int} {v3 : Int} {r : Int}  (hq : qM_prefers μ v1 v2 v3 = some r) : zC g a mX10_prefers 2 0 0 [zr 142, zi v1, zi v2, zi v3] μ (.inl (some (zi r))) μ := by
  unfold qM_prefers at hq
  refine z_of (L := [some (zr 142), some (zi v1), some (zi v2), some (zi v3), none]) pl_RX10 rfl (zc_of rfl) rfl rfl ?_
  refine z_iload_n 1 dX10_prefers_0 rfl rfl ?_
  refine z_if_ge 6 4 dX10_prefers_1 rfl rfl (fun hc => ?_) (fun hc => ?_)
  · replace hq := z_in hq (Int.not_lt.mpr hc)
    refine z_aload_n 7 dX10_prefers_6 rfl rfl ?_
    refine z_iload_n 8 dX10_prefers_7 rfl rfl ?_
    refine z_iload_n 9 dX10_prefers_8 rfl rfl ?_
    obtain ⟨a1, h1, hq⟩ := z_b hq
    refine z_callV1 (as := [zi v1, zi v3]) (S := []) 12 dX10_prefers_9 rfl (Q_qM_burdenOf  h1) kX10_burdenOf ⟨_, _, rfl⟩ ar_142 l_RX10_83 rfl rfl rfl rfl rfl rfl rfl ?_
    refine z_aload_n 13 dX10_prefers_12 rfl rfl ?_
    refine z_iload_n 14 dX10_prefers_13 rfl rfl ?_
    refine z_iload_n 15 dX10_prefers_14 rfl rfl ?_
    obtain ⟨a2, h2, hq⟩ := z_b hq
    refine z_callV1 (as := [zi v1, zi v2]) (S := [zi a1]) 18 dX10_prefers_15 rfl (Q_qM_burdenOf  h2) kX10_burdenOf ⟨_, _, rfl⟩ ar_142 l_RX10_83 rfl rfl rfl rfl rfl rfl rfl ?_
    refine z_isub (r := (wr (a1 - a2))) 19 dX10_prefers_18 rfl rfl ?_
    refine z_istore (L' := [some (zr 142), some (zi v1), some (zi v2), some (zi v3), some (zi (wr (a1 - a2)))]) 21 dX10_prefers_19 rfl rfl rfl rfl ?_
    refine z_iload 23 dX10_prefers_21 rfl rfl ?_
    refine z_if_gt 36 26 dX10_prefers_23 rfl rfl (fun hc => ?_) (fun hc => ?_)
    · replace hq := z_ip hq hc
      refine z_iconst 37 dX10_prefers_36 rfl (by decide) ?_
      refine z_goto 41 dX10_prefers_37 rfl ?_
      cases hq
      exact z_zreturn rfl dX10_prefers_41 (by decide)
    · replace hq := z_in hq (Int.not_lt.mpr hc)
      refine z_iload 28 dX10_prefers_26 rfl rfl ?_
      refine z_if_ne 40 31 dX10_prefers_28 rfl rfl (fun hc => ?_) (fun hc => ?_)
      · replace hq := z_in hq hc
        refine z_iconst 41 dX10_prefers_40 rfl (by decide) ?_
        cases hq
        exact z_zreturn rfl dX10_prefers_41 (by decide)
      · replace hq := z_ip hq hc
        refine z_iload_n 32 dX10_prefers_31 rfl rfl ?_
        refine z_iload_n 33 dX10_prefers_32 rfl rfl ?_
        refine z_icmp_ge 40 36 dX10_prefers_33 rfl rfl (fun hc => ?_) (fun hc => ?_)
        · replace hq := z_in hq (Int.not_lt.mpr hc)
          refine z_iconst 41 dX10_prefers_40 rfl (by decide) ?_
          cases hq
          exact z_zreturn rfl dX10_prefers_41 (by decide)
        · replace hq := z_ip hq hc
          refine z_iconst 37 dX10_prefers_36 rfl (by decide) ?_
          refine z_goto 41 dX10_prefers_37 rfl ?_
          cases hq
          exact z_zreturn rfl dX10_prefers_41 (by decide)
  · replace hq := z_ip hq hc
    refine z_iconst 5 dX10_prefers_4 rfl (by decide) ?_
    cases hq
    exact z_zreturn rfl dX10_prefers_5 (by decide)
set_option maxRecDepth 100000 in
set_option maxHeartbeats 4000000 in
theorem Q_qM_isPreferred {g : yG} {a : Nat → Nat} {μ : zM} {v1 : Int} {v2 : Int} {r : Int}  (hq : qM_isPreferred μ v1 v2 = some r) : zC g a mX10_isPreferred 1 0 0 [zr 142, zi v1, zi v2] μ (.inl (some (zi r))) μ := by
  unfold qM_isPreferred at hq
  refine z_of (L := [some (zr 142), some (zi v1), some (zi v2), none]) pl_RX10 rfl (zc_of rfl) rfl rfl ?_
  refine z_aload_n 1 dX10_isPreferred_0 rfl rfl ?_
  refine z_iload_n 2 dX10_isPreferred_1 rfl rfl ?_
  refine z_iconst 3 dX10_isPreferred_2 rfl (by decide) ?_
  obtain ⟨a1, h1, hq⟩ := z_b hq
  refine z_callV1 (as := [zi v2, zi 1]) (S := []) 6 dX10_isPreferred_3 rfl (Q_qM_of  h1) kX10_of ⟨_, _, rfl⟩ ar_142 l_RX10_76 rfl rfl rfl rfl rfl rfl rfl ?_
  refine z_aload_n 7 dX10_isPreferred_6 rfl rfl ?_
  refine z_iload_n 8 dX10_isPreferred_7 rfl rfl ?_
  refine z_iconst 9 dX10_isPreferred_8 rfl (by decide) ?_
  obtain ⟨a2, h2, hq⟩ := z_b hq
  refine z_callV1 (as := [zi v1, zi 1]) (S := [zi a1]) 12 dX10_isPreferred_9 rfl (Q_qM_of  h2) kX10_of ⟨_, _, rfl⟩ ar_142 l_RX10_76 rfl rfl rfl rfl rfl rfl rfl ?_
  refine z_isub (r := (wr (a1 - a2))) 13 dX10_isPreferred_12 rfl rfl ?_
  refine z_istore_n (L' := [some (zr 142), some (zi v1), some (zi v2), some (zi (wr (a1 - a2)))]) 14 dX10_isPreferred_13 rfl rfl rfl rfl ?_
  refine z_iload_n 15 dX10_isPreferred_14 rfl rfl ?_
  refine z_if_gt 37 18 dX10_isPreferred_15 rfl rfl (fun hc => ?_) (fun hc => ?_)
  · replace hq := z_ip hq hc
    refine z_iconst 38 dX10_isPreferred_37 rfl (by decide) ?_
    refine z_goto 42 dX10_isPreferred_38 rfl ?_
    cases hq
    exact z_zreturn rfl dX10_isPreferred_42 (by decide)
  · replace hq := z_in hq (Int.not_lt.mpr hc)
    refine z_iload_n 19 dX10_isPreferred_18 rfl rfl ?_
    refine z_if_ne 41 22 dX10_isPreferred_19 rfl rfl (fun hc => ?_) (fun hc => ?_)
    · replace hq := z_in hq hc
      refine z_iconst 42 dX10_isPreferred_41 rfl (by decide) ?_
      cases hq
      exact z_zreturn rfl dX10_isPreferred_42 (by decide)
    · replace hq := z_ip hq hc
      refine z_aload_n 23 dX10_isPreferred_22 rfl rfl ?_
      refine z_iload_n 24 dX10_isPreferred_23 rfl rfl ?_
      refine z_iconst 25 dX10_isPreferred_24 rfl (by decide) ?_
      obtain ⟨a3, h3, hq⟩ := z_b hq
      refine z_callV1 (as := [zi v1, zi 0]) (S := []) 28 dX10_isPreferred_25 rfl (Q_qM_of  h3) kX10_of ⟨_, _, rfl⟩ ar_142 l_RX10_76 rfl rfl rfl rfl rfl rfl rfl ?_
      refine z_aload_n 29 dX10_isPreferred_28 rfl rfl ?_
      refine z_iload_n 30 dX10_isPreferred_29 rfl rfl ?_
      refine z_iconst 31 dX10_isPreferred_30 rfl (by decide) ?_
      obtain ⟨a4, h4, hq⟩ := z_b hq
      refine z_callV1 (as := [zi v2, zi 0]) (S := [zi a3]) 34 dX10_isPreferred_31 rfl (Q_qM_of  h4) kX10_of ⟨_, _, rfl⟩ ar_142 l_RX10_76 rfl rfl rfl rfl rfl rfl rfl ?_
      refine z_icmp_ge 41 37 dX10_isPreferred_34 rfl rfl (fun hc => ?_) (fun hc => ?_)
      · replace hq := z_in hq (Int.not_lt.mpr hc)
        refine z_iconst 42 dX10_isPreferred_41 rfl (by decide) ?_
        cases hq
        exact z_zreturn rfl dX10_isPreferred_42 (by decide)
      · replace hq := z_ip hq hc
        refine z_iconst 38 dX10_isPreferred_37 rfl (by decide) ?_
        refine z_goto 42 dX10_isPreferred_38 rfl ?_
        cases hq
        exact z_zreturn rfl dX10_isPreferred_42 (by decide)
set_option maxRecDepth 100000 in
set_option maxHeartbeats 4000000 in
theorem Q_qM_notFlat {g : yG} {a : Nat → Nat} {μ : zM} {v1 : Int} {v2 : Int} {r : Int}  (hq : qM_notFlat μ v1 v2 = some r) : zC g a mX10_notFlat 1 0 0 [zr 142, zi v1, zi v2] μ (.inl (some (zi r))) μ := by
  unfold qM_notFlat at hq
  refine z_of (L := [some (zr 142), some (zi v1), some (zi v2)]) pl_RX10 rfl (zc_of rfl) rfl rfl ?_
  refine z_iload_n 1 dX10_notFlat_0 rfl rfl ?_
  refine z_iconst 2 dX10_notFlat_1 rfl (by decide) ?_
  refine z_iconst 3 dX10_notFlat_2 rfl (by decide) ?_
  obtain ⟨a1, h1, hq⟩ := z_b hq
  refine z_callS1 (as := [zi v1, zi 0, zi 5]) (S := []) 6 dX10_notFlat_3 rfl (Q_qM_isBetween  h1) kX10_isBetween l_RX10_72 rfl rfl rfl rfl rfl rfl rfl ?_
  refine z_if_eq 19 9 dX10_notFlat_6 rfl rfl (fun hc => ?_) (fun hc => ?_)
  · replace hq := z_ip hq hc
    refine z_iconst 20 dX10_notFlat_19 rfl (by decide) ?_
    cases hq
    exact z_ireturn rfl dX10_notFlat_20
  · replace hq := z_in hq hc
    refine z_iload_n 10 dX10_notFlat_9 rfl rfl ?_
    refine z_iconst 11 dX10_notFlat_10 rfl (by decide) ?_
    refine z_bipush 13 dX10_notFlat_11 rfl (by decide) (by decide) ?_
    obtain ⟨a2, h2, hq⟩ := z_b hq
    refine z_callS1 (as := [zi v2, zi 1, zi 99]) (S := []) 16 dX10_notFlat_13 rfl (Q_qM_isBetween  h2) kX10_isBetween l_RX10_72 rfl rfl rfl rfl rfl rfl rfl ?_
    refine z_if_ne 21 19 dX10_notFlat_16 rfl rfl (fun hc => ?_) (fun hc => ?_)
    · replace hq := z_in hq hc
      refine z_aload_n 22 dX10_notFlat_21 rfl rfl ?_
      refine z_getR (e := 1) (r := 143) 25 dX10_notFlat_22 rfl f_RX10_7 ar_142 rfl ar_143.1 ?_
      refine z_iconst 26 dX10_notFlat_25 rfl (by decide) ?_
      refine z_iaload (x := (μ 143 0)) 27 dX10_notFlat_26 rfl ar_143 ⟨by decide, by decide⟩ rfl ?_
      refine z_bipush 29 dX10_notFlat_27 rfl (by decide) (by decide) ?_
      refine z_icmp_ne 36 32 dX10_notFlat_29 rfl rfl (fun hc => ?_) (fun hc => ?_)
      · replace hq := z_in hq hc
        refine z_iconst 37 dX10_notFlat_36 rfl (by decide) ?_
        cases hq
        exact z_ireturn rfl dX10_notFlat_37
      · replace hq := z_ip hq hc
        refine z_iconst 33 dX10_notFlat_32 rfl (by decide) ?_
        refine z_goto 37 dX10_notFlat_33 rfl ?_
        cases hq
        exact z_ireturn rfl dX10_notFlat_37
    · replace hq := z_ip hq hc
      refine z_iconst 20 dX10_notFlat_19 rfl (by decide) ?_
      cases hq
      exact z_ireturn rfl dX10_notFlat_20
set_option maxRecDepth 100000 in
set_option maxHeartbeats 4000000 in
theorem Q_qM_addsFlat {g : yG} {a : Nat → Nat} {μ : zM} {v1 : Int} {v2 : Int} {r : Int} {ν : zM}  (hq : qM_addsFlat μ v1 v2 = some (r, ν)) : zC g a mX10_addsFlat 0 0 0 [zr 142, zi v1, zi v2] μ (.inl (some (zi r))) ν := by
  unfold qM_addsFlat at hq
  refine z_of (L := [some (zr 142), some (zi v1), some (zi v2), none]) pl_RX10 rfl (zc_of rfl) rfl rfl ?_
  refine z_aload_n 1 dX10_addsFlat_0 rfl rfl ?_
  refine z_getR (e := 1) (r := 143) 4 dX10_addsFlat_1 rfl f_RX10_7 ar_142 rfl ar_143.1 ?_
  refine z_iconst 5 dX10_addsFlat_4 rfl (by decide) ?_
  refine z_iaload (x := (μ 143 0)) 6 dX10_addsFlat_5 rfl ar_143 ⟨by decide, by decide⟩ rfl ?_
  refine z_istore_n (L' := [some (zr 142), some (zi v1), some (zi v2), some (zi (μ 143 0))]) 7 dX10_addsFlat_6 rfl rfl rfl rfl ?_
  refine z_aload_n 8 dX10_addsFlat_7 rfl rfl ?_
  refine z_getR (e := 1) (r := 143) 11 dX10_addsFlat_8 rfl f_RX10_7 ar_142 rfl ar_143.1 ?_
  refine z_iconst 12 dX10_addsFlat_11 rfl (by decide) ?_
  refine z_dup2 13 dX10_addsFlat_12 rfl rfl rfl ?_
  refine z_iaload (x := (μ 143 0)) 14 dX10_addsFlat_13 rfl ar_143 ⟨by decide, by decide⟩ rfl ?_
  refine z_iconst 15 dX10_addsFlat_14 rfl (by decide) ?_
  refine z_iadd (r := (wr ((μ 143 0) + 1))) 16 dX10_addsFlat_15 rfl rfl ?_
  obtain ⟨m1, em1, hq⟩ := z_m hq
  refine z_iastore 17 dX10_addsFlat_16 rfl ar_143 ⟨by decide, by decide⟩ em1 ?_
  refine z_aload_n 18 dX10_addsFlat_17 rfl rfl ?_
  refine z_getR (e := 1) (r := 143) 21 dX10_addsFlat_18 rfl f_RX10_7 ar_142 rfl ar_143.1 ?_
  refine z_bipush 23 dX10_addsFlat_21 rfl (by decide) (by decide) ?_
  refine z_iconst 24 dX10_addsFlat_23 rfl (by decide) ?_
  refine z_iload_n 25 dX10_addsFlat_24 rfl rfl ?_
  refine z_imul (r := (wr (2 * (μ 143 0)))) 26 dX10_addsFlat_25 rfl rfl ?_
  refine z_iadd (r := (wr (8 + (wr (2 * (μ 143 0)))))) 27 dX10_addsFlat_26 rfl rfl ?_
  refine z_iconst 28 dX10_addsFlat_27 rfl (by decide) ?_
  refine z_iadd (r := (wr ((wr (8 + (wr (2 * (μ 143 0))))) + 0))) 29 dX10_addsFlat_28 rfl rfl ?_
  refine z_iload_n 30 dX10_addsFlat_29 rfl rfl ?_
  obtain ⟨hg30, hq⟩ := z_g hq
  obtain ⟨m2, em2, hq⟩ := z_m hq
  refine z_iastore 31 dX10_addsFlat_30 rfl ar_143 hg30 em2 ?_
  refine z_aload_n 32 dX10_addsFlat_31 rfl rfl ?_
  refine z_getR (e := 1) (r := 143) 35 dX10_addsFlat_32 rfl f_RX10_7 ar_142 rfl ar_143.1 ?_
  refine z_bipush 37 dX10_addsFlat_35 rfl (by decide) (by decide) ?_
  refine z_iconst 38 dX10_addsFlat_37 rfl (by decide) ?_
  refine z_iload_n 39 dX10_addsFlat_38 rfl rfl ?_
  refine z_imul (r := (wr (2 * (μ 143 0)))) 40 dX10_addsFlat_39 rfl rfl ?_
  refine z_iadd (r := (wr (8 + (wr (2 * (μ 143 0)))))) 41 dX10_addsFlat_40 rfl rfl ?_
  refine z_iconst 42 dX10_addsFlat_41 rfl (by decide) ?_
  refine z_iadd (r := (wr ((wr (8 + (wr (2 * (μ 143 0))))) + 1))) 43 dX10_addsFlat_42 rfl rfl ?_
  refine z_iload_n 44 dX10_addsFlat_43 rfl rfl ?_
  obtain ⟨hg44, hq⟩ := z_g hq
  obtain ⟨m3, em3, hq⟩ := z_m hq
  refine z_iastore 45 dX10_addsFlat_44 rfl ar_143 hg44 em3 ?_
  refine z_iload_n 46 dX10_addsFlat_45 rfl rfl ?_
  cases hq
  exact z_ireturn rfl dX10_addsFlat_46
set_option maxRecDepth 100000 in
set_option maxHeartbeats 4000000 in
theorem Q_qM_addFlat {g : yG} {a : Nat → Nat} {μ : zM} {v1 : Int} {v2 : Int} {r : Int} {ν : zM}  (hq : qM_addFlat μ v1 v2 = some (r, ν)) : zC g a mX10_addFlat 2 0 0 [zr 142, zi v1, zi v2] μ (.inl (some (zi r))) ν := by
  unfold qM_addFlat at hq
  refine z_of (L := [some (zr 142), some (zi v1), some (zi v2), none]) pl_RX10 rfl (zc_of rfl) rfl rfl ?_
  refine z_aload_n 1 dX10_addFlat_0 rfl rfl ?_
  refine z_iconst 2 dX10_addFlat_1 rfl (by decide) ?_
  obtain ⟨m1, em1, hq⟩ := z_m hq
  refine z_putI 5 dX10_addFlat_2 rfl p_RX10_57 ar_142 em1 ?_
  refine z_aload_n 6 dX10_addFlat_5 rfl rfl ?_
  refine z_iload_n 7 dX10_addFlat_6 rfl rfl ?_
  refine z_iload_n 8 dX10_addFlat_7 rfl rfl ?_
  obtain ⟨a2, h2, hq⟩ := z_b hq
  refine z_callV1 (as := [zi v1, zi v2]) (S := []) 11 dX10_addFlat_8 rfl (Q_qM_notFlat  h2) kX10_notFlat ⟨_, _, rfl⟩ ar_142 l_RX10_86 rfl rfl rfl rfl rfl rfl rfl ?_
  refine z_istore_n (L' := [some (zr 142), some (zi v1), some (zi v2), some (zi a2)]) 12 dX10_addFlat_11 rfl rfl rfl rfl ?_
  refine z_iload_n 13 dX10_addFlat_12 rfl rfl ?_
  refine z_if_eq 22 16 dX10_addFlat_13 rfl rfl (fun hc => ?_) (fun hc => ?_)
  · replace hq := z_ip hq hc
    refine z_aload_n 23 dX10_addFlat_22 rfl rfl ?_
    obtain ⟨m3, h3, hq⟩ := z_b hq
    refine z_callV0 (as := []) (S := []) 26 dX10_addFlat_23 rfl (Q_qM_remembers  h3) kX10_remembers ⟨_, _, rfl⟩ ar_142 l_RX10_93 rfl rfl rfl rfl rfl rfl rfl ?_
    refine z_aload_n 27 dX10_addFlat_26 rfl rfl ?_
    refine z_iload_n 28 dX10_addFlat_27 rfl rfl ?_
    refine z_iload_n 29 dX10_addFlat_28 rfl rfl ?_
    obtain ⟨a4, m4, h4, hq⟩ := bnd2_some hq
    refine z_callV1 (as := [zi v1, zi v2]) (S := []) 32 dX10_addFlat_29 rfl (Q_qM_addsFlat  h4) kX10_addsFlat ⟨_, _, rfl⟩ ar_142 l_RX10_96 rfl rfl rfl rfl rfl rfl rfl ?_
    cases hq
    exact z_ireturn rfl dX10_addFlat_32
  · replace hq := z_in hq hc
    refine z_aload_n 17 dX10_addFlat_16 rfl rfl ?_
    refine z_iload_n 18 dX10_addFlat_17 rfl rfl ?_
    obtain ⟨a5, m5, h5, hq⟩ := bnd2_some hq
    refine z_callV1 (as := [zi a2]) (S := []) 21 dX10_addFlat_18 rfl (Q_qM_fails  h5) kX10_fails ⟨_, _, rfl⟩ ar_142 l_RX10_89 rfl rfl rfl rfl rfl rfl rfl ?_
    cases hq
    exact z_ireturn rfl dX10_addFlat_21
set_option maxRecDepth 100000 in
set_option maxHeartbeats 4000000 in
theorem Q_qM_notTenant {g : yG} {a : Nat → Nat} {μ : zM} {v1 : Int} {v2 : Int} {v3 : Int} {v4 : Int} {r : Int}  (hq : qM_notTenant μ v1 v2 v3 v4 = some r) : zC g a mX10_notTenant 1 0 0 [zr 142, zi v1, zi v2, zi v3, zi v4] μ (.inl (some (zi r))) μ := by
  unfold qM_notTenant at hq
  refine z_of (L := [some (zr 142), some (zi v1), some (zi v2), some (zi v3), some (zi v4)]) pl_RX10 rfl (zc_of rfl) rfl rfl ?_
  refine z_iload_n 1 dX10_notTenant_0 rfl rfl ?_
  refine z_iconst 2 dX10_notTenant_1 rfl (by decide) ?_
  refine z_bipush 4 dX10_notTenant_2 rfl (by decide) (by decide) ?_
  obtain ⟨a1, h1, hq⟩ := z_b hq
  refine z_callS1 (as := [zi v1, zi 1, zi 50]) (S := []) 7 dX10_notTenant_4 rfl (Q_qM_isBetween  h1) kX10_isBetween l_RX10_72 rfl rfl rfl rfl rfl rfl rfl ?_
  refine z_if_eq 40 10 dX10_notTenant_7 rfl rfl (fun hc => ?_) (fun hc => ?_)
  · replace hq := z_ip hq hc
    refine z_iconst 41 dX10_notTenant_40 rfl (by decide) ?_
    cases hq
    exact z_ireturn rfl dX10_notTenant_41
  · replace hq := z_in hq hc
    refine z_iload_n 11 dX10_notTenant_10 rfl rfl ?_
    refine z_iconst 12 dX10_notTenant_11 rfl (by decide) ?_
    refine z_iconst 13 dX10_notTenant_12 rfl (by decide) ?_
    obtain ⟨a2, h2, hq⟩ := z_b hq
    refine z_callS1 (as := [zi v2, zi 0, zi 5]) (S := []) 16 dX10_notTenant_13 rfl (Q_qM_isBetween  h2) kX10_isBetween l_RX10_72 rfl rfl rfl rfl rfl rfl rfl ?_
    refine z_if_eq 40 19 dX10_notTenant_16 rfl rfl (fun hc => ?_) (fun hc => ?_)
    · replace hq := z_ip hq hc
      refine z_iconst 41 dX10_notTenant_40 rfl (by decide) ?_
      cases hq
      exact z_ireturn rfl dX10_notTenant_41
    · replace hq := z_in hq hc
      refine z_iload_n 20 dX10_notTenant_19 rfl rfl ?_
      refine z_iconst 21 dX10_notTenant_20 rfl (by decide) ?_
      refine z_bipush 23 dX10_notTenant_21 rfl (by decide) (by decide) ?_
      obtain ⟨a3, h3, hq⟩ := z_b hq
      refine z_callS1 (as := [zi v3, zi 1, zi 40]) (S := []) 26 dX10_notTenant_23 rfl (Q_qM_isBetween  h3) kX10_isBetween l_RX10_72 rfl rfl rfl rfl rfl rfl rfl ?_
      refine z_if_eq 40 29 dX10_notTenant_26 rfl rfl (fun hc => ?_) (fun hc => ?_)
      · replace hq := z_ip hq hc
        refine z_iconst 41 dX10_notTenant_40 rfl (by decide) ?_
        cases hq
        exact z_ireturn rfl dX10_notTenant_41
      · replace hq := z_in hq hc
        refine z_iload 31 dX10_notTenant_29 rfl rfl ?_
        refine z_iconst 32 dX10_notTenant_31 rfl (by decide) ?_
        refine z_bipush 34 dX10_notTenant_32 rfl (by decide) (by decide) ?_
        obtain ⟨a4, h4, hq⟩ := z_b hq
        refine z_callS1 (as := [zi v4, zi 0, zi 99]) (S := []) 37 dX10_notTenant_34 rfl (Q_qM_isBetween  h4) kX10_isBetween l_RX10_72 rfl rfl rfl rfl rfl rfl rfl ?_
        refine z_if_ne 42 40 dX10_notTenant_37 rfl rfl (fun hc => ?_) (fun hc => ?_)
        · replace hq := z_in hq hc
          refine z_aload_n 43 dX10_notTenant_42 rfl rfl ?_
          refine z_getR (e := 1) (r := 143) 46 dX10_notTenant_43 rfl f_RX10_7 ar_142 rfl ar_143.1 ?_
          refine z_iconst 47 dX10_notTenant_46 rfl (by decide) ?_
          refine z_iaload (x := (μ 143 1)) 48 dX10_notTenant_47 rfl ar_143 ⟨by decide, by decide⟩ rfl ?_
          refine z_bipush 50 dX10_notTenant_48 rfl (by decide) (by decide) ?_
          refine z_icmp_ne 57 53 dX10_notTenant_50 rfl rfl (fun hc => ?_) (fun hc => ?_)
          · replace hq := z_in hq hc
            refine z_iconst 58 dX10_notTenant_57 rfl (by decide) ?_
            cases hq
            exact z_ireturn rfl dX10_notTenant_58
          · replace hq := z_ip hq hc
            refine z_iconst 54 dX10_notTenant_53 rfl (by decide) ?_
            refine z_goto 58 dX10_notTenant_54 rfl ?_
            cases hq
            exact z_ireturn rfl dX10_notTenant_58
        · replace hq := z_ip hq hc
          refine z_iconst 41 dX10_notTenant_40 rfl (by decide) ?_
          cases hq
          exact z_ireturn rfl dX10_notTenant_41
set_option maxRecDepth 100000 in
set_option maxHeartbeats 4000000 in
theorem Q_qM_addsTenant {g : yG} {a : Nat → Nat} {μ : zM} {v1 : Int} {v2 : Int} {v3 : Int} {v4 : Int} {r : Int} {ν : zM}  (hq : qM_addsTenant μ v1 v2 v3 v4 = some (r, ν)) : zC g a mX10_addsTenant 1 0 0 [zr 142, zi v1, zi v2, zi v3, zi v4] μ (.inl (some (zi r))) ν := by
  unfold qM_addsTenant at hq
  refine z_of (L := [some (zr 142), some (zi v1), some (zi v2), some (zi v3), some (zi v4), none]) pl_RX10 rfl (zc_of rfl) rfl rfl ?_
  refine z_aload_n 1 dX10_addsTenant_0 rfl rfl ?_
  refine z_getR (e := 1) (r := 143) 4 dX10_addsTenant_1 rfl f_RX10_7 ar_142 rfl ar_143.1 ?_
  refine z_iconst 5 dX10_addsTenant_4 rfl (by decide) ?_
  refine z_iaload (x := (μ 143 1)) 6 dX10_addsTenant_5 rfl ar_143 ⟨by decide, by decide⟩ rfl ?_
  refine z_istore (L' := [some (zr 142), some (zi v1), some (zi v2), some (zi v3), some (zi v4), some (zi (μ 143 1))]) 8 dX10_addsTenant_6 rfl rfl rfl rfl ?_
  refine z_aload_n 9 dX10_addsTenant_8 rfl rfl ?_
  refine z_getR (e := 1) (r := 143) 12 dX10_addsTenant_9 rfl f_RX10_7 ar_142 rfl ar_143.1 ?_
  refine z_iconst 13 dX10_addsTenant_12 rfl (by decide) ?_
  refine z_dup2 14 dX10_addsTenant_13 rfl rfl rfl ?_
  refine z_iaload (x := (μ 143 1)) 15 dX10_addsTenant_14 rfl ar_143 ⟨by decide, by decide⟩ rfl ?_
  refine z_iconst 16 dX10_addsTenant_15 rfl (by decide) ?_
  refine z_iadd (r := (wr ((μ 143 1) + 1))) 17 dX10_addsTenant_16 rfl rfl ?_
  obtain ⟨m1, em1, hq⟩ := z_m hq
  refine z_iastore 18 dX10_addsTenant_17 rfl ar_143 ⟨by decide, by decide⟩ em1 ?_
  refine z_aload_n 19 dX10_addsTenant_18 rfl rfl ?_
  refine z_iload 21 dX10_addsTenant_19 rfl rfl ?_
  refine z_iconst 22 dX10_addsTenant_21 rfl (by decide) ?_
  refine z_aload_n 23 dX10_addsTenant_22 rfl rfl ?_
  refine z_getR (e := 1) (r := 143) 26 dX10_addsTenant_23 rfl f_RX10_7 ar_142 rfl ar_143.1 ?_
  refine z_iconst 27 dX10_addsTenant_26 rfl (by decide) ?_
  refine z_iaload (x := (m1 143 2)) 28 dX10_addsTenant_27 rfl ar_143 ⟨by decide, by decide⟩ rfl ?_
  obtain ⟨m2, h2, hq⟩ := z_b hq
  refine z_callV0 (as := [zi (μ 143 1), zi 0, zi (m1 143 2)]) (S := []) 31 dX10_addsTenant_28 rfl (Q_qM_puts  h2) kX10_puts ⟨_, _, rfl⟩ ar_142 l_RX10_99 rfl rfl rfl rfl rfl rfl rfl ?_
  refine z_aload_n 32 dX10_addsTenant_31 rfl rfl ?_
  refine z_iload 34 dX10_addsTenant_32 rfl rfl ?_
  refine z_iconst 35 dX10_addsTenant_34 rfl (by decide) ?_
  refine z_iload_n 36 dX10_addsTenant_35 rfl rfl ?_
  obtain ⟨m3, h3, hq⟩ := z_b hq
  refine z_callV0 (as := [zi (μ 143 1), zi 1, zi v1]) (S := []) 39 dX10_addsTenant_36 rfl (Q_qM_puts  h3) kX10_puts ⟨_, _, rfl⟩ ar_142 l_RX10_99 rfl rfl rfl rfl rfl rfl rfl ?_
  refine z_aload_n 40 dX10_addsTenant_39 rfl rfl ?_
  refine z_iload 42 dX10_addsTenant_40 rfl rfl ?_
  refine z_iconst 43 dX10_addsTenant_42 rfl (by decide) ?_
  refine z_iload_n 44 dX10_addsTenant_43 rfl rfl ?_
  obtain ⟨m4, h4, hq⟩ := z_b hq
  refine z_callV0 (as := [zi (μ 143 1), zi 2, zi v2]) (S := []) 47 dX10_addsTenant_44 rfl (Q_qM_puts  h4) kX10_puts ⟨_, _, rfl⟩ ar_142 l_RX10_99 rfl rfl rfl rfl rfl rfl rfl ?_
  refine z_aload_n 48 dX10_addsTenant_47 rfl rfl ?_
  refine z_iload 50 dX10_addsTenant_48 rfl rfl ?_
  refine z_iconst 51 dX10_addsTenant_50 rfl (by decide) ?_
  refine z_iload_n 52 dX10_addsTenant_51 rfl rfl ?_
  obtain ⟨m5, h5, hq⟩ := z_b hq
  refine z_callV0 (as := [zi (μ 143 1), zi 3, zi v3]) (S := []) 55 dX10_addsTenant_52 rfl (Q_qM_puts  h5) kX10_puts ⟨_, _, rfl⟩ ar_142 l_RX10_99 rfl rfl rfl rfl rfl rfl rfl ?_
  refine z_aload_n 56 dX10_addsTenant_55 rfl rfl ?_
  refine z_iload 58 dX10_addsTenant_56 rfl rfl ?_
  refine z_iconst 59 dX10_addsTenant_58 rfl (by decide) ?_
  refine z_iload 61 dX10_addsTenant_59 rfl rfl ?_
  obtain ⟨m6, h6, hq⟩ := z_b hq
  refine z_callV0 (as := [zi (μ 143 1), zi 4, zi v4]) (S := []) 64 dX10_addsTenant_61 rfl (Q_qM_puts  h6) kX10_puts ⟨_, _, rfl⟩ ar_142 l_RX10_99 rfl rfl rfl rfl rfl rfl rfl ?_
  refine z_aload_n 65 dX10_addsTenant_64 rfl rfl ?_
  refine z_iload 67 dX10_addsTenant_65 rfl rfl ?_
  refine z_iconst 68 dX10_addsTenant_67 rfl (by decide) ?_
  refine z_iconst 69 dX10_addsTenant_68 rfl (by decide) ?_
  obtain ⟨m7, h7, hq⟩ := z_b hq
  refine z_callV0 (as := [zi (μ 143 1), zi 5, zi 0]) (S := []) 72 dX10_addsTenant_69 rfl (Q_qM_puts  h7) kX10_puts ⟨_, _, rfl⟩ ar_142 l_RX10_99 rfl rfl rfl rfl rfl rfl rfl ?_
  refine z_aload_n 73 dX10_addsTenant_72 rfl rfl ?_
  refine z_iload 75 dX10_addsTenant_73 rfl rfl ?_
  refine z_bipush 77 dX10_addsTenant_75 rfl (by decide) (by decide) ?_
  refine z_iconst 78 dX10_addsTenant_77 rfl (by decide) ?_
  obtain ⟨m8, h8, hq⟩ := z_b hq
  refine z_callV0 (as := [zi (μ 143 1), zi 6, zi 0]) (S := []) 81 dX10_addsTenant_78 rfl (Q_qM_puts  h8) kX10_puts ⟨_, _, rfl⟩ ar_142 l_RX10_99 rfl rfl rfl rfl rfl rfl rfl ?_
  refine z_aload_n 82 dX10_addsTenant_81 rfl rfl ?_
  refine z_getR (e := 1) (r := 143) 85 dX10_addsTenant_82 rfl f_RX10_7 ar_142 rfl ar_143.1 ?_
  refine z_bipush 87 dX10_addsTenant_85 rfl (by decide) (by decide) ?_
  refine z_dup2 88 dX10_addsTenant_87 rfl rfl rfl ?_
  refine z_iaload (x := (m8 143 7)) 89 dX10_addsTenant_88 rfl ar_143 ⟨by decide, by decide⟩ rfl ?_
  refine z_iload 91 dX10_addsTenant_89 rfl rfl ?_
  refine z_iadd (r := (wr ((m8 143 7) + v4))) 92 dX10_addsTenant_91 rfl rfl ?_
  obtain ⟨m9, em9, hq⟩ := z_m hq
  refine z_iastore 93 dX10_addsTenant_92 rfl ar_143 ⟨by decide, by decide⟩ em9 ?_
  refine z_aload_n 94 dX10_addsTenant_93 rfl rfl ?_
  refine z_getR (e := 1) (r := 143) 97 dX10_addsTenant_94 rfl f_RX10_7 ar_142 rfl ar_143.1 ?_
  refine z_iconst 98 dX10_addsTenant_97 rfl (by decide) ?_
  refine z_dup2 99 dX10_addsTenant_98 rfl rfl rfl ?_
  refine z_iaload (x := (m9 143 2)) 100 dX10_addsTenant_99 rfl ar_143 ⟨by decide, by decide⟩ rfl ?_
  refine z_iconst 101 dX10_addsTenant_100 rfl (by decide) ?_
  refine z_iadd (r := (wr ((m9 143 2) + 1))) 102 dX10_addsTenant_101 rfl rfl ?_
  obtain ⟨m10, em10, hq⟩ := z_m hq
  refine z_iastore 103 dX10_addsTenant_102 rfl ar_143 ⟨by decide, by decide⟩ em10 ?_
  refine z_aload_n 104 dX10_addsTenant_103 rfl rfl ?_
  refine z_getR (e := 1) (r := 143) 107 dX10_addsTenant_104 rfl f_RX10_7 ar_142 rfl ar_143.1 ?_
  refine z_iconst 108 dX10_addsTenant_107 rfl (by decide) ?_
  refine z_iaload (x := (m10 143 2)) 109 dX10_addsTenant_108 rfl ar_143 ⟨by decide, by decide⟩ rfl ?_
  refine z_iconst 110 dX10_addsTenant_109 rfl (by decide) ?_
  refine z_isub (r := (wr ((m10 143 2) - 1))) 111 dX10_addsTenant_110 rfl rfl ?_
  cases hq
  exact z_ireturn rfl dX10_addsTenant_111
set_option maxRecDepth 100000 in
set_option maxHeartbeats 4000000 in
theorem Q_qM_addTenant {g : yG} {a : Nat → Nat} {μ : zM} {v1 : Int} {v2 : Int} {v3 : Int} {v4 : Int} {r : Int} {ν : zM}  (hq : qM_addTenant μ v1 v2 v3 v4 = some (r, ν)) : zC g a mX10_addTenant 2 0 0 [zr 142, zi v1, zi v2, zi v3, zi v4] μ (.inl (some (zi r))) ν := by
  unfold qM_addTenant at hq
  refine z_of (L := [some (zr 142), some (zi v1), some (zi v2), some (zi v3), some (zi v4), none]) pl_RX10 rfl (zc_of rfl) rfl rfl ?_
  refine z_aload_n 1 dX10_addTenant_0 rfl rfl ?_
  refine z_iconst 2 dX10_addTenant_1 rfl (by decide) ?_
  obtain ⟨m1, em1, hq⟩ := z_m hq
  refine z_putI 5 dX10_addTenant_2 rfl p_RX10_57 ar_142 em1 ?_
  refine z_aload_n 6 dX10_addTenant_5 rfl rfl ?_
  refine z_iload_n 7 dX10_addTenant_6 rfl rfl ?_
  refine z_iload_n 8 dX10_addTenant_7 rfl rfl ?_
  refine z_iload_n 9 dX10_addTenant_8 rfl rfl ?_
  refine z_iload 11 dX10_addTenant_9 rfl rfl ?_
  obtain ⟨a2, h2, hq⟩ := z_b hq
  refine z_callV1 (as := [zi v1, zi v2, zi v3, zi v4]) (S := []) 14 dX10_addTenant_11 rfl (Q_qM_notTenant  h2) kX10_notTenant ⟨_, _, rfl⟩ ar_142 l_RX10_103 rfl rfl rfl rfl rfl rfl rfl ?_
  refine z_istore (L' := [some (zr 142), some (zi v1), some (zi v2), some (zi v3), some (zi v4), some (zi a2)]) 16 dX10_addTenant_14 rfl rfl rfl rfl ?_
  refine z_iload 18 dX10_addTenant_16 rfl rfl ?_
  refine z_if_eq 28 21 dX10_addTenant_18 rfl rfl (fun hc => ?_) (fun hc => ?_)
  · replace hq := z_ip hq hc
    refine z_aload_n 29 dX10_addTenant_28 rfl rfl ?_
    obtain ⟨m3, h3, hq⟩ := z_b hq
    refine z_callV0 (as := []) (S := []) 32 dX10_addTenant_29 rfl (Q_qM_remembers  h3) kX10_remembers ⟨_, _, rfl⟩ ar_142 l_RX10_93 rfl rfl rfl rfl rfl rfl rfl ?_
    refine z_aload_n 33 dX10_addTenant_32 rfl rfl ?_
    refine z_iload_n 34 dX10_addTenant_33 rfl rfl ?_
    refine z_iload_n 35 dX10_addTenant_34 rfl rfl ?_
    refine z_iload_n 36 dX10_addTenant_35 rfl rfl ?_
    refine z_iload 38 dX10_addTenant_36 rfl rfl ?_
    obtain ⟨a4, m4, h4, hq⟩ := bnd2_some hq
    refine z_callV1 (as := [zi v1, zi v2, zi v3, zi v4]) (S := []) 41 dX10_addTenant_38 rfl (Q_qM_addsTenant  h4) kX10_addsTenant ⟨_, _, rfl⟩ ar_142 l_RX10_107 rfl rfl rfl rfl rfl rfl rfl ?_
    cases hq
    exact z_ireturn rfl dX10_addTenant_41
  · replace hq := z_in hq hc
    refine z_aload_n 22 dX10_addTenant_21 rfl rfl ?_
    refine z_iload 24 dX10_addTenant_22 rfl rfl ?_
    obtain ⟨a5, m5, h5, hq⟩ := bnd2_some hq
    refine z_callV1 (as := [zi a2]) (S := []) 27 dX10_addTenant_24 rfl (Q_qM_fails  h5) kX10_fails ⟨_, _, rfl⟩ ar_142 l_RX10_89 rfl rfl rfl rfl rfl rfl rfl ?_
    cases hq
    exact z_ireturn rfl dX10_addTenant_27
set_option maxRecDepth 100000 in
set_option maxHeartbeats 4000000 in
theorem L_qM_removeTenant_l89 {g : yG} {a : Nat → Nat} {ν : zM} {o : zO} {kc ks : Nat} {v3 : Int} {R : zM}   (he : ∀ (m : zM), R = m → Z g a mX10_removeTenant 2 kc ks 118 [some (zr 142), none, none, some (zi v3), none] [] m o ν) : ∀ (n : Nat) (μ : zM) (v4 : Int), qM_removeTenant_l89 v3 n μ v4 = some R → Z g a mX10_removeTenant 2 kc ks 89 [some (zr 142), none, none, some (zi v3), some (zi v4)] [] μ o ν := by
  intro n
  induction n with
  | zero => intro μ v4 hq; cases hq
  | succ n ih =>
    intro μ v4 hq
    rw [qM_removeTenant_l89] at hq
    refine z_iload 91 dX10_removeTenant_89 rfl rfl ?_
    refine z_iload_n 92 dX10_removeTenant_91 rfl rfl ?_
    refine z_icmp_ge 118 95 dX10_removeTenant_92 rfl rfl (fun hc => ?_) (fun hc => ?_)
    · replace hq := z_in hq (Int.not_lt.mpr hc)
      exact Z.sub (zle_s (zle_n (zle_n (zle_s (zle_n zle_nil))))) (he _ (Option.some.inj hq).symm)
    · replace hq := z_ip hq hc
      refine z_aload_n 96 dX10_removeTenant_95 rfl rfl ?_
      refine z_getR (e := 1) (r := 143) 99 dX10_removeTenant_96 rfl f_RX10_7 ar_142 rfl ar_143.1 ?_
      refine z_iload 101 dX10_removeTenant_99 rfl rfl ?_
      refine z_aload_n 102 dX10_removeTenant_101 rfl rfl ?_
      refine z_getR (e := 1) (r := 143) 105 dX10_removeTenant_102 rfl f_RX10_7 ar_142 rfl ar_143.1 ?_
      refine z_iload 107 dX10_removeTenant_105 rfl rfl ?_
      refine z_bipush 109 dX10_removeTenant_107 rfl (by decide) (by decide) ?_
      refine z_iadd (r := (wr (v4 + 7))) 110 dX10_removeTenant_109 rfl rfl ?_
      obtain ⟨hg110, hq⟩ := z_g hq
      refine z_iaload (x := (μ 143 (wr (v4 + 7)))) 111 dX10_removeTenant_110 rfl ar_143 hg110 rfl ?_
      obtain ⟨hg111, hq⟩ := z_g hq
      obtain ⟨m8, em8, hq⟩ := z_m hq
      refine z_iastore 112 dX10_removeTenant_111 rfl ar_143 hg111 em8 ?_
      refine z_iinc (r := (wr (v4 + 1))) (L' := [some (zr 142), none, none, some (zi v3), some (zi (wr (v4 + 1)))]) 115 dX10_removeTenant_112 rfl rfl rfl rfl rfl rfl ?_
      refine z_goto 89 dX10_removeTenant_115 rfl ?_
      exact Z.sub (zle_s (zle_n (zle_n (zle_s (zle_s zle_nil))))) (ih _ _ hq)
set_option maxRecDepth 100000 in
set_option maxHeartbeats 4000000 in
theorem L_qM_removeTenant_l121 {g : yG} {a : Nat → Nat} {ν : zM} {o : zO} {kc ks : Nat} {v3 : Int} {R : zM}   (he : ∀ (m : zM), R = m → Z g a mX10_removeTenant 2 kc ks 144 [some (zr 142), none, none, some (zi v3), none] [] m o ν) : ∀ (n : Nat) (μ : zM) (v4 : Int), qM_removeTenant_l121 v3 n μ v4 = some R → Z g a mX10_removeTenant 2 kc ks 121 [some (zr 142), none, none, some (zi v3), some (zi v4)] [] μ o ν := by
  intro n
  induction n with
  | zero => intro μ v4 hq; cases hq
  | succ n ih =>
    intro μ v4 hq
    rw [qM_removeTenant_l121] at hq
    refine z_iload 123 dX10_removeTenant_121 rfl rfl ?_
    refine z_bipush 125 dX10_removeTenant_123 rfl (by decide) (by decide) ?_
    refine z_icmp_ge 144 128 dX10_removeTenant_125 rfl rfl (fun hc => ?_) (fun hc => ?_)
    · replace hq := z_in hq (Int.not_lt.mpr hc)
      exact Z.sub (zle_s (zle_n (zle_n (zle_s (zle_n zle_nil))))) (he _ (Option.some.inj hq).symm)
    · replace hq := z_ip hq hc
      refine z_aload_n 129 dX10_removeTenant_128 rfl rfl ?_
      refine z_getR (e := 1) (r := 143) 132 dX10_removeTenant_129 rfl f_RX10_7 ar_142 rfl ar_143.1 ?_
      refine z_iload_n 133 dX10_removeTenant_132 rfl rfl ?_
      refine z_iload 135 dX10_removeTenant_133 rfl rfl ?_
      refine z_iadd (r := (wr (v3 + v4))) 136 dX10_removeTenant_135 rfl rfl ?_
      refine z_iconst 137 dX10_removeTenant_136 rfl (by decide) ?_
      obtain ⟨hg137, hq⟩ := z_g hq
      obtain ⟨m10, em10, hq⟩ := z_m hq
      refine z_iastore 138 dX10_removeTenant_137 rfl ar_143 hg137 em10 ?_
      refine z_iinc (r := (wr (v4 + 1))) (L' := [some (zr 142), none, none, some (zi v3), some (zi (wr (v4 + 1)))]) 141 dX10_removeTenant_138 rfl rfl rfl rfl rfl rfl ?_
      refine z_goto 121 dX10_removeTenant_141 rfl ?_
      exact Z.sub (zle_s (zle_n (zle_n (zle_s (zle_s zle_nil))))) (ih _ _ hq)
set_option maxRecDepth 100000 in
set_option maxHeartbeats 4000000 in
theorem Q_qM_removeTenant {g : yG} {a : Nat → Nat} {μ : zM} {v1 : Int} {r : Int} {ν : zM}  (hq : qM_removeTenant μ v1 = some (r, ν)) : zC g a mX10_removeTenant 2 0 0 [zr 142, zi v1] μ (.inl (some (zi r))) ν := by
  unfold qM_removeTenant at hq
  refine z_of (L := [some (zr 142), some (zi v1), none, none, none]) pl_RX10 rfl (zc_of rfl) rfl rfl ?_
  refine z_aload_n 1 dX10_removeTenant_0 rfl rfl ?_
  refine z_iconst 2 dX10_removeTenant_1 rfl (by decide) ?_
  obtain ⟨m1, em1, hq⟩ := z_m hq
  refine z_putI 5 dX10_removeTenant_2 rfl p_RX10_57 ar_142 em1 ?_
  refine z_aload_n 6 dX10_removeTenant_5 rfl rfl ?_
  refine z_iload_n 7 dX10_removeTenant_6 rfl rfl ?_
  obtain ⟨a2, h2, hq⟩ := z_b hq
  refine z_callV1 (as := [zi v1]) (S := []) 10 dX10_removeTenant_7 rfl (Q_qM_place  h2) kX10_place ⟨_, _, rfl⟩ ar_142 l_RX10_110 rfl rfl rfl rfl rfl rfl rfl ?_
  refine z_istore_n (L' := [some (zr 142), some (zi v1), some (zi a2), none, none]) 11 dX10_removeTenant_10 rfl rfl rfl rfl ?_
  refine z_iload_n 12 dX10_removeTenant_11 rfl rfl ?_
  refine z_if_ge 21 15 dX10_removeTenant_12 rfl rfl (fun hc => ?_) (fun hc => ?_)
  · replace hq := z_in hq (Int.not_lt.mpr hc)
    refine z_aload_n 22 dX10_removeTenant_21 rfl rfl ?_
    refine z_iload_n 23 dX10_removeTenant_22 rfl rfl ?_
    refine z_bipush 25 dX10_removeTenant_23 rfl (by decide) (by decide) ?_
    obtain ⟨a3, h3, hq⟩ := z_b hq
    refine z_callV1 (as := [zi a2, zi 6]) (S := []) 28 dX10_removeTenant_25 rfl (Q_qM_of  h3) kX10_of ⟨_, _, rfl⟩ ar_142 l_RX10_76 rfl rfl rfl rfl rfl rfl rfl ?_
    refine z_if_le 37 31 dX10_removeTenant_28 rfl rfl (fun hc => ?_) (fun hc => ?_)
    · replace hq := z_in hq (Int.not_lt.mpr hc)
      refine z_aload_n 38 dX10_removeTenant_37 rfl rfl ?_
      obtain ⟨m4, h4, hq⟩ := z_b hq
      refine z_callV0 (as := []) (S := []) 41 dX10_removeTenant_38 rfl (Q_qM_remembers  h4) kX10_remembers ⟨_, _, rfl⟩ ar_142 l_RX10_93 rfl rfl rfl rfl rfl rfl rfl ?_
      refine z_aload_n 42 dX10_removeTenant_41 rfl rfl ?_
      refine z_getR (e := 1) (r := 143) 45 dX10_removeTenant_42 rfl f_RX10_7 ar_142 rfl ar_143.1 ?_
      refine z_bipush 47 dX10_removeTenant_45 rfl (by decide) (by decide) ?_
      refine z_dup2 48 dX10_removeTenant_47 rfl rfl rfl ?_
      refine z_iaload (x := (m4 143 6)) 49 dX10_removeTenant_48 rfl ar_143 ⟨by decide, by decide⟩ rfl ?_
      refine z_aload_n 50 dX10_removeTenant_49 rfl rfl ?_
      refine z_iload_n 51 dX10_removeTenant_50 rfl rfl ?_
      refine z_iconst 52 dX10_removeTenant_51 rfl (by decide) ?_
      obtain ⟨a5, h5, hq⟩ := z_b hq
      refine z_callV1 (as := [zi a2, zi 4]) (S := [zi (m4 143 6), zi 6, zr 143]) 55 dX10_removeTenant_52 rfl (Q_qM_of  h5) kX10_of ⟨_, _, rfl⟩ ar_142 l_RX10_76 rfl rfl rfl rfl rfl rfl rfl ?_
      refine z_iadd (r := (wr ((m4 143 6) + a5))) 56 dX10_removeTenant_55 rfl rfl ?_
      obtain ⟨m6, em6, hq⟩ := z_m hq
      refine z_iastore 57 dX10_removeTenant_56 rfl ar_143 ⟨by decide, by decide⟩ em6 ?_
      refine z_aload_n 58 dX10_removeTenant_57 rfl rfl ?_
      refine z_getR (e := 1) (r := 143) 61 dX10_removeTenant_58 rfl f_RX10_7 ar_142 rfl ar_143.1 ?_
      refine z_iconst 62 dX10_removeTenant_61 rfl (by decide) ?_
      refine z_dup2 63 dX10_removeTenant_62 rfl rfl rfl ?_
      refine z_iaload (x := (m6 143 1)) 64 dX10_removeTenant_63 rfl ar_143 ⟨by decide, by decide⟩ rfl ?_
      refine z_iconst 65 dX10_removeTenant_64 rfl (by decide) ?_
      refine z_isub (r := (wr ((m6 143 1) - 1))) 66 dX10_removeTenant_65 rfl rfl ?_
      obtain ⟨m7, em7, hq⟩ := z_m hq
      refine z_iastore 67 dX10_removeTenant_66 rfl ar_143 ⟨by decide, by decide⟩ em7 ?_
      refine z_bipush 69 dX10_removeTenant_67 rfl (by decide) (by decide) ?_
      refine z_bipush 71 dX10_removeTenant_69 rfl (by decide) (by decide) ?_
      refine z_aload_n 72 dX10_removeTenant_71 rfl rfl ?_
      refine z_getR (e := 1) (r := 143) 75 dX10_removeTenant_72 rfl f_RX10_7 ar_142 rfl ar_143.1 ?_
      refine z_iconst 76 dX10_removeTenant_75 rfl (by decide) ?_
      refine z_iaload (x := (m7 143 1)) 77 dX10_removeTenant_76 rfl ar_143 ⟨by decide, by decide⟩ rfl ?_
      refine z_imul (r := (wr (7 * (m7 143 1)))) 78 dX10_removeTenant_77 rfl rfl ?_
      refine z_iadd (r := (wr (20 + (wr (7 * (m7 143 1)))))) 79 dX10_removeTenant_78 rfl rfl ?_
      refine z_istore_n (L' := [some (zr 142), some (zi v1), some (zi a2), some (zi (wr (20 + (wr (7 * (m7 143 1)))))), none]) 80 dX10_removeTenant_79 rfl rfl rfl rfl ?_
      refine z_bipush 82 dX10_removeTenant_80 rfl (by decide) (by decide) ?_
      refine z_bipush 84 dX10_removeTenant_82 rfl (by decide) (by decide) ?_
      refine z_iload_n 85 dX10_removeTenant_84 rfl rfl ?_
      refine z_imul (r := (wr (7 * a2))) 86 dX10_removeTenant_85 rfl rfl ?_
      refine z_iadd (r := (wr (20 + (wr (7 * a2))))) 87 dX10_removeTenant_86 rfl rfl ?_
      refine z_istore (L' := [some (zr 142), some (zi v1), some (zi a2), some (zi (wr (20 + (wr (7 * (m7 143 1)))))), some (zi (wr (20 + (wr (7 * a2)))))]) 89 dX10_removeTenant_87 rfl rfl rfl rfl ?_
      obtain ⟨m9, h9, hq⟩ := z_b hq
      refine Z.sub (zle_s (zle_n (zle_n (zle_s (zle_s zle_nil))))) (L_qM_removeTenant_l89  (R := m9) (fun _ e => ?_) _ _ _ h9)
      cases e
      refine z_iconst 119 dX10_removeTenant_118 rfl (by decide) ?_
      refine z_istore (L' := [some (zr 142), none, none, some (zi (wr (20 + (wr (7 * (m7 143 1)))))), some (zi 0)]) 121 dX10_removeTenant_119 rfl rfl rfl rfl ?_
      obtain ⟨m11, h11, hq⟩ := z_b hq
      refine Z.sub (zle_s (zle_n (zle_n (zle_s (zle_s zle_nil))))) (L_qM_removeTenant_l121  (R := m11) (fun _ e => ?_) _ _ _ h11)
      cases e
      refine z_aload_n 145 dX10_removeTenant_144 rfl rfl ?_
      refine z_getR (e := 1) (r := 143) 148 dX10_removeTenant_145 rfl f_RX10_7 ar_142 rfl ar_143.1 ?_
      refine z_iconst 149 dX10_removeTenant_148 rfl (by decide) ?_
      refine z_iaload (x := (m11 143 1)) 150 dX10_removeTenant_149 rfl ar_143 ⟨by decide, by decide⟩ rfl ?_
      cases hq
      exact z_ireturn rfl dX10_removeTenant_150
    · replace hq := z_ip hq hc
      refine z_aload_n 32 dX10_removeTenant_31 rfl rfl ?_
      refine z_iconst 33 dX10_removeTenant_32 rfl (by decide) ?_
      obtain ⟨a12, m12, h12, hq⟩ := bnd2_some hq
      refine z_callV1 (as := [zi 2]) (S := []) 36 dX10_removeTenant_33 rfl (Q_qM_fails  h12) kX10_fails ⟨_, _, rfl⟩ ar_142 l_RX10_89 rfl rfl rfl rfl rfl rfl rfl ?_
      cases hq
      exact z_ireturn rfl dX10_removeTenant_36
  · replace hq := z_ip hq hc
    refine z_aload_n 16 dX10_removeTenant_15 rfl rfl ?_
    refine z_iconst 17 dX10_removeTenant_16 rfl (by decide) ?_
    obtain ⟨a13, m13, h13, hq⟩ := bnd2_some hq
    refine z_callV1 (as := [zi 1]) (S := []) 20 dX10_removeTenant_17 rfl (Q_qM_fails  h13) kX10_fails ⟨_, _, rfl⟩ ar_142 l_RX10_89 rfl rfl rfl rfl rfl rfl rfl ?_
    cases hq
    exact z_ireturn rfl dX10_removeTenant_20
set_option maxRecDepth 100000 in
set_option maxHeartbeats 4000000 in
theorem Q_qM_notIn {g : yG} {a : Nat → Nat} {μ : zM} {v1 : Int} {v2 : Int} {r : Int}  (hq : qM_notIn μ v1 v2 = some r) : zC g a mX10_notIn 2 0 0 [zr 142, zi v1, zi v2] μ (.inl (some (zi r))) μ := by
  unfold qM_notIn at hq
  refine z_of (L := [some (zr 142), some (zi v1), some (zi v2), none]) pl_RX10 rfl (zc_of rfl) rfl rfl ?_
  refine z_aload_n 1 dX10_notIn_0 rfl rfl ?_
  refine z_iload_n 2 dX10_notIn_1 rfl rfl ?_
  obtain ⟨a1, h1, hq⟩ := z_b hq
  refine z_callV1 (as := [zi v1]) (S := []) 5 dX10_notIn_2 rfl (Q_qM_place  h1) kX10_place ⟨_, _, rfl⟩ ar_142 l_RX10_110 rfl rfl rfl rfl rfl rfl rfl ?_
  refine z_istore_n (L' := [some (zr 142), some (zi v1), some (zi v2), some (zi a1)]) 6 dX10_notIn_5 rfl rfl rfl rfl ?_
  refine z_iload_n 7 dX10_notIn_6 rfl rfl ?_
  refine z_if_ge 12 10 dX10_notIn_7 rfl rfl (fun hc => ?_) (fun hc => ?_)
  · replace hq := z_in hq (Int.not_lt.mpr hc)
    refine z_aload_n 13 dX10_notIn_12 rfl rfl ?_
    refine z_iload_n 14 dX10_notIn_13 rfl rfl ?_
    obtain ⟨a2, h2, hq⟩ := z_b hq
    refine z_callV1 (as := [zi v2]) (S := []) 17 dX10_notIn_14 rfl (Q_qM_isFlat  h2) kX10_isFlat ⟨_, _, rfl⟩ ar_142 l_RX10_113 rfl rfl rfl rfl rfl rfl rfl ?_
    refine z_if_ne 22 20 dX10_notIn_17 rfl rfl (fun hc => ?_) (fun hc => ?_)
    · replace hq := z_in hq hc
      refine z_aload_n 23 dX10_notIn_22 rfl rfl ?_
      refine z_iload_n 24 dX10_notIn_23 rfl rfl ?_
      refine z_bipush 26 dX10_notIn_24 rfl (by decide) (by decide) ?_
      obtain ⟨a3, h3, hq⟩ := z_b hq
      refine z_callV1 (as := [zi a1, zi 6]) (S := []) 29 dX10_notIn_26 rfl (Q_qM_of  h3) kX10_of ⟨_, _, rfl⟩ ar_142 l_RX10_76 rfl rfl rfl rfl rfl rfl rfl ?_
      refine z_if_gt 40 32 dX10_notIn_29 rfl rfl (fun hc => ?_) (fun hc => ?_)
      · replace hq := z_ip hq hc
        refine z_iconst 41 dX10_notIn_40 rfl (by decide) ?_
        cases hq
        exact z_ireturn rfl dX10_notIn_41
      · replace hq := z_in hq (Int.not_lt.mpr hc)
        refine z_aload_n 33 dX10_notIn_32 rfl rfl ?_
        refine z_iload_n 34 dX10_notIn_33 rfl rfl ?_
        obtain ⟨a4, h4, hq⟩ := z_b hq
        refine z_callV1 (as := [zi v2]) (S := []) 37 dX10_notIn_34 rfl (Q_qM_occupant  h4) kX10_occupant ⟨_, _, rfl⟩ ar_142 l_RX10_117 rfl rfl rfl rfl rfl rfl rfl ?_
        refine z_if_lt 42 40 dX10_notIn_37 rfl rfl (fun hc => ?_) (fun hc => ?_)
        · replace hq := z_ip hq hc
          refine z_aload_n 43 dX10_notIn_42 rfl rfl ?_
          refine z_iload_n 44 dX10_notIn_43 rfl rfl ?_
          refine z_iload_n 45 dX10_notIn_44 rfl rfl ?_
          obtain ⟨a5, h5, hq⟩ := z_b hq
          refine z_callV1 (as := [zi a1, zi v2]) (S := []) 48 dX10_notIn_45 rfl (Q_qM_affords  h5) kX10_affords ⟨_, _, rfl⟩ ar_142 l_RX10_120 rfl rfl rfl rfl rfl rfl rfl ?_
          refine z_if_eq 55 51 dX10_notIn_48 rfl rfl (fun hc => ?_) (fun hc => ?_)
          · replace hq := z_ip hq hc
            refine z_iconst 56 dX10_notIn_55 rfl (by decide) ?_
            cases hq
            exact z_ireturn rfl dX10_notIn_56
          · replace hq := z_in hq hc
            refine z_iconst 52 dX10_notIn_51 rfl (by decide) ?_
            refine z_goto 56 dX10_notIn_52 rfl ?_
            cases hq
            exact z_ireturn rfl dX10_notIn_56
        · replace hq := z_in hq (Int.not_lt.mpr hc)
          refine z_iconst 41 dX10_notIn_40 rfl (by decide) ?_
          cases hq
          exact z_ireturn rfl dX10_notIn_41
    · replace hq := z_ip hq hc
      refine z_iconst 21 dX10_notIn_20 rfl (by decide) ?_
      cases hq
      exact z_ireturn rfl dX10_notIn_21
  · replace hq := z_ip hq hc
    refine z_iconst 11 dX10_notIn_10 rfl (by decide) ?_
    cases hq
    exact z_ireturn rfl dX10_notIn_11
set_option maxRecDepth 100000 in
set_option maxHeartbeats 4000000 in
theorem Q_qM_movesIn {g : yG} {a : Nat → Nat} {μ : zM} {v1 : Int} {v2 : Int} {r : Int} {ν : zM}  (hq : qM_movesIn μ v1 v2 = some (r, ν)) : zC g a mX10_movesIn 2 0 0 [zr 142, zi v1, zi v2] μ (.inl (some (zi r))) ν := by
  unfold qM_movesIn at hq
  refine z_of (L := [some (zr 142), some (zi v1), some (zi v2)]) pl_RX10 rfl (zc_of rfl) rfl rfl ?_
  refine z_aload_n 1 dX10_movesIn_0 rfl rfl ?_
  refine z_aload_n 2 dX10_movesIn_1 rfl rfl ?_
  refine z_iload_n 3 dX10_movesIn_2 rfl rfl ?_
  obtain ⟨a1, h1, hq⟩ := z_b hq
  refine z_callV1 (as := [zi v1]) (S := [zr 142]) 6 dX10_movesIn_3 rfl (Q_qM_place  h1) kX10_place ⟨_, _, rfl⟩ ar_142 l_RX10_110 rfl rfl rfl rfl rfl rfl rfl ?_
  refine z_bipush 8 dX10_movesIn_6 rfl (by decide) (by decide) ?_
  refine z_iload_n 9 dX10_movesIn_8 rfl rfl ?_
  refine z_iconst 10 dX10_movesIn_9 rfl (by decide) ?_
  refine z_iadd (r := (wr (v2 + 1))) 11 dX10_movesIn_10 rfl rfl ?_
  obtain ⟨m2, h2, hq⟩ := z_b hq
  refine z_callV0 (as := [zi a1, zi 6, zi (wr (v2 + 1))]) (S := []) 14 dX10_movesIn_11 rfl (Q_qM_puts  h2) kX10_puts ⟨_, _, rfl⟩ ar_142 l_RX10_99 rfl rfl rfl rfl rfl rfl rfl ?_
  refine z_aload_n 15 dX10_movesIn_14 rfl rfl ?_
  refine z_aload_n 16 dX10_movesIn_15 rfl rfl ?_
  refine z_iload_n 17 dX10_movesIn_16 rfl rfl ?_
  obtain ⟨a3, h3, hq⟩ := z_b hq
  refine z_callV1 (as := [zi v1]) (S := [zr 142]) 20 dX10_movesIn_17 rfl (Q_qM_place  h3) kX10_place ⟨_, _, rfl⟩ ar_142 l_RX10_110 rfl rfl rfl rfl rfl rfl rfl ?_
  refine z_iload_n 21 dX10_movesIn_20 rfl rfl ?_
  obtain ⟨a4, h4, hq⟩ := z_b hq
  refine z_callV1 (as := [zi a3, zi v2]) (S := []) 24 dX10_movesIn_21 rfl (Q_qM_burdenOf  h4) kX10_burdenOf ⟨_, _, rfl⟩ ar_142 l_RX10_83 rfl rfl rfl rfl rfl rfl rfl ?_
  cases hq
  exact z_ireturn rfl dX10_movesIn_24
set_option maxRecDepth 100000 in
set_option maxHeartbeats 4000000 in
theorem Q_qM_moveIn {g : yG} {a : Nat → Nat} {μ : zM} {v1 : Int} {v2 : Int} {r : Int} {ν : zM}  (hq : qM_moveIn μ v1 v2 = some (r, ν)) : zC g a mX10_moveIn 3 0 0 [zr 142, zi v1, zi v2] μ (.inl (some (zi r))) ν := by
  unfold qM_moveIn at hq
  refine z_of (L := [some (zr 142), some (zi v1), some (zi v2), none]) pl_RX10 rfl (zc_of rfl) rfl rfl ?_
  refine z_aload_n 1 dX10_moveIn_0 rfl rfl ?_
  refine z_iconst 2 dX10_moveIn_1 rfl (by decide) ?_
  obtain ⟨m1, em1, hq⟩ := z_m hq
  refine z_putI 5 dX10_moveIn_2 rfl p_RX10_57 ar_142 em1 ?_
  refine z_aload_n 6 dX10_moveIn_5 rfl rfl ?_
  refine z_iload_n 7 dX10_moveIn_6 rfl rfl ?_
  refine z_iload_n 8 dX10_moveIn_7 rfl rfl ?_
  obtain ⟨a2, h2, hq⟩ := z_b hq
  refine z_callV1 (as := [zi v1, zi v2]) (S := []) 11 dX10_moveIn_8 rfl (Q_qM_notIn  h2) kX10_notIn ⟨_, _, rfl⟩ ar_142 l_RX10_124 rfl rfl rfl rfl rfl rfl rfl ?_
  refine z_istore_n (L' := [some (zr 142), some (zi v1), some (zi v2), some (zi a2)]) 12 dX10_moveIn_11 rfl rfl rfl rfl ?_
  refine z_iload_n 13 dX10_moveIn_12 rfl rfl ?_
  refine z_if_eq 22 16 dX10_moveIn_13 rfl rfl (fun hc => ?_) (fun hc => ?_)
  · replace hq := z_ip hq hc
    refine z_aload_n 23 dX10_moveIn_22 rfl rfl ?_
    obtain ⟨m3, h3, hq⟩ := z_b hq
    refine z_callV0 (as := []) (S := []) 26 dX10_moveIn_23 rfl (Q_qM_remembers  h3) kX10_remembers ⟨_, _, rfl⟩ ar_142 l_RX10_93 rfl rfl rfl rfl rfl rfl rfl ?_
    refine z_aload_n 27 dX10_moveIn_26 rfl rfl ?_
    refine z_iload_n 28 dX10_moveIn_27 rfl rfl ?_
    refine z_iload_n 29 dX10_moveIn_28 rfl rfl ?_
    obtain ⟨a4, m4, h4, hq⟩ := bnd2_some hq
    refine z_callV1 (as := [zi v1, zi v2]) (S := []) 32 dX10_moveIn_29 rfl (Q_qM_movesIn  h4) kX10_movesIn ⟨_, _, rfl⟩ ar_142 l_RX10_127 rfl rfl rfl rfl rfl rfl rfl ?_
    cases hq
    exact z_ireturn rfl dX10_moveIn_32
  · replace hq := z_in hq hc
    refine z_aload_n 17 dX10_moveIn_16 rfl rfl ?_
    refine z_iload_n 18 dX10_moveIn_17 rfl rfl ?_
    obtain ⟨a5, m5, h5, hq⟩ := bnd2_some hq
    refine z_callV1 (as := [zi a2]) (S := []) 21 dX10_moveIn_18 rfl (Q_qM_fails  h5) kX10_fails ⟨_, _, rfl⟩ ar_142 l_RX10_89 rfl rfl rfl rfl rfl rfl rfl ?_
    cases hq
    exact z_ireturn rfl dX10_moveIn_21
set_option maxRecDepth 100000 in
set_option maxHeartbeats 4000000 in
theorem L_qM_candidate_l5 {g : yG} {a : Nat → Nat} {μ ν : zM} {o : zO} {kc ks : Nat} {v1 : Int} {v2 : Int} {R : Int}   (he : ∀ (tz : Int), R = tz → Z g a mX10_candidate 3 kc ks 78 [some (zr 142), some (zi v1), some (zi v2), some (zi tz), none] [] μ o ν) : ∀ (n : Nat) (v3 : Int) (v4 : Int), qM_candidate_l5 μ v1 v2 n v3 v4 = some R → Z g a mX10_candidate 3 kc ks 5 [some (zr 142), some (zi v1), some (zi v2), some (zi v3), some (zi v4)] [] μ o ν := by
  intro n
  induction n with
  | zero => intro v3 v4 hq; cases hq
  | succ n ih =>
    intro v3 v4 hq
    rw [qM_candidate_l5] at hq
    refine z_iload 7 dX10_candidate_5 rfl rfl ?_
    refine z_aload_n 8 dX10_candidate_7 rfl rfl ?_
    refine z_getR (e := 1) (r := 143) 11 dX10_candidate_8 rfl f_RX10_7 ar_142 rfl ar_143.1 ?_
    refine z_iconst 12 dX10_candidate_11 rfl (by decide) ?_
    refine z_iaload (x := (μ 143 1)) 13 dX10_candidate_12 rfl ar_143 ⟨by decide, by decide⟩ rfl ?_
    refine z_icmp_ge 78 16 dX10_candidate_13 rfl rfl (fun hc => ?_) (fun hc => ?_)
    · replace hq := z_in hq (Int.not_lt.mpr hc)
      exact Z.sub (zle_s (zle_s (zle_s (zle_s (zle_n zle_nil))))) (he _ (Option.some.inj hq).symm)
    · replace hq := z_ip hq hc
      refine z_iload 18 dX10_candidate_16 rfl rfl ?_
      refine z_iload_n 19 dX10_candidate_18 rfl rfl ?_
      refine z_icmp_eq 72 22 dX10_candidate_19 rfl rfl (fun hc => ?_) (fun hc => ?_)
      · replace hq := z_ip hq hc
        refine z_iinc (r := (wr (v4 + 1))) (L' := [some (zr 142), some (zi v1), some (zi v2), some (zi v3), some (zi (wr (v4 + 1)))]) 75 dX10_candidate_72 rfl rfl rfl rfl rfl rfl ?_
        refine z_goto 5 dX10_candidate_75 rfl ?_
        exact Z.sub (zle_s (zle_s (zle_s (zle_s (zle_s zle_nil))))) (ih _ _ hq)
      · replace hq := z_in hq hc
        refine z_aload_n 23 dX10_candidate_22 rfl rfl ?_
        refine z_iload 25 dX10_candidate_23 rfl rfl ?_
        refine z_iload_n 26 dX10_candidate_25 rfl rfl ?_
        obtain ⟨a1, h1, hq⟩ := z_b hq
        refine z_callV1 (as := [zi v4, zi v1]) (S := []) 29 dX10_candidate_26 rfl (Q_qM_affords  h1) kX10_affords ⟨_, _, rfl⟩ ar_142 l_RX10_120 rfl rfl rfl rfl rfl rfl rfl ?_
        refine z_if_eq 72 32 dX10_candidate_29 rfl rfl (fun hc => ?_) (fun hc => ?_)
        · replace hq := z_ip hq hc
          refine z_iinc (r := (wr (v4 + 1))) (L' := [some (zr 142), some (zi v1), some (zi v2), some (zi v3), some (zi (wr (v4 + 1)))]) 75 dX10_candidate_72 rfl rfl rfl rfl rfl rfl ?_
          refine z_goto 5 dX10_candidate_75 rfl ?_
          exact Z.sub (zle_s (zle_s (zle_s (zle_s (zle_s zle_nil))))) (ih _ _ hq)
        · replace hq := z_in hq hc
          refine z_aload_n 33 dX10_candidate_32 rfl rfl ?_
          refine z_iload 35 dX10_candidate_33 rfl rfl ?_
          refine z_iload_n 36 dX10_candidate_35 rfl rfl ?_
          refine z_aload_n 37 dX10_candidate_36 rfl rfl ?_
          refine z_iload 39 dX10_candidate_37 rfl rfl ?_
          refine z_bipush 41 dX10_candidate_39 rfl (by decide) (by decide) ?_
          obtain ⟨a2, h2, hq⟩ := z_b hq
          refine z_callV1 (as := [zi v4, zi 6]) (S := [zi v1, zi v4, zr 142]) 44 dX10_candidate_41 rfl (Q_qM_of  h2) kX10_of ⟨_, _, rfl⟩ ar_142 l_RX10_76 rfl rfl rfl rfl rfl rfl rfl ?_
          refine z_iconst 45 dX10_candidate_44 rfl (by decide) ?_
          refine z_isub (r := (wr (a2 - 1))) 46 dX10_candidate_45 rfl rfl ?_
          obtain ⟨a3, h3, hq⟩ := z_b hq
          refine z_callV1 (as := [zi v4, zi v1, zi (wr (a2 - 1))]) (S := []) 49 dX10_candidate_46 rfl (Q_qM_prefers  h3) kX10_prefers ⟨_, _, rfl⟩ ar_142 l_RX10_130 rfl rfl rfl rfl rfl rfl rfl ?_
          refine z_if_ne 55 52 dX10_candidate_49 rfl rfl (fun hc => ?_) (fun hc => ?_)
          · replace hq := z_in hq hc
            refine z_iload_n 56 dX10_candidate_55 rfl rfl ?_
            refine z_if_lt 69 59 dX10_candidate_56 rfl rfl (fun hc => ?_) (fun hc => ?_)
            · replace hq := z_ip hq hc
              refine z_iload 71 dX10_candidate_69 rfl rfl ?_
              refine z_istore_n (L' := [some (zr 142), some (zi v1), some (zi v2), some (zi v4), some (zi v4)]) 72 dX10_candidate_71 rfl rfl rfl rfl ?_
              refine z_iinc (r := (wr (v4 + 1))) (L' := [some (zr 142), some (zi v1), some (zi v2), some (zi v4), some (zi (wr (v4 + 1)))]) 75 dX10_candidate_72 rfl rfl rfl rfl rfl rfl ?_
              refine z_goto 5 dX10_candidate_75 rfl ?_
              exact Z.sub (zle_s (zle_s (zle_s (zle_s (zle_s zle_nil))))) (ih _ _ hq)
            · replace hq := z_in hq (Int.not_lt.mpr hc)
              refine z_aload_n 60 dX10_candidate_59 rfl rfl ?_
              refine z_iload 62 dX10_candidate_60 rfl rfl ?_
              refine z_iload_n 63 dX10_candidate_62 rfl rfl ?_
              obtain ⟨a4, h4, hq⟩ := z_b hq
              refine z_callV1 (as := [zi v4, zi v3]) (S := []) 66 dX10_candidate_63 rfl (Q_qM_isPreferred  h4) kX10_isPreferred ⟨_, _, rfl⟩ ar_142 l_RX10_133 rfl rfl rfl rfl rfl rfl rfl ?_
              refine z_if_eq 72 69 dX10_candidate_66 rfl rfl (fun hc => ?_) (fun hc => ?_)
              · replace hq := z_ip hq hc
                refine z_iinc (r := (wr (v4 + 1))) (L' := [some (zr 142), some (zi v1), some (zi v2), some (zi v3), some (zi (wr (v4 + 1)))]) 75 dX10_candidate_72 rfl rfl rfl rfl rfl rfl ?_
                refine z_goto 5 dX10_candidate_75 rfl ?_
                exact Z.sub (zle_s (zle_s (zle_s (zle_s (zle_s zle_nil))))) (ih _ _ hq)
              · replace hq := z_in hq hc
                refine z_iload 71 dX10_candidate_69 rfl rfl ?_
                refine z_istore_n (L' := [some (zr 142), some (zi v1), some (zi v2), some (zi v4), some (zi v4)]) 72 dX10_candidate_71 rfl rfl rfl rfl ?_
                refine z_iinc (r := (wr (v4 + 1))) (L' := [some (zr 142), some (zi v1), some (zi v2), some (zi v4), some (zi (wr (v4 + 1)))]) 75 dX10_candidate_72 rfl rfl rfl rfl rfl rfl ?_
                refine z_goto 5 dX10_candidate_75 rfl ?_
                exact Z.sub (zle_s (zle_s (zle_s (zle_s (zle_s zle_nil))))) (ih _ _ hq)
          · replace hq := z_ip hq hc
            refine z_goto 72 dX10_candidate_52 rfl ?_
            refine z_iinc (r := (wr (v4 + 1))) (L' := [some (zr 142), some (zi v1), some (zi v2), some (zi v3), some (zi (wr (v4 + 1)))]) 75 dX10_candidate_72 rfl rfl rfl rfl rfl rfl ?_
            refine z_goto 5 dX10_candidate_75 rfl ?_
            exact Z.sub (zle_s (zle_s (zle_s (zle_s (zle_s zle_nil))))) (ih _ _ hq)
set_option maxRecDepth 100000 in
set_option maxHeartbeats 4000000 in
theorem Q_qM_candidate {g : yG} {a : Nat → Nat} {μ : zM} {v1 : Int} {v2 : Int} {r : Int}  (hq : qM_candidate μ v1 v2 = some r) : zC g a mX10_candidate 3 0 0 [zr 142, zi v1, zi v2] μ (.inl (some (zi r))) μ := by
  unfold qM_candidate at hq
  refine z_of (L := [some (zr 142), some (zi v1), some (zi v2), none, none]) pl_RX10 rfl (zc_of rfl) rfl rfl ?_
  refine z_iconst 1 dX10_candidate_0 rfl (by decide) ?_
  refine z_istore_n (L' := [some (zr 142), some (zi v1), some (zi v2), some (zi (-1)), none]) 2 dX10_candidate_1 rfl rfl rfl rfl ?_
  refine z_iconst 3 dX10_candidate_2 rfl (by decide) ?_
  refine z_istore (L' := [some (zr 142), some (zi v1), some (zi v2), some (zi (-1)), some (zi 0)]) 5 dX10_candidate_3 rfl rfl rfl rfl ?_
  obtain ⟨t5, h5, hq⟩ := z_b hq
  refine Z.sub (zle_s (zle_s (zle_s (zle_s (zle_s zle_nil))))) (L_qM_candidate_l5  (R := t5) (fun _ e => ?_) _ _ _ h5)
  cases e
  refine z_iload_n 79 dX10_candidate_78 rfl rfl ?_
  cases hq
  exact z_ireturn rfl dX10_candidate_79
set_option maxRecDepth 100000 in
set_option maxHeartbeats 4000000 in
theorem L_qM_leaves_l27 {g : yG} {a : Nat → Nat} {ν : zM} {o : zO} {kc ks : Nat} {v1 : Int} {R : (Int ⊕ Int) × zM}   (hr : ∀ (x : Int) (m : zM), R = (.inl x, m) → o = .inl (some (zi x)) ∧ ν = m) (he : ∀ (tz : Int) (m : zM), R = (.inr tz, m) → Z g a mX10_leaves 4 kc ks 78 [some (zr 142), some (zi v1), none, some (zi tz), none, none] [] m o ν) : ∀ (n : Nat) (μ : zM) (v2 : Int) (v3 : Int), qM_leaves_l27 v1 n μ v2 v3 = some R → Z g a mX10_leaves 4 kc ks 27 [some (zr 142), some (zi v1), some (zi v2), some (zi v3), none, none] [] μ o ν := by
  intro n
  induction n with
  | zero => intro μ v2 v3 hq; cases hq
  | succ n ih =>
    intro μ v2 v3 hq
    rw [qM_leaves_l27] at hq
    refine z_iload_n 28 dX10_leaves_27 rfl rfl ?_
    refine z_if_lt 78 31 dX10_leaves_28 rfl rfl (fun hc => ?_) (fun hc => ?_)
    · replace hq := z_ip hq hc
      exact Z.sub (zle_s (zle_s (zle_n (zle_s (zle_n (zle_n zle_nil)))))) (he _ _ (Option.some.inj hq).symm)
    · replace hq := z_in hq (Int.not_lt.mpr hc)
      refine z_aload_n 32 dX10_leaves_31 rfl rfl ?_
      refine z_iload_n 33 dX10_leaves_32 rfl rfl ?_
      refine z_iload_n 34 dX10_leaves_33 rfl rfl ?_
      obtain ⟨a4, h4, hq⟩ := z_b hq
      refine z_callV1 (as := [zi v2, zi v1]) (S := []) 37 dX10_leaves_34 rfl (Q_qM_candidate  h4) kX10_candidate ⟨_, _, rfl⟩ ar_142 l_RX10_136 rfl rfl rfl rfl rfl rfl rfl ?_
      refine z_istore (L' := [some (zr 142), some (zi v1), some (zi v2), some (zi v3), some (zi a4), none]) 39 dX10_leaves_37 rfl rfl rfl rfl ?_
      refine z_iload 41 dX10_leaves_39 rfl rfl ?_
      refine z_if_ge 46 44 dX10_leaves_41 rfl rfl (fun hc => ?_) (fun hc => ?_)
      · replace hq := z_in hq (Int.not_lt.mpr hc)
        refine z_aload_n 47 dX10_leaves_46 rfl rfl ?_
        refine z_iload 49 dX10_leaves_47 rfl rfl ?_
        refine z_bipush 51 dX10_leaves_49 rfl (by decide) (by decide) ?_
        obtain ⟨a5, h5, hq⟩ := z_b hq
        refine z_callV1 (as := [zi a4, zi 6]) (S := []) 54 dX10_leaves_51 rfl (Q_qM_of  h5) kX10_of ⟨_, _, rfl⟩ ar_142 l_RX10_76 rfl rfl rfl rfl rfl rfl rfl ?_
        refine z_iconst 55 dX10_leaves_54 rfl (by decide) ?_
        refine z_isub (r := (wr (a5 - 1))) 56 dX10_leaves_55 rfl rfl ?_
        refine z_istore (L' := [some (zr 142), some (zi v1), some (zi v2), some (zi v3), some (zi a4), some (zi (wr (a5 - 1)))]) 58 dX10_leaves_56 rfl rfl rfl rfl ?_
        refine z_aload_n 59 dX10_leaves_58 rfl rfl ?_
        refine z_iload 61 dX10_leaves_59 rfl rfl ?_
        refine z_bipush 63 dX10_leaves_61 rfl (by decide) (by decide) ?_
        refine z_iload_n 64 dX10_leaves_63 rfl rfl ?_
        refine z_iconst 65 dX10_leaves_64 rfl (by decide) ?_
        refine z_iadd (r := (wr (v2 + 1))) 66 dX10_leaves_65 rfl rfl ?_
        obtain ⟨m6, h6, hq⟩ := z_b hq
        refine z_callV0 (as := [zi a4, zi 6, zi (wr (v2 + 1))]) (S := []) 69 dX10_leaves_66 rfl (Q_qM_puts  h6) kX10_puts ⟨_, _, rfl⟩ ar_142 l_RX10_99 rfl rfl rfl rfl rfl rfl rfl ?_
        refine z_iinc (r := (wr (v3 + 1))) (L' := [some (zr 142), some (zi v1), some (zi v2), some (zi (wr (v3 + 1))), some (zi a4), some (zi (wr (a5 - 1)))]) 72 dX10_leaves_69 rfl rfl rfl rfl rfl rfl ?_
        refine z_iload 74 dX10_leaves_72 rfl rfl ?_
        refine z_istore_n (L' := [some (zr 142), some (zi v1), some (zi (wr (a5 - 1))), some (zi (wr (v3 + 1))), some (zi a4), some (zi (wr (a5 - 1)))]) 75 dX10_leaves_74 rfl rfl rfl rfl ?_
        refine z_goto 27 dX10_leaves_75 rfl ?_
        exact Z.sub (zle_s (zle_s (zle_s (zle_s (zle_n (zle_n zle_nil)))))) (ih _ _ _ hq)
      · replace hq := z_ip hq hc
        refine z_iload_n 45 dX10_leaves_44 rfl rfl ?_
        obtain ⟨ho, hv⟩ := hr _ _ (Option.some.inj hq).symm
        exact z_conv ho hv (z_ireturn rfl dX10_leaves_45)
set_option maxRecDepth 100000 in
set_option maxHeartbeats 4000000 in
theorem Q_qM_leaves {g : yG} {a : Nat → Nat} {μ : zM} {v1 : Int} {r : Int} {ν : zM}  (hq : qM_leaves μ v1 = some (r, ν)) : zC g a mX10_leaves 4 0 0 [zr 142, zi v1] μ (.inl (some (zi r))) ν := by
  unfold qM_leaves at hq
  refine z_of (L := [some (zr 142), some (zi v1), none, none, none, none]) pl_RX10 rfl (zc_of rfl) rfl rfl ?_
  refine z_aload_n 1 dX10_leaves_0 rfl rfl ?_
  refine z_iload_n 2 dX10_leaves_1 rfl rfl ?_
  refine z_bipush 4 dX10_leaves_2 rfl (by decide) (by decide) ?_
  obtain ⟨a1, h1, hq⟩ := z_b hq
  refine z_callV1 (as := [zi v1, zi 6]) (S := []) 7 dX10_leaves_4 rfl (Q_qM_of  h1) kX10_of ⟨_, _, rfl⟩ ar_142 l_RX10_76 rfl rfl rfl rfl rfl rfl rfl ?_
  refine z_iconst 8 dX10_leaves_7 rfl (by decide) ?_
  refine z_isub (r := (wr (a1 - 1))) 9 dX10_leaves_8 rfl rfl ?_
  refine z_istore_n (L' := [some (zr 142), some (zi v1), some (zi (wr (a1 - 1))), none, none, none]) 10 dX10_leaves_9 rfl rfl rfl rfl ?_
  refine z_aload_n 11 dX10_leaves_10 rfl rfl ?_
  refine z_iload_n 12 dX10_leaves_11 rfl rfl ?_
  refine z_bipush 14 dX10_leaves_12 rfl (by decide) (by decide) ?_
  refine z_iconst 15 dX10_leaves_14 rfl (by decide) ?_
  obtain ⟨m2, h2, hq⟩ := z_b hq
  refine z_callV0 (as := [zi v1, zi 6, zi 0]) (S := []) 18 dX10_leaves_15 rfl (Q_qM_puts  h2) kX10_puts ⟨_, _, rfl⟩ ar_142 l_RX10_99 rfl rfl rfl rfl rfl rfl rfl ?_
  refine z_aload_n 19 dX10_leaves_18 rfl rfl ?_
  refine z_iload_n 20 dX10_leaves_19 rfl rfl ?_
  refine z_iconst 21 dX10_leaves_20 rfl (by decide) ?_
  refine z_iconst 22 dX10_leaves_21 rfl (by decide) ?_
  obtain ⟨m3, h3, hq⟩ := z_b hq
  refine z_callV0 (as := [zi v1, zi 5, zi 0]) (S := []) 25 dX10_leaves_22 rfl (Q_qM_puts  h3) kX10_puts ⟨_, _, rfl⟩ ar_142 l_RX10_99 rfl rfl rfl rfl rfl rfl rfl ?_
  refine z_iconst 26 dX10_leaves_25 rfl (by decide) ?_
  refine z_istore_n (L' := [some (zr 142), some (zi v1), some (zi (wr (a1 - 1))), some (zi 0), none, none]) 27 dX10_leaves_26 rfl rfl rfl rfl ?_
  rcases bndS2_some hq with ⟨x7, m7, h7, hq⟩ | ⟨t7, m7, h7, hq⟩
  · exact Z.sub (zle_s (zle_s (zle_s (zle_s (zle_n (zle_n zle_nil)))))) (L_qM_leaves_l27  (R := (.inl x7, m7)) (fun _ _ e => by cases e; cases hq; exact ⟨rfl, rfl⟩) (fun _ _ e => by cases e) _ _ _ _ h7)
  · refine Z.sub (zle_s (zle_s (zle_s (zle_s (zle_n (zle_n zle_nil)))))) (L_qM_leaves_l27  (R := (.inr t7, m7)) (fun _ _ e => by cases e) (fun _ _ e => ?_) _ _ _ _ h7)
    cases e
    refine z_iload_n 79 dX10_leaves_78 rfl rfl ?_
    cases hq
    exact z_ireturn rfl dX10_leaves_79
set_option maxRecDepth 100000 in
set_option maxHeartbeats 4000000 in
theorem Q_qM_notOut {g : yG} {a : Nat → Nat} {μ : zM} {v1 : Int} {r : Int}  (hq : qM_notOut μ v1 = some r) : zC g a mX10_notOut 2 0 0 [zr 142, zi v1] μ (.inl (some (zi r))) μ := by
  unfold qM_notOut at hq
  refine z_of (L := [some (zr 142), some (zi v1), none]) pl_RX10 rfl (zc_of rfl) rfl rfl ?_
  refine z_aload_n 1 dX10_notOut_0 rfl rfl ?_
  refine z_iload_n 2 dX10_notOut_1 rfl rfl ?_
  obtain ⟨a1, h1, hq⟩ := z_b hq
  refine z_callV1 (as := [zi v1]) (S := []) 5 dX10_notOut_2 rfl (Q_qM_place  h1) kX10_place ⟨_, _, rfl⟩ ar_142 l_RX10_110 rfl rfl rfl rfl rfl rfl rfl ?_
  refine z_istore_n (L' := [some (zr 142), some (zi v1), some (zi a1)]) 6 dX10_notOut_5 rfl rfl rfl rfl ?_
  refine z_iload_n 7 dX10_notOut_6 rfl rfl ?_
  refine z_if_ge 12 10 dX10_notOut_7 rfl rfl (fun hc => ?_) (fun hc => ?_)
  · replace hq := z_in hq (Int.not_lt.mpr hc)
    refine z_aload_n 13 dX10_notOut_12 rfl rfl ?_
    refine z_iload_n 14 dX10_notOut_13 rfl rfl ?_
    refine z_bipush 16 dX10_notOut_14 rfl (by decide) (by decide) ?_
    obtain ⟨a2, h2, hq⟩ := z_b hq
    refine z_callV1 (as := [zi a1, zi 6]) (S := []) 19 dX10_notOut_16 rfl (Q_qM_of  h2) kX10_of ⟨_, _, rfl⟩ ar_142 l_RX10_76 rfl rfl rfl rfl rfl rfl rfl ?_
    refine z_if_ne 26 22 dX10_notOut_19 rfl rfl (fun hc => ?_) (fun hc => ?_)
    · replace hq := z_in hq hc
      refine z_iconst 27 dX10_notOut_26 rfl (by decide) ?_
      cases hq
      exact z_ireturn rfl dX10_notOut_27
    · replace hq := z_ip hq hc
      refine z_iconst 23 dX10_notOut_22 rfl (by decide) ?_
      refine z_goto 27 dX10_notOut_23 rfl ?_
      cases hq
      exact z_ireturn rfl dX10_notOut_27
  · replace hq := z_ip hq hc
    refine z_iconst 11 dX10_notOut_10 rfl (by decide) ?_
    cases hq
    exact z_ireturn rfl dX10_notOut_11
set_option maxRecDepth 100000 in
set_option maxHeartbeats 4000000 in
theorem Q_qM_moveOut {g : yG} {a : Nat → Nat} {μ : zM} {v1 : Int} {r : Int} {ν : zM}  (hq : qM_moveOut μ v1 = some (r, ν)) : zC g a mX10_moveOut 5 0 0 [zr 142, zi v1] μ (.inl (some (zi r))) ν := by
  unfold qM_moveOut at hq
  refine z_of (L := [some (zr 142), some (zi v1), none]) pl_RX10 rfl (zc_of rfl) rfl rfl ?_
  refine z_aload_n 1 dX10_moveOut_0 rfl rfl ?_
  refine z_iconst 2 dX10_moveOut_1 rfl (by decide) ?_
  obtain ⟨m1, em1, hq⟩ := z_m hq
  refine z_putI 5 dX10_moveOut_2 rfl p_RX10_57 ar_142 em1 ?_
  refine z_aload_n 6 dX10_moveOut_5 rfl rfl ?_
  refine z_iload_n 7 dX10_moveOut_6 rfl rfl ?_
  obtain ⟨a2, h2, hq⟩ := z_b hq
  refine z_callV1 (as := [zi v1]) (S := []) 10 dX10_moveOut_7 rfl (Q_qM_notOut  h2) kX10_notOut ⟨_, _, rfl⟩ ar_142 l_RX10_139 rfl rfl rfl rfl rfl rfl rfl ?_
  refine z_istore_n (L' := [some (zr 142), some (zi v1), some (zi a2)]) 11 dX10_moveOut_10 rfl rfl rfl rfl ?_
  refine z_iload_n 12 dX10_moveOut_11 rfl rfl ?_
  refine z_if_eq 21 15 dX10_moveOut_12 rfl rfl (fun hc => ?_) (fun hc => ?_)
  · replace hq := z_ip hq hc
    refine z_aload_n 22 dX10_moveOut_21 rfl rfl ?_
    obtain ⟨m3, h3, hq⟩ := z_b hq
    refine z_callV0 (as := []) (S := []) 25 dX10_moveOut_22 rfl (Q_qM_remembers  h3) kX10_remembers ⟨_, _, rfl⟩ ar_142 l_RX10_93 rfl rfl rfl rfl rfl rfl rfl ?_
    refine z_aload_n 26 dX10_moveOut_25 rfl rfl ?_
    refine z_aload_n 27 dX10_moveOut_26 rfl rfl ?_
    refine z_iload_n 28 dX10_moveOut_27 rfl rfl ?_
    obtain ⟨a4, h4, hq⟩ := z_b hq
    refine z_callV1 (as := [zi v1]) (S := [zr 142]) 31 dX10_moveOut_28 rfl (Q_qM_place  h4) kX10_place ⟨_, _, rfl⟩ ar_142 l_RX10_110 rfl rfl rfl rfl rfl rfl rfl ?_
    obtain ⟨a5, m5, h5, hq⟩ := bnd2_some hq
    refine z_callV1 (as := [zi a4]) (S := []) 34 dX10_moveOut_31 rfl (Q_qM_leaves  h5) kX10_leaves ⟨_, _, rfl⟩ ar_142 l_RX10_142 rfl rfl rfl rfl rfl rfl rfl ?_
    cases hq
    exact z_ireturn rfl dX10_moveOut_34
  · replace hq := z_in hq hc
    refine z_aload_n 16 dX10_moveOut_15 rfl rfl ?_
    refine z_iload_n 17 dX10_moveOut_16 rfl rfl ?_
    obtain ⟨a6, m6, h6, hq⟩ := bnd2_some hq
    refine z_callV1 (as := [zi a2]) (S := []) 20 dX10_moveOut_17 rfl (Q_qM_fails  h6) kX10_fails ⟨_, _, rfl⟩ ar_142 l_RX10_89 rfl rfl rfl rfl rfl rfl rfl ?_
    cases hq
    exact z_ireturn rfl dX10_moveOut_20
set_option maxRecDepth 100000 in
set_option maxHeartbeats 4000000 in
theorem Q_qM_notRent {g : yG} {a : Nat → Nat} {μ : zM} {v1 : Int} {v2 : Int} {r : Int}  (hq : qM_notRent μ v1 v2 = some r) : zC g a mX10_notRent 2 0 0 [zr 142, zi v1, zi v2] μ (.inl (some (zi r))) μ := by
  unfold qM_notRent at hq
  refine z_of (L := [some (zr 142), some (zi v1), some (zi v2)]) pl_RX10 rfl (zc_of rfl) rfl rfl ?_
  refine z_aload_n 1 dX10_notRent_0 rfl rfl ?_
  refine z_iload_n 2 dX10_notRent_1 rfl rfl ?_
  obtain ⟨a1, h1, hq⟩ := z_b hq
  refine z_callV1 (as := [zi v1]) (S := []) 5 dX10_notRent_2 rfl (Q_qM_isFlat  h1) kX10_isFlat ⟨_, _, rfl⟩ ar_142 l_RX10_113 rfl rfl rfl rfl rfl rfl rfl ?_
  refine z_if_ne 10 8 dX10_notRent_5 rfl rfl (fun hc => ?_) (fun hc => ?_)
  · replace hq := z_in hq hc
    refine z_iload_n 11 dX10_notRent_10 rfl rfl ?_
    refine z_iconst 12 dX10_notRent_11 rfl (by decide) ?_
    refine z_bipush 14 dX10_notRent_12 rfl (by decide) (by decide) ?_
    obtain ⟨a2, h2, hq⟩ := z_b hq
    refine z_callS1 (as := [zi v2, zi 1, zi 99]) (S := []) 17 dX10_notRent_14 rfl (Q_qM_isBetween  h2) kX10_isBetween l_RX10_72 rfl rfl rfl rfl rfl rfl rfl ?_
    refine z_if_eq 24 20 dX10_notRent_17 rfl rfl (fun hc => ?_) (fun hc => ?_)
    · replace hq := z_ip hq hc
      refine z_iconst 25 dX10_notRent_24 rfl (by decide) ?_
      cases hq
      exact z_ireturn rfl dX10_notRent_25
    · replace hq := z_in hq hc
      refine z_iconst 21 dX10_notRent_20 rfl (by decide) ?_
      refine z_goto 25 dX10_notRent_21 rfl ?_
      cases hq
      exact z_ireturn rfl dX10_notRent_25
  · replace hq := z_ip hq hc
    refine z_iconst 9 dX10_notRent_8 rfl (by decide) ?_
    cases hq
    exact z_ireturn rfl dX10_notRent_9
set_option maxRecDepth 100000 in
set_option maxHeartbeats 4000000 in
theorem Q_qM_setsRent {g : yG} {a : Nat → Nat} {μ : zM} {v1 : Int} {v2 : Int} {r : Int} {ν : zM}  (hq : qM_setsRent μ v1 v2 = some (r, ν)) : zC g a mX10_setsRent 1 0 0 [zr 142, zi v1, zi v2] μ (.inl (some (zi r))) ν := by
  unfold qM_setsRent at hq
  refine z_of (L := [some (zr 142), some (zi v1), some (zi v2), none]) pl_RX10 rfl (zc_of rfl) rfl rfl ?_
  refine z_aload_n 1 dX10_setsRent_0 rfl rfl ?_
  refine z_iload_n 2 dX10_setsRent_1 rfl rfl ?_
  refine z_iconst 3 dX10_setsRent_2 rfl (by decide) ?_
  obtain ⟨a1, h1, hq⟩ := z_b hq
  refine z_callV1 (as := [zi v1, zi 1]) (S := []) 6 dX10_setsRent_3 rfl (Q_qM_flat  h1) kX10_flat ⟨_, _, rfl⟩ ar_142 l_RX10_80 rfl rfl rfl rfl rfl rfl rfl ?_
  refine z_istore_n (L' := [some (zr 142), some (zi v1), some (zi v2), some (zi a1)]) 7 dX10_setsRent_6 rfl rfl rfl rfl ?_
  refine z_aload_n 8 dX10_setsRent_7 rfl rfl ?_
  refine z_getR (e := 1) (r := 143) 11 dX10_setsRent_8 rfl f_RX10_7 ar_142 rfl ar_143.1 ?_
  refine z_bipush 13 dX10_setsRent_11 rfl (by decide) (by decide) ?_
  refine z_iconst 14 dX10_setsRent_13 rfl (by decide) ?_
  refine z_iload_n 15 dX10_setsRent_14 rfl rfl ?_
  refine z_imul (r := (wr (2 * v1))) 16 dX10_setsRent_15 rfl rfl ?_
  refine z_iadd (r := (wr (8 + (wr (2 * v1))))) 17 dX10_setsRent_16 rfl rfl ?_
  refine z_iconst 18 dX10_setsRent_17 rfl (by decide) ?_
  refine z_iadd (r := (wr ((wr (8 + (wr (2 * v1)))) + 1))) 19 dX10_setsRent_18 rfl rfl ?_
  refine z_iload_n 20 dX10_setsRent_19 rfl rfl ?_
  obtain ⟨hg20, hq⟩ := z_g hq
  obtain ⟨m2, em2, hq⟩ := z_m hq
  refine z_iastore 21 dX10_setsRent_20 rfl ar_143 hg20 em2 ?_
  refine z_iload_n 22 dX10_setsRent_21 rfl rfl ?_
  cases hq
  exact z_ireturn rfl dX10_setsRent_22
set_option maxRecDepth 100000 in
set_option maxHeartbeats 4000000 in
theorem Q_qM_setRent {g : yG} {a : Nat → Nat} {μ : zM} {v1 : Int} {v2 : Int} {r : Int} {ν : zM}  (hq : qM_setRent μ v1 v2 = some (r, ν)) : zC g a mX10_setRent 3 0 0 [zr 142, zi v1, zi v2] μ (.inl (some (zi r))) ν := by
  unfold qM_setRent at hq
  refine z_of (L := [some (zr 142), some (zi v1), some (zi v2), none]) pl_RX10 rfl (zc_of rfl) rfl rfl ?_
  refine z_aload_n 1 dX10_setRent_0 rfl rfl ?_
  refine z_iconst 2 dX10_setRent_1 rfl (by decide) ?_
  obtain ⟨m1, em1, hq⟩ := z_m hq
  refine z_putI 5 dX10_setRent_2 rfl p_RX10_57 ar_142 em1 ?_
  refine z_aload_n 6 dX10_setRent_5 rfl rfl ?_
  refine z_iload_n 7 dX10_setRent_6 rfl rfl ?_
  refine z_iload_n 8 dX10_setRent_7 rfl rfl ?_
  obtain ⟨a2, h2, hq⟩ := z_b hq
  refine z_callV1 (as := [zi v1, zi v2]) (S := []) 11 dX10_setRent_8 rfl (Q_qM_notRent  h2) kX10_notRent ⟨_, _, rfl⟩ ar_142 l_RX10_145 rfl rfl rfl rfl rfl rfl rfl ?_
  refine z_istore_n (L' := [some (zr 142), some (zi v1), some (zi v2), some (zi a2)]) 12 dX10_setRent_11 rfl rfl rfl rfl ?_
  refine z_iload_n 13 dX10_setRent_12 rfl rfl ?_
  refine z_if_eq 22 16 dX10_setRent_13 rfl rfl (fun hc => ?_) (fun hc => ?_)
  · replace hq := z_ip hq hc
    refine z_aload_n 23 dX10_setRent_22 rfl rfl ?_
    obtain ⟨m3, h3, hq⟩ := z_b hq
    refine z_callV0 (as := []) (S := []) 26 dX10_setRent_23 rfl (Q_qM_remembers  h3) kX10_remembers ⟨_, _, rfl⟩ ar_142 l_RX10_93 rfl rfl rfl rfl rfl rfl rfl ?_
    refine z_aload_n 27 dX10_setRent_26 rfl rfl ?_
    refine z_iload_n 28 dX10_setRent_27 rfl rfl ?_
    refine z_iload_n 29 dX10_setRent_28 rfl rfl ?_
    obtain ⟨a4, m4, h4, hq⟩ := bnd2_some hq
    refine z_callV1 (as := [zi v1, zi v2]) (S := []) 32 dX10_setRent_29 rfl (Q_qM_setsRent  h4) kX10_setsRent ⟨_, _, rfl⟩ ar_142 l_RX10_148 rfl rfl rfl rfl rfl rfl rfl ?_
    cases hq
    exact z_ireturn rfl dX10_setRent_32
  · replace hq := z_in hq hc
    refine z_aload_n 17 dX10_setRent_16 rfl rfl ?_
    refine z_iload_n 18 dX10_setRent_17 rfl rfl ?_
    obtain ⟨a5, m5, h5, hq⟩ := bnd2_some hq
    refine z_callV1 (as := [zi a2]) (S := []) 21 dX10_setRent_18 rfl (Q_qM_fails  h5) kX10_fails ⟨_, _, rfl⟩ ar_142 l_RX10_89 rfl rfl rfl rfl rfl rfl rfl ?_
    cases hq
    exact z_ireturn rfl dX10_setRent_21
