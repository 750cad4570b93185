/-! ===== the methods do what the mirror says (laid by wip/whole/tools/proofs.py) ===== -/
set_option maxRecDepth 100000 in
set_option maxHeartbeats 4000000 in
theorem L_qM_restore_l20 {g : yG} {a : Nat → Nat} {ν : zM} {o : zO} {kc ks : Nat}  {R : zM}   (he : ∀ (m : zM), R = m → Z g a mX10_restore 1 kc ks 44 [some (zr 142), none] [] m o ν) : ∀ (n : Nat) (μ : zM) (v1 : Int), qM_restore_l20 n μ v1 = some R → Z g a mX10_restore 1 kc ks 20 [some (zr 142), some (zi v1)] [] μ o ν := by
  intro n
  induction n with
  | zero => intro μ v1 hq; cases hq
  | succ n ih =>
    intro μ v1 hq
    rw [qM_restore_l20] at hq
    refine z_iload_n 21 dX10_restore_20 rfl rfl ?_
    refine z_bipush 23 dX10_restore_21 rfl (by decide) (by decide) ?_
    refine z_icmp_ge 44 26 dX10_restore_23 rfl rfl (fun hc => ?_) (fun hc => ?_)
    · replace hq := z_in hq (Int.not_lt.mpr hc)
      exact Z.sub (zle_s (zle_n zle_nil)) (he _ (Option.some.inj hq).symm)
    · replace hq := z_ip hq hc
      refine z_aload_n 27 dX10_restore_26 rfl rfl ?_
      refine z_getR (e := 1) (r := 143) 30 dX10_restore_27 rfl f_RX10_7 ar_142 rfl ar_143.1 ?_
      refine z_iload_n 31 dX10_restore_30 rfl rfl ?_
      refine z_aload_n 32 dX10_restore_31 rfl rfl ?_
      refine z_getR (e := 3) (r := 145) 35 dX10_restore_32 rfl f_RX10_16 ar_142 rfl ar_145.1 ?_
      refine z_iload_n 36 dX10_restore_35 rfl rfl ?_
      obtain ⟨hg36, hq⟩ := z_g hq
      refine z_iaload (x := (μ 145 v1)) 37 dX10_restore_36 rfl ar_145 hg36 rfl ?_
      obtain ⟨hg37, hq⟩ := z_g hq
      obtain ⟨m2, em2, hq⟩ := z_m hq
      refine z_iastore 38 dX10_restore_37 rfl ar_143 hg37 em2 ?_
      refine z_iinc (r := (wr (v1 + 1))) (L' := [some (zr 142), some (zi (wr (v1 + 1)))]) 41 dX10_restore_38 rfl rfl rfl rfl rfl rfl ?_
      refine z_goto 20 dX10_restore_41 rfl ?_
      exact Z.sub (zle_s (zle_s zle_nil)) (ih _ _ hq)
set_option maxRecDepth 100000 in
set_option maxHeartbeats 4000000 in
theorem Q_qM_restore {g : yG} {a : Nat → Nat} {μ : zM}  {r : Int} {ν : zM}  (hq : qM_restore μ = some (r, ν)) : zC g a mX10_restore 1 0 0 [zr 142] μ (.inl (some (zi r))) ν := by
  unfold qM_restore at hq
  refine z_of (L := [some (zr 142), none]) pl_RX10 rfl (zc_of rfl) rfl rfl ?_
  refine z_aload_n 1 dX10_restore_0 rfl rfl ?_
  refine z_iconst 2 dX10_restore_1 rfl (by decide) ?_
  obtain ⟨m1, em1, hq⟩ := z_m hq
  refine z_putI 5 dX10_restore_2 rfl p_RX10_57 ar_142 em1 ?_
  refine z_aload_n 6 dX10_restore_5 rfl rfl ?_
  refine z_getI (x := (m1 142 8)) 9 dX10_restore_6 rfl f_RX10_276 ar_142 rfl ?_
  refine z_if_ne 18 12 dX10_restore_9 rfl rfl (fun hc => ?_) (fun hc => ?_)
  · replace hq := z_in hq hc
    refine z_iconst 19 dX10_restore_18 rfl (by decide) ?_
    refine z_istore_n (L' := [some (zr 142), some (zi 0)]) 20 dX10_restore_19 rfl rfl rfl rfl ?_
    obtain ⟨m3, h3, hq⟩ := z_b hq
    refine Z.sub (zle_s (zle_s zle_nil)) (L_qM_restore_l20  (R := m3) (fun _ e => ?_) _ _ _ h3)
    cases e
    refine z_aload_n 45 dX10_restore_44 rfl rfl ?_
    refine z_iconst 46 dX10_restore_45 rfl (by decide) ?_
    obtain ⟨m4, em4, hq⟩ := z_m hq
    refine z_putI 49 dX10_restore_46 rfl p_RX10_60 ar_142 em4 ?_
    refine z_aload_n 50 dX10_restore_49 rfl rfl ?_
    refine z_iconst 51 dX10_restore_50 rfl (by decide) ?_
    obtain ⟨m5, em5, hq⟩ := z_m hq
    refine z_putI 54 dX10_restore_51 rfl p_RX10_63 ar_142 em5 ?_
    refine z_aload_n 55 dX10_restore_54 rfl rfl ?_
    refine z_getR (e := 1) (r := 143) 58 dX10_restore_55 rfl f_RX10_7 ar_142 rfl ar_143.1 ?_
    refine z_iconst 59 dX10_restore_58 rfl (by decide) ?_
    refine z_iaload (x := (m5 143 1)) 60 dX10_restore_59 rfl ar_143 ⟨by decide, by decide⟩ rfl ?_
    cases hq
    exact z_ireturn rfl dX10_restore_60
  · replace hq := z_ip hq hc
    refine z_aload_n 13 dX10_restore_12 rfl rfl ?_
    refine z_iconst 14 dX10_restore_13 rfl (by decide) ?_
    obtain ⟨a6, m6, h6, hq⟩ := bnd2_some hq
    refine z_callV1 (as := [zi 1]) (S := []) 17 dX10_restore_14 rfl (Q_qM_fails  h6) kX10_fails ⟨_, _, rfl⟩ ar_142 l_RX10_89 rfl rfl rfl rfl rfl rfl rfl ?_
    cases hq
    exact z_ireturn rfl dX10_restore_17
