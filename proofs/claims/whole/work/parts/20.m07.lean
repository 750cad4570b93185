/-! ===== the methods do what the mirror says (laid by wip/whole/tools/proofs.py) ===== -/
set_option maxRecDepth 100000 in
set_option maxHeartbeats 4000000 in
theorem Q_qM_nextChar {g : yG} {a : Nat → Nat} {μ : zM}  {r : Int}  (hq : qM_nextChar μ = some r) : zC g a mX10_nextChar 0 0 0 [zr 142] μ (.inl (some (zi r))) μ := by
  unfold qM_nextChar at hq
  refine z_of (L := [some (zr 142)]) pl_RX10 rfl (zc_of rfl) rfl rfl ?_
  refine z_aload_n 1 dX10_nextChar_0 rfl rfl ?_
  refine z_getI (x := (μ 142 18)) 4 dX10_nextChar_1 rfl f_RX10_231 ar_142 rfl ?_
  refine z_aload_n 5 dX10_nextChar_4 rfl rfl ?_
  refine z_getI (x := (μ 142 17)) 8 dX10_nextChar_5 rfl f_RX10_228 ar_142 rfl ?_
  refine z_icmp_ge 23 11 dX10_nextChar_8 rfl rfl (fun hc => ?_) (fun hc => ?_)
  · replace hq := z_in hq (Int.not_lt.mpr hc)
    refine z_iconst 24 dX10_nextChar_23 rfl (by decide) ?_
    cases hq
    exact z_ireturn rfl dX10_nextChar_24
  · replace hq := z_ip hq hc
    refine z_aload_n 12 dX10_nextChar_11 rfl rfl ?_
    refine z_getR (e := 12) (r := 154) 15 dX10_nextChar_12 rfl f_RX10_44 ar_142 rfl ar_154.1 ?_
    refine z_aload_n 16 dX10_nextChar_15 rfl rfl ?_
    refine z_getI (x := (μ 142 18)) 19 dX10_nextChar_16 rfl f_RX10_231 ar_142 rfl ?_
    obtain ⟨hg19, hq⟩ := z_g hq
    refine z_caload (x := (μ 154 (μ 142 18))) 20 dX10_nextChar_19 rfl ar_154 hg19 rfl ?_
    refine z_goto 24 dX10_nextChar_20 rfl ?_
    cases hq
    exact z_ireturn rfl dX10_nextChar_24
set_option maxRecDepth 100000 in
set_option maxHeartbeats 4000000 in
theorem Q_qM_reads {g : yG} {a : Nat → Nat} {μ : zM} {v1 : Int} {r : Int} {ν : zM}  (hq : qM_reads μ v1 = some (r, ν)) : zC g a mX10_reads 1 0 0 [zr 142, zi v1] μ (.inl (some (zi r))) ν := by
  unfold qM_reads at hq
  refine z_of (L := [some (zr 142), some (zi v1)]) pl_RX10 rfl (zc_of rfl) rfl rfl ?_
  refine z_aload_n 1 dX10_reads_0 rfl rfl ?_
  obtain ⟨a1, h1, hq⟩ := z_b hq
  refine z_callV1 (as := []) (S := []) 4 dX10_reads_1 rfl (Q_qM_nextChar  h1) kX10_nextChar ⟨_, _, rfl⟩ ar_142 l_RX10_234 rfl rfl rfl rfl rfl rfl rfl ?_
  refine z_iload_n 5 dX10_reads_4 rfl rfl ?_
  refine z_icmp_eq 10 8 dX10_reads_5 rfl rfl (fun hc => ?_) (fun hc => ?_)
  · replace hq := z_ip hq hc
    refine z_aload_n 11 dX10_reads_10 rfl rfl ?_
    refine z_dup 12 dX10_reads_11 rfl rfl ?_
    refine z_getI (x := (μ 142 18)) 15 dX10_reads_12 rfl f_RX10_231 ar_142 rfl ?_
    refine z_iconst 16 dX10_reads_15 rfl (by decide) ?_
    refine z_iadd (r := (wr ((μ 142 18) + 1))) 17 dX10_reads_16 rfl rfl ?_
    obtain ⟨m2, em2, hq⟩ := z_m hq
    refine z_putI 20 dX10_reads_17 rfl p_RX10_231 ar_142 em2 ?_
    refine z_iconst 21 dX10_reads_20 rfl (by decide) ?_
    cases hq
    exact z_zreturn rfl dX10_reads_21 (by decide)
  · replace hq := z_in hq hc
    refine z_iconst 9 dX10_reads_8 rfl (by decide) ?_
    cases hq
    exact z_zreturn rfl dX10_reads_9 (by decide)
set_option maxRecDepth 100000 in
set_option maxHeartbeats 4000000 in
theorem Q_qM_readsDigit {g : yG} {a : Nat → Nat} {μ : zM} {v1 : Int} {r : Int} {ν : zM}  (hq : qM_readsDigit μ v1 = some (r, ν)) : zC g a mX10_readsDigit 1 0 0 [zr 142, zi v1] μ (.inl (some (zi r))) ν := by
  unfold qM_readsDigit at hq
  refine z_of (L := [some (zr 142), some (zi v1)]) pl_RX10 rfl (zc_of rfl) rfl rfl ?_
  refine z_aload_n 1 dX10_readsDigit_0 rfl rfl ?_
  obtain ⟨a1, h1, hq⟩ := z_b hq
  refine z_callV1 (as := []) (S := []) 4 dX10_readsDigit_1 rfl (Q_qM_nextChar  h1) kX10_nextChar ⟨_, _, rfl⟩ ar_142 l_RX10_234 rfl rfl rfl rfl rfl rfl rfl ?_
  refine z_bipush 6 dX10_readsDigit_4 rfl (by decide) (by decide) ?_
  refine z_bipush 8 dX10_readsDigit_6 rfl (by decide) (by decide) ?_
  obtain ⟨a2, h2, hq⟩ := z_b hq
  refine z_callS1 (as := [zi a1, zi 48, zi 57]) (S := []) 11 dX10_readsDigit_8 rfl (Q_qM_isBetween  h2) kX10_isBetween l_RX10_72 rfl rfl rfl rfl rfl rfl rfl ?_
  refine z_if_ne 16 14 dX10_readsDigit_11 rfl rfl (fun hc => ?_) (fun hc => ?_)
  · replace hq := z_in hq hc
    refine z_aload_n 17 dX10_readsDigit_16 rfl rfl ?_
    refine z_getR (e := 13) (r := 155) 20 dX10_readsDigit_17 rfl f_RX10_54 ar_142 rfl ar_155.1 ?_
    refine z_iload_n 21 dX10_readsDigit_20 rfl rfl ?_
    refine z_aload_n 22 dX10_readsDigit_21 rfl rfl ?_
    obtain ⟨a3, h3, hq⟩ := z_b hq
    refine z_callV1 (as := []) (S := [zi v1, zr 155]) 25 dX10_readsDigit_22 rfl (Q_qM_nextChar  h3) kX10_nextChar ⟨_, _, rfl⟩ ar_142 l_RX10_234 rfl rfl rfl rfl rfl rfl rfl ?_
    refine z_bipush 27 dX10_readsDigit_25 rfl (by decide) (by decide) ?_
    refine z_isub (r := (wr (a3 - 48))) 28 dX10_readsDigit_27 rfl rfl ?_
    obtain ⟨hg28, hq⟩ := z_g hq
    obtain ⟨m4, em4, hq⟩ := z_m hq
    refine z_iastore 29 dX10_readsDigit_28 rfl ar_155 hg28 em4 ?_
    refine z_aload_n 30 dX10_readsDigit_29 rfl rfl ?_
    refine z_dup 31 dX10_readsDigit_30 rfl rfl ?_
    refine z_getI (x := (m4 142 18)) 34 dX10_readsDigit_31 rfl f_RX10_231 ar_142 rfl ?_
    refine z_iconst 35 dX10_readsDigit_34 rfl (by decide) ?_
    refine z_iadd (r := (wr ((m4 142 18) + 1))) 36 dX10_readsDigit_35 rfl rfl ?_
    obtain ⟨m5, em5, hq⟩ := z_m hq
    refine z_putI 39 dX10_readsDigit_36 rfl p_RX10_231 ar_142 em5 ?_
    refine z_iconst 40 dX10_readsDigit_39 rfl (by decide) ?_
    cases hq
    exact z_zreturn rfl dX10_readsDigit_40 (by decide)
  · replace hq := z_ip hq hc
    refine z_iconst 15 dX10_readsDigit_14 rfl (by decide) ?_
    cases hq
    exact z_zreturn rfl dX10_readsDigit_15 (by decide)
set_option maxRecDepth 100000 in
set_option maxHeartbeats 4000000 in
theorem Q_qM_readsNumber {g : yG} {a : Nat → Nat} {μ : zM} {v1 : Int} {r : Int} {ν : zM}  (hq : qM_readsNumber μ v1 = some (r, ν)) : zC g a mX10_readsNumber 2 0 0 [zr 142, zi v1] μ (.inl (some (zi r))) ν := by
  unfold qM_readsNumber at hq
  refine z_of (L := [some (zr 142), some (zi v1)]) pl_RX10 rfl (zc_of rfl) rfl rfl ?_
  refine z_aload_n 1 dX10_readsNumber_0 rfl rfl ?_
  refine z_iload_n 2 dX10_readsNumber_1 rfl rfl ?_
  obtain ⟨a1, m1, h1, hq⟩ := bnd2_some hq
  refine z_callV1 (as := [zi v1]) (S := []) 5 dX10_readsNumber_2 rfl (Q_qM_readsDigit  h1) kX10_readsDigit ⟨_, _, rfl⟩ ar_142 l_RX10_237 rfl rfl rfl rfl rfl rfl rfl ?_
  refine z_if_ne 10 8 dX10_readsNumber_5 rfl rfl (fun hc => ?_) (fun hc => ?_)
  · replace hq := z_in hq hc
    refine z_aload_n 11 dX10_readsNumber_10 rfl rfl ?_
    obtain ⟨a2, h2, hq⟩ := z_b hq
    refine z_callV1 (as := []) (S := []) 14 dX10_readsNumber_11 rfl (Q_qM_nextChar  h2) kX10_nextChar ⟨_, _, rfl⟩ ar_142 l_RX10_234 rfl rfl rfl rfl rfl rfl rfl ?_
    refine z_bipush 16 dX10_readsNumber_14 rfl (by decide) (by decide) ?_
    refine z_bipush 18 dX10_readsNumber_16 rfl (by decide) (by decide) ?_
    obtain ⟨a3, h3, hq⟩ := z_b hq
    refine z_callS1 (as := [zi a2, zi 48, zi 57]) (S := []) 21 dX10_readsNumber_18 rfl (Q_qM_isBetween  h3) kX10_isBetween l_RX10_72 rfl rfl rfl rfl rfl rfl rfl ?_
    refine z_if_ne 26 24 dX10_readsNumber_21 rfl rfl (fun hc => ?_) (fun hc => ?_)
    · replace hq := z_in hq hc
      refine z_aload_n 27 dX10_readsNumber_26 rfl rfl ?_
      refine z_getR (e := 13) (r := 155) 30 dX10_readsNumber_27 rfl f_RX10_54 ar_142 rfl ar_155.1 ?_
      refine z_iload_n 31 dX10_readsNumber_30 rfl rfl ?_
      refine z_bipush 33 dX10_readsNumber_31 rfl (by decide) (by decide) ?_
      refine z_aload_n 34 dX10_readsNumber_33 rfl rfl ?_
      refine z_getR (e := 13) (r := 155) 37 dX10_readsNumber_34 rfl f_RX10_54 ar_142 rfl ar_155.1 ?_
      refine z_iload_n 38 dX10_readsNumber_37 rfl rfl ?_
      obtain ⟨hg38, hq⟩ := z_g hq
      refine z_iaload (x := (m1 155 v1)) 39 dX10_readsNumber_38 rfl ar_155 hg38 rfl ?_
      refine z_imul (r := (wr (10 * (m1 155 v1)))) 40 dX10_readsNumber_39 rfl rfl ?_
      refine z_aload_n 41 dX10_readsNumber_40 rfl rfl ?_
      obtain ⟨a4, h4, hq⟩ := z_b hq
      refine z_callV1 (as := []) (S := [zi (wr (10 * (m1 155 v1))), zi v1, zr 155]) 44 dX10_readsNumber_41 rfl (Q_qM_nextChar  h4) kX10_nextChar ⟨_, _, rfl⟩ ar_142 l_RX10_234 rfl rfl rfl rfl rfl rfl rfl ?_
      refine z_iadd (r := (wr ((wr (10 * (m1 155 v1))) + a4))) 45 dX10_readsNumber_44 rfl rfl ?_
      refine z_bipush 47 dX10_readsNumber_45 rfl (by decide) (by decide) ?_
      refine z_isub (r := (wr ((wr ((wr (10 * (m1 155 v1))) + a4)) - 48))) 48 dX10_readsNumber_47 rfl rfl ?_
      obtain ⟨hg48, hq⟩ := z_g hq
      obtain ⟨m5, em5, hq⟩ := z_m hq
      refine z_iastore 49 dX10_readsNumber_48 rfl ar_155 hg48 em5 ?_
      refine z_aload_n 50 dX10_readsNumber_49 rfl rfl ?_
      refine z_dup 51 dX10_readsNumber_50 rfl rfl ?_
      refine z_getI (x := (m5 142 18)) 54 dX10_readsNumber_51 rfl f_RX10_231 ar_142 rfl ?_
      refine z_iconst 55 dX10_readsNumber_54 rfl (by decide) ?_
      refine z_iadd (r := (wr ((m5 142 18) + 1))) 56 dX10_readsNumber_55 rfl rfl ?_
      obtain ⟨m6, em6, hq⟩ := z_m hq
      refine z_putI 59 dX10_readsNumber_56 rfl p_RX10_231 ar_142 em6 ?_
      refine z_iconst 60 dX10_readsNumber_59 rfl (by decide) ?_
      cases hq
      exact z_zreturn rfl dX10_readsNumber_60 (by decide)
    · replace hq := z_ip hq hc
      refine z_iconst 25 dX10_readsNumber_24 rfl (by decide) ?_
      cases hq
      exact z_zreturn rfl dX10_readsNumber_25 (by decide)
  · replace hq := z_ip hq hc
    refine z_iconst 9 dX10_readsNumber_8 rfl (by decide) ?_
    cases hq
    exact z_zreturn rfl dX10_readsNumber_9 (by decide)
set_option maxRecDepth 100000 in
set_option maxHeartbeats 4000000 in
theorem Q_qM_readsTenant {g : yG} {a : Nat → Nat} {μ : zM}  {r : Int} {ν : zM}  (hq : qM_readsTenant μ = some (r, ν)) : zC g a mX10_readsTenant 3 0 0 [zr 142] μ (.inl (some (zi r))) ν := by
  unfold qM_readsTenant at hq
  refine z_of (L := [some (zr 142)]) pl_RX10 rfl (zc_of rfl) rfl rfl ?_
  refine z_aload_n 1 dX10_readsTenant_0 rfl rfl ?_
  refine z_bipush 3 dX10_readsTenant_1 rfl (by decide) (by decide) ?_
  obtain ⟨a1, m1, h1, hq⟩ := bnd2_some hq
  refine z_callV1 (as := [zi 101]) (S := []) 6 dX10_readsTenant_3 rfl (Q_qM_reads  h1) kX10_reads ⟨_, _, rfl⟩ ar_142 l_RX10_240 rfl rfl rfl rfl rfl rfl rfl ?_
  refine z_if_eq 62 9 dX10_readsTenant_6 rfl rfl (fun hc => ?_) (fun hc => ?_)
  · replace hq := z_ip hq hc
    refine z_iconst 63 dX10_readsTenant_62 rfl (by decide) ?_
    cases hq
    exact z_zreturn rfl dX10_readsTenant_63 (by decide)
  · replace hq := z_in hq hc
    refine z_aload_n 10 dX10_readsTenant_9 rfl rfl ?_
    refine z_bipush 12 dX10_readsTenant_10 rfl (by decide) (by decide) ?_
    obtain ⟨a2, m2, h2, hq⟩ := bnd2_some hq
    refine z_callV1 (as := [zi 110]) (S := []) 15 dX10_readsTenant_12 rfl (Q_qM_reads  h2) kX10_reads ⟨_, _, rfl⟩ ar_142 l_RX10_240 rfl rfl rfl rfl rfl rfl rfl ?_
    refine z_if_eq 62 18 dX10_readsTenant_15 rfl rfl (fun hc => ?_) (fun hc => ?_)
    · replace hq := z_ip hq hc
      refine z_iconst 63 dX10_readsTenant_62 rfl (by decide) ?_
      cases hq
      exact z_zreturn rfl dX10_readsTenant_63 (by decide)
    · replace hq := z_in hq hc
      refine z_aload_n 19 dX10_readsTenant_18 rfl rfl ?_
      refine z_bipush 21 dX10_readsTenant_19 rfl (by decide) (by decide) ?_
      obtain ⟨a3, m3, h3, hq⟩ := bnd2_some hq
      refine z_callV1 (as := [zi 97]) (S := []) 24 dX10_readsTenant_21 rfl (Q_qM_reads  h3) kX10_reads ⟨_, _, rfl⟩ ar_142 l_RX10_240 rfl rfl rfl rfl rfl rfl rfl ?_
      refine z_if_eq 62 27 dX10_readsTenant_24 rfl rfl (fun hc => ?_) (fun hc => ?_)
      · replace hq := z_ip hq hc
        refine z_iconst 63 dX10_readsTenant_62 rfl (by decide) ?_
        cases hq
        exact z_zreturn rfl dX10_readsTenant_63 (by decide)
      · replace hq := z_in hq hc
        refine z_aload_n 28 dX10_readsTenant_27 rfl rfl ?_
        refine z_bipush 30 dX10_readsTenant_28 rfl (by decide) (by decide) ?_
        obtain ⟨a4, m4, h4, hq⟩ := bnd2_some hq
        refine z_callV1 (as := [zi 110]) (S := []) 33 dX10_readsTenant_30 rfl (Q_qM_reads  h4) kX10_reads ⟨_, _, rfl⟩ ar_142 l_RX10_240 rfl rfl rfl rfl rfl rfl rfl ?_
        refine z_if_eq 62 36 dX10_readsTenant_33 rfl rfl (fun hc => ?_) (fun hc => ?_)
        · replace hq := z_ip hq hc
          refine z_iconst 63 dX10_readsTenant_62 rfl (by decide) ?_
          cases hq
          exact z_zreturn rfl dX10_readsTenant_63 (by decide)
        · replace hq := z_in hq hc
          refine z_aload_n 37 dX10_readsTenant_36 rfl rfl ?_
          refine z_bipush 39 dX10_readsTenant_37 rfl (by decide) (by decide) ?_
          obtain ⟨a5, m5, h5, hq⟩ := bnd2_some hq
          refine z_callV1 (as := [zi 116]) (S := []) 42 dX10_readsTenant_39 rfl (Q_qM_reads  h5) kX10_reads ⟨_, _, rfl⟩ ar_142 l_RX10_240 rfl rfl rfl rfl rfl rfl rfl ?_
          refine z_if_eq 62 45 dX10_readsTenant_42 rfl rfl (fun hc => ?_) (fun hc => ?_)
          · replace hq := z_ip hq hc
            refine z_iconst 63 dX10_readsTenant_62 rfl (by decide) ?_
            cases hq
            exact z_zreturn rfl dX10_readsTenant_63 (by decide)
          · replace hq := z_in hq hc
            refine z_aload_n 46 dX10_readsTenant_45 rfl rfl ?_
            refine z_bipush 48 dX10_readsTenant_46 rfl (by decide) (by decide) ?_
            obtain ⟨a6, m6, h6, hq⟩ := bnd2_some hq
            refine z_callV1 (as := [zi 32]) (S := []) 51 dX10_readsTenant_48 rfl (Q_qM_reads  h6) kX10_reads ⟨_, _, rfl⟩ ar_142 l_RX10_240 rfl rfl rfl rfl rfl rfl rfl ?_
            refine z_if_eq 62 54 dX10_readsTenant_51 rfl rfl (fun hc => ?_) (fun hc => ?_)
            · replace hq := z_ip hq hc
              refine z_iconst 63 dX10_readsTenant_62 rfl (by decide) ?_
              cases hq
              exact z_zreturn rfl dX10_readsTenant_63 (by decide)
            · replace hq := z_in hq hc
              refine z_aload_n 55 dX10_readsTenant_54 rfl rfl ?_
              refine z_iconst 56 dX10_readsTenant_55 rfl (by decide) ?_
              obtain ⟨a7, m7, h7, hq⟩ := bnd2_some hq
              refine z_callV1 (as := [zi 0]) (S := []) 59 dX10_readsTenant_56 rfl (Q_qM_readsNumber  h7) kX10_readsNumber ⟨_, _, rfl⟩ ar_142 l_RX10_243 rfl rfl rfl rfl rfl rfl rfl ?_
              refine z_if_ne 64 62 dX10_readsTenant_59 rfl rfl (fun hc => ?_) (fun hc => ?_)
              · replace hq := z_in hq hc
                refine z_aload_n 65 dX10_readsTenant_64 rfl rfl ?_
                refine z_bipush 67 dX10_readsTenant_65 rfl (by decide) (by decide) ?_
                obtain ⟨a8, m8, h8, hq⟩ := bnd2_some hq
                refine z_callV1 (as := [zi 64]) (S := []) 70 dX10_readsTenant_67 rfl (Q_qM_reads  h8) kX10_reads ⟨_, _, rfl⟩ ar_142 l_RX10_240 rfl rfl rfl rfl rfl rfl rfl ?_
                refine z_if_eq 119 73 dX10_readsTenant_70 rfl rfl (fun hc => ?_) (fun hc => ?_)
                · replace hq := z_ip hq hc
                  refine z_iconst 120 dX10_readsTenant_119 rfl (by decide) ?_
                  cases hq
                  exact z_zreturn rfl dX10_readsTenant_120 (by decide)
                · replace hq := z_in hq hc
                  refine z_aload_n 74 dX10_readsTenant_73 rfl rfl ?_
                  refine z_iconst 75 dX10_readsTenant_74 rfl (by decide) ?_
                  obtain ⟨a9, m9, h9, hq⟩ := bnd2_some hq
                  refine z_callV1 (as := [zi 1]) (S := []) 78 dX10_readsTenant_75 rfl (Q_qM_readsDigit  h9) kX10_readsDigit ⟨_, _, rfl⟩ ar_142 l_RX10_237 rfl rfl rfl rfl rfl rfl rfl ?_
                  refine z_if_eq 119 81 dX10_readsTenant_78 rfl rfl (fun hc => ?_) (fun hc => ?_)
                  · replace hq := z_ip hq hc
                    refine z_iconst 120 dX10_readsTenant_119 rfl (by decide) ?_
                    cases hq
                    exact z_zreturn rfl dX10_readsTenant_120 (by decide)
                  · replace hq := z_in hq hc
                    refine z_aload_n 82 dX10_readsTenant_81 rfl rfl ?_
                    refine z_bipush 84 dX10_readsTenant_82 rfl (by decide) (by decide) ?_
                    obtain ⟨a10, m10, h10, hq⟩ := bnd2_some hq
                    refine z_callV1 (as := [zi 43]) (S := []) 87 dX10_readsTenant_84 rfl (Q_qM_reads  h10) kX10_reads ⟨_, _, rfl⟩ ar_142 l_RX10_240 rfl rfl rfl rfl rfl rfl rfl ?_
                    refine z_if_eq 119 90 dX10_readsTenant_87 rfl rfl (fun hc => ?_) (fun hc => ?_)
                    · replace hq := z_ip hq hc
                      refine z_iconst 120 dX10_readsTenant_119 rfl (by decide) ?_
                      cases hq
                      exact z_zreturn rfl dX10_readsTenant_120 (by decide)
                    · replace hq := z_in hq hc
                      refine z_aload_n 91 dX10_readsTenant_90 rfl rfl ?_
                      refine z_iconst 92 dX10_readsTenant_91 rfl (by decide) ?_
                      obtain ⟨a11, m11, h11, hq⟩ := bnd2_some hq
                      refine z_callV1 (as := [zi 2]) (S := []) 95 dX10_readsTenant_92 rfl (Q_qM_readsNumber  h11) kX10_readsNumber ⟨_, _, rfl⟩ ar_142 l_RX10_243 rfl rfl rfl rfl rfl rfl rfl ?_
                      refine z_if_eq 119 98 dX10_readsTenant_95 rfl rfl (fun hc => ?_) (fun hc => ?_)
                      · replace hq := z_ip hq hc
                        refine z_iconst 120 dX10_readsTenant_119 rfl (by decide) ?_
                        cases hq
                        exact z_zreturn rfl dX10_readsTenant_120 (by decide)
                      · replace hq := z_in hq hc
                        refine z_aload_n 99 dX10_readsTenant_98 rfl rfl ?_
                        refine z_bipush 101 dX10_readsTenant_99 rfl (by decide) (by decide) ?_
                        obtain ⟨a12, m12, h12, hq⟩ := bnd2_some hq
                        refine z_callV1 (as := [zi 47]) (S := []) 104 dX10_readsTenant_101 rfl (Q_qM_reads  h12) kX10_reads ⟨_, _, rfl⟩ ar_142 l_RX10_240 rfl rfl rfl rfl rfl rfl rfl ?_
                        refine z_if_eq 119 107 dX10_readsTenant_104 rfl rfl (fun hc => ?_) (fun hc => ?_)
                        · replace hq := z_ip hq hc
                          refine z_iconst 120 dX10_readsTenant_119 rfl (by decide) ?_
                          cases hq
                          exact z_zreturn rfl dX10_readsTenant_120 (by decide)
                        · replace hq := z_in hq hc
                          refine z_aload_n 108 dX10_readsTenant_107 rfl rfl ?_
                          refine z_iconst 109 dX10_readsTenant_108 rfl (by decide) ?_
                          obtain ⟨a13, m13, h13, hq⟩ := bnd2_some hq
                          refine z_callV1 (as := [zi 3]) (S := []) 112 dX10_readsTenant_109 rfl (Q_qM_readsNumber  h13) kX10_readsNumber ⟨_, _, rfl⟩ ar_142 l_RX10_243 rfl rfl rfl rfl rfl rfl rfl ?_
                          refine z_if_eq 119 115 dX10_readsTenant_112 rfl rfl (fun hc => ?_) (fun hc => ?_)
                          · replace hq := z_ip hq hc
                            refine z_iconst 120 dX10_readsTenant_119 rfl (by decide) ?_
                            cases hq
                            exact z_zreturn rfl dX10_readsTenant_120 (by decide)
                          · replace hq := z_in hq hc
                            refine z_iconst 116 dX10_readsTenant_115 rfl (by decide) ?_
                            refine z_goto 120 dX10_readsTenant_116 rfl ?_
                            cases hq
                            exact z_zreturn rfl dX10_readsTenant_120 (by decide)
              · replace hq := z_ip hq hc
                refine z_iconst 63 dX10_readsTenant_62 rfl (by decide) ?_
                cases hq
                exact z_zreturn rfl dX10_readsTenant_63 (by decide)
set_option maxRecDepth 100000 in
set_option maxHeartbeats 4000000 in
theorem Q_qM_readsMonth {g : yG} {a : Nat → Nat} {μ : zM}  {r : Int} {ν : zM}  (hq : qM_readsMonth μ = some (r, ν)) : zC g a mX10_readsMonth 3 0 0 [zr 142] μ (.inl (some (zi r))) ν := by
  unfold qM_readsMonth at hq
  refine z_of (L := [some (zr 142)]) pl_RX10 rfl (zc_of rfl) rfl rfl ?_
  refine z_aload_n 1 dX10_readsMonth_0 rfl rfl ?_
  refine z_getR (e := 13) (r := 155) 4 dX10_readsMonth_1 rfl f_RX10_54 ar_142 rfl ar_155.1 ?_
  refine z_iconst 5 dX10_readsMonth_4 rfl (by decide) ?_
  refine z_iconst 6 dX10_readsMonth_5 rfl (by decide) ?_
  obtain ⟨m1, em1, hq⟩ := z_m hq
  refine z_iastore 7 dX10_readsMonth_6 rfl ar_155 ⟨by decide, by decide⟩ em1 ?_
  refine z_aload_n 8 dX10_readsMonth_7 rfl rfl ?_
  refine z_bipush 10 dX10_readsMonth_8 rfl (by decide) (by decide) ?_
  obtain ⟨a2, m2, h2, hq⟩ := bnd2_some hq
  refine z_callV1 (as := [zi 111]) (S := []) 13 dX10_readsMonth_10 rfl (Q_qM_reads  h2) kX10_reads ⟨_, _, rfl⟩ ar_142 l_RX10_240 rfl rfl rfl rfl rfl rfl rfl ?_
  refine z_if_eq 43 16 dX10_readsMonth_13 rfl rfl (fun hc => ?_) (fun hc => ?_)
  · replace hq := z_ip hq hc
    refine z_iconst 44 dX10_readsMonth_43 rfl (by decide) ?_
    cases hq
    exact z_zreturn rfl dX10_readsMonth_44 (by decide)
  · replace hq := z_in hq hc
    refine z_aload_n 17 dX10_readsMonth_16 rfl rfl ?_
    refine z_bipush 19 dX10_readsMonth_17 rfl (by decide) (by decide) ?_
    obtain ⟨a3, m3, h3, hq⟩ := bnd2_some hq
    refine z_callV1 (as := [zi 110]) (S := []) 22 dX10_readsMonth_19 rfl (Q_qM_reads  h3) kX10_reads ⟨_, _, rfl⟩ ar_142 l_RX10_240 rfl rfl rfl rfl rfl rfl rfl ?_
    refine z_if_eq 43 25 dX10_readsMonth_22 rfl rfl (fun hc => ?_) (fun hc => ?_)
    · replace hq := z_ip hq hc
      refine z_iconst 44 dX10_readsMonth_43 rfl (by decide) ?_
      cases hq
      exact z_zreturn rfl dX10_readsMonth_44 (by decide)
    · replace hq := z_in hq hc
      refine z_aload_n 26 dX10_readsMonth_25 rfl rfl ?_
      refine z_bipush 28 dX10_readsMonth_26 rfl (by decide) (by decide) ?_
      obtain ⟨a4, m4, h4, hq⟩ := bnd2_some hq
      refine z_callV1 (as := [zi 116]) (S := []) 31 dX10_readsMonth_28 rfl (Q_qM_reads  h4) kX10_reads ⟨_, _, rfl⟩ ar_142 l_RX10_240 rfl rfl rfl rfl rfl rfl rfl ?_
      refine z_if_eq 43 34 dX10_readsMonth_31 rfl rfl (fun hc => ?_) (fun hc => ?_)
      · replace hq := z_ip hq hc
        refine z_iconst 44 dX10_readsMonth_43 rfl (by decide) ?_
        cases hq
        exact z_zreturn rfl dX10_readsMonth_44 (by decide)
      · replace hq := z_in hq hc
        refine z_aload_n 35 dX10_readsMonth_34 rfl rfl ?_
        refine z_bipush 37 dX10_readsMonth_35 rfl (by decide) (by decide) ?_
        obtain ⟨a5, m5, h5, hq⟩ := bnd2_some hq
        refine z_callV1 (as := [zi 104]) (S := []) 40 dX10_readsMonth_37 rfl (Q_qM_reads  h5) kX10_reads ⟨_, _, rfl⟩ ar_142 l_RX10_240 rfl rfl rfl rfl rfl rfl rfl ?_
        refine z_if_ne 45 43 dX10_readsMonth_40 rfl rfl (fun hc => ?_) (fun hc => ?_)
        · replace hq := z_in hq hc
          refine z_aload_n 46 dX10_readsMonth_45 rfl rfl ?_
          refine z_bipush 48 dX10_readsMonth_46 rfl (by decide) (by decide) ?_
          obtain ⟨a6, m6, h6, hq⟩ := bnd2_some hq
          refine z_callV1 (as := [zi 32]) (S := []) 51 dX10_readsMonth_48 rfl (Q_qM_reads  h6) kX10_reads ⟨_, _, rfl⟩ ar_142 l_RX10_240 rfl rfl rfl rfl rfl rfl rfl ?_
          refine z_if_eq 62 54 dX10_readsMonth_51 rfl rfl (fun hc => ?_) (fun hc => ?_)
          · replace hq := z_ip hq hc
            refine z_iconst 63 dX10_readsMonth_62 rfl (by decide) ?_
            refine z_goto 67 dX10_readsMonth_63 rfl ?_
            cases hq
            exact z_zreturn rfl dX10_readsMonth_67 (by decide)
          · replace hq := z_in hq hc
            refine z_aload_n 55 dX10_readsMonth_54 rfl rfl ?_
            refine z_iconst 56 dX10_readsMonth_55 rfl (by decide) ?_
            obtain ⟨a7, m7, h7, hq⟩ := bnd2_some hq
            refine z_callV1 (as := [zi 0]) (S := []) 59 dX10_readsMonth_56 rfl (Q_qM_readsNumber  h7) kX10_readsNumber ⟨_, _, rfl⟩ ar_142 l_RX10_243 rfl rfl rfl rfl rfl rfl rfl ?_
            refine z_if_eq 66 62 dX10_readsMonth_59 rfl rfl (fun hc => ?_) (fun hc => ?_)
            · replace hq := z_ip hq hc
              refine z_iconst 67 dX10_readsMonth_66 rfl (by decide) ?_
              cases hq
              exact z_zreturn rfl dX10_readsMonth_67 (by decide)
            · replace hq := z_in hq hc
              refine z_iconst 63 dX10_readsMonth_62 rfl (by decide) ?_
              refine z_goto 67 dX10_readsMonth_63 rfl ?_
              cases hq
              exact z_zreturn rfl dX10_readsMonth_67 (by decide)
        · replace hq := z_ip hq hc
          refine z_iconst 44 dX10_readsMonth_43 rfl (by decide) ?_
          cases hq
          exact z_zreturn rfl dX10_readsMonth_44 (by decide)
set_option maxRecDepth 100000 in
set_option maxHeartbeats 4000000 in
theorem Q_qM_readsCommand {g : yG} {a : Nat → Nat} {μ : zM}  {r : Int} {ν : zM}  (hq : qM_readsCommand μ = some (r, ν)) : zC g a mX10_readsCommand 4 0 0 [zr 142] μ (.inl (some (zi r))) ν := by
  unfold qM_readsCommand at hq
  refine z_of (L := [some (zr 142)]) pl_RX10 rfl (zc_of rfl) rfl rfl ?_
  refine z_aload_n 1 dX10_readsCommand_0 rfl rfl ?_
  refine z_aload_n 2 dX10_readsCommand_1 rfl rfl ?_
  obtain ⟨a1, h1, hq⟩ := z_b hq
  refine z_callV1 (as := []) (S := [zr 142]) 5 dX10_readsCommand_2 rfl (Q_qM_nextChar  h1) kX10_nextChar ⟨_, _, rfl⟩ ar_142 l_RX10_234 rfl rfl rfl rfl rfl rfl rfl ?_
  obtain ⟨m2, em2, hq⟩ := z_m hq
  refine z_putI 8 dX10_readsCommand_5 rfl p_RX10_246 ar_142 em2 ?_
  refine z_aload_n 9 dX10_readsCommand_8 rfl rfl ?_
  refine z_bipush 11 dX10_readsCommand_9 rfl (by decide) (by decide) ?_
  obtain ⟨a3, m3, h3, hq⟩ := bnd2_some hq
  refine z_callV1 (as := [zi 102]) (S := []) 14 dX10_readsCommand_11 rfl (Q_qM_reads  h3) kX10_reads ⟨_, _, rfl⟩ ar_142 l_RX10_240 rfl rfl rfl rfl rfl rfl rfl ?_
  refine z_if_eq 84 17 dX10_readsCommand_14 rfl rfl (fun hc => ?_) (fun hc => ?_)
  · replace hq := z_ip hq hc
    refine z_aload_n 85 dX10_readsCommand_84 rfl rfl ?_
    refine z_bipush 87 dX10_readsCommand_85 rfl (by decide) (by decide) ?_
    obtain ⟨a4, m4, h4, hq⟩ := bnd2_some hq
    refine z_callV1 (as := [zi 116]) (S := []) 90 dX10_readsCommand_87 rfl (Q_qM_reads  h4) kX10_reads ⟨_, _, rfl⟩ ar_142 l_RX10_240 rfl rfl rfl rfl rfl rfl rfl ?_
    refine z_if_eq 98 93 dX10_readsCommand_90 rfl rfl (fun hc => ?_) (fun hc => ?_)
    · replace hq := z_ip hq hc
      refine z_aload_n 99 dX10_readsCommand_98 rfl rfl ?_
      refine z_bipush 101 dX10_readsCommand_99 rfl (by decide) (by decide) ?_
      obtain ⟨a5, m5, h5, hq⟩ := bnd2_some hq
      refine z_callV1 (as := [zi 105]) (S := []) 104 dX10_readsCommand_101 rfl (Q_qM_reads  h5) kX10_reads ⟨_, _, rfl⟩ ar_142 l_RX10_240 rfl rfl rfl rfl rfl rfl rfl ?_
      refine z_if_eq 156 107 dX10_readsCommand_104 rfl rfl (fun hc => ?_) (fun hc => ?_)
      · replace hq := z_ip hq hc
        refine z_aload_n 157 dX10_readsCommand_156 rfl rfl ?_
        refine z_bipush 159 dX10_readsCommand_157 rfl (by decide) (by decide) ?_
        obtain ⟨a6, m6, h6, hq⟩ := bnd2_some hq
        refine z_callV1 (as := [zi 111]) (S := []) 162 dX10_readsCommand_159 rfl (Q_qM_reads  h6) kX10_reads ⟨_, _, rfl⟩ ar_142 l_RX10_240 rfl rfl rfl rfl rfl rfl rfl ?_
        refine z_if_eq 206 165 dX10_readsCommand_162 rfl rfl (fun hc => ?_) (fun hc => ?_)
        · replace hq := z_ip hq hc
          refine z_aload_n 207 dX10_readsCommand_206 rfl rfl ?_
          refine z_bipush 209 dX10_readsCommand_207 rfl (by decide) (by decide) ?_
          obtain ⟨a7, m7, h7, hq⟩ := bnd2_some hq
          refine z_callV1 (as := [zi 114]) (S := []) 212 dX10_readsCommand_209 rfl (Q_qM_reads  h7) kX10_reads ⟨_, _, rfl⟩ ar_142 l_RX10_240 rfl rfl rfl rfl rfl rfl rfl ?_
          refine z_if_eq 282 215 dX10_readsCommand_212 rfl rfl (fun hc => ?_) (fun hc => ?_)
          · replace hq := z_ip hq hc
            refine z_aload_n 283 dX10_readsCommand_282 rfl rfl ?_
            refine z_bipush 285 dX10_readsCommand_283 rfl (by decide) (by decide) ?_
            obtain ⟨a8, m8, h8, hq⟩ := bnd2_some hq
            refine z_callV1 (as := [zi 103]) (S := []) 288 dX10_readsCommand_285 rfl (Q_qM_reads  h8) kX10_reads ⟨_, _, rfl⟩ ar_142 l_RX10_240 rfl rfl rfl rfl rfl rfl rfl ?_
            refine z_if_eq 358 291 dX10_readsCommand_288 rfl rfl (fun hc => ?_) (fun hc => ?_)
            · replace hq := z_ip hq hc
              refine z_aload_n 359 dX10_readsCommand_358 rfl rfl ?_
              refine z_bipush 361 dX10_readsCommand_359 rfl (by decide) (by decide) ?_
              obtain ⟨a9, m9, h9, hq⟩ := bnd2_some hq
              refine z_callV1 (as := [zi 115]) (S := []) 364 dX10_readsCommand_361 rfl (Q_qM_reads  h9) kX10_reads ⟨_, _, rfl⟩ ar_142 l_RX10_240 rfl rfl rfl rfl rfl rfl rfl ?_
              refine z_if_eq 418 367 dX10_readsCommand_364 rfl rfl (fun hc => ?_) (fun hc => ?_)
              · replace hq := z_ip hq hc
                refine z_aload_n 419 dX10_readsCommand_418 rfl rfl ?_
                refine z_bipush 421 dX10_readsCommand_419 rfl (by decide) (by decide) ?_
                obtain ⟨a10, m10, h10, hq⟩ := bnd2_some hq
                refine z_callV1 (as := [zi 109]) (S := []) 424 dX10_readsCommand_421 rfl (Q_qM_reads  h10) kX10_reads ⟨_, _, rfl⟩ ar_142 l_RX10_240 rfl rfl rfl rfl rfl rfl rfl ?_
                refine z_if_eq 438 427 dX10_readsCommand_424 rfl rfl (fun hc => ?_) (fun hc => ?_)
                · replace hq := z_ip hq hc
                  refine z_iconst 439 dX10_readsCommand_438 rfl (by decide) ?_
                  cases hq
                  exact z_zreturn rfl dX10_readsCommand_439 (by decide)
                · replace hq := z_in hq hc
                  refine z_aload_n 428 dX10_readsCommand_427 rfl rfl ?_
                  obtain ⟨a11, m11, h11, hq⟩ := bnd2_some hq
                  refine z_callV1 (as := []) (S := []) 431 dX10_readsCommand_428 rfl (Q_qM_readsMonth  h11) kX10_readsMonth ⟨_, _, rfl⟩ ar_142 l_RX10_252 rfl rfl rfl rfl rfl rfl rfl ?_
                  refine z_if_eq 438 434 dX10_readsCommand_431 rfl rfl (fun hc => ?_) (fun hc => ?_)
                  · replace hq := z_ip hq hc
                    refine z_iconst 439 dX10_readsCommand_438 rfl (by decide) ?_
                    cases hq
                    exact z_zreturn rfl dX10_readsCommand_439 (by decide)
                  · replace hq := z_in hq hc
                    refine z_iconst 435 dX10_readsCommand_434 rfl (by decide) ?_
                    refine z_goto 439 dX10_readsCommand_435 rfl ?_
                    cases hq
                    exact z_zreturn rfl dX10_readsCommand_439 (by decide)
              · replace hq := z_in hq hc
                refine z_aload_n 368 dX10_readsCommand_367 rfl rfl ?_
                refine z_bipush 370 dX10_readsCommand_368 rfl (by decide) (by decide) ?_
                obtain ⟨a12, m12, h12, hq⟩ := bnd2_some hq
                refine z_callV1 (as := [zi 101]) (S := []) 373 dX10_readsCommand_370 rfl (Q_qM_reads  h12) kX10_reads ⟨_, _, rfl⟩ ar_142 l_RX10_240 rfl rfl rfl rfl rfl rfl rfl ?_
                refine z_if_eq 416 376 dX10_readsCommand_373 rfl rfl (fun hc => ?_) (fun hc => ?_)
                · replace hq := z_ip hq hc
                  refine z_iconst 417 dX10_readsCommand_416 rfl (by decide) ?_
                  cases hq
                  exact z_zreturn rfl dX10_readsCommand_417 (by decide)
                · replace hq := z_in hq hc
                  refine z_aload_n 377 dX10_readsCommand_376 rfl rfl ?_
                  refine z_bipush 379 dX10_readsCommand_377 rfl (by decide) (by decide) ?_
                  obtain ⟨a13, m13, h13, hq⟩ := bnd2_some hq
                  refine z_callV1 (as := [zi 116]) (S := []) 382 dX10_readsCommand_379 rfl (Q_qM_reads  h13) kX10_reads ⟨_, _, rfl⟩ ar_142 l_RX10_240 rfl rfl rfl rfl rfl rfl rfl ?_
                  refine z_if_eq 416 385 dX10_readsCommand_382 rfl rfl (fun hc => ?_) (fun hc => ?_)
                  · replace hq := z_ip hq hc
                    refine z_iconst 417 dX10_readsCommand_416 rfl (by decide) ?_
                    cases hq
                    exact z_zreturn rfl dX10_readsCommand_417 (by decide)
                  · replace hq := z_in hq hc
                    refine z_aload_n 386 dX10_readsCommand_385 rfl rfl ?_
                    refine z_bipush 388 dX10_readsCommand_386 rfl (by decide) (by decide) ?_
                    obtain ⟨a14, m14, h14, hq⟩ := bnd2_some hq
                    refine z_callV1 (as := [zi 116]) (S := []) 391 dX10_readsCommand_388 rfl (Q_qM_reads  h14) kX10_reads ⟨_, _, rfl⟩ ar_142 l_RX10_240 rfl rfl rfl rfl rfl rfl rfl ?_
                    refine z_if_eq 416 394 dX10_readsCommand_391 rfl rfl (fun hc => ?_) (fun hc => ?_)
                    · replace hq := z_ip hq hc
                      refine z_iconst 417 dX10_readsCommand_416 rfl (by decide) ?_
                      cases hq
                      exact z_zreturn rfl dX10_readsCommand_417 (by decide)
                    · replace hq := z_in hq hc
                      refine z_aload_n 395 dX10_readsCommand_394 rfl rfl ?_
                      refine z_bipush 397 dX10_readsCommand_395 rfl (by decide) (by decide) ?_
                      obtain ⟨a15, m15, h15, hq⟩ := bnd2_some hq
                      refine z_callV1 (as := [zi 108]) (S := []) 400 dX10_readsCommand_397 rfl (Q_qM_reads  h15) kX10_reads ⟨_, _, rfl⟩ ar_142 l_RX10_240 rfl rfl rfl rfl rfl rfl rfl ?_
                      refine z_if_eq 416 403 dX10_readsCommand_400 rfl rfl (fun hc => ?_) (fun hc => ?_)
                      · replace hq := z_ip hq hc
                        refine z_iconst 417 dX10_readsCommand_416 rfl (by decide) ?_
                        cases hq
                        exact z_zreturn rfl dX10_readsCommand_417 (by decide)
                      · replace hq := z_in hq hc
                        refine z_aload_n 404 dX10_readsCommand_403 rfl rfl ?_
                        refine z_bipush 406 dX10_readsCommand_404 rfl (by decide) (by decide) ?_
                        obtain ⟨a16, m16, h16, hq⟩ := bnd2_some hq
                        refine z_callV1 (as := [zi 101]) (S := []) 409 dX10_readsCommand_406 rfl (Q_qM_reads  h16) kX10_reads ⟨_, _, rfl⟩ ar_142 l_RX10_240 rfl rfl rfl rfl rfl rfl rfl ?_
                        refine z_if_eq 416 412 dX10_readsCommand_409 rfl rfl (fun hc => ?_) (fun hc => ?_)
                        · replace hq := z_ip hq hc
                          refine z_iconst 417 dX10_readsCommand_416 rfl (by decide) ?_
                          cases hq
                          exact z_zreturn rfl dX10_readsCommand_417 (by decide)
                        · replace hq := z_in hq hc
                          refine z_iconst 413 dX10_readsCommand_412 rfl (by decide) ?_
                          refine z_goto 417 dX10_readsCommand_413 rfl ?_
                          cases hq
                          exact z_zreturn rfl dX10_readsCommand_417 (by decide)
            · replace hq := z_in hq hc
              refine z_aload_n 292 dX10_readsCommand_291 rfl rfl ?_
              refine z_bipush 294 dX10_readsCommand_292 rfl (by decide) (by decide) ?_
              obtain ⟨a17, m17, h17, hq⟩ := bnd2_some hq
              refine z_callV1 (as := [zi 105]) (S := []) 297 dX10_readsCommand_294 rfl (Q_qM_reads  h17) kX10_reads ⟨_, _, rfl⟩ ar_142 l_RX10_240 rfl rfl rfl rfl rfl rfl rfl ?_
              refine z_if_eq 356 300 dX10_readsCommand_297 rfl rfl (fun hc => ?_) (fun hc => ?_)
              · replace hq := z_ip hq hc
                refine z_iconst 357 dX10_readsCommand_356 rfl (by decide) ?_
                cases hq
                exact z_zreturn rfl dX10_readsCommand_357 (by decide)
              · replace hq := z_in hq hc
                refine z_aload_n 301 dX10_readsCommand_300 rfl rfl ?_
                refine z_bipush 303 dX10_readsCommand_301 rfl (by decide) (by decide) ?_
                obtain ⟨a18, m18, h18, hq⟩ := bnd2_some hq
                refine z_callV1 (as := [zi 102]) (S := []) 306 dX10_readsCommand_303 rfl (Q_qM_reads  h18) kX10_reads ⟨_, _, rfl⟩ ar_142 l_RX10_240 rfl rfl rfl rfl rfl rfl rfl ?_
                refine z_if_eq 356 309 dX10_readsCommand_306 rfl rfl (fun hc => ?_) (fun hc => ?_)
                · replace hq := z_ip hq hc
                  refine z_iconst 357 dX10_readsCommand_356 rfl (by decide) ?_
                  cases hq
                  exact z_zreturn rfl dX10_readsCommand_357 (by decide)
                · replace hq := z_in hq hc
                  refine z_aload_n 310 dX10_readsCommand_309 rfl rfl ?_
                  refine z_bipush 312 dX10_readsCommand_310 rfl (by decide) (by decide) ?_
                  obtain ⟨a19, m19, h19, hq⟩ := bnd2_some hq
                  refine z_callV1 (as := [zi 116]) (S := []) 315 dX10_readsCommand_312 rfl (Q_qM_reads  h19) kX10_reads ⟨_, _, rfl⟩ ar_142 l_RX10_240 rfl rfl rfl rfl rfl rfl rfl ?_
                  refine z_if_eq 356 318 dX10_readsCommand_315 rfl rfl (fun hc => ?_) (fun hc => ?_)
                  · replace hq := z_ip hq hc
                    refine z_iconst 357 dX10_readsCommand_356 rfl (by decide) ?_
                    cases hq
                    exact z_zreturn rfl dX10_readsCommand_357 (by decide)
                  · replace hq := z_in hq hc
                    refine z_aload_n 319 dX10_readsCommand_318 rfl rfl ?_
                    refine z_bipush 321 dX10_readsCommand_319 rfl (by decide) (by decide) ?_
                    obtain ⟨a20, m20, h20, hq⟩ := bnd2_some hq
                    refine z_callV1 (as := [zi 32]) (S := []) 324 dX10_readsCommand_321 rfl (Q_qM_reads  h20) kX10_reads ⟨_, _, rfl⟩ ar_142 l_RX10_240 rfl rfl rfl rfl rfl rfl rfl ?_
                    refine z_if_eq 356 327 dX10_readsCommand_324 rfl rfl (fun hc => ?_) (fun hc => ?_)
                    · replace hq := z_ip hq hc
                      refine z_iconst 357 dX10_readsCommand_356 rfl (by decide) ?_
                      cases hq
                      exact z_zreturn rfl dX10_readsCommand_357 (by decide)
                    · replace hq := z_in hq hc
                      refine z_aload_n 328 dX10_readsCommand_327 rfl rfl ?_
                      refine z_iconst 329 dX10_readsCommand_328 rfl (by decide) ?_
                      obtain ⟨a21, m21, h21, hq⟩ := bnd2_some hq
                      refine z_callV1 (as := [zi 0]) (S := []) 332 dX10_readsCommand_329 rfl (Q_qM_readsNumber  h21) kX10_readsNumber ⟨_, _, rfl⟩ ar_142 l_RX10_243 rfl rfl rfl rfl rfl rfl rfl ?_
                      refine z_if_eq 356 335 dX10_readsCommand_332 rfl rfl (fun hc => ?_) (fun hc => ?_)
                      · replace hq := z_ip hq hc
                        refine z_iconst 357 dX10_readsCommand_356 rfl (by decide) ?_
                        cases hq
                        exact z_zreturn rfl dX10_readsCommand_357 (by decide)
                      · replace hq := z_in hq hc
                        refine z_aload_n 336 dX10_readsCommand_335 rfl rfl ?_
                        refine z_bipush 338 dX10_readsCommand_336 rfl (by decide) (by decide) ?_
                        obtain ⟨a22, m22, h22, hq⟩ := bnd2_some hq
                        refine z_callV1 (as := [zi 43]) (S := []) 341 dX10_readsCommand_338 rfl (Q_qM_reads  h22) kX10_reads ⟨_, _, rfl⟩ ar_142 l_RX10_240 rfl rfl rfl rfl rfl rfl rfl ?_
                        refine z_if_eq 356 344 dX10_readsCommand_341 rfl rfl (fun hc => ?_) (fun hc => ?_)
                        · replace hq := z_ip hq hc
                          refine z_iconst 357 dX10_readsCommand_356 rfl (by decide) ?_
                          cases hq
                          exact z_zreturn rfl dX10_readsCommand_357 (by decide)
                        · replace hq := z_in hq hc
                          refine z_aload_n 345 dX10_readsCommand_344 rfl rfl ?_
                          refine z_iconst 346 dX10_readsCommand_345 rfl (by decide) ?_
                          obtain ⟨a23, m23, h23, hq⟩ := bnd2_some hq
                          refine z_callV1 (as := [zi 1]) (S := []) 349 dX10_readsCommand_346 rfl (Q_qM_readsNumber  h23) kX10_readsNumber ⟨_, _, rfl⟩ ar_142 l_RX10_243 rfl rfl rfl rfl rfl rfl rfl ?_
                          refine z_if_eq 356 352 dX10_readsCommand_349 rfl rfl (fun hc => ?_) (fun hc => ?_)
                          · replace hq := z_ip hq hc
                            refine z_iconst 357 dX10_readsCommand_356 rfl (by decide) ?_
                            cases hq
                            exact z_zreturn rfl dX10_readsCommand_357 (by decide)
                          · replace hq := z_in hq hc
                            refine z_iconst 353 dX10_readsCommand_352 rfl (by decide) ?_
                            refine z_goto 357 dX10_readsCommand_353 rfl ?_
                            cases hq
                            exact z_zreturn rfl dX10_readsCommand_357 (by decide)
          · replace hq := z_in hq hc
            refine z_aload_n 216 dX10_readsCommand_215 rfl rfl ?_
            refine z_bipush 218 dX10_readsCommand_216 rfl (by decide) (by decide) ?_
            obtain ⟨a24, m24, h24, hq⟩ := bnd2_some hq
            refine z_callV1 (as := [zi 101]) (S := []) 221 dX10_readsCommand_218 rfl (Q_qM_reads  h24) kX10_reads ⟨_, _, rfl⟩ ar_142 l_RX10_240 rfl rfl rfl rfl rfl rfl rfl ?_
            refine z_if_eq 280 224 dX10_readsCommand_221 rfl rfl (fun hc => ?_) (fun hc => ?_)
            · replace hq := z_ip hq hc
              refine z_iconst 281 dX10_readsCommand_280 rfl (by decide) ?_
              cases hq
              exact z_zreturn rfl dX10_readsCommand_281 (by decide)
            · replace hq := z_in hq hc
              refine z_aload_n 225 dX10_readsCommand_224 rfl rfl ?_
              refine z_bipush 227 dX10_readsCommand_225 rfl (by decide) (by decide) ?_
              obtain ⟨a25, m25, h25, hq⟩ := bnd2_some hq
              refine z_callV1 (as := [zi 110]) (S := []) 230 dX10_readsCommand_227 rfl (Q_qM_reads  h25) kX10_reads ⟨_, _, rfl⟩ ar_142 l_RX10_240 rfl rfl rfl rfl rfl rfl rfl ?_
              refine z_if_eq 280 233 dX10_readsCommand_230 rfl rfl (fun hc => ?_) (fun hc => ?_)
              · replace hq := z_ip hq hc
                refine z_iconst 281 dX10_readsCommand_280 rfl (by decide) ?_
                cases hq
                exact z_zreturn rfl dX10_readsCommand_281 (by decide)
              · replace hq := z_in hq hc
                refine z_aload_n 234 dX10_readsCommand_233 rfl rfl ?_
                refine z_bipush 236 dX10_readsCommand_234 rfl (by decide) (by decide) ?_
                obtain ⟨a26, m26, h26, hq⟩ := bnd2_some hq
                refine z_callV1 (as := [zi 116]) (S := []) 239 dX10_readsCommand_236 rfl (Q_qM_reads  h26) kX10_reads ⟨_, _, rfl⟩ ar_142 l_RX10_240 rfl rfl rfl rfl rfl rfl rfl ?_
                refine z_if_eq 280 242 dX10_readsCommand_239 rfl rfl (fun hc => ?_) (fun hc => ?_)
                · replace hq := z_ip hq hc
                  refine z_iconst 281 dX10_readsCommand_280 rfl (by decide) ?_
                  cases hq
                  exact z_zreturn rfl dX10_readsCommand_281 (by decide)
                · replace hq := z_in hq hc
                  refine z_aload_n 243 dX10_readsCommand_242 rfl rfl ?_
                  refine z_bipush 245 dX10_readsCommand_243 rfl (by decide) (by decide) ?_
                  obtain ⟨a27, m27, h27, hq⟩ := bnd2_some hq
                  refine z_callV1 (as := [zi 32]) (S := []) 248 dX10_readsCommand_245 rfl (Q_qM_reads  h27) kX10_reads ⟨_, _, rfl⟩ ar_142 l_RX10_240 rfl rfl rfl rfl rfl rfl rfl ?_
                  refine z_if_eq 280 251 dX10_readsCommand_248 rfl rfl (fun hc => ?_) (fun hc => ?_)
                  · replace hq := z_ip hq hc
                    refine z_iconst 281 dX10_readsCommand_280 rfl (by decide) ?_
                    cases hq
                    exact z_zreturn rfl dX10_readsCommand_281 (by decide)
                  · replace hq := z_in hq hc
                    refine z_aload_n 252 dX10_readsCommand_251 rfl rfl ?_
                    refine z_iconst 253 dX10_readsCommand_252 rfl (by decide) ?_
                    obtain ⟨a28, m28, h28, hq⟩ := bnd2_some hq
                    refine z_callV1 (as := [zi 0]) (S := []) 256 dX10_readsCommand_253 rfl (Q_qM_readsDigit  h28) kX10_readsDigit ⟨_, _, rfl⟩ ar_142 l_RX10_237 rfl rfl rfl rfl rfl rfl rfl ?_
                    refine z_if_eq 280 259 dX10_readsCommand_256 rfl rfl (fun hc => ?_) (fun hc => ?_)
                    · replace hq := z_ip hq hc
                      refine z_iconst 281 dX10_readsCommand_280 rfl (by decide) ?_
                      cases hq
                      exact z_zreturn rfl dX10_readsCommand_281 (by decide)
                    · replace hq := z_in hq hc
                      refine z_aload_n 260 dX10_readsCommand_259 rfl rfl ?_
                      refine z_bipush 262 dX10_readsCommand_260 rfl (by decide) (by decide) ?_
                      obtain ⟨a29, m29, h29, hq⟩ := bnd2_some hq
                      refine z_callV1 (as := [zi 61]) (S := []) 265 dX10_readsCommand_262 rfl (Q_qM_reads  h29) kX10_reads ⟨_, _, rfl⟩ ar_142 l_RX10_240 rfl rfl rfl rfl rfl rfl rfl ?_
                      refine z_if_eq 280 268 dX10_readsCommand_265 rfl rfl (fun hc => ?_) (fun hc => ?_)
                      · replace hq := z_ip hq hc
                        refine z_iconst 281 dX10_readsCommand_280 rfl (by decide) ?_
                        cases hq
                        exact z_zreturn rfl dX10_readsCommand_281 (by decide)
                      · replace hq := z_in hq hc
                        refine z_aload_n 269 dX10_readsCommand_268 rfl rfl ?_
                        refine z_iconst 270 dX10_readsCommand_269 rfl (by decide) ?_
                        obtain ⟨a30, m30, h30, hq⟩ := bnd2_some hq
                        refine z_callV1 (as := [zi 1]) (S := []) 273 dX10_readsCommand_270 rfl (Q_qM_readsNumber  h30) kX10_readsNumber ⟨_, _, rfl⟩ ar_142 l_RX10_243 rfl rfl rfl rfl rfl rfl rfl ?_
                        refine z_if_eq 280 276 dX10_readsCommand_273 rfl rfl (fun hc => ?_) (fun hc => ?_)
                        · replace hq := z_ip hq hc
                          refine z_iconst 281 dX10_readsCommand_280 rfl (by decide) ?_
                          cases hq
                          exact z_zreturn rfl dX10_readsCommand_281 (by decide)
                        · replace hq := z_in hq hc
                          refine z_iconst 277 dX10_readsCommand_276 rfl (by decide) ?_
                          refine z_goto 281 dX10_readsCommand_277 rfl ?_
                          cases hq
                          exact z_zreturn rfl dX10_readsCommand_281 (by decide)
        · replace hq := z_in hq hc
          refine z_aload_n 166 dX10_readsCommand_165 rfl rfl ?_
          refine z_bipush 168 dX10_readsCommand_166 rfl (by decide) (by decide) ?_
          obtain ⟨a31, m31, h31, hq⟩ := bnd2_some hq
          refine z_callV1 (as := [zi 117]) (S := []) 171 dX10_readsCommand_168 rfl (Q_qM_reads  h31) kX10_reads ⟨_, _, rfl⟩ ar_142 l_RX10_240 rfl rfl rfl rfl rfl rfl rfl ?_
          refine z_if_eq 204 174 dX10_readsCommand_171 rfl rfl (fun hc => ?_) (fun hc => ?_)
          · replace hq := z_ip hq hc
            refine z_iconst 205 dX10_readsCommand_204 rfl (by decide) ?_
            cases hq
            exact z_zreturn rfl dX10_readsCommand_205 (by decide)
          · replace hq := z_in hq hc
            refine z_aload_n 175 dX10_readsCommand_174 rfl rfl ?_
            refine z_bipush 177 dX10_readsCommand_175 rfl (by decide) (by decide) ?_
            obtain ⟨a32, m32, h32, hq⟩ := bnd2_some hq
            refine z_callV1 (as := [zi 116]) (S := []) 180 dX10_readsCommand_177 rfl (Q_qM_reads  h32) kX10_reads ⟨_, _, rfl⟩ ar_142 l_RX10_240 rfl rfl rfl rfl rfl rfl rfl ?_
            refine z_if_eq 204 183 dX10_readsCommand_180 rfl rfl (fun hc => ?_) (fun hc => ?_)
            · replace hq := z_ip hq hc
              refine z_iconst 205 dX10_readsCommand_204 rfl (by decide) ?_
              cases hq
              exact z_zreturn rfl dX10_readsCommand_205 (by decide)
            · replace hq := z_in hq hc
              refine z_aload_n 184 dX10_readsCommand_183 rfl rfl ?_
              refine z_bipush 186 dX10_readsCommand_184 rfl (by decide) (by decide) ?_
              obtain ⟨a33, m33, h33, hq⟩ := bnd2_some hq
              refine z_callV1 (as := [zi 32]) (S := []) 189 dX10_readsCommand_186 rfl (Q_qM_reads  h33) kX10_reads ⟨_, _, rfl⟩ ar_142 l_RX10_240 rfl rfl rfl rfl rfl rfl rfl ?_
              refine z_if_eq 204 192 dX10_readsCommand_189 rfl rfl (fun hc => ?_) (fun hc => ?_)
              · replace hq := z_ip hq hc
                refine z_iconst 205 dX10_readsCommand_204 rfl (by decide) ?_
                cases hq
                exact z_zreturn rfl dX10_readsCommand_205 (by decide)
              · replace hq := z_in hq hc
                refine z_aload_n 193 dX10_readsCommand_192 rfl rfl ?_
                refine z_iconst 194 dX10_readsCommand_193 rfl (by decide) ?_
                obtain ⟨a34, m34, h34, hq⟩ := bnd2_some hq
                refine z_callV1 (as := [zi 0]) (S := []) 197 dX10_readsCommand_194 rfl (Q_qM_readsNumber  h34) kX10_readsNumber ⟨_, _, rfl⟩ ar_142 l_RX10_243 rfl rfl rfl rfl rfl rfl rfl ?_
                refine z_if_eq 204 200 dX10_readsCommand_197 rfl rfl (fun hc => ?_) (fun hc => ?_)
                · replace hq := z_ip hq hc
                  refine z_iconst 205 dX10_readsCommand_204 rfl (by decide) ?_
                  cases hq
                  exact z_zreturn rfl dX10_readsCommand_205 (by decide)
                · replace hq := z_in hq hc
                  refine z_iconst 201 dX10_readsCommand_200 rfl (by decide) ?_
                  refine z_goto 205 dX10_readsCommand_201 rfl ?_
                  cases hq
                  exact z_zreturn rfl dX10_readsCommand_205 (by decide)
      · replace hq := z_in hq hc
        refine z_aload_n 108 dX10_readsCommand_107 rfl rfl ?_
        refine z_bipush 110 dX10_readsCommand_108 rfl (by decide) (by decide) ?_
        obtain ⟨a35, m35, h35, hq⟩ := bnd2_some hq
        refine z_callV1 (as := [zi 110]) (S := []) 113 dX10_readsCommand_110 rfl (Q_qM_reads  h35) kX10_reads ⟨_, _, rfl⟩ ar_142 l_RX10_240 rfl rfl rfl rfl rfl rfl rfl ?_
        refine z_if_eq 154 116 dX10_readsCommand_113 rfl rfl (fun hc => ?_) (fun hc => ?_)
        · replace hq := z_ip hq hc
          refine z_iconst 155 dX10_readsCommand_154 rfl (by decide) ?_
          cases hq
          exact z_zreturn rfl dX10_readsCommand_155 (by decide)
        · replace hq := z_in hq hc
          refine z_aload_n 117 dX10_readsCommand_116 rfl rfl ?_
          refine z_bipush 119 dX10_readsCommand_117 rfl (by decide) (by decide) ?_
          obtain ⟨a36, m36, h36, hq⟩ := bnd2_some hq
          refine z_callV1 (as := [zi 32]) (S := []) 122 dX10_readsCommand_119 rfl (Q_qM_reads  h36) kX10_reads ⟨_, _, rfl⟩ ar_142 l_RX10_240 rfl rfl rfl rfl rfl rfl rfl ?_
          refine z_if_eq 154 125 dX10_readsCommand_122 rfl rfl (fun hc => ?_) (fun hc => ?_)
          · replace hq := z_ip hq hc
            refine z_iconst 155 dX10_readsCommand_154 rfl (by decide) ?_
            cases hq
            exact z_zreturn rfl dX10_readsCommand_155 (by decide)
          · replace hq := z_in hq hc
            refine z_aload_n 126 dX10_readsCommand_125 rfl rfl ?_
            refine z_iconst 127 dX10_readsCommand_126 rfl (by decide) ?_
            obtain ⟨a37, m37, h37, hq⟩ := bnd2_some hq
            refine z_callV1 (as := [zi 0]) (S := []) 130 dX10_readsCommand_127 rfl (Q_qM_readsNumber  h37) kX10_readsNumber ⟨_, _, rfl⟩ ar_142 l_RX10_243 rfl rfl rfl rfl rfl rfl rfl ?_
            refine z_if_eq 154 133 dX10_readsCommand_130 rfl rfl (fun hc => ?_) (fun hc => ?_)
            · replace hq := z_ip hq hc
              refine z_iconst 155 dX10_readsCommand_154 rfl (by decide) ?_
              cases hq
              exact z_zreturn rfl dX10_readsCommand_155 (by decide)
            · replace hq := z_in hq hc
              refine z_aload_n 134 dX10_readsCommand_133 rfl rfl ?_
              refine z_bipush 136 dX10_readsCommand_134 rfl (by decide) (by decide) ?_
              obtain ⟨a38, m38, h38, hq⟩ := bnd2_some hq
              refine z_callV1 (as := [zi 62]) (S := []) 139 dX10_readsCommand_136 rfl (Q_qM_reads  h38) kX10_reads ⟨_, _, rfl⟩ ar_142 l_RX10_240 rfl rfl rfl rfl rfl rfl rfl ?_
              refine z_if_eq 154 142 dX10_readsCommand_139 rfl rfl (fun hc => ?_) (fun hc => ?_)
              · replace hq := z_ip hq hc
                refine z_iconst 155 dX10_readsCommand_154 rfl (by decide) ?_
                cases hq
                exact z_zreturn rfl dX10_readsCommand_155 (by decide)
              · replace hq := z_in hq hc
                refine z_aload_n 143 dX10_readsCommand_142 rfl rfl ?_
                refine z_iconst 144 dX10_readsCommand_143 rfl (by decide) ?_
                obtain ⟨a39, m39, h39, hq⟩ := bnd2_some hq
                refine z_callV1 (as := [zi 1]) (S := []) 147 dX10_readsCommand_144 rfl (Q_qM_readsDigit  h39) kX10_readsDigit ⟨_, _, rfl⟩ ar_142 l_RX10_237 rfl rfl rfl rfl rfl rfl rfl ?_
                refine z_if_eq 154 150 dX10_readsCommand_147 rfl rfl (fun hc => ?_) (fun hc => ?_)
                · replace hq := z_ip hq hc
                  refine z_iconst 155 dX10_readsCommand_154 rfl (by decide) ?_
                  cases hq
                  exact z_zreturn rfl dX10_readsCommand_155 (by decide)
                · replace hq := z_in hq hc
                  refine z_iconst 151 dX10_readsCommand_150 rfl (by decide) ?_
                  refine z_goto 155 dX10_readsCommand_151 rfl ?_
                  cases hq
                  exact z_zreturn rfl dX10_readsCommand_155 (by decide)
    · replace hq := z_in hq hc
      refine z_aload_n 94 dX10_readsCommand_93 rfl rfl ?_
      obtain ⟨a40, m40, h40, hq⟩ := bnd2_some hq
      refine z_callV1 (as := []) (S := []) 97 dX10_readsCommand_94 rfl (Q_qM_readsTenant  h40) kX10_readsTenant ⟨_, _, rfl⟩ ar_142 l_RX10_249 rfl rfl rfl rfl rfl rfl rfl ?_
      obtain ⟨hgr, hq⟩ := z_g hq
      cases hq
      exact z_zreturn rfl dX10_readsCommand_97 hgr
  · replace hq := z_in hq hc
    refine z_aload_n 18 dX10_readsCommand_17 rfl rfl ?_
    refine z_bipush 20 dX10_readsCommand_18 rfl (by decide) (by decide) ?_
    obtain ⟨a41, m41, h41, hq⟩ := bnd2_some hq
    refine z_callV1 (as := [zi 108]) (S := []) 23 dX10_readsCommand_20 rfl (Q_qM_reads  h41) kX10_reads ⟨_, _, rfl⟩ ar_142 l_RX10_240 rfl rfl rfl rfl rfl rfl rfl ?_
    refine z_if_eq 82 26 dX10_readsCommand_23 rfl rfl (fun hc => ?_) (fun hc => ?_)
    · replace hq := z_ip hq hc
      refine z_iconst 83 dX10_readsCommand_82 rfl (by decide) ?_
      cases hq
      exact z_zreturn rfl dX10_readsCommand_83 (by decide)
    · replace hq := z_in hq hc
      refine z_aload_n 27 dX10_readsCommand_26 rfl rfl ?_
      refine z_bipush 29 dX10_readsCommand_27 rfl (by decide) (by decide) ?_
      obtain ⟨a42, m42, h42, hq⟩ := bnd2_some hq
      refine z_callV1 (as := [zi 97]) (S := []) 32 dX10_readsCommand_29 rfl (Q_qM_reads  h42) kX10_reads ⟨_, _, rfl⟩ ar_142 l_RX10_240 rfl rfl rfl rfl rfl rfl rfl ?_
      refine z_if_eq 82 35 dX10_readsCommand_32 rfl rfl (fun hc => ?_) (fun hc => ?_)
      · replace hq := z_ip hq hc
        refine z_iconst 83 dX10_readsCommand_82 rfl (by decide) ?_
        cases hq
        exact z_zreturn rfl dX10_readsCommand_83 (by decide)
      · replace hq := z_in hq hc
        refine z_aload_n 36 dX10_readsCommand_35 rfl rfl ?_
        refine z_bipush 38 dX10_readsCommand_36 rfl (by decide) (by decide) ?_
        obtain ⟨a43, m43, h43, hq⟩ := bnd2_some hq
        refine z_callV1 (as := [zi 116]) (S := []) 41 dX10_readsCommand_38 rfl (Q_qM_reads  h43) kX10_reads ⟨_, _, rfl⟩ ar_142 l_RX10_240 rfl rfl rfl rfl rfl rfl rfl ?_
        refine z_if_eq 82 44 dX10_readsCommand_41 rfl rfl (fun hc => ?_) (fun hc => ?_)
        · replace hq := z_ip hq hc
          refine z_iconst 83 dX10_readsCommand_82 rfl (by decide) ?_
          cases hq
          exact z_zreturn rfl dX10_readsCommand_83 (by decide)
        · replace hq := z_in hq hc
          refine z_aload_n 45 dX10_readsCommand_44 rfl rfl ?_
          refine z_bipush 47 dX10_readsCommand_45 rfl (by decide) (by decide) ?_
          obtain ⟨a44, m44, h44, hq⟩ := bnd2_some hq
          refine z_callV1 (as := [zi 32]) (S := []) 50 dX10_readsCommand_47 rfl (Q_qM_reads  h44) kX10_reads ⟨_, _, rfl⟩ ar_142 l_RX10_240 rfl rfl rfl rfl rfl rfl rfl ?_
          refine z_if_eq 82 53 dX10_readsCommand_50 rfl rfl (fun hc => ?_) (fun hc => ?_)
          · replace hq := z_ip hq hc
            refine z_iconst 83 dX10_readsCommand_82 rfl (by decide) ?_
            cases hq
            exact z_zreturn rfl dX10_readsCommand_83 (by decide)
          · replace hq := z_in hq hc
            refine z_aload_n 54 dX10_readsCommand_53 rfl rfl ?_
            refine z_iconst 55 dX10_readsCommand_54 rfl (by decide) ?_
            obtain ⟨a45, m45, h45, hq⟩ := bnd2_some hq
            refine z_callV1 (as := [zi 0]) (S := []) 58 dX10_readsCommand_55 rfl (Q_qM_readsDigit  h45) kX10_readsDigit ⟨_, _, rfl⟩ ar_142 l_RX10_237 rfl rfl rfl rfl rfl rfl rfl ?_
            refine z_if_eq 82 61 dX10_readsCommand_58 rfl rfl (fun hc => ?_) (fun hc => ?_)
            · replace hq := z_ip hq hc
              refine z_iconst 83 dX10_readsCommand_82 rfl (by decide) ?_
              cases hq
              exact z_zreturn rfl dX10_readsCommand_83 (by decide)
            · replace hq := z_in hq hc
              refine z_aload_n 62 dX10_readsCommand_61 rfl rfl ?_
              refine z_bipush 64 dX10_readsCommand_62 rfl (by decide) (by decide) ?_
              obtain ⟨a46, m46, h46, hq⟩ := bnd2_some hq
              refine z_callV1 (as := [zi 61]) (S := []) 67 dX10_readsCommand_64 rfl (Q_qM_reads  h46) kX10_reads ⟨_, _, rfl⟩ ar_142 l_RX10_240 rfl rfl rfl rfl rfl rfl rfl ?_
              refine z_if_eq 82 70 dX10_readsCommand_67 rfl rfl (fun hc => ?_) (fun hc => ?_)
              · replace hq := z_ip hq hc
                refine z_iconst 83 dX10_readsCommand_82 rfl (by decide) ?_
                cases hq
                exact z_zreturn rfl dX10_readsCommand_83 (by decide)
              · replace hq := z_in hq hc
                refine z_aload_n 71 dX10_readsCommand_70 rfl rfl ?_
                refine z_iconst 72 dX10_readsCommand_71 rfl (by decide) ?_
                obtain ⟨a47, m47, h47, hq⟩ := bnd2_some hq
                refine z_callV1 (as := [zi 1]) (S := []) 75 dX10_readsCommand_72 rfl (Q_qM_readsNumber  h47) kX10_readsNumber ⟨_, _, rfl⟩ ar_142 l_RX10_243 rfl rfl rfl rfl rfl rfl rfl ?_
                refine z_if_eq 82 78 dX10_readsCommand_75 rfl rfl (fun hc => ?_) (fun hc => ?_)
                · replace hq := z_ip hq hc
                  refine z_iconst 83 dX10_readsCommand_82 rfl (by decide) ?_
                  cases hq
                  exact z_zreturn rfl dX10_readsCommand_83 (by decide)
                · replace hq := z_in hq hc
                  refine z_iconst 79 dX10_readsCommand_78 rfl (by decide) ?_
                  refine z_goto 83 dX10_readsCommand_79 rfl ?_
                  cases hq
                  exact z_zreturn rfl dX10_readsCommand_83 (by decide)
set_option maxRecDepth 100000 in
set_option maxHeartbeats 4000000 in
theorem L_qM_readsAll_l7 {g : yG} {a : Nat → Nat} {ν : zM} {o : zO} {kc ks : Nat}  {R : (Int ⊕ Unit) × zM}   (hr : ∀ (x : Int) (m : zM), R = (.inl x, m) → o = .inl (some (zi x)) ∧ ν = m) (he : ∀ (tz : Unit) (m : zM), R = (.inr tz, m) → Z g a mX10_readsAll 5 kc ks 30 [some (zr 142), none] [] m o ν) : ∀ (n : Nat) (μ : zM) (v1 : Int), qM_readsAll_l7 n μ v1 = some R → Z g a mX10_readsAll 5 kc ks 7 [some (zr 142), some (zi v1)] [] μ o ν := by
  intro n
  induction n with
  | zero => intro μ v1 hq; cases hq
  | succ n ih =>
    intro μ v1 hq
    rw [qM_readsAll_l7] at hq
    refine z_iload_n 8 dX10_readsAll_7 rfl rfl ?_
    refine z_if_eq 30 11 dX10_readsAll_8 rfl rfl (fun hc => ?_) (fun hc => ?_)
    · replace hq := z_ip hq hc
      exact Z.sub (zle_s (zle_n zle_nil)) (he _ _ (Option.some.inj hq).symm)
    · replace hq := z_in hq hc
      refine z_aload_n 12 dX10_readsAll_11 rfl rfl ?_
      obtain ⟨a2, m2, h2, hq⟩ := bnd2_some hq
      refine z_callV1 (as := []) (S := []) 15 dX10_readsAll_12 rfl (Q_qM_readsCommand  h2) kX10_readsCommand ⟨_, _, rfl⟩ ar_142 l_RX10_255 rfl rfl rfl rfl rfl rfl rfl ?_
      refine z_if_ne 20 18 dX10_readsAll_15 rfl rfl (fun hc => ?_) (fun hc => ?_)
      · replace hq := z_in hq hc
        refine z_aload_n 21 dX10_readsAll_20 rfl rfl ?_
        refine z_bipush 23 dX10_readsAll_21 rfl (by decide) (by decide) ?_
        obtain ⟨a3, m3, h3, hq⟩ := bnd2_some hq
        refine z_callV1 (as := [zi 59]) (S := []) 26 dX10_readsAll_23 rfl (Q_qM_reads  h3) kX10_reads ⟨_, _, rfl⟩ ar_142 l_RX10_240 rfl rfl rfl rfl rfl rfl rfl ?_
        refine z_istore_n (L' := [some (zr 142), some (zi a3)]) 27 dX10_readsAll_26 rfl rfl rfl rfl ?_
        refine z_goto 7 dX10_readsAll_27 rfl ?_
        exact Z.sub (zle_s (zle_s zle_nil)) (ih _ _ hq)
      · replace hq := z_ip hq hc
        refine z_iconst 19 dX10_readsAll_18 rfl (by decide) ?_
        obtain ⟨ho, hv⟩ := hr _ _ (Option.some.inj hq).symm
        exact z_conv ho hv (z_zreturn rfl dX10_readsAll_19 (by decide))
set_option maxRecDepth 100000 in
set_option maxHeartbeats 4000000 in
theorem Q_qM_readsAll {g : yG} {a : Nat → Nat} {μ : zM}  {r : Int} {ν : zM}  (hq : qM_readsAll μ = some (r, ν)) : zC g a mX10_readsAll 5 0 0 [zr 142] μ (.inl (some (zi r))) ν := by
  unfold qM_readsAll at hq
  refine z_of (L := [some (zr 142), none]) pl_RX10 rfl (zc_of rfl) rfl rfl ?_
  refine z_aload_n 1 dX10_readsAll_0 rfl rfl ?_
  refine z_iconst 2 dX10_readsAll_1 rfl (by decide) ?_
  obtain ⟨m1, em1, hq⟩ := z_m hq
  refine z_putI 5 dX10_readsAll_2 rfl p_RX10_231 ar_142 em1 ?_
  refine z_iconst 6 dX10_readsAll_5 rfl (by decide) ?_
  refine z_istore_n (L' := [some (zr 142), some (zi 1)]) 7 dX10_readsAll_6 rfl rfl rfl rfl ?_
  rcases bndS2_some hq with ⟨x4, m4, h4, hq⟩ | ⟨t4, m4, h4, hq⟩
  · exact Z.sub (zle_s (zle_s zle_nil)) (L_qM_readsAll_l7  (R := (.inl x4, m4)) (fun _ _ e => by cases e; cases hq; exact ⟨rfl, rfl⟩) (fun _ _ e => by cases e) _ _ _ h4)
  · refine Z.sub (zle_s (zle_s zle_nil)) (L_qM_readsAll_l7  (R := (.inr t4, m4)) (fun _ _ e => by cases e) (fun _ _ e => ?_) _ _ _ h4)
    cases e
    refine z_aload_n 31 dX10_readsAll_30 rfl rfl ?_
    refine z_getI (x := (m4 142 18)) 34 dX10_readsAll_31 rfl f_RX10_231 ar_142 rfl ?_
    refine z_aload_n 35 dX10_readsAll_34 rfl rfl ?_
    refine z_getI (x := (m4 142 17)) 38 dX10_readsAll_35 rfl f_RX10_228 ar_142 rfl ?_
    refine z_icmp_ne 45 41 dX10_readsAll_38 rfl rfl (fun hc => ?_) (fun hc => ?_)
    · replace hq := z_in hq hc
      refine z_iconst 46 dX10_readsAll_45 rfl (by decide) ?_
      cases hq
      exact z_zreturn rfl dX10_readsAll_46 (by decide)
    · replace hq := z_ip hq hc
      refine z_iconst 42 dX10_readsAll_41 rfl (by decide) ?_
      refine z_goto 46 dX10_readsAll_42 rfl ?_
      cases hq
      exact z_zreturn rfl dX10_readsAll_46 (by decide)
set_option maxRecDepth 100000 in
set_option maxHeartbeats 4000000 in
theorem J_qM_notNow_j92 {g : yG} {a : Nat → Nat} {μ : zM} {kc ks : Nat} {v1 : Int} {v2 : Int} {r : Int}   (hq : qM_notNow_j92 μ v1 v2 = some r) : Z g a mX10_notNow 3 kc ks 92 [some (zr 142), some (zi v1), some (zi v2)] [] μ (.inl (some (zi r))) μ := by
  unfold qM_notNow_j92 at hq
  refine z_aload_n 93 dX10_notNow_92 rfl rfl ?_
  refine z_iload_n 94 dX10_notNow_93 rfl rfl ?_
  refine z_iload_n 95 dX10_notNow_94 rfl rfl ?_
  obtain ⟨a1, h1, hq⟩ := z_b hq
  refine z_callV1 (as := [zi v1, zi v2]) (S := []) 98 dX10_notNow_95 rfl (Q_qM_notFlat  h1) kX10_notFlat ⟨_, _, rfl⟩ ar_142 l_RX10_86 rfl rfl rfl rfl rfl rfl rfl ?_
  cases hq
  exact z_ireturn rfl dX10_notNow_98
set_option maxRecDepth 100000 in
set_option maxHeartbeats 4000000 in
theorem J_qM_notNow_j138 {g : yG} {a : Nat → Nat} {μ : zM} {kc ks : Nat} {v1 : Int} {v2 : Int} {r : Int}   (hq : qM_notNow_j138 μ v1 v2 = some r) : Z g a mX10_notNow 3 kc ks 138 [some (zr 142), some (zi v1), some (zi v2)] [] μ (.inl (some (zi r))) μ := by
  unfold qM_notNow_j138 at hq
  refine z_aload_n 139 dX10_notNow_138 rfl rfl ?_
  refine z_iload_n 140 dX10_notNow_139 rfl rfl ?_
  refine z_iload_n 141 dX10_notNow_140 rfl rfl ?_
  obtain ⟨a2, h2, hq⟩ := z_b hq
  refine z_callV1 (as := [zi v1, zi v2]) (S := []) 144 dX10_notNow_141 rfl (Q_qM_notGive  h2) kX10_notGive ⟨_, _, rfl⟩ ar_142 l_RX10_151 rfl rfl rfl rfl rfl rfl rfl ?_
  cases hq
  exact z_ireturn rfl dX10_notNow_144
set_option maxRecDepth 100000 in
set_option maxHeartbeats 4000000 in
theorem J_qM_notNow_j118 {g : yG} {a : Nat → Nat} {μ : zM} {kc ks : Nat} {v1 : Int} {v2 : Int} {r : Int}   (hq : qM_notNow_j118 μ v1 v2 = some r) : Z g a mX10_notNow 3 kc ks 118 [some (zr 142), some (zi v1), some (zi v2)] [] μ (.inl (some (zi r))) μ := by
  unfold qM_notNow_j118 at hq
  refine z_aload_n 119 dX10_notNow_118 rfl rfl ?_
  refine z_iload_n 120 dX10_notNow_119 rfl rfl ?_
  refine z_iload_n 121 dX10_notNow_120 rfl rfl ?_
  obtain ⟨a3, h3, hq⟩ := z_b hq
  refine z_callV1 (as := [zi v1, zi v2]) (S := []) 124 dX10_notNow_121 rfl (Q_qM_notIn  h3) kX10_notIn ⟨_, _, rfl⟩ ar_142 l_RX10_124 rfl rfl rfl rfl rfl rfl rfl ?_
  cases hq
  exact z_ireturn rfl dX10_notNow_124
set_option maxRecDepth 100000 in
set_option maxHeartbeats 4000000 in
theorem J_qM_notNow_j145 {g : yG} {a : Nat → Nat} {μ : zM} {kc ks : Nat} {v1 : Int} {r : Int}   (hq : qM_notNow_j145 μ v1 = some r) : Z g a mX10_notNow 3 kc ks 145 [none, some (zi v1), none] [] μ (.inl (some (zi r))) μ := by
  unfold qM_notNow_j145 at hq
  refine z_iload_n 146 dX10_notNow_145 rfl rfl ?_
  obtain ⟨a4, h4, hq⟩ := z_b hq
  refine z_callS1 (as := [zi v1]) (S := []) 149 dX10_notNow_146 rfl (Q_qM_notPass  h4) kX10_notPass l_RX10_180 rfl rfl rfl rfl rfl rfl rfl ?_
  cases hq
  exact z_ireturn rfl dX10_notNow_149
set_option maxRecDepth 100000 in
set_option maxHeartbeats 4000000 in
theorem J_qM_notNow_j125 {g : yG} {a : Nat → Nat} {μ : zM} {kc ks : Nat} {v1 : Int} {r : Int}   (hq : qM_notNow_j125 μ v1 = some r) : Z g a mX10_notNow 3 kc ks 125 [some (zr 142), some (zi v1), none] [] μ (.inl (some (zi r))) μ := by
  unfold qM_notNow_j125 at hq
  refine z_aload_n 126 dX10_notNow_125 rfl rfl ?_
  refine z_iload_n 127 dX10_notNow_126 rfl rfl ?_
  obtain ⟨a5, h5, hq⟩ := z_b hq
  refine z_callV1 (as := [zi v1]) (S := []) 130 dX10_notNow_127 rfl (Q_qM_notOut  h5) kX10_notOut ⟨_, _, rfl⟩ ar_142 l_RX10_139 rfl rfl rfl rfl rfl rfl rfl ?_
  cases hq
  exact z_ireturn rfl dX10_notNow_130
set_option maxRecDepth 100000 in
set_option maxHeartbeats 4000000 in
theorem J_qM_notNow_j131 {g : yG} {a : Nat → Nat} {μ : zM} {kc ks : Nat} {v1 : Int} {v2 : Int} {r : Int}   (hq : qM_notNow_j131 μ v1 v2 = some r) : Z g a mX10_notNow 3 kc ks 131 [some (zr 142), some (zi v1), some (zi v2)] [] μ (.inl (some (zi r))) μ := by
  unfold qM_notNow_j131 at hq
  refine z_aload_n 132 dX10_notNow_131 rfl rfl ?_
  refine z_iload_n 133 dX10_notNow_132 rfl rfl ?_
  refine z_iload_n 134 dX10_notNow_133 rfl rfl ?_
  obtain ⟨a6, h6, hq⟩ := z_b hq
  refine z_callV1 (as := [zi v1, zi v2]) (S := []) 137 dX10_notNow_134 rfl (Q_qM_notRent  h6) kX10_notRent ⟨_, _, rfl⟩ ar_142 l_RX10_145 rfl rfl rfl rfl rfl rfl rfl ?_
  cases hq
  exact z_ireturn rfl dX10_notNow_137
set_option maxRecDepth 100000 in
set_option maxHeartbeats 4000000 in
theorem J_qM_notNow_j99 {g : yG} {a : Nat → Nat} {μ : zM} {kc ks : Nat} {v1 : Int} {v2 : Int} {r : Int}   (hq : qM_notNow_j99 μ v1 v2 = some r) : Z g a mX10_notNow 3 kc ks 99 [some (zr 142), some (zi v1), some (zi v2)] [] μ (.inl (some (zi r))) μ := by
  unfold qM_notNow_j99 at hq
  refine z_aload_n 100 dX10_notNow_99 rfl rfl ?_
  refine z_iload_n 101 dX10_notNow_100 rfl rfl ?_
  refine z_iload_n 102 dX10_notNow_101 rfl rfl ?_
  refine z_aload_n 103 dX10_notNow_102 rfl rfl ?_
  refine z_getR (e := 13) (r := 155) 106 dX10_notNow_103 rfl f_RX10_54 ar_142 rfl ar_155.1 ?_
  refine z_iconst 107 dX10_notNow_106 rfl (by decide) ?_
  refine z_iaload (x := (μ 155 2)) 108 dX10_notNow_107 rfl ar_155 ⟨by decide, by decide⟩ rfl ?_
  refine z_aload_n 109 dX10_notNow_108 rfl rfl ?_
  refine z_getR (e := 13) (r := 155) 112 dX10_notNow_109 rfl f_RX10_54 ar_142 rfl ar_155.1 ?_
  refine z_iconst 113 dX10_notNow_112 rfl (by decide) ?_
  refine z_iaload (x := (μ 155 3)) 114 dX10_notNow_113 rfl ar_155 ⟨by decide, by decide⟩ rfl ?_
  obtain ⟨a7, h7, hq⟩ := z_b hq
  refine z_callV1 (as := [zi v1, zi v2, zi (μ 155 2), zi (μ 155 3)]) (S := []) 117 dX10_notNow_114 rfl (Q_qM_notTenant  h7) kX10_notTenant ⟨_, _, rfl⟩ ar_142 l_RX10_103 rfl rfl rfl rfl rfl rfl rfl ?_
  cases hq
  exact z_ireturn rfl dX10_notNow_117
set_option maxRecDepth 100000 in
set_option maxHeartbeats 4000000 in
theorem Q_qM_notNow {g : yG} {a : Nat → Nat} {μ : zM}  {r : Int}  (hq : qM_notNow μ = some r) : zC g a mX10_notNow 3 0 0 [zr 142] μ (.inl (some (zi r))) μ := by
  unfold qM_notNow at hq
  refine z_of (L := [some (zr 142), none, none]) pl_RX10 rfl (zc_of rfl) rfl rfl ?_
  refine z_aload_n 1 dX10_notNow_0 rfl rfl ?_
  refine z_getR (e := 13) (r := 155) 4 dX10_notNow_1 rfl f_RX10_54 ar_142 rfl ar_155.1 ?_
  refine z_iconst 5 dX10_notNow_4 rfl (by decide) ?_
  refine z_iaload (x := (μ 155 0)) 6 dX10_notNow_5 rfl ar_155 ⟨by decide, by decide⟩ rfl ?_
  refine z_istore_n (L' := [some (zr 142), some (zi (μ 155 0)), none]) 7 dX10_notNow_6 rfl rfl rfl rfl ?_
  refine z_aload_n 8 dX10_notNow_7 rfl rfl ?_
  refine z_getR (e := 13) (r := 155) 11 dX10_notNow_8 rfl f_RX10_54 ar_142 rfl ar_155.1 ?_
  refine z_iconst 12 dX10_notNow_11 rfl (by decide) ?_
  refine z_iaload (x := (μ 155 1)) 13 dX10_notNow_12 rfl ar_155 ⟨by decide, by decide⟩ rfl ?_
  refine z_istore_n (L' := [some (zr 142), some (zi (μ 155 0)), some (zi (μ 155 1))]) 14 dX10_notNow_13 rfl rfl rfl rfl ?_
  refine z_aload_n 15 dX10_notNow_14 rfl rfl ?_
  refine z_getI (x := (μ 142 22)) 18 dX10_notNow_15 rfl f_RX10_246 ar_142 rfl ?_
  by_cases hs0 : (μ 142 22) = 102
  · replace hq := z_ip hq hs0
    refine z_swIn 92 dX10_notNow_18 hs0 rfl rfl rfl ?_
    exact Z.sub (zle_s (zle_s (zle_s zle_nil))) (J_qM_notNow_j92 hq)
  · replace hq := z_in hq hs0
    by_cases hs1 : (μ 142 22) = 103
    · replace hq := z_ip hq hs1
      refine z_swIn 138 dX10_notNow_18 hs1 rfl rfl rfl ?_
      exact Z.sub (zle_s (zle_s (zle_s zle_nil))) (J_qM_notNow_j138 hq)
    · replace hq := z_in hq hs1
      by_cases hs2 : (μ 142 22) = 104
      · replace hq := z_ip hq hs2
        refine z_swIn 150 dX10_notNow_18 hs2 rfl rfl rfl ?_
        refine z_iconst 151 dX10_notNow_150 rfl (by decide) ?_
        cases hq
        exact z_ireturn rfl dX10_notNow_151
      · replace hq := z_in hq hs2
        by_cases hs3 : (μ 142 22) = 105
        · replace hq := z_ip hq hs3
          refine z_swIn 118 dX10_notNow_18 hs3 rfl rfl rfl ?_
          exact Z.sub (zle_s (zle_s (zle_s zle_nil))) (J_qM_notNow_j118 hq)
        · replace hq := z_in hq hs3
          by_cases hs4 : (μ 142 22) = 106
          · replace hq := z_ip hq hs4
            refine z_swIn 150 dX10_notNow_18 hs4 rfl rfl rfl ?_
            refine z_iconst 151 dX10_notNow_150 rfl (by decide) ?_
            cases hq
            exact z_ireturn rfl dX10_notNow_151
          · replace hq := z_in hq hs4
            by_cases hs5 : (μ 142 22) = 107
            · replace hq := z_ip hq hs5
              refine z_swIn 150 dX10_notNow_18 hs5 rfl rfl rfl ?_
              refine z_iconst 151 dX10_notNow_150 rfl (by decide) ?_
              cases hq
              exact z_ireturn rfl dX10_notNow_151
            · replace hq := z_in hq hs5
              by_cases hs6 : (μ 142 22) = 108
              · replace hq := z_ip hq hs6
                refine z_swIn 150 dX10_notNow_18 hs6 rfl rfl rfl ?_
                refine z_iconst 151 dX10_notNow_150 rfl (by decide) ?_
                cases hq
                exact z_ireturn rfl dX10_notNow_151
              · replace hq := z_in hq hs6
                by_cases hs7 : (μ 142 22) = 109
                · replace hq := z_ip hq hs7
                  refine z_swIn 145 dX10_notNow_18 hs7 rfl rfl rfl ?_
                  exact Z.sub (zle_n (zle_s (zle_n zle_nil))) (J_qM_notNow_j145 hq)
                · replace hq := z_in hq hs7
                  by_cases hs8 : (μ 142 22) = 110
                  · replace hq := z_ip hq hs8
                    refine z_swIn 150 dX10_notNow_18 hs8 rfl rfl rfl ?_
                    refine z_iconst 151 dX10_notNow_150 rfl (by decide) ?_
                    cases hq
                    exact z_ireturn rfl dX10_notNow_151
                  · replace hq := z_in hq hs8
                    by_cases hs9 : (μ 142 22) = 111
                    · replace hq := z_ip hq hs9
                      refine z_swIn 125 dX10_notNow_18 hs9 rfl rfl rfl ?_
                      exact Z.sub (zle_s (zle_s (zle_n zle_nil))) (J_qM_notNow_j125 hq)
                    · replace hq := z_in hq hs9
                      by_cases hs10 : (μ 142 22) = 112
                      · replace hq := z_ip hq hs10
                        refine z_swIn 150 dX10_notNow_18 hs10 rfl rfl rfl ?_
                        refine z_iconst 151 dX10_notNow_150 rfl (by decide) ?_
                        cases hq
                        exact z_ireturn rfl dX10_notNow_151
                      · replace hq := z_in hq hs10
                        by_cases hs11 : (μ 142 22) = 113
                        · replace hq := z_ip hq hs11
                          refine z_swIn 150 dX10_notNow_18 hs11 rfl rfl rfl ?_
                          refine z_iconst 151 dX10_notNow_150 rfl (by decide) ?_
                          cases hq
                          exact z_ireturn rfl dX10_notNow_151
                        · replace hq := z_in hq hs11
                          by_cases hs12 : (μ 142 22) = 114
                          · replace hq := z_ip hq hs12
                            refine z_swIn 131 dX10_notNow_18 hs12 rfl rfl rfl ?_
                            exact Z.sub (zle_s (zle_s (zle_s zle_nil))) (J_qM_notNow_j131 hq)
                          · replace hq := z_in hq hs12
                            by_cases hs13 : (μ 142 22) = 115
                            · replace hq := z_ip hq hs13
                              refine z_swIn 150 dX10_notNow_18 hs13 rfl rfl rfl ?_
                              refine z_iconst 151 dX10_notNow_150 rfl (by decide) ?_
                              cases hq
                              exact z_ireturn rfl dX10_notNow_151
                            · replace hq := z_in hq hs13
                              by_cases hs14 : (μ 142 22) = 116
                              · replace hq := z_ip hq hs14
                                refine z_swIn 99 dX10_notNow_18 hs14 rfl rfl rfl ?_
                                exact Z.sub (zle_s (zle_s (zle_s zle_nil))) (J_qM_notNow_j99 hq)
                              · replace hq := z_in hq hs14
                                refine z_swOut 150 dX10_notNow_18 (by omega) rfl ?_
                                refine z_iconst 151 dX10_notNow_150 rfl (by decide) ?_
                                cases hq
                                exact z_ireturn rfl dX10_notNow_151
set_option maxRecDepth 100000 in
set_option maxHeartbeats 4000000 in
theorem J_qM_doesNow_j92 {g : yG} {a : Nat → Nat} {μ : zM} {kc ks : Nat} {v1 : Int} {v2 : Int} {r : Int} {ν : zM}   (hq : qM_doesNow_j92 μ v1 v2 = some (r, ν)) : Z g a mX10_doesNow 7 kc ks 92 [some (zr 142), some (zi v1), some (zi v2)] [] μ (.inl (some (zi r))) ν := by
  unfold qM_doesNow_j92 at hq
  refine z_aload_n 93 dX10_doesNow_92 rfl rfl ?_
  refine z_iload_n 94 dX10_doesNow_93 rfl rfl ?_
  refine z_iload_n 95 dX10_doesNow_94 rfl rfl ?_
  obtain ⟨a1, m1, h1, hq⟩ := bnd2_some hq
  refine z_callV1 (as := [zi v1, zi v2]) (S := []) 98 dX10_doesNow_95 rfl (Q_qM_addsFlat  h1) kX10_addsFlat ⟨_, _, rfl⟩ ar_142 l_RX10_96 rfl rfl rfl rfl rfl rfl rfl ?_
  cases hq
  exact z_ireturn rfl dX10_doesNow_98
set_option maxRecDepth 100000 in
set_option maxHeartbeats 4000000 in
theorem J_qM_doesNow_j142 {g : yG} {a : Nat → Nat} {μ : zM} {kc ks : Nat} {v1 : Int} {v2 : Int} {r : Int} {ν : zM}   (hq : qM_doesNow_j142 μ v1 v2 = some (r, ν)) : Z g a mX10_doesNow 7 kc ks 142 [some (zr 142), some (zi v1), some (zi v2)] [] μ (.inl (some (zi r))) ν := by
  unfold qM_doesNow_j142 at hq
  refine z_aload_n 143 dX10_doesNow_142 rfl rfl ?_
  refine z_iload_n 144 dX10_doesNow_143 rfl rfl ?_
  refine z_iload_n 145 dX10_doesNow_144 rfl rfl ?_
  obtain ⟨a2, m2, h2, hq⟩ := bnd2_some hq
  refine z_callV1 (as := [zi v1, zi v2]) (S := []) 148 dX10_doesNow_145 rfl (Q_qM_gives  h2) kX10_gives ⟨_, _, rfl⟩ ar_142 l_RX10_154 rfl rfl rfl rfl rfl rfl rfl ?_
  cases hq
  exact z_ireturn rfl dX10_doesNow_148
set_option maxRecDepth 100000 in
set_option maxHeartbeats 4000000 in
theorem J_qM_doesNow_j155 {g : yG} {a : Nat → Nat} {μ : zM} {kc ks : Nat} {r : Int} {ν : zM}   (hq : qM_doesNow_j155 μ = some (r, ν)) : Z g a mX10_doesNow 7 kc ks 155 [some (zr 142), none, none] [] μ (.inl (some (zi r))) ν := by
  unfold qM_doesNow_j155 at hq
  refine z_aload_n 156 dX10_doesNow_155 rfl rfl ?_
  obtain ⟨a3, m3, h3, hq⟩ := bnd2_some hq
  refine z_callV1 (as := []) (S := []) 159 dX10_doesNow_156 rfl (Q_qM_settles  h3) kX10_settles ⟨_, _, rfl⟩ ar_142 l_RX10_173 rfl rfl rfl rfl rfl rfl rfl ?_
  cases hq
  exact z_ireturn rfl dX10_doesNow_159
set_option maxRecDepth 100000 in
set_option maxHeartbeats 4000000 in
theorem J_qM_doesNow_j118 {g : yG} {a : Nat → Nat} {μ : zM} {kc ks : Nat} {v1 : Int} {v2 : Int} {r : Int} {ν : zM}   (hq : qM_doesNow_j118 μ v1 v2 = some (r, ν)) : Z g a mX10_doesNow 7 kc ks 118 [some (zr 142), some (zi v1), some (zi v2)] [] μ (.inl (some (zi r))) ν := by
  unfold qM_doesNow_j118 at hq
  refine z_aload_n 119 dX10_doesNow_118 rfl rfl ?_
  refine z_iload_n 120 dX10_doesNow_119 rfl rfl ?_
  refine z_iload_n 121 dX10_doesNow_120 rfl rfl ?_
  obtain ⟨a4, m4, h4, hq⟩ := bnd2_some hq
  refine z_callV1 (as := [zi v1, zi v2]) (S := []) 124 dX10_doesNow_121 rfl (Q_qM_movesIn  h4) kX10_movesIn ⟨_, _, rfl⟩ ar_142 l_RX10_127 rfl rfl rfl rfl rfl rfl rfl ?_
  cases hq
  exact z_ireturn rfl dX10_doesNow_124
set_option maxRecDepth 100000 in
set_option maxHeartbeats 4000000 in
theorem J_qM_doesNow_j149 {g : yG} {a : Nat → Nat} {μ : zM} {kc ks : Nat} {v1 : Int} {r : Int} {ν : zM}   (hq : qM_doesNow_j149 μ v1 = some (r, ν)) : Z g a mX10_doesNow 7 kc ks 149 [some (zr 142), some (zi v1), none] [] μ (.inl (some (zi r))) ν := by
  unfold qM_doesNow_j149 at hq
  refine z_aload_n 150 dX10_doesNow_149 rfl rfl ?_
  refine z_iload_n 151 dX10_doesNow_150 rfl rfl ?_
  obtain ⟨a5, m5, h5, hq⟩ := bnd2_some hq
  refine z_callV1 (as := [zi v1]) (S := []) 154 dX10_doesNow_151 rfl (Q_qM_passes  h5) kX10_passes ⟨_, _, rfl⟩ ar_142 l_RX10_183 rfl rfl rfl rfl rfl rfl rfl ?_
  cases hq
  exact z_ireturn rfl dX10_doesNow_154
set_option maxRecDepth 100000 in
set_option maxHeartbeats 4000000 in
theorem J_qM_doesNow_j125 {g : yG} {a : Nat → Nat} {μ : zM} {kc ks : Nat} {v1 : Int} {r : Int} {ν : zM}   (hq : qM_doesNow_j125 μ v1 = some (r, ν)) : Z g a mX10_doesNow 7 kc ks 125 [some (zr 142), some (zi v1), none] [] μ (.inl (some (zi r))) ν := by
  unfold qM_doesNow_j125 at hq
  refine z_aload_n 126 dX10_doesNow_125 rfl rfl ?_
  refine z_aload_n 127 dX10_doesNow_126 rfl rfl ?_
  refine z_iload_n 128 dX10_doesNow_127 rfl rfl ?_
  obtain ⟨a6, h6, hq⟩ := z_b hq
  refine z_callV1 (as := [zi v1]) (S := [zr 142]) 131 dX10_doesNow_128 rfl (Q_qM_place  h6) kX10_place ⟨_, _, rfl⟩ ar_142 l_RX10_110 rfl rfl rfl rfl rfl rfl rfl ?_
  obtain ⟨a7, m7, h7, hq⟩ := bnd2_some hq
  refine z_callV1 (as := [zi a6]) (S := []) 134 dX10_doesNow_131 rfl (Q_qM_leaves  h7) kX10_leaves ⟨_, _, rfl⟩ ar_142 l_RX10_142 rfl rfl rfl rfl rfl rfl rfl ?_
  cases hq
  exact z_ireturn rfl dX10_doesNow_134
set_option maxRecDepth 100000 in
set_option maxHeartbeats 4000000 in
theorem J_qM_doesNow_j135 {g : yG} {a : Nat → Nat} {μ : zM} {kc ks : Nat} {v1 : Int} {v2 : Int} {r : Int} {ν : zM}   (hq : qM_doesNow_j135 μ v1 v2 = some (r, ν)) : Z g a mX10_doesNow 7 kc ks 135 [some (zr 142), some (zi v1), some (zi v2)] [] μ (.inl (some (zi r))) ν := by
  unfold qM_doesNow_j135 at hq
  refine z_aload_n 136 dX10_doesNow_135 rfl rfl ?_
  refine z_iload_n 137 dX10_doesNow_136 rfl rfl ?_
  refine z_iload_n 138 dX10_doesNow_137 rfl rfl ?_
  obtain ⟨a8, m8, h8, hq⟩ := bnd2_some hq
  refine z_callV1 (as := [zi v1, zi v2]) (S := []) 141 dX10_doesNow_138 rfl (Q_qM_setsRent  h8) kX10_setsRent ⟨_, _, rfl⟩ ar_142 l_RX10_148 rfl rfl rfl rfl rfl rfl rfl ?_
  cases hq
  exact z_ireturn rfl dX10_doesNow_141
set_option maxRecDepth 100000 in
set_option maxHeartbeats 4000000 in
theorem J_qM_doesNow_j99 {g : yG} {a : Nat → Nat} {μ : zM} {kc ks : Nat} {v1 : Int} {v2 : Int} {r : Int} {ν : zM}   (hq : qM_doesNow_j99 μ v1 v2 = some (r, ν)) : Z g a mX10_doesNow 7 kc ks 99 [some (zr 142), some (zi v1), some (zi v2)] [] μ (.inl (some (zi r))) ν := by
  unfold qM_doesNow_j99 at hq
  refine z_aload_n 100 dX10_doesNow_99 rfl rfl ?_
  refine z_iload_n 101 dX10_doesNow_100 rfl rfl ?_
  refine z_iload_n 102 dX10_doesNow_101 rfl rfl ?_
  refine z_aload_n 103 dX10_doesNow_102 rfl rfl ?_
  refine z_getR (e := 13) (r := 155) 106 dX10_doesNow_103 rfl f_RX10_54 ar_142 rfl ar_155.1 ?_
  refine z_iconst 107 dX10_doesNow_106 rfl (by decide) ?_
  refine z_iaload (x := (μ 155 2)) 108 dX10_doesNow_107 rfl ar_155 ⟨by decide, by decide⟩ rfl ?_
  refine z_aload_n 109 dX10_doesNow_108 rfl rfl ?_
  refine z_getR (e := 13) (r := 155) 112 dX10_doesNow_109 rfl f_RX10_54 ar_142 rfl ar_155.1 ?_
  refine z_iconst 113 dX10_doesNow_112 rfl (by decide) ?_
  refine z_iaload (x := (μ 155 3)) 114 dX10_doesNow_113 rfl ar_155 ⟨by decide, by decide⟩ rfl ?_
  obtain ⟨a9, m9, h9, hq⟩ := bnd2_some hq
  refine z_callV1 (as := [zi v1, zi v2, zi (μ 155 2), zi (μ 155 3)]) (S := []) 117 dX10_doesNow_114 rfl (Q_qM_addsTenant  h9) kX10_addsTenant ⟨_, _, rfl⟩ ar_142 l_RX10_107 rfl rfl rfl rfl rfl rfl rfl ?_
  cases hq
  exact z_ireturn rfl dX10_doesNow_117
set_option maxRecDepth 100000 in
set_option maxHeartbeats 4000000 in
theorem Q_qM_doesNow {g : yG} {a : Nat → Nat} {μ : zM}  {r : Int} {ν : zM}  (hq : qM_doesNow μ = some (r, ν)) : zC g a mX10_doesNow 7 0 0 [zr 142] μ (.inl (some (zi r))) ν := by
  unfold qM_doesNow at hq
  refine z_of (L := [some (zr 142), none, none]) pl_RX10 rfl (zc_of rfl) rfl rfl ?_
  refine z_aload_n 1 dX10_doesNow_0 rfl rfl ?_
  refine z_getR (e := 13) (r := 155) 4 dX10_doesNow_1 rfl f_RX10_54 ar_142 rfl ar_155.1 ?_
  refine z_iconst 5 dX10_doesNow_4 rfl (by decide) ?_
  refine z_iaload (x := (μ 155 0)) 6 dX10_doesNow_5 rfl ar_155 ⟨by decide, by decide⟩ rfl ?_
  refine z_istore_n (L' := [some (zr 142), some (zi (μ 155 0)), none]) 7 dX10_doesNow_6 rfl rfl rfl rfl ?_
  refine z_aload_n 8 dX10_doesNow_7 rfl rfl ?_
  refine z_getR (e := 13) (r := 155) 11 dX10_doesNow_8 rfl f_RX10_54 ar_142 rfl ar_155.1 ?_
  refine z_iconst 12 dX10_doesNow_11 rfl (by decide) ?_
  refine z_iaload (x := (μ 155 1)) 13 dX10_doesNow_12 rfl ar_155 ⟨by decide, by decide⟩ rfl ?_
  refine z_istore_n (L' := [some (zr 142), some (zi (μ 155 0)), some (zi (μ 155 1))]) 14 dX10_doesNow_13 rfl rfl rfl rfl ?_
  refine z_aload_n 15 dX10_doesNow_14 rfl rfl ?_
  refine z_getI (x := (μ 142 22)) 18 dX10_doesNow_15 rfl f_RX10_246 ar_142 rfl ?_
  by_cases hs0 : (μ 142 22) = 102
  · replace hq := z_ip hq hs0
    refine z_swIn 92 dX10_doesNow_18 hs0 rfl rfl rfl ?_
    exact Z.sub (zle_s (zle_s (zle_s zle_nil))) (J_qM_doesNow_j92 hq)
  · replace hq := z_in hq hs0
    by_cases hs1 : (μ 142 22) = 103
    · replace hq := z_ip hq hs1
      refine z_swIn 142 dX10_doesNow_18 hs1 rfl rfl rfl ?_
      exact Z.sub (zle_s (zle_s (zle_s zle_nil))) (J_qM_doesNow_j142 hq)
    · replace hq := z_in hq hs1
      by_cases hs2 : (μ 142 22) = 104
      · replace hq := z_ip hq hs2
        refine z_swIn 155 dX10_doesNow_18 hs2 rfl rfl rfl ?_
        exact Z.sub (zle_s (zle_n (zle_n zle_nil))) (J_qM_doesNow_j155 hq)
      · replace hq := z_in hq hs2
        by_cases hs3 : (μ 142 22) = 105
        · replace hq := z_ip hq hs3
          refine z_swIn 118 dX10_doesNow_18 hs3 rfl rfl rfl ?_
          exact Z.sub (zle_s (zle_s (zle_s zle_nil))) (J_qM_doesNow_j118 hq)
        · replace hq := z_in hq hs3
          by_cases hs4 : (μ 142 22) = 106
          · replace hq := z_ip hq hs4
            refine z_swIn 155 dX10_doesNow_18 hs4 rfl rfl rfl ?_
            exact Z.sub (zle_s (zle_n (zle_n zle_nil))) (J_qM_doesNow_j155 hq)
          · replace hq := z_in hq hs4
            by_cases hs5 : (μ 142 22) = 107
            · replace hq := z_ip hq hs5
              refine z_swIn 155 dX10_doesNow_18 hs5 rfl rfl rfl ?_
              exact Z.sub (zle_s (zle_n (zle_n zle_nil))) (J_qM_doesNow_j155 hq)
            · replace hq := z_in hq hs5
              by_cases hs6 : (μ 142 22) = 108
              · replace hq := z_ip hq hs6
                refine z_swIn 155 dX10_doesNow_18 hs6 rfl rfl rfl ?_
                exact Z.sub (zle_s (zle_n (zle_n zle_nil))) (J_qM_doesNow_j155 hq)
              · replace hq := z_in hq hs6
                by_cases hs7 : (μ 142 22) = 109
                · replace hq := z_ip hq hs7
                  refine z_swIn 149 dX10_doesNow_18 hs7 rfl rfl rfl ?_
                  exact Z.sub (zle_s (zle_s (zle_n zle_nil))) (J_qM_doesNow_j149 hq)
                · replace hq := z_in hq hs7
                  by_cases hs8 : (μ 142 22) = 110
                  · replace hq := z_ip hq hs8
                    refine z_swIn 155 dX10_doesNow_18 hs8 rfl rfl rfl ?_
                    exact Z.sub (zle_s (zle_n (zle_n zle_nil))) (J_qM_doesNow_j155 hq)
                  · replace hq := z_in hq hs8
                    by_cases hs9 : (μ 142 22) = 111
                    · replace hq := z_ip hq hs9
                      refine z_swIn 125 dX10_doesNow_18 hs9 rfl rfl rfl ?_
                      exact Z.sub (zle_s (zle_s (zle_n zle_nil))) (J_qM_doesNow_j125 hq)
                    · replace hq := z_in hq hs9
                      by_cases hs10 : (μ 142 22) = 112
                      · replace hq := z_ip hq hs10
                        refine z_swIn 155 dX10_doesNow_18 hs10 rfl rfl rfl ?_
                        exact Z.sub (zle_s (zle_n (zle_n zle_nil))) (J_qM_doesNow_j155 hq)
                      · replace hq := z_in hq hs10
                        by_cases hs11 : (μ 142 22) = 113
                        · replace hq := z_ip hq hs11
                          refine z_swIn 155 dX10_doesNow_18 hs11 rfl rfl rfl ?_
                          exact Z.sub (zle_s (zle_n (zle_n zle_nil))) (J_qM_doesNow_j155 hq)
                        · replace hq := z_in hq hs11
                          by_cases hs12 : (μ 142 22) = 114
                          · replace hq := z_ip hq hs12
                            refine z_swIn 135 dX10_doesNow_18 hs12 rfl rfl rfl ?_
                            exact Z.sub (zle_s (zle_s (zle_s zle_nil))) (J_qM_doesNow_j135 hq)
                          · replace hq := z_in hq hs12
                            by_cases hs13 : (μ 142 22) = 115
                            · replace hq := z_ip hq hs13
                              refine z_swIn 155 dX10_doesNow_18 hs13 rfl rfl rfl ?_
                              exact Z.sub (zle_s (zle_n (zle_n zle_nil))) (J_qM_doesNow_j155 hq)
                            · replace hq := z_in hq hs13
                              by_cases hs14 : (μ 142 22) = 116
                              · replace hq := z_ip hq hs14
                                refine z_swIn 99 dX10_doesNow_18 hs14 rfl rfl rfl ?_
                                exact Z.sub (zle_s (zle_s (zle_s zle_nil))) (J_qM_doesNow_j99 hq)
                              · replace hq := z_in hq hs14
                                refine z_swOut 155 dX10_doesNow_18 (by omega) rfl ?_
                                exact Z.sub (zle_s (zle_n (zle_n zle_nil))) (J_qM_doesNow_j155 hq)
set_option maxRecDepth 100000 in
set_option maxHeartbeats 4000000 in
theorem L_qM_doesAll_l12 {g : yG} {a : Nat → Nat} {ν : zM} {o : zO} {kc ks : Nat}  {R : (Int ⊕ Unit) × zM}   (hr : ∀ (x : Int) (m : zM), R = (.inl x, m) → o = .inl (some (zi x)) ∧ ν = m) (he : ∀ (tz : Unit) (m : zM), R = (.inr tz, m) → Z g a mX10_doesAll 8 kc ks 55 [some (zr 142), none] [] m o ν) : ∀ (n : Nat) (μ : zM) (v1 : Int), qM_doesAll_l12 n μ v1 = some R → Z g a mX10_doesAll 8 kc ks 12 [some (zr 142), some (zi v1)] [] μ o ν := by
  intro n
  induction n with
  | zero => intro μ v1 hq; cases hq
  | succ n ih =>
    intro μ v1 hq
    rw [qM_doesAll_l12] at hq
    refine z_iload_n 13 dX10_doesAll_12 rfl rfl ?_
    refine z_if_eq 55 16 dX10_doesAll_13 rfl rfl (fun hc => ?_) (fun hc => ?_)
    · replace hq := z_ip hq hc
      exact Z.sub (zle_s (zle_n zle_nil)) (he _ _ (Option.some.inj hq).symm)
    · replace hq := z_in hq hc
      refine z_aload_n 17 dX10_doesAll_16 rfl rfl ?_
      obtain ⟨a3, m3, h3, hq⟩ := bnd2_some hq
      refine z_callV1 (as := []) (S := []) 20 dX10_doesAll_17 rfl (Q_qM_readsCommand  h3) kX10_readsCommand ⟨_, _, rfl⟩ ar_142 l_RX10_255 rfl rfl rfl rfl rfl rfl rfl ?_
      refine z_pop 21 dX10_doesAll_20 rfl rfl ?_
      refine z_aload_n 22 dX10_doesAll_21 rfl rfl ?_
      obtain ⟨a4, h4, hq⟩ := z_b hq
      refine z_callV1 (as := []) (S := []) 25 dX10_doesAll_22 rfl (Q_qM_notNow  h4) kX10_notNow ⟨_, _, rfl⟩ ar_142 l_RX10_261 rfl rfl rfl rfl rfl rfl rfl ?_
      refine z_if_eq 30 28 dX10_doesAll_25 rfl rfl (fun hc => ?_) (fun hc => ?_)
      · replace hq := z_ip hq hc
        refine z_aload_n 31 dX10_doesAll_30 rfl rfl ?_
        obtain ⟨a5, m5, h5, hq⟩ := bnd2_some hq
        refine z_callV1 (as := []) (S := []) 34 dX10_doesAll_31 rfl (Q_qM_doesNow  h5) kX10_doesNow ⟨_, _, rfl⟩ ar_142 l_RX10_264 rfl rfl rfl rfl rfl rfl rfl ?_
        refine z_pop 35 dX10_doesAll_34 rfl rfl ?_
        refine z_aload_n 36 dX10_doesAll_35 rfl rfl ?_
        refine z_dup 37 dX10_doesAll_36 rfl rfl ?_
        refine z_getI (x := (m5 142 23)) 40 dX10_doesAll_37 rfl f_RX10_258 ar_142 rfl ?_
        refine z_iconst 41 dX10_doesAll_40 rfl (by decide) ?_
        refine z_iadd (r := (wr ((m5 142 23) + 1))) 42 dX10_doesAll_41 rfl rfl ?_
        obtain ⟨m6, em6, hq⟩ := z_m hq
        refine z_putI 45 dX10_doesAll_42 rfl p_RX10_258 ar_142 em6 ?_
        refine z_aload_n 46 dX10_doesAll_45 rfl rfl ?_
        refine z_bipush 48 dX10_doesAll_46 rfl (by decide) (by decide) ?_
        obtain ⟨a7, m7, h7, hq⟩ := bnd2_some hq
        refine z_callV1 (as := [zi 59]) (S := []) 51 dX10_doesAll_48 rfl (Q_qM_reads  h7) kX10_reads ⟨_, _, rfl⟩ ar_142 l_RX10_240 rfl rfl rfl rfl rfl rfl rfl ?_
        refine z_istore_n (L' := [some (zr 142), some (zi a7)]) 52 dX10_doesAll_51 rfl rfl rfl rfl ?_
        refine z_goto 12 dX10_doesAll_52 rfl ?_
        exact Z.sub (zle_s (zle_s zle_nil)) (ih _ _ hq)
      · replace hq := z_in hq hc
        refine z_iconst 29 dX10_doesAll_28 rfl (by decide) ?_
        obtain ⟨ho, hv⟩ := hr _ _ (Option.some.inj hq).symm
        exact z_conv ho hv (z_zreturn rfl dX10_doesAll_29 (by decide))
set_option maxRecDepth 100000 in
set_option maxHeartbeats 4000000 in
theorem Q_qM_doesAll {g : yG} {a : Nat → Nat} {μ : zM}  {r : Int} {ν : zM}  (hq : qM_doesAll μ = some (r, ν)) : zC g a mX10_doesAll 8 0 0 [zr 142] μ (.inl (some (zi r))) ν := by
  unfold qM_doesAll at hq
  refine z_of (L := [some (zr 142), none]) pl_RX10 rfl (zc_of rfl) rfl rfl ?_
  refine z_aload_n 1 dX10_doesAll_0 rfl rfl ?_
  refine z_iconst 2 dX10_doesAll_1 rfl (by decide) ?_
  obtain ⟨m1, em1, hq⟩ := z_m hq
  refine z_putI 5 dX10_doesAll_2 rfl p_RX10_258 ar_142 em1 ?_
  refine z_aload_n 6 dX10_doesAll_5 rfl rfl ?_
  refine z_iconst 7 dX10_doesAll_6 rfl (by decide) ?_
  obtain ⟨m2, em2, hq⟩ := z_m hq
  refine z_putI 10 dX10_doesAll_7 rfl p_RX10_231 ar_142 em2 ?_
  refine z_iconst 11 dX10_doesAll_10 rfl (by decide) ?_
  refine z_istore_n (L' := [some (zr 142), some (zi 1)]) 12 dX10_doesAll_11 rfl rfl rfl rfl ?_
  rcases bndS2_some hq with ⟨x8, m8, h8, hq⟩ | ⟨t8, m8, h8, hq⟩
  · exact Z.sub (zle_s (zle_s zle_nil)) (L_qM_doesAll_l12  (R := (.inl x8, m8)) (fun _ _ e => by cases e; cases hq; exact ⟨rfl, rfl⟩) (fun _ _ e => by cases e) _ _ _ h8)
  · refine Z.sub (zle_s (zle_s zle_nil)) (L_qM_doesAll_l12  (R := (.inr t8, m8)) (fun _ _ e => by cases e) (fun _ _ e => ?_) _ _ _ h8)
    cases e
    refine z_iconst 56 dX10_doesAll_55 rfl (by decide) ?_
    cases hq
    exact z_zreturn rfl dX10_doesAll_56 (by decide)
set_option maxRecDepth 100000 in
set_option maxHeartbeats 4000000 in
theorem Q_qM_run {g : yG} {a : Nat → Nat} {μ : zM}  {r : Int} {ν : zM}  (hq : qM_run μ = some (r, ν)) : zC g a mX10_run 9 0 0 [zr 142] μ (.inl (some (zi r))) ν := by
  unfold qM_run at hq
  refine z_of (L := [some (zr 142), none]) pl_RX10 rfl (zc_of rfl) rfl rfl ?_
  refine z_aload_n 1 dX10_run_0 rfl rfl ?_
  refine z_iconst 2 dX10_run_1 rfl (by decide) ?_
  obtain ⟨m1, em1, hq⟩ := z_m hq
  refine z_putI 5 dX10_run_2 rfl p_RX10_57 ar_142 em1 ?_
  refine z_aload_n 6 dX10_run_5 rfl rfl ?_
  obtain ⟨a2, m2, h2, hq⟩ := bnd2_some hq
  refine z_callV1 (as := []) (S := []) 9 dX10_run_6 rfl (Q_qM_readsAll  h2) kX10_readsAll ⟨_, _, rfl⟩ ar_142 l_RX10_267 rfl rfl rfl rfl rfl rfl rfl ?_
  refine z_if_ne 31 12 dX10_run_9 rfl rfl (fun hc => ?_) (fun hc => ?_)
  · replace hq := z_in hq hc
    refine z_aload_n 32 dX10_run_31 rfl rfl ?_
    obtain ⟨m3, h3, hq⟩ := z_b hq
    refine z_callV0 (as := []) (S := []) 35 dX10_run_32 rfl (Q_qM_copies  h3) kX10_copies ⟨_, _, rfl⟩ ar_142 l_RX10_66 rfl rfl rfl rfl rfl rfl rfl ?_
    refine z_aload_n 36 dX10_run_35 rfl rfl ?_
    obtain ⟨a4, m4, h4, hq⟩ := bnd2_some hq
    refine z_callV1 (as := []) (S := []) 39 dX10_run_36 rfl (Q_qM_doesAll  h4) kX10_doesAll ⟨_, _, rfl⟩ ar_142 l_RX10_270 rfl rfl rfl rfl rfl rfl rfl ?_
    refine z_istore_n (L' := [some (zr 142), some (zi a4)]) 40 dX10_run_39 rfl rfl rfl rfl ?_
    refine z_aload_n 41 dX10_run_40 rfl rfl ?_
    refine z_iconst 42 dX10_run_41 rfl (by decide) ?_
    obtain ⟨m5, em5, hq⟩ := z_m hq
    refine z_putI 45 dX10_run_42 rfl p_RX10_228 ar_142 em5 ?_
    refine z_iload_n 46 dX10_run_45 rfl rfl ?_
    refine z_if_eq 58 49 dX10_run_46 rfl rfl (fun hc => ?_) (fun hc => ?_)
    · replace hq := z_ip hq hc
      refine z_aload_n 59 dX10_run_58 rfl rfl ?_
      obtain ⟨m6, h6, hq⟩ := z_b hq
      refine z_callV0 (as := []) (S := []) 62 dX10_run_59 rfl (Q_qM_goesBack  h6) kX10_goesBack ⟨_, _, rfl⟩ ar_142 l_RX10_273 rfl rfl rfl rfl rfl rfl rfl ?_
      refine z_aload_n 63 dX10_run_62 rfl rfl ?_
      refine z_aload_n 64 dX10_run_63 rfl rfl ?_
      refine z_getI (x := (m6 142 23)) 67 dX10_run_64 rfl f_RX10_258 ar_142 rfl ?_
      obtain ⟨m7, em7, hq⟩ := z_m hq
      refine z_putI 70 dX10_run_67 rfl p_RX10_51 ar_142 em7 ?_
      refine z_aload_n 71 dX10_run_70 rfl rfl ?_
      refine z_iconst 72 dX10_run_71 rfl (by decide) ?_
      obtain ⟨a8, m8, h8, hq⟩ := bnd2_some hq
      refine z_callV1 (as := [zi 2]) (S := []) 75 dX10_run_72 rfl (Q_qM_fails  h8) kX10_fails ⟨_, _, rfl⟩ ar_142 l_RX10_89 rfl rfl rfl rfl rfl rfl rfl ?_
      cases hq
      exact z_ireturn rfl dX10_run_75
    · replace hq := z_in hq hc
      refine z_aload_n 50 dX10_run_49 rfl rfl ?_
      obtain ⟨m9, h9, hq⟩ := z_b hq
      refine z_callV0 (as := []) (S := []) 53 dX10_run_50 rfl (Q_qM_keeps  h9) kX10_keeps ⟨_, _, rfl⟩ ar_142 l_RX10_69 rfl rfl rfl rfl rfl rfl rfl ?_
      refine z_aload_n 54 dX10_run_53 rfl rfl ?_
      refine z_getI (x := (m9 142 23)) 57 dX10_run_54 rfl f_RX10_258 ar_142 rfl ?_
      cases hq
      exact z_ireturn rfl dX10_run_57
  · replace hq := z_ip hq hc
    refine z_aload_n 13 dX10_run_12 rfl rfl ?_
    refine z_aload_n 14 dX10_run_13 rfl rfl ?_
    refine z_getI (x := (m2 142 18)) 17 dX10_run_14 rfl f_RX10_231 ar_142 rfl ?_
    obtain ⟨m10, em10, hq⟩ := z_m hq
    refine z_putI 20 dX10_run_17 rfl p_RX10_47 ar_142 em10 ?_
    refine z_aload_n 21 dX10_run_20 rfl rfl ?_
    refine z_iconst 22 dX10_run_21 rfl (by decide) ?_
    obtain ⟨m11, em11, hq⟩ := z_m hq
    refine z_putI 25 dX10_run_22 rfl p_RX10_228 ar_142 em11 ?_
    refine z_aload_n 26 dX10_run_25 rfl rfl ?_
    refine z_iconst 27 dX10_run_26 rfl (by decide) ?_
    obtain ⟨a12, m12, h12, hq⟩ := bnd2_some hq
    refine z_callV1 (as := [zi 1]) (S := []) 30 dX10_run_27 rfl (Q_qM_fails  h12) kX10_fails ⟨_, _, rfl⟩ ar_142 l_RX10_89 rfl rfl rfl rfl rfl rfl rfl ?_
    cases hq
    exact z_ireturn rfl dX10_run_30
set_option maxRecDepth 100000 in
set_option maxHeartbeats 4000000 in
theorem Q_qM_errorPosition {g : yG} {a : Nat → Nat} {μ : zM}  {r : Int} {ν : zM}  (hq : qM_errorPosition μ = some (r, ν)) : zC g a mX10_errorPosition 1 0 0 [zr 142] μ (.inl (some (zi r))) ν := by
  unfold qM_errorPosition at hq
  refine z_of (L := [some (zr 142)]) pl_RX10 rfl (zc_of rfl) rfl rfl ?_
  refine z_aload_n 1 dX10_errorPosition_0 rfl rfl ?_
  refine z_iconst 2 dX10_errorPosition_1 rfl (by decide) ?_
  obtain ⟨m1, em1, hq⟩ := z_m hq
  refine z_putI 5 dX10_errorPosition_2 rfl p_RX10_57 ar_142 em1 ?_
  refine z_aload_n 6 dX10_errorPosition_5 rfl rfl ?_
  refine z_getI (x := (m1 142 19)) 9 dX10_errorPosition_6 rfl f_RX10_47 ar_142 rfl ?_
  refine z_if_ge 20 12 dX10_errorPosition_9 rfl rfl (fun hc => ?_) (fun hc => ?_)
  · replace hq := z_in hq (Int.not_lt.mpr hc)
    refine z_aload_n 21 dX10_errorPosition_20 rfl rfl ?_
    refine z_getI (x := (m1 142 19)) 24 dX10_errorPosition_21 rfl f_RX10_47 ar_142 rfl ?_
    cases hq
    exact z_ireturn rfl dX10_errorPosition_24
  · replace hq := z_ip hq hc
    refine z_aload_n 13 dX10_errorPosition_12 rfl rfl ?_
    refine z_iconst 14 dX10_errorPosition_13 rfl (by decide) ?_
    obtain ⟨a2, m2, h2, hq⟩ := bnd2_some hq
    refine z_callV1 (as := [zi 1]) (S := []) 17 dX10_errorPosition_14 rfl (Q_qM_fails  h2) kX10_fails ⟨_, _, rfl⟩ ar_142 l_RX10_89 rfl rfl rfl rfl rfl rfl rfl ?_
    refine z_goto 24 dX10_errorPosition_17 rfl ?_
    cases hq
    exact z_ireturn rfl dX10_errorPosition_24
set_option maxRecDepth 100000 in
set_option maxHeartbeats 4000000 in
theorem Q_qM_failedCommand {g : yG} {a : Nat → Nat} {μ : zM}  {r : Int} {ν : zM}  (hq : qM_failedCommand μ = some (r, ν)) : zC g a mX10_failedCommand 1 0 0 [zr 142] μ (.inl (some (zi r))) ν := by
  unfold qM_failedCommand at hq
  refine z_of (L := [some (zr 142)]) pl_RX10 rfl (zc_of rfl) rfl rfl ?_
  refine z_aload_n 1 dX10_failedCommand_0 rfl rfl ?_
  refine z_iconst 2 dX10_failedCommand_1 rfl (by decide) ?_
  obtain ⟨m1, em1, hq⟩ := z_m hq
  refine z_putI 5 dX10_failedCommand_2 rfl p_RX10_57 ar_142 em1 ?_
  refine z_aload_n 6 dX10_failedCommand_5 rfl rfl ?_
  refine z_getI (x := (m1 142 20)) 9 dX10_failedCommand_6 rfl f_RX10_51 ar_142 rfl ?_
  refine z_if_ge 20 12 dX10_failedCommand_9 rfl rfl (fun hc => ?_) (fun hc => ?_)
  · replace hq := z_in hq (Int.not_lt.mpr hc)
    refine z_aload_n 21 dX10_failedCommand_20 rfl rfl ?_
    refine z_getI (x := (m1 142 20)) 24 dX10_failedCommand_21 rfl f_RX10_51 ar_142 rfl ?_
    cases hq
    exact z_ireturn rfl dX10_failedCommand_24
  · replace hq := z_ip hq hc
    refine z_aload_n 13 dX10_failedCommand_12 rfl rfl ?_
    refine z_iconst 14 dX10_failedCommand_13 rfl (by decide) ?_
    obtain ⟨a2, m2, h2, hq⟩ := bnd2_some hq
    refine z_callV1 (as := [zi 1]) (S := []) 17 dX10_failedCommand_14 rfl (Q_qM_fails  h2) kX10_fails ⟨_, _, rfl⟩ ar_142 l_RX10_89 rfl rfl rfl rfl rfl rfl rfl ?_
    refine z_goto 24 dX10_failedCommand_17 rfl ?_
    cases hq
    exact z_ireturn rfl dX10_failedCommand_24
set_option maxRecDepth 100000 in
set_option maxHeartbeats 4000000 in
theorem L_qM_undo_l43 {g : yG} {a : Nat → Nat} {ν : zM} {o : zO} {kc ks : Nat} {v1 : Int} {R : zM}   (he : ∀ (m : zM), R = m → Z g a mX10_undo 1 kc ks 72 [some (zr 142), some (zi v1), none] [] m o ν) : ∀ (n : Nat) (μ : zM) (v2 : Int), qM_undo_l43 v1 n μ v2 = some R → Z g a mX10_undo 1 kc ks 43 [some (zr 142), some (zi v1), some (zi v2)] [] μ o ν := by
  intro n
  induction n with
  | zero => intro μ v2 hq; cases hq
  | succ n ih =>
    intro μ v2 hq
    rw [qM_undo_l43] at hq
    refine z_iload_n 44 dX10_undo_43 rfl rfl ?_
    refine z_bipush 46 dX10_undo_44 rfl (by decide) (by decide) ?_
    refine z_icmp_ge 72 49 dX10_undo_46 rfl rfl (fun hc => ?_) (fun hc => ?_)
    · replace hq := z_in hq (Int.not_lt.mpr hc)
      exact Z.sub (zle_s (zle_s (zle_n zle_nil))) (he _ (Option.some.inj hq).symm)
    · replace hq := z_ip hq hc
      refine z_aload_n 50 dX10_undo_49 rfl rfl ?_
      refine z_getR (e := 1) (r := 143) 53 dX10_undo_50 rfl f_RX10_7 ar_142 rfl ar_143.1 ?_
      refine z_iload_n 54 dX10_undo_53 rfl rfl ?_
      refine z_aload_n 55 dX10_undo_54 rfl rfl ?_
      refine z_getR (e := 2) (r := 144) 58 dX10_undo_55 rfl f_RX10_13 ar_142 rfl ar_144.1 ?_
      refine z_bipush 60 dX10_undo_58 rfl (by decide) (by decide) ?_
      refine z_iload_n 61 dX10_undo_60 rfl rfl ?_
      refine z_imul (r := (wr (62 * v1))) 62 dX10_undo_61 rfl rfl ?_
      refine z_iload_n 63 dX10_undo_62 rfl rfl ?_
      refine z_iadd (r := (wr ((wr (62 * v1)) + v2))) 64 dX10_undo_63 rfl rfl ?_
      obtain ⟨hg64, hq⟩ := z_g hq
      refine z_iaload (x := (μ 144 (wr ((wr (62 * v1)) + v2)))) 65 dX10_undo_64 rfl ar_144 hg64 rfl ?_
      obtain ⟨hg65, hq⟩ := z_g hq
      obtain ⟨m3, em3, hq⟩ := z_m hq
      refine z_iastore 66 dX10_undo_65 rfl ar_143 hg65 em3 ?_
      refine z_iinc (r := (wr (v2 + 1))) (L' := [some (zr 142), some (zi v1), some (zi (wr (v2 + 1)))]) 69 dX10_undo_66 rfl rfl rfl rfl rfl rfl ?_
      refine z_goto 43 dX10_undo_69 rfl ?_
      exact Z.sub (zle_s (zle_s (zle_s zle_nil))) (ih _ _ hq)
set_option maxRecDepth 100000 in
set_option maxHeartbeats 4000000 in
theorem Q_qM_undo {g : yG} {a : Nat → Nat} {μ : zM}  {r : Int} {ν : zM}  (hq : qM_undo μ = some (r, ν)) : zC g a mX10_undo 1 0 0 [zr 142] μ (.inl (some (zi r))) ν := by
  unfold qM_undo at hq
  refine z_of (L := [some (zr 142), none, none]) pl_RX10 rfl (zc_of rfl) rfl rfl ?_
  refine z_aload_n 1 dX10_undo_0 rfl rfl ?_
  refine z_iconst 2 dX10_undo_1 rfl (by decide) ?_
  obtain ⟨m1, em1, hq⟩ := z_m hq
  refine z_putI 5 dX10_undo_2 rfl p_RX10_57 ar_142 em1 ?_
  refine z_aload_n 6 dX10_undo_5 rfl rfl ?_
  refine z_getI (x := (m1 142 6)) 9 dX10_undo_6 rfl f_RX10_60 ar_142 rfl ?_
  refine z_if_ne 18 12 dX10_undo_9 rfl rfl (fun hc => ?_) (fun hc => ?_)
  · replace hq := z_in hq hc
    refine z_aload_n 19 dX10_undo_18 rfl rfl ?_
    refine z_dup 20 dX10_undo_19 rfl rfl ?_
    refine z_getI (x := (m1 142 6)) 23 dX10_undo_20 rfl f_RX10_60 ar_142 rfl ?_
    refine z_iconst 24 dX10_undo_23 rfl (by decide) ?_
    refine z_isub (r := (wr ((m1 142 6) - 1))) 25 dX10_undo_24 rfl rfl ?_
    obtain ⟨m2, em2, hq⟩ := z_m hq
    refine z_putI 28 dX10_undo_25 rfl p_RX10_60 ar_142 em2 ?_
    refine z_aload_n 29 dX10_undo_28 rfl rfl ?_
    refine z_getI (x := (m2 142 7)) 32 dX10_undo_29 rfl f_RX10_63 ar_142 rfl ?_
    refine z_aload_n 33 dX10_undo_32 rfl rfl ?_
    refine z_getI (x := (m2 142 6)) 36 dX10_undo_33 rfl f_RX10_60 ar_142 rfl ?_
    refine z_iadd (r := (wr ((m2 142 7) + (m2 142 6)))) 37 dX10_undo_36 rfl rfl ?_
    refine z_bipush 39 dX10_undo_37 rfl (by decide) (by decide) ?_
    refine z_irem 40 dX10_undo_39 rfl (by decide) ?_
    refine z_istore_n (L' := [some (zr 142), some (zi (Int.tmod (wr ((m2 142 7) + (m2 142 6))) 8)), none]) 41 dX10_undo_40 rfl rfl rfl rfl ?_
    refine z_iconst 42 dX10_undo_41 rfl (by decide) ?_
    refine z_istore_n (L' := [some (zr 142), some (zi (Int.tmod (wr ((m2 142 7) + (m2 142 6))) 8)), some (zi 0)]) 43 dX10_undo_42 rfl rfl rfl rfl ?_
    obtain ⟨m4, h4, hq⟩ := z_b hq
    refine Z.sub (zle_s (zle_s (zle_s zle_nil))) (L_qM_undo_l43  (R := m4) (fun _ e => ?_) _ _ _ h4)
    cases e
    refine z_aload_n 73 dX10_undo_72 rfl rfl ?_
    refine z_getI (x := (m4 142 6)) 76 dX10_undo_73 rfl f_RX10_60 ar_142 rfl ?_
    cases hq
    exact z_ireturn rfl dX10_undo_76
  · replace hq := z_ip hq hc
    refine z_aload_n 13 dX10_undo_12 rfl rfl ?_
    refine z_iconst 14 dX10_undo_13 rfl (by decide) ?_
    obtain ⟨a5, m5, h5, hq⟩ := bnd2_some hq
    refine z_callV1 (as := [zi 1]) (S := []) 17 dX10_undo_14 rfl (Q_qM_fails  h5) kX10_fails ⟨_, _, rfl⟩ ar_142 l_RX10_89 rfl rfl rfl rfl rfl rfl rfl ?_
    cases hq
    exact z_ireturn rfl dX10_undo_17
set_option maxRecDepth 100000 in
set_option maxHeartbeats 4000000 in
theorem L_qM_save_l7 {g : yG} {a : Nat → Nat} {ν : zM} {o : zO} {kc ks : Nat}  {R : zM}   (he : ∀ (m : zM), R = m → Z g a mX10_save 0 kc ks 31 [some (zr 142), none] [] m o ν) : ∀ (n : Nat) (μ : zM) (v1 : Int), qM_save_l7 n μ v1 = some R → Z g a mX10_save 0 kc ks 7 [some (zr 142), some (zi v1)] [] μ o ν := by
  intro n
  induction n with
  | zero => intro μ v1 hq; cases hq
  | succ n ih =>
    intro μ v1 hq
    rw [qM_save_l7] at hq
    refine z_iload_n 8 dX10_save_7 rfl rfl ?_
    refine z_bipush 10 dX10_save_8 rfl (by decide) (by decide) ?_
    refine z_icmp_ge 31 13 dX10_save_10 rfl rfl (fun hc => ?_) (fun hc => ?_)
    · replace hq := z_in hq (Int.not_lt.mpr hc)
      exact Z.sub (zle_s (zle_n zle_nil)) (he _ (Option.some.inj hq).symm)
    · replace hq := z_ip hq hc
      refine z_aload_n 14 dX10_save_13 rfl rfl ?_
      refine z_getR (e := 3) (r := 145) 17 dX10_save_14 rfl f_RX10_16 ar_142 rfl ar_145.1 ?_
      refine z_iload_n 18 dX10_save_17 rfl rfl ?_
      refine z_aload_n 19 dX10_save_18 rfl rfl ?_
      refine z_getR (e := 1) (r := 143) 22 dX10_save_19 rfl f_RX10_7 ar_142 rfl ar_143.1 ?_
      refine z_iload_n 23 dX10_save_22 rfl rfl ?_
      obtain ⟨hg23, hq⟩ := z_g hq
      refine z_iaload (x := (μ 143 v1)) 24 dX10_save_23 rfl ar_143 hg23 rfl ?_
      obtain ⟨hg24, hq⟩ := z_g hq
      obtain ⟨m2, em2, hq⟩ := z_m hq
      refine z_iastore 25 dX10_save_24 rfl ar_145 hg24 em2 ?_
      refine z_iinc (r := (wr (v1 + 1))) (L' := [some (zr 142), some (zi (wr (v1 + 1)))]) 28 dX10_save_25 rfl rfl rfl rfl rfl rfl ?_
      refine z_goto 7 dX10_save_28 rfl ?_
      exact Z.sub (zle_s (zle_s zle_nil)) (ih _ _ hq)
set_option maxRecDepth 100000 in
set_option maxHeartbeats 4000000 in
theorem Q_qM_save {g : yG} {a : Nat → Nat} {μ : zM}  {r : Int} {ν : zM}  (hq : qM_save μ = some (r, ν)) : zC g a mX10_save 0 0 0 [zr 142] μ (.inl (some (zi r))) ν := by
  unfold qM_save at hq
  refine z_of (L := [some (zr 142), none]) pl_RX10 rfl (zc_of rfl) rfl rfl ?_
  refine z_aload_n 1 dX10_save_0 rfl rfl ?_
  refine z_iconst 2 dX10_save_1 rfl (by decide) ?_
  obtain ⟨m1, em1, hq⟩ := z_m hq
  refine z_putI 5 dX10_save_2 rfl p_RX10_57 ar_142 em1 ?_
  refine z_iconst 6 dX10_save_5 rfl (by decide) ?_
  refine z_istore_n (L' := [some (zr 142), some (zi 0)]) 7 dX10_save_6 rfl rfl rfl rfl ?_
  obtain ⟨m3, h3, hq⟩ := z_b hq
  refine Z.sub (zle_s (zle_s zle_nil)) (L_qM_save_l7  (R := m3) (fun _ e => ?_) _ _ _ h3)
  cases e
  refine z_aload_n 32 dX10_save_31 rfl rfl ?_
  refine z_iconst 33 dX10_save_32 rfl (by decide) ?_
  obtain ⟨m4, em4, hq⟩ := z_m hq
  refine z_putZ 36 dX10_save_33 rfl p_RX10_276 ar_142 (by decide) em4 ?_
  refine z_aload_n 37 dX10_save_36 rfl rfl ?_
  refine z_getR (e := 1) (r := 143) 40 dX10_save_37 rfl f_RX10_7 ar_142 rfl ar_143.1 ?_
  refine z_iconst 41 dX10_save_40 rfl (by decide) ?_
  refine z_iaload (x := (m4 143 1)) 42 dX10_save_41 rfl ar_143 ⟨by decide, by decide⟩ rfl ?_
  cases hq
  exact z_ireturn rfl dX10_save_42
