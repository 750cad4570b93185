/-! ===== the methods do what the mirror says (laid by wip/whole/tools/proofs.py) ===== -/
set_option maxRecDepth 100000 in
set_option maxHeartbeats 4000000 in
theorem L_qP_begin_l28 {g : yG} {a : Nat → Nat} {ν : zM} {o : zO} {kc ks : Nat} {v1 : Nat} {v2 : Int} {R : zM}  (A_v1 : zH v1) (he : ∀ (m : zM), R = m → Z g a mX5_begin 3 kc ks 70 [some (zr 113), some (zr v1), some (zi v2), none, none] [] m o ν) : ∀ (n : Nat) (μ : zM) (v3 : Int), qP_begin_l28 v1 v2 n μ v3 = some R → Z g a mX5_begin 3 kc ks 28 [some (zr 113), some (zr v1), some (zi v2), some (zi v3), none] [] μ o ν := by
  intro n
  induction n with
  | zero => intro μ v3 hq; cases hq
  | succ n ih =>
    intro μ v3 hq
    rw [qP_begin_l28] at hq
    refine z_iload_n 29 dX5_begin_28 rfl rfl ?_
    refine z_aload_n 30 dX5_begin_29 rfl rfl ?_
    refine z_getI (x := (μ v1 0)) 33 dX5_begin_30 rfl f_RX5_45 A_v1.a0 rfl ?_
    refine z_icmp_ge 70 36 dX5_begin_33 rfl rfl (fun hc => ?_) (fun hc => ?_)
    · replace hq := z_in hq (Int.not_lt.mpr hc)
      exact Z.sub (zle_s (zle_s (zle_s (zle_n (zle_n zle_nil))))) (he _ (Option.some.inj hq).symm)
    · replace hq := z_ip hq hc
      refine z_aload_n 37 dX5_begin_36 rfl rfl ?_
      refine z_iload_n 38 dX5_begin_37 rfl rfl ?_
      refine z_iload_n 39 dX5_begin_38 rfl rfl ?_
      obtain ⟨a3, h3, hq⟩ := z_b hq
      refine z_callV1 (as := [zi v2, zi v3]) (S := []) 42 dX5_begin_39 rfl (Q_qH_rankFor A_v1 h3) kX2_rankFor ⟨_, _, rfl⟩ A_v1.a0 l_RX5_48 rfl rfl rfl rfl rfl rfl rfl ?_
      refine z_istore (L' := [some (zr 113), some (zr v1), some (zi v2), some (zi v3), some (zi a3)]) 44 dX5_begin_42 rfl rfl rfl rfl ?_
      refine z_aload_n 45 dX5_begin_44 rfl rfl ?_
      refine z_getR (e := 1) (r := 114) 48 dX5_begin_45 rfl f_RX5_11 ar_113 rfl ar_114.1 ?_
      refine z_iload_n 49 dX5_begin_48 rfl rfl ?_
      obtain ⟨hg49, hq⟩ := z_g hq
      refine z_aald5 (r := (115 + Int.toNat v2)) 50 dX5_begin_49 rfl ar_114 hg49 rfl (ar_row1 hg49).1 ?_
      refine z_iload_n 51 dX5_begin_50 rfl rfl ?_
      refine z_iload 53 dX5_begin_51 rfl rfl ?_
      obtain ⟨hg53, hq⟩ := z_g hq
      obtain ⟨m4, em4, hq⟩ := z_m hq
      refine z_iastore 54 dX5_begin_53 rfl (ar_row1 hg49) hg53 em4 ?_
      refine z_aload_n 55 dX5_begin_54 rfl rfl ?_
      refine z_getR (e := 8) (r := 121) 58 dX5_begin_55 rfl f_RX5_16 ar_113 rfl ar_121.1 ?_
      refine z_iload_n 59 dX5_begin_58 rfl rfl ?_
      obtain ⟨hg59, hq⟩ := z_g hq
      refine z_aald5 (r := (122 + Int.toNat v2)) 60 dX5_begin_59 rfl ar_121 hg59 rfl (ar_row2 hg59).1 ?_
      refine z_iload 62 dX5_begin_60 rfl rfl ?_
      refine z_iload_n 63 dX5_begin_62 rfl rfl ?_
      obtain ⟨hg63, hq⟩ := z_g hq
      obtain ⟨m5, em5, hq⟩ := z_m hq
      refine z_iastore 64 dX5_begin_63 rfl (ar_row2 hg59) hg63 em5 ?_
      refine z_iinc (r := (wr (v3 + 1))) (L' := [some (zr 113), some (zr v1), some (zi v2), some (zi (wr (v3 + 1))), some (zi a3)]) 67 dX5_begin_64 rfl rfl rfl rfl rfl rfl ?_
      refine z_goto 28 dX5_begin_67 rfl ?_
      exact Z.sub (zle_s (zle_s (zle_s (zle_s (zle_n zle_nil))))) (ih _ _ hq)
set_option maxRecDepth 100000 in
set_option maxHeartbeats 4000000 in
theorem L_qP_begin_l18 {g : yG} {a : Nat → Nat} {ν : zM} {o : zO} {kc ks : Nat} {v1 : Nat} {R : zM}  (A_v1 : zH v1) (he : ∀ (m : zM), R = m → Z g a mX5_begin 3 kc ks 76 [some (zr 113), some (zr v1), none, none, none] [] m o ν) : ∀ (n : Nat) (μ : zM) (v2 : Int), qP_begin_l18 v1 n μ v2 = some R → Z g a mX5_begin 3 kc ks 18 [some (zr 113), some (zr v1), some (zi v2), none, none] [] μ o ν := by
  intro n
  induction n with
  | zero => intro μ v2 hq; cases hq
  | succ n ih =>
    intro μ v2 hq
    rw [qP_begin_l18] at hq
    refine z_iload_n 19 dX5_begin_18 rfl rfl ?_
    refine z_aload_n 20 dX5_begin_19 rfl rfl ?_
    refine z_getI (x := (μ v1 3)) 23 dX5_begin_20 rfl f_RX5_40 A_v1.a0 rfl ?_
    refine z_icmp_ge 76 26 dX5_begin_23 rfl rfl (fun hc => ?_) (fun hc => ?_)
    · replace hq := z_in hq (Int.not_lt.mpr hc)
      exact Z.sub (zle_s (zle_s (zle_n (zle_n (zle_n zle_nil))))) (he _ (Option.some.inj hq).symm)
    · replace hq := z_ip hq hc
      refine z_iconst 27 dX5_begin_26 rfl (by decide) ?_
      refine z_istore_n (L' := [some (zr 113), some (zr v1), some (zi v2), some (zi 0), none]) 28 dX5_begin_27 rfl rfl rfl rfl ?_
      obtain ⟨m6, h6, hq⟩ := z_b hq
      refine Z.sub (zle_s (zle_s (zle_s (zle_s (zle_n zle_nil))))) (L_qP_begin_l28 A_v1 (R := m6) (fun _ e => ?_) _ _ _ h6)
      cases e
      refine z_iinc (r := (wr (v2 + 1))) (L' := [some (zr 113), some (zr v1), some (zi (wr (v2 + 1))), none, none]) 73 dX5_begin_70 rfl rfl rfl rfl rfl rfl ?_
      refine z_goto 18 dX5_begin_73 rfl ?_
      exact Z.sub (zle_s (zle_s (zle_s (zle_n (zle_n zle_nil))))) (ih _ _ hq)
set_option maxRecDepth 100000 in
set_option maxHeartbeats 4000000 in
theorem Q_qP_begin {g : yG} {a : Nat → Nat} {μ : zM} {v1 : Nat} {ν : zM} (A_v1 : zH v1) (hq : qP_begin μ v1 = some ν) : zC g a mX5_begin 3 0 0 [zr 113, zr v1] μ (.inl none) ν := by
  unfold qP_begin at hq
  refine z_of (L := [some (zr 113), some (zr v1), none, none, none]) pl_RX5 rfl (zc_of rfl) rfl rfl ?_
  refine z_aload_n 1 dX5_begin_0 rfl rfl ?_
  refine z_getR (e := 15) (r := 128) 4 dX5_begin_1 rfl f_RX5_19 ar_113 rfl ar_128.1 ?_
  refine z_iconst 5 dX5_begin_4 rfl (by decide) ?_
  obtain ⟨m1, h1, hq⟩ := z_b hq
  refine z_callN0 (as := [zr 128, zi (-1)]) (S := []) 8 dX5_begin_5 rfl (Q_qT_fill ar_128 h1) kX9_fill n_RX5_36 rfl rfl rfl rfl rfl rfl rfl ?_
  refine z_aload_n 9 dX5_begin_8 rfl rfl ?_
  refine z_getR (e := 16) (r := 129) 12 dX5_begin_9 rfl f_RX5_23 ar_113 rfl ar_129.1 ?_
  refine z_iconst 13 dX5_begin_12 rfl (by decide) ?_
  obtain ⟨m2, h2, hq⟩ := z_b hq
  refine z_callN0 (as := [zr 129, zi (-1)]) (S := []) 16 dX5_begin_13 rfl (Q_qT_fill ar_129 h2) kX9_fill n_RX5_36 rfl rfl rfl rfl rfl rfl rfl ?_
  refine z_iconst 17 dX5_begin_16 rfl (by decide) ?_
  refine z_istore_n (L' := [some (zr 113), some (zr v1), some (zi 0), none, none]) 18 dX5_begin_17 rfl rfl rfl rfl ?_
  obtain ⟨m7, h7, hq⟩ := z_b hq
  refine Z.sub (zle_s (zle_s (zle_s (zle_n (zle_n zle_nil))))) (L_qP_begin_l18 A_v1 (R := m7) (fun _ e => ?_) _ _ _ h7)
  cases e
  cases hq
  exact z_return rfl dX5_begin_76
set_option maxRecDepth 100000 in
set_option maxHeartbeats 4000000 in
theorem J_qP_refusedAfterAsking_j88 {g : yG} {a : Nat → Nat} {μ : zM} {kc ks : Nat} {v1 : Nat} {v2 : Int} {v3 : Int} {v4 : Int} {r : Int} {ν : zM}  (A_v1 : zH v1) (hq : qP_refusedAfterAsking_j88 μ v2 v3 v4 = some (r, ν)) : Z g a mX5_refusedAfterAsking 1 kc ks 88 [some (zr 113), none, some (zi v2), some (zi v3), some (zi v4)] [] μ (.inl (some (zi r))) ν := by
  unfold qP_refusedAfterAsking_j88 at hq
  refine z_aload_n 89 dX5_refusedAfterAsking_88 rfl rfl ?_
  refine z_getR (e := 16) (r := 129) 92 dX5_refusedAfterAsking_89 rfl f_RX5_23 ar_113 rfl ar_129.1 ?_
  refine z_iload_n 93 dX5_refusedAfterAsking_92 rfl rfl ?_
  refine z_iload_n 94 dX5_refusedAfterAsking_93 rfl rfl ?_
  obtain ⟨hg94, hq⟩ := z_g hq
  obtain ⟨m3, em3, hq⟩ := z_m hq
  refine z_iastore 95 dX5_refusedAfterAsking_94 rfl ar_129 hg94 em3 ?_
  refine z_aload_n 96 dX5_refusedAfterAsking_95 rfl rfl ?_
  refine z_getR (e := 15) (r := 128) 99 dX5_refusedAfterAsking_96 rfl f_RX5_19 ar_113 rfl ar_128.1 ?_
  refine z_iload_n 100 dX5_refusedAfterAsking_99 rfl rfl ?_
  refine z_iload_n 101 dX5_refusedAfterAsking_100 rfl rfl ?_
  obtain ⟨hg101, hq⟩ := z_g hq
  obtain ⟨m4, em4, hq⟩ := z_m hq
  refine z_iastore 102 dX5_refusedAfterAsking_101 rfl ar_128 hg101 em4 ?_
  refine z_iload 104 dX5_refusedAfterAsking_102 rfl rfl ?_
  cases hq
  exact z_ireturn rfl dX5_refusedAfterAsking_104
set_option maxRecDepth 100000 in
set_option maxHeartbeats 4000000 in
theorem J_qP_refusedAfterAsking_j74 {g : yG} {a : Nat → Nat} {μ : zM} {kc ks : Nat} {v1 : Nat} {v2 : Int} {v3 : Int} {v4 : Int} {r : Int} {ν : zM}  (A_v1 : zH v1) (hq : qP_refusedAfterAsking_j74 μ v2 v3 v4 = some (r, ν)) : Z g a mX5_refusedAfterAsking 1 kc ks 74 [some (zr 113), none, some (zi v2), some (zi v3), some (zi v4)] [] μ (.inl (some (zi r))) ν := by
  unfold qP_refusedAfterAsking_j74 at hq
  refine z_iload 76 dX5_refusedAfterAsking_74 rfl rfl ?_
  refine z_iconst 77 dX5_refusedAfterAsking_76 rfl (by decide) ?_
  refine z_icmp_eq 88 80 dX5_refusedAfterAsking_77 rfl rfl (fun hc => ?_) (fun hc => ?_)
  · replace hq := z_ip hq hc
    exact Z.sub (zle_s (zle_n (zle_s (zle_s (zle_s zle_nil))))) (J_qP_refusedAfterAsking_j88 A_v1 hq)
  · replace hq := z_in hq hc
    refine z_aload_n 81 dX5_refusedAfterAsking_80 rfl rfl ?_
    refine z_getR (e := 15) (r := 128) 84 dX5_refusedAfterAsking_81 rfl f_RX5_19 ar_113 rfl ar_128.1 ?_
    refine z_iload 86 dX5_refusedAfterAsking_84 rfl rfl ?_
    refine z_iconst 87 dX5_refusedAfterAsking_86 rfl (by decide) ?_
    obtain ⟨hg87, hq⟩ := z_g hq
    obtain ⟨m5, em5, hq⟩ := z_m hq
    refine z_iastore 88 dX5_refusedAfterAsking_87 rfl ar_128 hg87 em5 ?_
    exact Z.sub (zle_s (zle_n (zle_s (zle_s (zle_s zle_nil))))) (J_qP_refusedAfterAsking_j88 A_v1 hq)
set_option maxRecDepth 100000 in
set_option maxHeartbeats 4000000 in
theorem Q_qP_refusedAfterAsking {g : yG} {a : Nat → Nat} {μ : zM} {v1 : Nat} {v2 : Int} {r : Int} {ν : zM} (A_v1 : zH v1) (hq : qP_refusedAfterAsking μ v1 v2 = some (r, ν)) : zC g a mX5_refusedAfterAsking 1 0 0 [zr 113, zr v1, zi v2] μ (.inl (some (zi r))) ν := by
  unfold qP_refusedAfterAsking at hq
  refine z_of (L := [some (zr 113), some (zr v1), some (zi v2), none, none]) pl_RX5 rfl (zc_of rfl) rfl rfl ?_
  refine z_aload_n 1 dX5_refusedAfterAsking_0 rfl rfl ?_
  refine z_getR (e := 17) (r := 130) 4 dX5_refusedAfterAsking_1 rfl f_RX5_26 ar_113 rfl ar_130.1 ?_
  refine z_iload_n 5 dX5_refusedAfterAsking_4 rfl rfl ?_
  obtain ⟨hg5, hq⟩ := z_g hq
  refine z_iaload (x := (μ 130 v2)) 6 dX5_refusedAfterAsking_5 rfl ar_130 hg5 rfl ?_
  refine z_aload_n 7 dX5_refusedAfterAsking_6 rfl rfl ?_
  refine z_getI (x := (μ v1 0)) 10 dX5_refusedAfterAsking_7 rfl f_RX5_45 A_v1.a0 rfl ?_
  refine z_icmp_lt 15 13 dX5_refusedAfterAsking_10 rfl rfl (fun hc => ?_) (fun hc => ?_)
  · replace hq := z_ip hq hc
    refine z_aload_n 16 dX5_refusedAfterAsking_15 rfl rfl ?_
    refine z_getR (e := 8) (r := 121) 19 dX5_refusedAfterAsking_16 rfl f_RX5_16 ar_113 rfl ar_121.1 ?_
    refine z_iload_n 20 dX5_refusedAfterAsking_19 rfl rfl ?_
    obtain ⟨hg20, hq⟩ := z_g hq
    refine z_aald5 (r := (122 + Int.toNat v2)) 21 dX5_refusedAfterAsking_20 rfl ar_121 hg20 rfl (ar_row2 hg20).1 ?_
    refine z_aload_n 22 dX5_refusedAfterAsking_21 rfl rfl ?_
    refine z_getR (e := 17) (r := 130) 25 dX5_refusedAfterAsking_22 rfl f_RX5_26 ar_113 rfl ar_130.1 ?_
    refine z_iload_n 26 dX5_refusedAfterAsking_25 rfl rfl ?_
    obtain ⟨hg26, hq⟩ := z_g hq
    refine z_iaload (x := (μ 130 v2)) 27 dX5_refusedAfterAsking_26 rfl ar_130 hg26 rfl ?_
    obtain ⟨hg27, hq⟩ := z_g hq
    refine z_iaload (x := (μ (122 + Int.toNat v2) (μ 130 v2))) 28 dX5_refusedAfterAsking_27 rfl (ar_row2 hg20) hg27 rfl ?_
    refine z_istore_n (L' := [some (zr 113), some (zr v1), some (zi v2), some (zi (μ (122 + Int.toNat v2) (μ 130 v2))), none]) 29 dX5_refusedAfterAsking_28 rfl rfl rfl rfl ?_
    refine z_aload_n 30 dX5_refusedAfterAsking_29 rfl rfl ?_
    refine z_getR (e := 17) (r := 130) 33 dX5_refusedAfterAsking_30 rfl f_RX5_26 ar_113 rfl ar_130.1 ?_
    refine z_iload_n 34 dX5_refusedAfterAsking_33 rfl rfl ?_
    refine z_dup2 35 dX5_refusedAfterAsking_34 rfl rfl rfl ?_
    obtain ⟨hg35, hq⟩ := z_g hq
    refine z_iaload (x := (μ 130 v2)) 36 dX5_refusedAfterAsking_35 rfl ar_130 hg35 rfl ?_
    refine z_iconst 37 dX5_refusedAfterAsking_36 rfl (by decide) ?_
    refine z_iadd (r := (wr ((μ 130 v2) + 1))) 38 dX5_refusedAfterAsking_37 rfl rfl ?_
    obtain ⟨hg38, hq⟩ := z_g hq
    obtain ⟨m1, em1, hq⟩ := z_m hq
    refine z_iastore 39 dX5_refusedAfterAsking_38 rfl ar_130 hg38 em1 ?_
    refine z_aload_n 40 dX5_refusedAfterAsking_39 rfl rfl ?_
    refine z_getR (e := 16) (r := 129) 43 dX5_refusedAfterAsking_40 rfl f_RX5_23 ar_113 rfl ar_129.1 ?_
    refine z_iload_n 44 dX5_refusedAfterAsking_43 rfl rfl ?_
    obtain ⟨hg44, hq⟩ := z_g hq
    refine z_iaload (x := (m1 129 (μ (122 + Int.toNat v2) (μ 130 v2)))) 45 dX5_refusedAfterAsking_44 rfl ar_129 hg44 rfl ?_
    refine z_istore (L' := [some (zr 113), some (zr v1), some (zi v2), some (zi (μ (122 + Int.toNat v2) (μ 130 v2))), some (zi (m1 129 (μ (122 + Int.toNat v2) (μ 130 v2))))]) 47 dX5_refusedAfterAsking_45 rfl rfl rfl rfl ?_
    refine z_aload_n 48 dX5_refusedAfterAsking_47 rfl rfl ?_
    refine z_iload_n 49 dX5_refusedAfterAsking_48 rfl rfl ?_
    refine z_iload_n 50 dX5_refusedAfterAsking_49 rfl rfl ?_
    obtain ⟨a2, h2, hq⟩ := z_b hq
    refine z_callV1 (as := [zi v2, zi (μ (122 + Int.toNat v2) (μ 130 v2))]) (S := []) 53 dX5_refusedAfterAsking_50 rfl (Q_qH_canAfford A_v1 h2) kX2_canAfford ⟨_, _, rfl⟩ A_v1.a0 l_RX5_60 rfl rfl rfl rfl rfl rfl rfl ?_
    refine z_if_eq 72 56 dX5_refusedAfterAsking_53 rfl rfl (fun hc => ?_) (fun hc => ?_)
    · replace hq := z_ip hq hc
      refine z_iload_n 73 dX5_refusedAfterAsking_72 rfl rfl ?_
      cases hq
      exact z_ireturn rfl dX5_refusedAfterAsking_73
    · replace hq := z_in hq hc
      refine z_iload 58 dX5_refusedAfterAsking_56 rfl rfl ?_
      refine z_iconst 59 dX5_refusedAfterAsking_58 rfl (by decide) ?_
      refine z_icmp_eq 74 62 dX5_refusedAfterAsking_59 rfl rfl (fun hc => ?_) (fun hc => ?_)
      · replace hq := z_ip hq hc
        exact Z.sub (zle_s (zle_n (zle_s (zle_s (zle_s zle_nil))))) (J_qP_refusedAfterAsking_j74 A_v1 hq)
      · replace hq := z_in hq hc
        refine z_aload_n 63 dX5_refusedAfterAsking_62 rfl rfl ?_
        refine z_iload 65 dX5_refusedAfterAsking_63 rfl rfl ?_
        refine z_iload_n 66 dX5_refusedAfterAsking_65 rfl rfl ?_
        obtain ⟨a6, h6, hq⟩ := z_b hq
        refine z_callV1 (as := [zi (m1 129 (μ (122 + Int.toNat v2) (μ 130 v2))), zi v2]) (S := []) 69 dX5_refusedAfterAsking_66 rfl (Q_qH_isPreferredTo A_v1 h6) kX2_isPreferredTo ⟨_, _, rfl⟩ A_v1.a0 l_RX5_64 rfl rfl rfl rfl rfl rfl rfl ?_
        refine z_if_eq 74 72 dX5_refusedAfterAsking_69 rfl rfl (fun hc => ?_) (fun hc => ?_)
        · replace hq := z_ip hq hc
          exact Z.sub (zle_s (zle_n (zle_s (zle_s (zle_s zle_nil))))) (J_qP_refusedAfterAsking_j74 A_v1 hq)
        · replace hq := z_in hq hc
          refine z_iload_n 73 dX5_refusedAfterAsking_72 rfl rfl ?_
          cases hq
          exact z_ireturn rfl dX5_refusedAfterAsking_73
  · replace hq := z_in hq (Int.not_lt.mpr hc)
    refine z_iconst 14 dX5_refusedAfterAsking_13 rfl (by decide) ?_
    cases hq
    exact z_ireturn rfl dX5_refusedAfterAsking_14
set_option maxRecDepth 100000 in
set_option maxHeartbeats 4000000 in
theorem L_qP_planByAsking_l28 {g : yG} {a : Nat → Nat} {ν : zM} {o : zO} {kc ks : Nat} {v1 : Nat} {v2 : Int} {R : zM}  (A_v1 : zH v1) (he : ∀ (m : zM), R = m → Z g a mX5_planByAsking 4 kc ks 53 [some (zr 113), some (zr v1), some (zi v2), none, none] [] m o ν) : ∀ (n : Nat) (μ : zM) (v3 : Int) (v4 : Int), qP_planByAsking_l28 v1 v2 n μ v3 v4 = some R → Z g a mX5_planByAsking 4 kc ks 28 [some (zr 113), some (zr v1), some (zi v2), some (zi v3), some (zi v4)] [] μ o ν := by
  intro n
  induction n with
  | zero => intro μ v3 v4 hq; cases hq
  | succ n ih =>
    intro μ v3 v4 hq
    rw [qP_planByAsking_l28] at hq
    refine z_iload 30 dX5_planByAsking_28 rfl rfl ?_
    refine z_bipush 32 dX5_planByAsking_30 rfl (by decide) (by decide) ?_
    refine z_icmp_ge 53 35 dX5_planByAsking_32 rfl rfl (fun hc => ?_) (fun hc => ?_)
    · replace hq := z_in hq (Int.not_lt.mpr hc)
      exact Z.sub (zle_s (zle_s (zle_s (zle_n (zle_n zle_nil))))) (he _ (Option.some.inj hq).symm)
    · replace hq := z_ip hq hc
      refine z_iload_n 36 dX5_planByAsking_35 rfl rfl ?_
      refine z_iconst 37 dX5_planByAsking_36 rfl (by decide) ?_
      refine z_icmp_eq 53 40 dX5_planByAsking_37 rfl rfl (fun hc => ?_) (fun hc => ?_)
      · replace hq := z_ip hq hc
        exact Z.sub (zle_s (zle_s (zle_s (zle_n (zle_n zle_nil))))) (he _ (Option.some.inj hq).symm)
      · replace hq := z_in hq hc
        refine z_aload_n 41 dX5_planByAsking_40 rfl rfl ?_
        refine z_aload_n 42 dX5_planByAsking_41 rfl rfl ?_
        refine z_iload_n 43 dX5_planByAsking_42 rfl rfl ?_
        obtain ⟨a3, m3, h3, hq⟩ := bnd2_some hq
        refine z_callV1 (as := [zr v1, zi v3]) (S := []) 46 dX5_planByAsking_43 rfl (Q_qP_refusedAfterAsking A_v1 h3) kX5_refusedAfterAsking ⟨_, _, rfl⟩ ar_113 l_RX5_56 rfl rfl rfl rfl rfl rfl rfl ?_
        refine z_istore_n (L' := [some (zr 113), some (zr v1), some (zi v2), some (zi a3), some (zi v4)]) 47 dX5_planByAsking_46 rfl rfl rfl rfl ?_
        refine z_iinc (r := (wr (v4 + 1))) (L' := [some (zr 113), some (zr v1), some (zi v2), some (zi a3), some (zi (wr (v4 + 1)))]) 50 dX5_planByAsking_47 rfl rfl rfl rfl rfl rfl ?_
        refine z_goto 28 dX5_planByAsking_50 rfl ?_
        exact Z.sub (zle_s (zle_s (zle_s (zle_s (zle_s zle_nil))))) (ih _ _ _ hq)
set_option maxRecDepth 100000 in
set_option maxHeartbeats 4000000 in
theorem L_qP_planByAsking_l15 {g : yG} {a : Nat → Nat} {ν : zM} {o : zO} {kc ks : Nat} {v1 : Nat} {R : zM}  (A_v1 : zH v1) (he : ∀ (m : zM), R = m → Z g a mX5_planByAsking 4 kc ks 59 [some (zr 113), some (zr v1), none, none, none] [] m o ν) : ∀ (n : Nat) (μ : zM) (v2 : Int), qP_planByAsking_l15 v1 n μ v2 = some R → Z g a mX5_planByAsking 4 kc ks 15 [some (zr 113), some (zr v1), some (zi v2), none, none] [] μ o ν := by
  intro n
  induction n with
  | zero => intro μ v2 hq; cases hq
  | succ n ih =>
    intro μ v2 hq
    rw [qP_planByAsking_l15] at hq
    refine z_iload_n 16 dX5_planByAsking_15 rfl rfl ?_
    refine z_aload_n 17 dX5_planByAsking_16 rfl rfl ?_
    refine z_getI (x := (μ v1 3)) 20 dX5_planByAsking_17 rfl f_RX5_40 A_v1.a0 rfl ?_
    refine z_icmp_ge 59 23 dX5_planByAsking_20 rfl rfl (fun hc => ?_) (fun hc => ?_)
    · replace hq := z_in hq (Int.not_lt.mpr hc)
      exact Z.sub (zle_s (zle_s (zle_n (zle_n (zle_n zle_nil))))) (he _ (Option.some.inj hq).symm)
    · replace hq := z_ip hq hc
      refine z_iload_n 24 dX5_planByAsking_23 rfl rfl ?_
      refine z_istore_n (L' := [some (zr 113), some (zr v1), some (zi v2), some (zi v2), none]) 25 dX5_planByAsking_24 rfl rfl rfl rfl ?_
      refine z_iconst 26 dX5_planByAsking_25 rfl (by decide) ?_
      refine z_istore (L' := [some (zr 113), some (zr v1), some (zi v2), some (zi v2), some (zi 0)]) 28 dX5_planByAsking_26 rfl rfl rfl rfl ?_
      obtain ⟨m4, h4, hq⟩ := z_b hq
      refine Z.sub (zle_s (zle_s (zle_s (zle_s (zle_s zle_nil))))) (L_qP_planByAsking_l28 A_v1 (R := m4) (fun _ e => ?_) _ _ _ _ h4)
      cases e
      refine z_iinc (r := (wr (v2 + 1))) (L' := [some (zr 113), some (zr v1), some (zi (wr (v2 + 1))), none, none]) 56 dX5_planByAsking_53 rfl rfl rfl rfl rfl rfl ?_
      refine z_goto 15 dX5_planByAsking_56 rfl ?_
      exact Z.sub (zle_s (zle_s (zle_s (zle_n (zle_n zle_nil))))) (ih _ _ hq)
set_option maxRecDepth 100000 in
set_option maxHeartbeats 4000000 in
theorem Q_qP_planByAsking {g : yG} {a : Nat → Nat} {μ : zM} {v1 : Nat} {ν : zM} (A_v1 : zH v1) (hq : qP_planByAsking μ v1 = some ν) : zC g a mX5_planByAsking 4 0 0 [zr 113, zr v1] μ (.inl (some (zr 128))) ν := by
  unfold qP_planByAsking at hq
  refine z_of (L := [some (zr 113), some (zr v1), none, none, none]) pl_RX5 rfl (zc_of rfl) rfl rfl ?_
  refine z_aload_n 1 dX5_planByAsking_0 rfl rfl ?_
  refine z_aload_n 2 dX5_planByAsking_1 rfl rfl ?_
  obtain ⟨m1, h1, hq⟩ := z_b hq
  refine z_callV0 (as := [zr v1]) (S := []) 5 dX5_planByAsking_2 rfl (Q_qP_begin A_v1 h1) kX5_begin ⟨_, _, rfl⟩ ar_113 l_RX5_52 rfl rfl rfl rfl rfl rfl rfl ?_
  refine z_aload_n 6 dX5_planByAsking_5 rfl rfl ?_
  refine z_getR (e := 17) (r := 130) 9 dX5_planByAsking_6 rfl f_RX5_26 ar_113 rfl ar_130.1 ?_
  refine z_iconst 10 dX5_planByAsking_9 rfl (by decide) ?_
  obtain ⟨m2, h2, hq⟩ := z_b hq
  refine z_callN0 (as := [zr 130, zi 0]) (S := []) 13 dX5_planByAsking_10 rfl (Q_qT_fill ar_130 h2) kX9_fill n_RX5_36 rfl rfl rfl rfl rfl rfl rfl ?_
  refine z_iconst 14 dX5_planByAsking_13 rfl (by decide) ?_
  refine z_istore_n (L' := [some (zr 113), some (zr v1), some (zi 0), none, none]) 15 dX5_planByAsking_14 rfl rfl rfl rfl ?_
  obtain ⟨m5, h5, hq⟩ := z_b hq
  refine Z.sub (zle_s (zle_s (zle_s (zle_n (zle_n zle_nil))))) (L_qP_planByAsking_l15 A_v1 (R := m5) (fun _ e => ?_) _ _ _ h5)
  cases e
  refine z_aload_n 60 dX5_planByAsking_59 rfl rfl ?_
  refine z_getR (e := 15) (r := 128) 63 dX5_planByAsking_60 rfl f_RX5_19 ar_113 rfl ar_128.1 ?_
  cases hq
  exact z_areturn rfl (Or.inr ⟨_, rfl⟩) dX5_planByAsking_63
set_option maxRecDepth 100000 in
set_option maxHeartbeats 4000000 in
theorem L_qH_liveBy_l4 {g : yG} {a : Nat → Nat} {ν : zM} {o : zO} {kc ks : Nat} {h : Nat} {R : (Int) × zM}  (A_h : zH h) (he : ∀ (tz : Int) (m : zM), R = (tz, m) → Z g a mX2_liveBy 0 kc ks 42 [some (zr h), some (zr 128), some (zi tz), none] [] m o ν) : ∀ (n : Nat) (μ : zM) (v2 : Int) (v3 : Int), qH_liveBy_l4 h n μ v2 v3 = some R → Z g a mX2_liveBy 0 kc ks 4 [some (zr h), some (zr 128), some (zi v2), some (zi v3)] [] μ o ν := by
  intro n
  induction n with
  | zero => intro μ v2 v3 hq; cases hq
  | succ n ih =>
    intro μ v2 v3 hq
    rw [qH_liveBy_l4] at hq
    refine z_iload_n 5 dX2_liveBy_4 rfl rfl ?_
    refine z_aload_n 6 dX2_liveBy_5 rfl rfl ?_
    refine z_getI (x := (μ h 3)) 9 dX2_liveBy_6 rfl f_RX2_22 A_h.a0 rfl ?_
    refine z_icmp_ge 42 12 dX2_liveBy_9 rfl rfl (fun hc => ?_) (fun hc => ?_)
    · replace hq := z_in hq (Int.not_lt.mpr hc)
      exact Z.sub (zle_s (zle_s (zle_s (zle_n zle_nil)))) (he _ _ (Option.some.inj hq).symm)
    · replace hq := z_ip hq hc
      refine z_aload_n 13 dX2_liveBy_12 rfl rfl ?_
      refine z_getR (e := 9) (r := (h + 9)) 16 dX2_liveBy_13 rfl f_RX2_46 A_h.a0 rfl A_h.a9.1 ?_
      refine z_iload_n 17 dX2_liveBy_16 rfl rfl ?_
      obtain ⟨hg17, hq⟩ := z_g hq
      refine z_iaload (x := (μ (h + 9) v3)) 18 dX2_liveBy_17 rfl A_h.a9 hg17 rfl ?_
      refine z_aload_n 19 dX2_liveBy_18 rfl rfl ?_
      refine z_iload_n 20 dX2_liveBy_19 rfl rfl ?_
      obtain ⟨hg20, hq⟩ := z_g hq
      refine z_iaload (x := (μ 128 v3)) 21 dX2_liveBy_20 rfl ar_128 hg20 rfl ?_
      refine z_icmp_eq 36 24 dX2_liveBy_21 rfl rfl (fun hc => ?_) (fun hc => ?_)
      · replace hq := z_ip hq hc
        refine z_iinc (r := (wr (v3 + 1))) (L' := [some (zr h), some (zr 128), some (zi v2), some (zi (wr (v3 + 1)))]) 39 dX2_liveBy_36 rfl rfl rfl rfl rfl rfl ?_
        refine z_goto 4 dX2_liveBy_39 rfl ?_
        exact Z.sub (zle_s (zle_s (zle_s (zle_s zle_nil)))) (ih _ _ _ hq)
      · replace hq := z_in hq hc
        refine z_aload_n 25 dX2_liveBy_24 rfl rfl ?_
        refine z_getR (e := 9) (r := (h + 9)) 28 dX2_liveBy_25 rfl f_RX2_46 A_h.a0 rfl A_h.a9.1 ?_
        refine z_iload_n 29 dX2_liveBy_28 rfl rfl ?_
        refine z_aload_n 30 dX2_liveBy_29 rfl rfl ?_
        refine z_iload_n 31 dX2_liveBy_30 rfl rfl ?_
        obtain ⟨hg31, hq⟩ := z_g hq
        refine z_iaload (x := (μ 128 v3)) 32 dX2_liveBy_31 rfl ar_128 hg31 rfl ?_
        obtain ⟨hg32, hq⟩ := z_g hq
        obtain ⟨m1, em1, hq⟩ := z_m hq
        refine z_iastore 33 dX2_liveBy_32 rfl A_h.a9 hg32 em1 ?_
        refine z_iinc (r := (wr (v2 + 1))) (L' := [some (zr h), some (zr 128), some (zi (wr (v2 + 1))), some (zi v3)]) 36 dX2_liveBy_33 rfl rfl rfl rfl rfl rfl ?_
        refine z_iinc (r := (wr (v3 + 1))) (L' := [some (zr h), some (zr 128), some (zi (wr (v2 + 1))), some (zi (wr (v3 + 1)))]) 39 dX2_liveBy_36 rfl rfl rfl rfl rfl rfl ?_
        refine z_goto 4 dX2_liveBy_39 rfl ?_
        exact Z.sub (zle_s (zle_s (zle_s (zle_s zle_nil)))) (ih _ _ _ hq)
set_option maxRecDepth 100000 in
set_option maxHeartbeats 4000000 in
theorem Q_qH_liveBy {g : yG} {a : Nat → Nat} {μ : zM} {h : Nat} {r : Int} {ν : zM} (A_h : zH h) (hq : qH_liveBy μ h = some (r, ν)) : zC g a mX2_liveBy 0 0 0 [zr h, zr 128] μ (.inl (some (zi r))) ν := by
  unfold qH_liveBy at hq
  refine z_of (L := [some (zr h), some (zr 128), none, none]) pl_RX2 rfl (zc_of rfl) rfl rfl ?_
  refine z_iconst 1 dX2_liveBy_0 rfl (by decide) ?_
  refine z_istore_n (L' := [some (zr h), some (zr 128), some (zi 0), none]) 2 dX2_liveBy_1 rfl rfl rfl rfl ?_
  refine z_iconst 3 dX2_liveBy_2 rfl (by decide) ?_
  refine z_istore_n (L' := [some (zr h), some (zr 128), some (zi 0), some (zi 0)]) 4 dX2_liveBy_3 rfl rfl rfl rfl ?_
  obtain ⟨t2, m2, h2, hq⟩ := bnd2_some hq
  refine Z.sub (zle_s (zle_s (zle_s (zle_s zle_nil)))) (L_qH_liveBy_l4 A_h (R := (t2, m2)) (fun _ _ e => ?_) _ _ _ _ h2)
  cases e
  refine z_iload_n 43 dX2_liveBy_42 rfl rfl ?_
  cases hq
  exact z_ireturn rfl dX2_liveBy_43
set_option maxRecDepth 100000 in
set_option maxHeartbeats 4000000 in
theorem Q_qT_settle {g : yG} {a : Nat → Nat} {μ : zM}  {r : Int} {ν : zM}  (hq : qT_settle μ = some (r, ν)) : zC g a mX9_settle 5 0 0 [zr 0] μ (.inl (some (zi r))) ν := by
  unfold qT_settle at hq
  refine z_of (L := [some (zr 0)]) pl_RX9 rfl (zc_of rfl) rfl rfl ?_
  refine z_aload_n 1 dX9_settle_0 rfl rfl ?_
  refine z_getR (e := 31) (r := 31) 4 dX9_settle_1 rfl f_RX9_25 ar_0 rfl ar_31.1 ?_
  refine z_aload_n 5 dX9_settle_4 rfl rfl ?_
  refine z_getR (e := 1) (r := 1) 8 dX9_settle_5 rfl f_RX9_12 ar_0 rfl ar_1.1 ?_
  obtain ⟨m1, h1, hq⟩ := z_b hq
  refine z_callV0 (as := [zr 1]) (S := []) 11 dX9_settle_8 rfl (Q_qY_push zH_1 h1) kX1_push ⟨_, _, rfl⟩ ar_31 l_RX9_79 rfl rfl rfl rfl rfl rfl rfl ?_
  refine z_aload_n 12 dX9_settle_11 rfl rfl ?_
  refine z_getR (e := 1) (r := 1) 15 dX9_settle_12 rfl f_RX9_12 ar_0 rfl ar_1.1 ?_
  refine z_aload_n 16 dX9_settle_15 rfl rfl ?_
  refine z_getR (e := 113) (r := 113) 19 dX9_settle_16 rfl f_RX9_32 ar_0 rfl ar_113.1 ?_
  refine z_aload_n 20 dX9_settle_19 rfl rfl ?_
  refine z_getR (e := 1) (r := 1) 23 dX9_settle_20 rfl f_RX9_12 ar_0 rfl ar_1.1 ?_
  obtain ⟨m2, h2, hq⟩ := z_b hq
  refine z_callV1 (as := [zr 1]) (S := [zr 1]) 26 dX9_settle_23 rfl (Q_qP_planByAsking zH_1 h2) kX5_planByAsking ⟨_, _, rfl⟩ ar_113 l_RX9_130 rfl rfl rfl rfl rfl rfl rfl ?_
  obtain ⟨a3, m3, h3, hq⟩ := bnd2_some hq
  refine z_callV1 (as := [zr 128]) (S := []) 29 dX9_settle_26 rfl (Q_qH_liveBy zH_1 h3) kX2_liveBy ⟨_, _, rfl⟩ ar_1 l_RX9_134 rfl rfl rfl rfl rfl rfl rfl ?_
  cases hq
  exact z_ireturn rfl dX9_settle_29
set_option maxRecDepth 100000 in
set_option maxHeartbeats 4000000 in
theorem Q_qH_refusalOfMonths {g : yG} {a : Nat → Nat} {μ : zM} {h : Nat} {v1 : Int} {r : Int} (A_h : zH h) (hq : qH_refusalOfMonths μ h v1 = some r) : zC g a mX2_refusalOfMonths 1 0 0 [zr h, zi v1] μ (.inl (some (zre r))) μ := by
  unfold qH_refusalOfMonths at hq
  refine z_of (L := [some (zr h), some (zi v1)]) pl_RX2 rfl (zc_of rfl) rfl rfl ?_
  refine z_iload_n 1 dX2_refusalOfMonths_0 rfl rfl ?_
  refine z_iconst 2 dX2_refusalOfMonths_1 rfl (by decide) ?_
  refine z_bipush 4 dX2_refusalOfMonths_2 rfl (by decide) (by decide) ?_
  obtain ⟨a1, h1, hq⟩ := z_b hq
  refine z_callN1 (as := [zi v1, zi 1, zi 24]) (S := []) 7 dX2_refusalOfMonths_4 rfl (Q_qT_isWithin  h1) kX9_isWithin n_RX2_81 rfl rfl rfl rfl rfl rfl rfl ?_
  refine z_if_eq 16 10 dX2_refusalOfMonths_7 rfl rfl (fun hc => ?_) (fun hc => ?_)
  · replace hq := z_ip hq hc
    refine z_enumR (x := 3) 19 dX2_refusalOfMonths_16 rfl (by decide) (yb 621 (by decide +kernel) rfl) ?_
    cases hq
    exact z_areturn rfl (Or.inl ⟨_, rfl⟩) dX2_refusalOfMonths_19
  · replace hq := z_in hq hc
    refine z_enumR (x := 0) 13 dX2_refusalOfMonths_10 rfl (by decide) (yb 625 (by decide +kernel) rfl) ?_
    refine z_goto 19 dX2_refusalOfMonths_13 rfl ?_
    cases hq
    exact z_areturn rfl (Or.inl ⟨_, rfl⟩) dX2_refusalOfMonths_19
set_option maxRecDepth 100000 in
set_option maxHeartbeats 4000000 in
theorem Q_qH_takeTurn {g : yG} {a : Nat → Nat} {μ : zM} {h : Nat} {v1 : Int} {ν : zM} (A_h : zH h) (hq : qH_takeTurn μ h v1 = some ν) : zC g a mX2_takeTurn 4 0 0 [zr h, zi v1] μ (.inl none) ν := by
  unfold qH_takeTurn at hq
  refine z_of (L := [some (zr h), some (zi v1), none]) pl_RX2 rfl (zc_of rfl) rfl rfl ?_
  refine z_aload_n 1 dX2_takeTurn_0 rfl rfl ?_
  refine z_iload_n 2 dX2_takeTurn_1 rfl rfl ?_
  refine z_aload_n 3 dX2_takeTurn_2 rfl rfl ?_
  refine z_getR (e := 6) (r := (h + 6)) 6 dX2_takeTurn_3 rfl f_RX2_37 A_h.a0 rfl A_h.a6.1 ?_
  refine z_iload_n 7 dX2_takeTurn_6 rfl rfl ?_
  obtain ⟨hg7, hq⟩ := z_g hq
  refine z_iaload (x := (μ (h + 6) v1)) 8 dX2_takeTurn_7 rfl A_h.a6 hg7 rfl ?_
  obtain ⟨a1, m1, h1, hq⟩ := bnd2_some hq
  refine z_callV1 (as := [zi v1, zi (μ (h + 6) v1)]) (S := []) 11 dX2_takeTurn_8 rfl (Q_qH_receive A_h h1) kX2_receive ⟨_, _, rfl⟩ A_h.a0 l_RX2_132 rfl rfl rfl rfl rfl rfl rfl ?_
  refine z_pop 12 dX2_takeTurn_11 rfl rfl ?_
  refine z_aload_n 13 dX2_takeTurn_12 rfl rfl ?_
  refine z_getR (e := 9) (r := (h + 9)) 16 dX2_takeTurn_13 rfl f_RX2_46 A_h.a0 rfl A_h.a9.1 ?_
  refine z_iload_n 17 dX2_takeTurn_16 rfl rfl ?_
  obtain ⟨hg17, hq⟩ := z_g hq
  refine z_iaload (x := (m1 (h + 9) v1)) 18 dX2_takeTurn_17 rfl A_h.a9 hg17 rfl ?_
  refine z_istore_n (L' := [some (zr h), some (zi v1), some (zi (m1 (h + 9) v1))]) 19 dX2_takeTurn_18 rfl rfl rfl rfl ?_
  refine z_iload_n 20 dX2_takeTurn_19 rfl rfl ?_
  refine z_iconst 21 dX2_takeTurn_20 rfl (by decide) ?_
  refine z_icmp_ne 25 24 dX2_takeTurn_21 rfl rfl (fun hc => ?_) (fun hc => ?_)
  · replace hq := z_in hq hc
    refine z_aload_n 26 dX2_takeTurn_25 rfl rfl ?_
    refine z_iload_n 27 dX2_takeTurn_26 rfl rfl ?_
    refine z_iload_n 28 dX2_takeTurn_27 rfl rfl ?_
    obtain ⟨a2, h2, hq⟩ := z_b hq
    refine z_callV1 (as := [zi v1, zi (m1 (h + 9) v1)]) (S := []) 31 dX2_takeTurn_28 rfl (Q_qH_canAfford A_h h2) kX2_canAfford ⟨_, _, rfl⟩ A_h.a0 l_RX2_114 rfl rfl rfl rfl rfl rfl rfl ?_
    refine z_if_eq 72 34 dX2_takeTurn_31 rfl rfl (fun hc => ?_) (fun hc => ?_)
    · replace hq := z_ip hq hc
      refine z_aload_n 73 dX2_takeTurn_72 rfl rfl ?_
      refine z_getR (e := 8) (r := (h + 8)) 76 dX2_takeTurn_73 rfl f_RX2_43 A_h.a0 rfl A_h.a8.1 ?_
      refine z_iload_n 77 dX2_takeTurn_76 rfl rfl ?_
      refine z_dup2 78 dX2_takeTurn_77 rfl rfl rfl ?_
      obtain ⟨hg78, hq⟩ := z_g hq
      refine z_iaload (x := (m1 (h + 8) v1)) 79 dX2_takeTurn_78 rfl A_h.a8 hg78 rfl ?_
      refine z_iconst 80 dX2_takeTurn_79 rfl (by decide) ?_
      refine z_iadd (r := (wr ((m1 (h + 8) v1) + 1))) 81 dX2_takeTurn_80 rfl rfl ?_
      obtain ⟨hg81, hq⟩ := z_g hq
      obtain ⟨m3, em3, hq⟩ := z_m hq
      refine z_iastore 82 dX2_takeTurn_81 rfl A_h.a8 hg81 em3 ?_
      refine z_aload_n 83 dX2_takeTurn_82 rfl rfl ?_
      refine z_getR (e := 8) (r := (h + 8)) 86 dX2_takeTurn_83 rfl f_RX2_43 A_h.a0 rfl A_h.a8.1 ?_
      refine z_iload_n 87 dX2_takeTurn_86 rfl rfl ?_
      obtain ⟨hg87, hq⟩ := z_g hq
      refine z_iaload (x := (m3 (h + 8) v1)) 88 dX2_takeTurn_87 rfl A_h.a8 hg87 rfl ?_
      refine z_iconst 89 dX2_takeTurn_88 rfl (by decide) ?_
      refine z_icmp_lt 108 92 dX2_takeTurn_89 rfl rfl (fun hc => ?_) (fun hc => ?_)
      · replace hq := z_ip hq hc
        cases hq
        exact z_return rfl dX2_takeTurn_108
      · replace hq := z_in hq (Int.not_lt.mpr hc)
        refine z_aload_n 93 dX2_takeTurn_92 rfl rfl ?_
        refine z_dup 94 dX2_takeTurn_93 rfl rfl ?_
        refine z_getI (x := (m3 h 13)) 97 dX2_takeTurn_94 rfl f_RX2_52 A_h.a0 rfl ?_
        refine z_iconst 98 dX2_takeTurn_97 rfl (by decide) ?_
        refine z_iadd (r := (wr ((m3 h 13) + 1))) 99 dX2_takeTurn_98 rfl rfl ?_
        obtain ⟨m4, em4, hq⟩ := z_m hq
        refine z_putI 102 dX2_takeTurn_99 rfl p_RX2_52 A_h.a0 em4 ?_
        refine z_aload_n 103 dX2_takeTurn_102 rfl rfl ?_
        refine z_iload_n 104 dX2_takeTurn_103 rfl rfl ?_
        obtain ⟨a5, m5, h5, hq⟩ := bnd2_some hq
        refine z_callV1 (as := [zi v1]) (S := []) 107 dX2_takeTurn_104 rfl (Q_qH_leaveHome A_h h5) kX2_leaveHome ⟨_, _, rfl⟩ A_h.a0 l_RX2_135 rfl rfl rfl rfl rfl rfl rfl ?_
        refine z_pop 108 dX2_takeTurn_107 rfl rfl ?_
        cases hq
        exact z_return rfl dX2_takeTurn_108
    · replace hq := z_in hq hc
      refine z_aload_n 35 dX2_takeTurn_34 rfl rfl ?_
      refine z_getR (e := 7) (r := (h + 7)) 38 dX2_takeTurn_35 rfl f_RX2_40 A_h.a0 rfl A_h.a7.1 ?_
      refine z_iload_n 39 dX2_takeTurn_38 rfl rfl ?_
      refine z_dup2 40 dX2_takeTurn_39 rfl rfl rfl ?_
      obtain ⟨hg40, hq⟩ := z_g hq
      refine z_iaload (x := (m1 (h + 7) v1)) 41 dX2_takeTurn_40 rfl A_h.a7 hg40 rfl ?_
      refine z_aload_n 42 dX2_takeTurn_41 rfl rfl ?_
      refine z_getR (e := 2) (r := (h + 2)) 45 dX2_takeTurn_42 rfl f_RX2_19 A_h.a0 rfl A_h.a2.1 ?_
      refine z_iload_n 46 dX2_takeTurn_45 rfl rfl ?_
      obtain ⟨hg46, hq⟩ := z_g hq
      refine z_iaload (x := (m1 (h + 2) (m1 (h + 9) v1))) 47 dX2_takeTurn_46 rfl A_h.a2 hg46 rfl ?_
      refine z_isub (r := (wr ((m1 (h + 7) v1) - (m1 (h + 2) (m1 (h + 9) v1))))) 48 dX2_takeTurn_47 rfl rfl ?_
      obtain ⟨hg48, hq⟩ := z_g hq
      obtain ⟨m6, em6, hq⟩ := z_m hq
      refine z_iastore 49 dX2_takeTurn_48 rfl A_h.a7 hg48 em6 ?_
      refine z_aload_n 50 dX2_takeTurn_49 rfl rfl ?_
      refine z_dup 51 dX2_takeTurn_50 rfl rfl ?_
      refine z_getI (x := (m6 h 14)) 54 dX2_takeTurn_51 rfl f_RX2_55 A_h.a0 rfl ?_
      refine z_aload_n 55 dX2_takeTurn_54 rfl rfl ?_
      refine z_getR (e := 2) (r := (h + 2)) 58 dX2_takeTurn_55 rfl f_RX2_19 A_h.a0 rfl A_h.a2.1 ?_
      refine z_iload_n 59 dX2_takeTurn_58 rfl rfl ?_
      obtain ⟨hg59, hq⟩ := z_g hq
      refine z_iaload (x := (m6 (h + 2) (m1 (h + 9) v1))) 60 dX2_takeTurn_59 rfl A_h.a2 hg59 rfl ?_
      refine z_iadd (r := (wr ((m6 h 14) + (m6 (h + 2) (m1 (h + 9) v1))))) 61 dX2_takeTurn_60 rfl rfl ?_
      obtain ⟨m7, em7, hq⟩ := z_m hq
      refine z_putI 64 dX2_takeTurn_61 rfl p_RX2_55 A_h.a0 em7 ?_
      refine z_aload_n 65 dX2_takeTurn_64 rfl rfl ?_
      refine z_getR (e := 8) (r := (h + 8)) 68 dX2_takeTurn_65 rfl f_RX2_43 A_h.a0 rfl A_h.a8.1 ?_
      refine z_iload_n 69 dX2_takeTurn_68 rfl rfl ?_
      refine z_iconst 70 dX2_takeTurn_69 rfl (by decide) ?_
      obtain ⟨hg70, hq⟩ := z_g hq
      obtain ⟨m8, em8, hq⟩ := z_m hq
      refine z_iastore 71 dX2_takeTurn_70 rfl A_h.a8 hg70 em8 ?_
      cases hq
      exact z_return rfl dX2_takeTurn_71
  · replace hq := z_ip hq hc
    cases hq
    exact z_return rfl dX2_takeTurn_24
set_option maxRecDepth 100000 in
set_option maxHeartbeats 4000000 in
theorem L_qH_letMonthsPass_l25 {g : yG} {a : Nat → Nat} {ν : zM} {o : zO} {kc ks : Nat} {h : Nat} {v1 : Int} {v2 : Int} {v3 : Int} {R : zM}  (A_h : zH h) (he : ∀ (m : zM), R = m → Z g a mX2_letMonthsPass 5 kc ks 46 [some (zr h), some (zi v1), some (zi v2), some (zi v3), none] [] m o ν) : ∀ (n : Nat) (μ : zM) (v4 : Int), qH_letMonthsPass_l25 h v1 v2 v3 n μ v4 = some R → Z g a mX2_letMonthsPass 5 kc ks 25 [some (zr h), some (zi v1), some (zi v2), some (zi v3), some (zi v4)] [] μ o ν := by
  intro n
  induction n with
  | zero => intro μ v4 hq; cases hq
  | succ n ih =>
    intro μ v4 hq
    rw [qH_letMonthsPass_l25] at hq
    refine z_iload 27 dX2_letMonthsPass_25 rfl rfl ?_
    refine z_aload_n 28 dX2_letMonthsPass_27 rfl rfl ?_
    refine z_getI (x := (μ h 3)) 31 dX2_letMonthsPass_28 rfl f_RX2_22 A_h.a0 rfl ?_
    refine z_icmp_ge 46 34 dX2_letMonthsPass_31 rfl rfl (fun hc => ?_) (fun hc => ?_)
    · replace hq := z_in hq (Int.not_lt.mpr hc)
      exact Z.sub (zle_s (zle_s (zle_s (zle_s (zle_n zle_nil))))) (he _ (Option.some.inj hq).symm)
    · replace hq := z_ip hq hc
      refine z_aload_n 35 dX2_letMonthsPass_34 rfl rfl ?_
      refine z_iload 37 dX2_letMonthsPass_35 rfl rfl ?_
      obtain ⟨m2, h2, hq⟩ := z_b hq
      refine z_callV0 (as := [zi v4]) (S := []) 40 dX2_letMonthsPass_37 rfl (Q_qH_takeTurn A_h h2) kX2_takeTurn ⟨_, _, rfl⟩ A_h.a0 l_RX2_128 rfl rfl rfl rfl rfl rfl rfl ?_
      refine z_iinc (r := (wr (v4 + 1))) (L' := [some (zr h), some (zi v1), some (zi v2), some (zi v3), some (zi (wr (v4 + 1)))]) 43 dX2_letMonthsPass_40 rfl rfl rfl rfl rfl rfl ?_
      refine z_goto 25 dX2_letMonthsPass_43 rfl ?_
      exact Z.sub (zle_s (zle_s (zle_s (zle_s (zle_s zle_nil))))) (ih _ _ hq)
set_option maxRecDepth 100000 in
set_option maxHeartbeats 4000000 in
theorem L_qH_letMonthsPass_l7 {g : yG} {a : Nat → Nat} {ν : zM} {o : zO} {kc ks : Nat} {h : Nat} {v1 : Int} {v2 : Int} {R : zM}  (A_h : zH h) (he : ∀ (m : zM), R = m → Z g a mX2_letMonthsPass 5 kc ks 52 [some (zr h), some (zi v1), some (zi v2), none, none] [] m o ν) : ∀ (n : Nat) (μ : zM) (v3 : Int), qH_letMonthsPass_l7 h v1 v2 n μ v3 = some R → Z g a mX2_letMonthsPass 5 kc ks 7 [some (zr h), some (zi v1), some (zi v2), some (zi v3), none] [] μ o ν := by
  intro n
  induction n with
  | zero => intro μ v3 hq; cases hq
  | succ n ih =>
    intro μ v3 hq
    rw [qH_letMonthsPass_l7] at hq
    refine z_iload_n 8 dX2_letMonthsPass_7 rfl rfl ?_
    refine z_iload_n 9 dX2_letMonthsPass_8 rfl rfl ?_
    refine z_icmp_ge 52 12 dX2_letMonthsPass_9 rfl rfl (fun hc => ?_) (fun hc => ?_)
    · replace hq := z_in hq (Int.not_lt.mpr hc)
      exact Z.sub (zle_s (zle_s (zle_s (zle_n (zle_n zle_nil))))) (he _ (Option.some.inj hq).symm)
    · replace hq := z_ip hq hc
      refine z_aload_n 13 dX2_letMonthsPass_12 rfl rfl ?_
      refine z_dup 14 dX2_letMonthsPass_13 rfl rfl ?_
      refine z_getI (x := (μ h 12)) 17 dX2_letMonthsPass_14 rfl f_RX2_49 A_h.a0 rfl ?_
      refine z_iconst 18 dX2_letMonthsPass_17 rfl (by decide) ?_
      refine z_iadd (r := (wr ((μ h 12) + 1))) 19 dX2_letMonthsPass_18 rfl rfl ?_
      obtain ⟨m1, em1, hq⟩ := z_m hq
      refine z_putI 22 dX2_letMonthsPass_19 rfl p_RX2_49 A_h.a0 em1 ?_
      refine z_iconst 23 dX2_letMonthsPass_22 rfl (by decide) ?_
      refine z_istore (L' := [some (zr h), some (zi v1), some (zi v2), some (zi v3), some (zi 0)]) 25 dX2_letMonthsPass_23 rfl rfl rfl rfl ?_
      obtain ⟨m3, h3, hq⟩ := z_b hq
      refine Z.sub (zle_s (zle_s (zle_s (zle_s (zle_s zle_nil))))) (L_qH_letMonthsPass_l25 A_h (R := m3) (fun _ e => ?_) _ _ _ h3)
      cases e
      refine z_iinc (r := (wr (v3 + 1))) (L' := [some (zr h), some (zi v1), some (zi v2), some (zi (wr (v3 + 1))), none]) 49 dX2_letMonthsPass_46 rfl rfl rfl rfl rfl rfl ?_
      refine z_goto 7 dX2_letMonthsPass_49 rfl ?_
      exact Z.sub (zle_s (zle_s (zle_s (zle_s (zle_n zle_nil))))) (ih _ _ hq)
set_option maxRecDepth 100000 in
set_option maxHeartbeats 4000000 in
theorem Q_qH_letMonthsPass {g : yG} {a : Nat → Nat} {μ : zM} {h : Nat} {v1 : Int} {r : Int} {ν : zM} (A_h : zH h) (hq : qH_letMonthsPass μ h v1 = some (r, ν)) : zC g a mX2_letMonthsPass 5 0 0 [zr h, zi v1] μ (.inl (some (zi r))) ν := by
  unfold qH_letMonthsPass at hq
  refine z_of (L := [some (zr h), some (zi v1), none, none, none]) pl_RX2 rfl (zc_of rfl) rfl rfl ?_
  refine z_aload_n 1 dX2_letMonthsPass_0 rfl rfl ?_
  refine z_getI (x := (μ h 13)) 4 dX2_letMonthsPass_1 rfl f_RX2_52 A_h.a0 rfl ?_
  refine z_istore_n (L' := [some (zr h), some (zi v1), some (zi (μ h 13)), none, none]) 5 dX2_letMonthsPass_4 rfl rfl rfl rfl ?_
  refine z_iconst 6 dX2_letMonthsPass_5 rfl (by decide) ?_
  refine z_istore_n (L' := [some (zr h), some (zi v1), some (zi (μ h 13)), some (zi 0), none]) 7 dX2_letMonthsPass_6 rfl rfl rfl rfl ?_
  obtain ⟨m4, h4, hq⟩ := z_b hq
  refine Z.sub (zle_s (zle_s (zle_s (zle_s (zle_n zle_nil))))) (L_qH_letMonthsPass_l7 A_h (R := m4) (fun _ e => ?_) _ _ _ h4)
  cases e
  refine z_aload_n 53 dX2_letMonthsPass_52 rfl rfl ?_
  refine z_getI (x := (m4 h 13)) 56 dX2_letMonthsPass_53 rfl f_RX2_52 A_h.a0 rfl ?_
  refine z_iload_n 57 dX2_letMonthsPass_56 rfl rfl ?_
  refine z_isub (r := (wr ((m4 h 13) - (μ h 13)))) 58 dX2_letMonthsPass_57 rfl rfl ?_
  cases hq
  exact z_ireturn rfl dX2_letMonthsPass_58
set_option maxRecDepth 100000 in
set_option maxHeartbeats 4000000 in
theorem Q_qT_pass {g : yG} {a : Nat → Nat} {μ : zM} {v1 : Int} {r : Int ⊕ Nat} {ν : zM}  (hq : qT_pass μ v1 = some (r, ν)) : zC g a mX9_pass 6 1 6 [zr 0, zi v1] μ (zri r) ν := by
  unfold qT_pass at hq
  refine z_of (L := [some (zr 0), some (zi v1)]) pl_RX9 rfl (zc_of rfl) rfl rfl ?_
  refine z_aload_n 1 dX9_pass_0 rfl rfl ?_
  refine z_getR (e := 1) (r := 1) 4 dX9_pass_1 rfl f_RX9_12 ar_0 rfl ar_1.1 ?_
  refine z_iload_n 5 dX9_pass_4 rfl rfl ?_
  obtain ⟨a1, h1, hq⟩ := z_b hq
  refine z_callV1 (as := [zi v1]) (S := []) (kc := 1) (ks := 6) 8 dX9_pass_5 rfl (Q_qH_refusalOfMonths zH_1 h1) kX2_refusalOfMonths ⟨_, _, rfl⟩ ar_1 l_RX9_138 rfl rfl rfl rfl rfl rfl rfl ?_
  rcases z_tc hq with ⟨a2, m2, h2, hq⟩ | ⟨ex2, h2, rfl⟩
  · refine z_callS0 (as := [zre a1]) (S := []) (kc := 0) (ks := 0) 11 dX9_pass_8 rfl (Q_qT_refuse  h2) kX9_refuse l_RX9_75 rfl rfl rfl rfl rfl rfl rfl ?_
    refine z_aload_n 12 dX9_pass_11 rfl rfl ?_
    refine z_getR (e := 31) (r := 31) 15 dX9_pass_12 rfl f_RX9_25 ar_0 rfl ar_31.1 ?_
    refine z_aload_n 16 dX9_pass_15 rfl rfl ?_
    refine z_getR (e := 1) (r := 1) 19 dX9_pass_16 rfl f_RX9_12 ar_0 rfl ar_1.1 ?_
    obtain ⟨m3, h3, hq⟩ := z_b hq
    refine z_callV0 (as := [zr 1]) (S := []) (kc := 0) (ks := 0) 22 dX9_pass_19 rfl (Q_qY_push zH_1 h3) kX1_push ⟨_, _, rfl⟩ ar_31 l_RX9_79 rfl rfl rfl rfl rfl rfl rfl ?_
    refine z_aload_n 23 dX9_pass_22 rfl rfl ?_
    refine z_getR (e := 1) (r := 1) 26 dX9_pass_23 rfl f_RX9_12 ar_0 rfl ar_1.1 ?_
    refine z_iload_n 27 dX9_pass_26 rfl rfl ?_
    obtain ⟨a4, m4, h4, hq⟩ := bnd2_some hq
    refine z_callV1 (as := [zi v1]) (S := []) (kc := 0) (ks := 0) 30 dX9_pass_27 rfl (Q_qH_letMonthsPass zH_1 h4) kX2_letMonthsPass ⟨_, _, rfl⟩ ar_1 l_RX9_141 rfl rfl rfl rfl rfl rfl rfl ?_
    cases hq
    exact z_ireturn rfl dX9_pass_30
  · exact z_callSX (e := ex2) (as := [zre a1]) (S := []) (kc := 0) (ks := 0) dX9_pass_8 (Q_qT_refuse  h2) kX9_refuse l_RX9_75 rfl rfl rfl rfl rfl rfl rfl
set_option maxRecDepth 100000 in
set_option maxHeartbeats 4000000 in
theorem Q_qT_flats {g : yG} {a : Nat → Nat} {μ : zM}  {r : Int}  (hq : qT_flats μ = some r) : zC g a mX9_flats 0 0 0 [zr 0] μ (.inl (some (zi r))) μ := by
  unfold qT_flats at hq
  refine z_of (L := [some (zr 0)]) pl_RX9 rfl (zc_of rfl) rfl rfl ?_
  refine z_aload_n 1 dX9_flats_0 rfl rfl ?_
  refine z_getR (e := 1) (r := 1) 4 dX9_flats_1 rfl f_RX9_12 ar_0 rfl ar_1.1 ?_
  refine z_getI (x := (μ 1 0)) 7 dX9_flats_4 rfl f_RX9_144 ar_1 rfl ?_
  cases hq
  exact z_ireturn rfl dX9_flats_7
set_option maxRecDepth 100000 in
set_option maxHeartbeats 4000000 in
theorem Q_qT_requireFlat {g : yG} {a : Nat → Nat} {μ : zM} {v1 : Int} {r : Int ⊕ Nat} {ν : zM}  (hq : qT_requireFlat μ v1 = some (r, ν)) : zC g a mX9_requireFlat 1 1 6 [zr 0, zi v1] μ (zrv r) ν := by
  unfold qT_requireFlat at hq
  refine z_of (L := [some (zr 0), some (zi v1)]) pl_RX9 rfl (zc_of rfl) rfl rfl ?_
  refine z_aload_n 1 dX9_requireFlat_0 rfl rfl ?_
  refine z_getR (e := 1) (r := 1) 4 dX9_requireFlat_1 rfl f_RX9_12 ar_0 rfl ar_1.1 ?_
  refine z_iload_n 5 dX9_requireFlat_4 rfl rfl ?_
  obtain ⟨a1, h1, hq⟩ := z_b hq
  refine z_callV1 (as := [zi v1]) (S := []) (kc := 1) (ks := 6) 8 dX9_requireFlat_5 rfl (Q_qH_hasFlat zH_1 h1) kX2_hasFlat ⟨_, _, rfl⟩ ar_1 l_RX9_370 rfl rfl rfl rfl rfl rfl rfl ?_
  refine z_if_ne 22 11 dX9_requireFlat_8 rfl rfl (fun hc => ?_) (fun hc => ?_)
  · replace hq := z_in hq hc
    cases hq
    exact z_return rfl dX9_requireFlat_22
  · replace hq := z_ip hq hc
    cases hq
    exact z_throwSW (cls := "java/lang/IndexOutOfBoundsException") (text := "no such flat") (names := ["java/lang/RuntimeException", "java/lang/Exception"]) (e := 1) tf_1 (yb 710 (by decide +kernel) rfl) (yb 108 (by decide +kernel) rfl) ts_362 (by decide +kernel) t_RX9_296 rfl rfl dX9_requireFlat_11 dX9_requireFlat_14 dX9_requireFlat_15 dX9_requireFlat_18 dX9_requireFlat_21 rfl rfl rfl
set_option maxRecDepth 100000 in
set_option maxHeartbeats 4000000 in
theorem Q_qT_floorOf {g : yG} {a : Nat → Nat} {μ : zM} {v1 : Int} {r : Int ⊕ Nat} {ν : zM}  (hq : qT_floorOf μ v1 = some (r, ν)) : zC g a mX9_floorOf 2 1 6 [zr 0, zi v1] μ (zri r) ν := by
  unfold qT_floorOf at hq
  refine z_of (L := [some (zr 0), some (zi v1)]) pl_RX9 rfl (zc_of rfl) rfl rfl ?_
  refine z_aload_n 1 dX9_floorOf_0 rfl rfl ?_
  refine z_iload_n 2 dX9_floorOf_1 rfl rfl ?_
  rcases z_tc hq with ⟨a1, m1, h1, hq⟩ | ⟨ex1, h1, rfl⟩
  · refine z_callV0 (as := [zi v1]) (S := []) (kc := 0) (ks := 0) 5 dX9_floorOf_2 rfl (Q_qT_requireFlat  h1) kX9_requireFlat ⟨_, _, rfl⟩ ar_0 l_RX9_147 rfl rfl rfl rfl rfl rfl rfl ?_
    refine z_aload_n 6 dX9_floorOf_5 rfl rfl ?_
    refine z_getR (e := 1) (r := 1) 9 dX9_floorOf_6 rfl f_RX9_12 ar_0 rfl ar_1.1 ?_
    refine z_getR (e := 1) (r := 2) 12 dX9_floorOf_9 rfl f_RX9_151 ar_1 rfl ar_2.1 ?_
    refine z_iload_n 13 dX9_floorOf_12 rfl rfl ?_
    obtain ⟨hg13, hq⟩ := z_g hq
    refine z_iaload (x := (m1 2 v1)) 14 dX9_floorOf_13 rfl ar_2 hg13 rfl ?_
    cases hq
    exact z_ireturn rfl dX9_floorOf_14
  · exact z_callVX (e := ex1) (as := [zi v1]) (S := []) (kc := 0) (ks := 0) dX9_floorOf_2 (Q_qT_requireFlat  h1) kX9_requireFlat ⟨_, _, rfl⟩ ar_0 l_RX9_147 rfl rfl rfl rfl rfl rfl rfl
set_option maxRecDepth 100000 in
set_option maxHeartbeats 4000000 in
theorem Q_qT_rentOf {g : yG} {a : Nat → Nat} {μ : zM} {v1 : Int} {r : Int ⊕ Nat} {ν : zM}  (hq : qT_rentOf μ v1 = some (r, ν)) : zC g a mX9_rentOf 2 1 6 [zr 0, zi v1] μ (zri r) ν := by
  unfold qT_rentOf at hq
  refine z_of (L := [some (zr 0), some (zi v1)]) pl_RX9 rfl (zc_of rfl) rfl rfl ?_
  refine z_aload_n 1 dX9_rentOf_0 rfl rfl ?_
  refine z_iload_n 2 dX9_rentOf_1 rfl rfl ?_
  rcases z_tc hq with ⟨a1, m1, h1, hq⟩ | ⟨ex1, h1, rfl⟩
  · refine z_callV0 (as := [zi v1]) (S := []) (kc := 0) (ks := 0) 5 dX9_rentOf_2 rfl (Q_qT_requireFlat  h1) kX9_requireFlat ⟨_, _, rfl⟩ ar_0 l_RX9_147 rfl rfl rfl rfl rfl rfl rfl ?_
    refine z_aload_n 6 dX9_rentOf_5 rfl rfl ?_
    refine z_getR (e := 1) (r := 1) 9 dX9_rentOf_6 rfl f_RX9_12 ar_0 rfl ar_1.1 ?_
    refine z_getR (e := 2) (r := 3) 12 dX9_rentOf_9 rfl f_RX9_155 ar_1 rfl ar_3.1 ?_
    refine z_iload_n 13 dX9_rentOf_12 rfl rfl ?_
    obtain ⟨hg13, hq⟩ := z_g hq
    refine z_iaload (x := (m1 3 v1)) 14 dX9_rentOf_13 rfl ar_3 hg13 rfl ?_
    cases hq
    exact z_ireturn rfl dX9_rentOf_14
  · exact z_callVX (e := ex1) (as := [zi v1]) (S := []) (kc := 0) (ks := 0) dX9_rentOf_2 (Q_qT_requireFlat  h1) kX9_requireFlat ⟨_, _, rfl⟩ ar_0 l_RX9_147 rfl rfl rfl rfl rfl rfl rfl
set_option maxRecDepth 100000 in
set_option maxHeartbeats 4000000 in
theorem Q_qT_tenantIn {g : yG} {a : Nat → Nat} {μ : zM} {v1 : Int} {r : Int ⊕ Nat} {ν : zM}  (hq : qT_tenantIn μ v1 = some (r, ν)) : zC g a mX9_tenantIn 2 2 12 [zr 0, zi v1] μ (zri r) ν := by
  unfold qT_tenantIn at hq
  refine z_of (L := [some (zr 0), some (zi v1), none]) pl_RX9 rfl (zc_of rfl) rfl rfl ?_
  refine z_aload_n 1 dX9_tenantIn_0 rfl rfl ?_
  refine z_iload_n 2 dX9_tenantIn_1 rfl rfl ?_
  rcases z_tc hq with ⟨a1, m1, h1, hq⟩ | ⟨ex1, h1, rfl⟩
  · refine z_callV0 (as := [zi v1]) (S := []) (kc := 1) (ks := 6) 5 dX9_tenantIn_2 rfl (Q_qT_requireFlat  h1) kX9_requireFlat ⟨_, _, rfl⟩ ar_0 l_RX9_147 rfl rfl rfl rfl rfl rfl rfl ?_
    refine z_aload_n 6 dX9_tenantIn_5 rfl rfl ?_
    refine z_getR (e := 1) (r := 1) 9 dX9_tenantIn_6 rfl f_RX9_12 ar_0 rfl ar_1.1 ?_
    refine z_iload_n 10 dX9_tenantIn_9 rfl rfl ?_
    obtain ⟨a2, h2, hq⟩ := z_b hq
    refine z_callV1 (as := [zi v1]) (S := []) (kc := 1) (ks := 6) 13 dX9_tenantIn_10 rfl (Q_qH_slotIn zH_1 h2) kX2_slotIn ⟨_, _, rfl⟩ ar_1 l_RX9_158 rfl rfl rfl rfl rfl rfl rfl ?_
    refine z_istore_n (L' := [some (zr 0), some (zi v1), some (zi a2)]) 14 dX9_tenantIn_13 rfl rfl rfl rfl ?_
    refine z_iload_n 15 dX9_tenantIn_14 rfl rfl ?_
    refine z_iconst 16 dX9_tenantIn_15 rfl (by decide) ?_
    refine z_icmp_ne 29 19 dX9_tenantIn_16 rfl rfl (fun hc => ?_) (fun hc => ?_)
    · replace hq := z_in hq hc
      refine z_aload_n 30 dX9_tenantIn_29 rfl rfl ?_
      refine z_getR (e := 1) (r := 1) 33 dX9_tenantIn_30 rfl f_RX9_12 ar_0 rfl ar_1.1 ?_
      refine z_getR (e := 3) (r := 4) 36 dX9_tenantIn_33 rfl f_RX9_168 ar_1 rfl ar_4.1 ?_
      refine z_iload_n 37 dX9_tenantIn_36 rfl rfl ?_
      obtain ⟨hg37, hq⟩ := z_g hq
      refine z_iaload (x := (m1 4 a2)) 38 dX9_tenantIn_37 rfl ar_4 hg37 rfl ?_
      cases hq
      exact z_ireturn rfl dX9_tenantIn_38
    · replace hq := z_ip hq hc
      cases hq
      exact z_throwN (cls := "java/util/NoSuchElementException") (text := "the flat is vacant") (names := ["java/lang/Exception"]) (e := 0) tf_0 (yb 638 (by decide +kernel) rfl) (yb 107 (by decide +kernel) rfl) ts_163 (by decide +kernel) t_RX9_165 rfl rfl dX9_tenantIn_19 dX9_tenantIn_22 dX9_tenantIn_23 dX9_tenantIn_25 dX9_tenantIn_28 rfl rfl rfl
  · exact z_callVX (e := ex1) (as := [zi v1]) (S := []) (kc := 1) (ks := 6) dX9_tenantIn_2 (Q_qT_requireFlat  h1) kX9_requireFlat ⟨_, _, rfl⟩ ar_0 l_RX9_147 rfl rfl rfl rfl rfl rfl rfl
set_option maxRecDepth 100000 in
set_option maxHeartbeats 4000000 in
theorem L_qH_housedCount_l4 {g : yG} {a : Nat → Nat} {μ ν : zM} {o : zO} {kc ks : Nat} {h : Nat} {R : Int}  (A_h : zH h) (he : ∀ (tz : Int), R = tz → Z g a mX2_housedCount 0 kc ks 31 [some (zr h), some (zi tz), none] [] μ o ν) : ∀ (n : Nat) (v1 : Int) (v2 : Int), qH_housedCount_l4 μ h n v1 v2 = some R → Z g a mX2_housedCount 0 kc ks 4 [some (zr h), some (zi v1), some (zi v2)] [] μ o ν := by
  intro n
  induction n with
  | zero => intro v1 v2 hq; cases hq
  | succ n ih =>
    intro v1 v2 hq
    rw [qH_housedCount_l4] at hq
    refine z_iload_n 5 dX2_housedCount_4 rfl rfl ?_
    refine z_aload_n 6 dX2_housedCount_5 rfl rfl ?_
    refine z_getI (x := (μ h 3)) 9 dX2_housedCount_6 rfl f_RX2_22 A_h.a0 rfl ?_
    refine z_icmp_ge 31 12 dX2_housedCount_9 rfl rfl (fun hc => ?_) (fun hc => ?_)
    · replace hq := z_in hq (Int.not_lt.mpr hc)
      exact Z.sub (zle_s (zle_s (zle_n zle_nil))) (he _ (Option.some.inj hq).symm)
    · replace hq := z_ip hq hc
      refine z_aload_n 13 dX2_housedCount_12 rfl rfl ?_
      refine z_getR (e := 9) (r := (h + 9)) 16 dX2_housedCount_13 rfl f_RX2_46 A_h.a0 rfl A_h.a9.1 ?_
      refine z_iload_n 17 dX2_housedCount_16 rfl rfl ?_
      obtain ⟨hg17, hq⟩ := z_g hq
      refine z_iaload (x := (μ (h + 9) v2)) 18 dX2_housedCount_17 rfl A_h.a9 hg17 rfl ?_
      refine z_iconst 19 dX2_housedCount_18 rfl (by decide) ?_
      refine z_icmp_eq 25 22 dX2_housedCount_19 rfl rfl (fun hc => ?_) (fun hc => ?_)
      · replace hq := z_ip hq hc
        refine z_iinc (r := (wr (v2 + 1))) (L' := [some (zr h), some (zi v1), some (zi (wr (v2 + 1)))]) 28 dX2_housedCount_25 rfl rfl rfl rfl rfl rfl ?_
        refine z_goto 4 dX2_housedCount_28 rfl ?_
        exact Z.sub (zle_s (zle_s (zle_s zle_nil))) (ih _ _ hq)
      · replace hq := z_in hq hc
        refine z_iinc (r := (wr (v1 + 1))) (L' := [some (zr h), some (zi (wr (v1 + 1))), some (zi v2)]) 25 dX2_housedCount_22 rfl rfl rfl rfl rfl rfl ?_
        refine z_iinc (r := (wr (v2 + 1))) (L' := [some (zr h), some (zi (wr (v1 + 1))), some (zi (wr (v2 + 1)))]) 28 dX2_housedCount_25 rfl rfl rfl rfl rfl rfl ?_
        refine z_goto 4 dX2_housedCount_28 rfl ?_
        exact Z.sub (zle_s (zle_s (zle_s zle_nil))) (ih _ _ hq)
set_option maxRecDepth 100000 in
set_option maxHeartbeats 4000000 in
theorem Q_qH_housedCount {g : yG} {a : Nat → Nat} {μ : zM} {h : Nat} {r : Int} (A_h : zH h) (hq : qH_housedCount μ h = some r) : zC g a mX2_housedCount 0 0 0 [zr h] μ (.inl (some (zi r))) μ := by
  unfold qH_housedCount at hq
  refine z_of (L := [some (zr h), none, none]) pl_RX2 rfl (zc_of rfl) rfl rfl ?_
  refine z_iconst 1 dX2_housedCount_0 rfl (by decide) ?_
  refine z_istore_n (L' := [some (zr h), some (zi 0), none]) 2 dX2_housedCount_1 rfl rfl rfl rfl ?_
  refine z_iconst 3 dX2_housedCount_2 rfl (by decide) ?_
  refine z_istore_n (L' := [some (zr h), some (zi 0), some (zi 0)]) 4 dX2_housedCount_3 rfl rfl rfl rfl ?_
  obtain ⟨t1, h1, hq⟩ := z_b hq
  refine Z.sub (zle_s (zle_s (zle_s zle_nil))) (L_qH_housedCount_l4 A_h (R := t1) (fun _ e => ?_) _ _ _ h1)
  cases e
  refine z_iload_n 32 dX2_housedCount_31 rfl rfl ?_
  cases hq
  exact z_ireturn rfl dX2_housedCount_32
set_option maxRecDepth 100000 in
set_option maxHeartbeats 4000000 in
theorem Q_qT_vacantFlats {g : yG} {a : Nat → Nat} {μ : zM}  {r : Int}  (hq : qT_vacantFlats μ = some r) : zC g a mX9_vacantFlats 1 0 0 [zr 0] μ (.inl (some (zi r))) μ := by
  unfold qT_vacantFlats at hq
  refine z_of (L := [some (zr 0)]) pl_RX9 rfl (zc_of rfl) rfl rfl ?_
  refine z_aload_n 1 dX9_vacantFlats_0 rfl rfl ?_
  refine z_getR (e := 1) (r := 1) 4 dX9_vacantFlats_1 rfl f_RX9_12 ar_0 rfl ar_1.1 ?_
  refine z_getI (x := (μ 1 0)) 7 dX9_vacantFlats_4 rfl f_RX9_144 ar_1 rfl ?_
  refine z_aload_n 8 dX9_vacantFlats_7 rfl rfl ?_
  refine z_getR (e := 1) (r := 1) 11 dX9_vacantFlats_8 rfl f_RX9_12 ar_0 rfl ar_1.1 ?_
  obtain ⟨a1, h1, hq⟩ := z_b hq
  refine z_callV1 (as := []) (S := [zi (μ 1 0)]) 14 dX9_vacantFlats_11 rfl (Q_qH_housedCount zH_1 h1) kX2_housedCount ⟨_, _, rfl⟩ ar_1 l_RX9_171 rfl rfl rfl rfl rfl rfl rfl ?_
  refine z_isub (r := (wr ((μ 1 0) - a1))) 15 dX9_vacantFlats_14 rfl rfl ?_
  cases hq
  exact z_ireturn rfl dX9_vacantFlats_15
set_option maxRecDepth 100000 in
set_option maxHeartbeats 4000000 in
theorem Q_qT_tenants {g : yG} {a : Nat → Nat} {μ : zM}  {r : Int}  (hq : qT_tenants μ = some r) : zC g a mX9_tenants 0 0 0 [zr 0] μ (.inl (some (zi r))) μ := by
  unfold qT_tenants at hq
  refine z_of (L := [some (zr 0)]) pl_RX9 rfl (zc_of rfl) rfl rfl ?_
  refine z_aload_n 1 dX9_tenants_0 rfl rfl ?_
  refine z_getR (e := 1) (r := 1) 4 dX9_tenants_1 rfl f_RX9_12 ar_0 rfl ar_1.1 ?_
  refine z_getI (x := (μ 1 3)) 7 dX9_tenants_4 rfl f_RX9_175 ar_1 rfl ?_
  cases hq
  exact z_ireturn rfl dX9_tenants_7
set_option maxRecDepth 100000 in
set_option maxHeartbeats 4000000 in
theorem Q_qT_isPresent {g : yG} {a : Nat → Nat} {μ : zM} {v1 : Int} {r : Int}  (hq : qT_isPresent μ v1 = some r) : zC g a mX9_isPresent 1 0 0 [zr 0, zi v1] μ (.inl (some (zi r))) μ := by
  unfold qT_isPresent at hq
  refine z_of (L := [some (zr 0), some (zi v1)]) pl_RX9 rfl (zc_of rfl) rfl rfl ?_
  refine z_aload_n 1 dX9_isPresent_0 rfl rfl ?_
  refine z_getR (e := 1) (r := 1) 4 dX9_isPresent_1 rfl f_RX9_12 ar_0 rfl ar_1.1 ?_
  refine z_iload_n 5 dX9_isPresent_4 rfl rfl ?_
  obtain ⟨a1, h1, hq⟩ := z_b hq
  refine z_callV1 (as := [zi v1]) (S := []) 8 dX9_isPresent_5 rfl (Q_qH_slotOf zH_1 h1) kX2_slotOf ⟨_, _, rfl⟩ ar_1 l_RX9_99 rfl rfl rfl rfl rfl rfl rfl ?_
  refine z_iconst 9 dX9_isPresent_8 rfl (by decide) ?_
  refine z_icmp_eq 16 12 dX9_isPresent_9 rfl rfl (fun hc => ?_) (fun hc => ?_)
  · replace hq := z_ip hq hc
    refine z_iconst 17 dX9_isPresent_16 rfl (by decide) ?_
    cases hq
    exact z_zreturn rfl dX9_isPresent_17 (by decide)
  · replace hq := z_in hq hc
    refine z_iconst 13 dX9_isPresent_12 rfl (by decide) ?_
    refine z_goto 17 dX9_isPresent_13 rfl ?_
    cases hq
    exact z_zreturn rfl dX9_isPresent_17 (by decide)
set_option maxRecDepth 100000 in
set_option maxHeartbeats 4000000 in
theorem Q_qT_presentSlot {g : yG} {a : Nat → Nat} {μ : zM} {v1 : Int} {r : Int ⊕ Nat} {ν : zM}  (hq : qT_presentSlot μ v1 = some (r, ν)) : zC g a mX9_presentSlot 1 1 6 [zr 0, zi v1] μ (zri r) ν := by
  unfold qT_presentSlot at hq
  refine z_of (L := [some (zr 0), some (zi v1), none]) pl_RX9 rfl (zc_of rfl) rfl rfl ?_
  refine z_aload_n 1 dX9_presentSlot_0 rfl rfl ?_
  refine z_getR (e := 1) (r := 1) 4 dX9_presentSlot_1 rfl f_RX9_12 ar_0 rfl ar_1.1 ?_
  refine z_iload_n 5 dX9_presentSlot_4 rfl rfl ?_
  obtain ⟨a1, h1, hq⟩ := z_b hq
  refine z_callV1 (as := [zi v1]) (S := []) (kc := 1) (ks := 6) 8 dX9_presentSlot_5 rfl (Q_qH_slotOf zH_1 h1) kX2_slotOf ⟨_, _, rfl⟩ ar_1 l_RX9_99 rfl rfl rfl rfl rfl rfl rfl ?_
  refine z_istore_n (L' := [some (zr 0), some (zi v1), some (zi a1)]) 9 dX9_presentSlot_8 rfl rfl rfl rfl ?_
  refine z_iload_n 10 dX9_presentSlot_9 rfl rfl ?_
  refine z_iconst 11 dX9_presentSlot_10 rfl (by decide) ?_
  refine z_icmp_ne 25 14 dX9_presentSlot_11 rfl rfl (fun hc => ?_) (fun hc => ?_)
  · replace hq := z_in hq hc
    refine z_iload_n 26 dX9_presentSlot_25 rfl rfl ?_
    cases hq
    exact z_ireturn rfl dX9_presentSlot_26
  · replace hq := z_ip hq hc
    cases hq
    exact z_throwNW (cls := "java/util/NoSuchElementException") (text := "no such tenant") (names := ["java/lang/Exception"]) (e := 0) tf_0 (yb 638 (by decide +kernel) rfl) (yb 107 (by decide +kernel) rfl) ts_360 (by decide +kernel) t_RX9_165 rfl rfl dX9_presentSlot_14 dX9_presentSlot_17 dX9_presentSlot_18 dX9_presentSlot_21 dX9_presentSlot_24 rfl rfl rfl
set_option maxRecDepth 100000 in
set_option maxHeartbeats 4000000 in
theorem Q_qT_weightOf {g : yG} {a : Nat → Nat} {μ : zM} {v1 : Int} {r : Int ⊕ Nat} {ν : zM}  (hq : qT_weightOf μ v1 = some (r, ν)) : zC g a mX9_weightOf 2 1 6 [zr 0, zi v1] μ (zri r) ν := by
  unfold qT_weightOf at hq
  refine z_of (L := [some (zr 0), some (zi v1)]) pl_RX9 rfl (zc_of rfl) rfl rfl ?_
  refine z_aload_n 1 dX9_weightOf_0 rfl rfl ?_
  refine z_getR (e := 1) (r := 1) 4 dX9_weightOf_1 rfl f_RX9_12 ar_0 rfl ar_1.1 ?_
  refine z_getR (e := 4) (r := 5) 7 dX9_weightOf_4 rfl f_RX9_178 ar_1 rfl ar_5.1 ?_
  refine z_aload_n 8 dX9_weightOf_7 rfl rfl ?_
  refine z_iload_n 9 dX9_weightOf_8 rfl rfl ?_
  rcases z_tc hq with ⟨a1, m1, h1, hq⟩ | ⟨ex1, h1, rfl⟩
  · refine z_callV1 (as := [zi v1]) (S := [zr 5]) (kc := 0) (ks := 0) 12 dX9_weightOf_9 rfl (Q_qT_presentSlot  h1) kX9_presentSlot ⟨_, _, rfl⟩ ar_0 l_RX9_181 rfl rfl rfl rfl rfl rfl rfl ?_
    obtain ⟨hg12, hq⟩ := z_g hq
    refine z_iaload (x := (m1 5 a1)) 13 dX9_weightOf_12 rfl ar_5 hg12 rfl ?_
    cases hq
    exact z_ireturn rfl dX9_weightOf_13
  · exact z_callVX (e := ex1) (as := [zi v1]) (S := [zr 5]) (kc := 0) (ks := 0) dX9_weightOf_9 (Q_qT_presentSlot  h1) kX9_presentSlot ⟨_, _, rfl⟩ ar_0 l_RX9_181 rfl rfl rfl rfl rfl rfl rfl
set_option maxRecDepth 100000 in
set_option maxHeartbeats 4000000 in
theorem Q_qT_purseOf {g : yG} {a : Nat → Nat} {μ : zM} {v1 : Int} {r : Int ⊕ Nat} {ν : zM}  (hq : qT_purseOf μ v1 = some (r, ν)) : zC g a mX9_purseOf 2 1 6 [zr 0, zi v1] μ (zri r) ν := by
  unfold qT_purseOf at hq
  refine z_of (L := [some (zr 0), some (zi v1)]) pl_RX9 rfl (zc_of rfl) rfl rfl ?_
  refine z_aload_n 1 dX9_purseOf_0 rfl rfl ?_
  refine z_getR (e := 1) (r := 1) 4 dX9_purseOf_1 rfl f_RX9_12 ar_0 rfl ar_1.1 ?_
  refine z_getR (e := 7) (r := 8) 7 dX9_purseOf_4 rfl f_RX9_184 ar_1 rfl ar_8.1 ?_
  refine z_aload_n 8 dX9_purseOf_7 rfl rfl ?_
  refine z_iload_n 9 dX9_purseOf_8 rfl rfl ?_
  rcases z_tc hq with ⟨a1, m1, h1, hq⟩ | ⟨ex1, h1, rfl⟩
  · refine z_callV1 (as := [zi v1]) (S := [zr 8]) (kc := 0) (ks := 0) 12 dX9_purseOf_9 rfl (Q_qT_presentSlot  h1) kX9_presentSlot ⟨_, _, rfl⟩ ar_0 l_RX9_181 rfl rfl rfl rfl rfl rfl rfl ?_
    obtain ⟨hg12, hq⟩ := z_g hq
    refine z_iaload (x := (m1 8 a1)) 13 dX9_purseOf_12 rfl ar_8 hg12 rfl ?_
    cases hq
    exact z_ireturn rfl dX9_purseOf_13
  · exact z_callVX (e := ex1) (as := [zi v1]) (S := [zr 8]) (kc := 0) (ks := 0) dX9_purseOf_9 (Q_qT_presentSlot  h1) kX9_presentSlot ⟨_, _, rfl⟩ ar_0 l_RX9_181 rfl rfl rfl rfl rfl rfl rfl
set_option maxRecDepth 100000 in
set_option maxHeartbeats 4000000 in
theorem Q_qT_noticesOf {g : yG} {a : Nat → Nat} {μ : zM} {v1 : Int} {r : Int ⊕ Nat} {ν : zM}  (hq : qT_noticesOf μ v1 = some (r, ν)) : zC g a mX9_noticesOf 2 1 6 [zr 0, zi v1] μ (zri r) ν := by
  unfold qT_noticesOf at hq
  refine z_of (L := [some (zr 0), some (zi v1)]) pl_RX9 rfl (zc_of rfl) rfl rfl ?_
  refine z_aload_n 1 dX9_noticesOf_0 rfl rfl ?_
  refine z_getR (e := 1) (r := 1) 4 dX9_noticesOf_1 rfl f_RX9_12 ar_0 rfl ar_1.1 ?_
  refine z_getR (e := 8) (r := 9) 7 dX9_noticesOf_4 rfl f_RX9_187 ar_1 rfl ar_9.1 ?_
  refine z_aload_n 8 dX9_noticesOf_7 rfl rfl ?_
  refine z_iload_n 9 dX9_noticesOf_8 rfl rfl ?_
  rcases z_tc hq with ⟨a1, m1, h1, hq⟩ | ⟨ex1, h1, rfl⟩
  · refine z_callV1 (as := [zi v1]) (S := [zr 9]) (kc := 0) (ks := 0) 12 dX9_noticesOf_9 rfl (Q_qT_presentSlot  h1) kX9_presentSlot ⟨_, _, rfl⟩ ar_0 l_RX9_181 rfl rfl rfl rfl rfl rfl rfl ?_
    obtain ⟨hg12, hq⟩ := z_g hq
    refine z_iaload (x := (m1 9 a1)) 13 dX9_noticesOf_12 rfl ar_9 hg12 rfl ?_
    cases hq
    exact z_ireturn rfl dX9_noticesOf_13
  · exact z_callVX (e := ex1) (as := [zi v1]) (S := [zr 9]) (kc := 0) (ks := 0) dX9_noticesOf_9 (Q_qT_presentSlot  h1) kX9_presentSlot ⟨_, _, rfl⟩ ar_0 l_RX9_181 rfl rfl rfl rfl rfl rfl rfl
set_option maxRecDepth 100000 in
set_option maxHeartbeats 4000000 in
theorem Q_qT_housedSlot {g : yG} {a : Nat → Nat} {μ : zM} {v1 : Int} {r : Int ⊕ Nat} {ν : zM}  (hq : qT_housedSlot μ v1 = some (r, ν)) : zC g a mX9_housedSlot 2 2 12 [zr 0, zi v1] μ (zri r) ν := by
  unfold qT_housedSlot at hq
  refine z_of (L := [some (zr 0), some (zi v1), none]) pl_RX9 rfl (zc_of rfl) rfl rfl ?_
  refine z_aload_n 1 dX9_housedSlot_0 rfl rfl ?_
  refine z_iload_n 2 dX9_housedSlot_1 rfl rfl ?_
  rcases z_tc hq with ⟨a1, m1, h1, hq⟩ | ⟨ex1, h1, rfl⟩
  · refine z_callV1 (as := [zi v1]) (S := []) (kc := 1) (ks := 6) 5 dX9_housedSlot_2 rfl (Q_qT_presentSlot  h1) kX9_presentSlot ⟨_, _, rfl⟩ ar_0 l_RX9_181 rfl rfl rfl rfl rfl rfl rfl ?_
    refine z_istore_n (L' := [some (zr 0), some (zi v1), some (zi a1)]) 6 dX9_housedSlot_5 rfl rfl rfl rfl ?_
    refine z_aload_n 7 dX9_housedSlot_6 rfl rfl ?_
    refine z_getR (e := 1) (r := 1) 10 dX9_housedSlot_7 rfl f_RX9_12 ar_0 rfl ar_1.1 ?_
    refine z_getR (e := 9) (r := 10) 13 dX9_housedSlot_10 rfl f_RX9_190 ar_1 rfl ar_10.1 ?_
    refine z_iload_n 14 dX9_housedSlot_13 rfl rfl ?_
    obtain ⟨hg14, hq⟩ := z_g hq
    refine z_iaload (x := (m1 10 a1)) 15 dX9_housedSlot_14 rfl ar_10 hg14 rfl ?_
    refine z_iconst 16 dX9_housedSlot_15 rfl (by decide) ?_
    refine z_icmp_ne 30 19 dX9_housedSlot_16 rfl rfl (fun hc => ?_) (fun hc => ?_)
    · replace hq := z_in hq hc
      refine z_iload_n 31 dX9_housedSlot_30 rfl rfl ?_
      cases hq
      exact z_ireturn rfl dX9_housedSlot_31
    · replace hq := z_ip hq hc
      cases hq
      exact z_throwNW (cls := "java/util/NoSuchElementException") (text := "the tenant lives in no flat") (names := ["java/lang/Exception"]) (e := 0) tf_0 (yb 638 (by decide +kernel) rfl) (yb 107 (by decide +kernel) rfl) ts_381 (by decide +kernel) t_RX9_165 rfl rfl dX9_housedSlot_19 dX9_housedSlot_22 dX9_housedSlot_23 dX9_housedSlot_26 dX9_housedSlot_29 rfl rfl rfl
  · exact z_callVX (e := ex1) (as := [zi v1]) (S := []) (kc := 1) (ks := 6) dX9_housedSlot_2 (Q_qT_presentSlot  h1) kX9_presentSlot ⟨_, _, rfl⟩ ar_0 l_RX9_181 rfl rfl rfl rfl rfl rfl rfl
set_option maxRecDepth 100000 in
set_option maxHeartbeats 4000000 in
theorem Q_qT_flatOf {g : yG} {a : Nat → Nat} {μ : zM} {v1 : Int} {r : Int ⊕ Nat} {ν : zM}  (hq : qT_flatOf μ v1 = some (r, ν)) : zC g a mX9_flatOf 3 2 12 [zr 0, zi v1] μ (zri r) ν := by
  unfold qT_flatOf at hq
  refine z_of (L := [some (zr 0), some (zi v1)]) pl_RX9 rfl (zc_of rfl) rfl rfl ?_
  refine z_aload_n 1 dX9_flatOf_0 rfl rfl ?_
  refine z_getR (e := 1) (r := 1) 4 dX9_flatOf_1 rfl f_RX9_12 ar_0 rfl ar_1.1 ?_
  refine z_getR (e := 9) (r := 10) 7 dX9_flatOf_4 rfl f_RX9_190 ar_1 rfl ar_10.1 ?_
  refine z_aload_n 8 dX9_flatOf_7 rfl rfl ?_
  refine z_iload_n 9 dX9_flatOf_8 rfl rfl ?_
  rcases z_tc hq with ⟨a1, m1, h1, hq⟩ | ⟨ex1, h1, rfl⟩
  · refine z_callV1 (as := [zi v1]) (S := [zr 10]) (kc := 0) (ks := 0) 12 dX9_flatOf_9 rfl (Q_qT_housedSlot  h1) kX9_housedSlot ⟨_, _, rfl⟩ ar_0 l_RX9_193 rfl rfl rfl rfl rfl rfl rfl ?_
    obtain ⟨hg12, hq⟩ := z_g hq
    refine z_iaload (x := (m1 10 a1)) 13 dX9_flatOf_12 rfl ar_10 hg12 rfl ?_
    cases hq
    exact z_ireturn rfl dX9_flatOf_13
  · exact z_callVX (e := ex1) (as := [zi v1]) (S := [zr 10]) (kc := 0) (ks := 0) dX9_flatOf_9 (Q_qT_housedSlot  h1) kX9_housedSlot ⟨_, _, rfl⟩ ar_0 l_RX9_193 rfl rfl rfl rfl rfl rfl rfl
set_option maxRecDepth 100000 in
set_option maxHeartbeats 4000000 in
theorem Q_qT_burden {g : yG} {a : Nat → Nat} {μ : zM} {v1 : Int} {v2 : Int} {r : Int ⊕ Nat} {ν : zM}  (hq : qT_burden μ v1 v2 = some (r, ν)) : zC g a mX9_burden 2 2 12 [zr 0, zi v1, zi v2] μ (zri r) ν := by
  unfold qT_burden at hq
  refine z_of (L := [some (zr 0), some (zi v1), some (zi v2), none]) pl_RX9 rfl (zc_of rfl) rfl rfl ?_
  refine z_aload_n 1 dX9_burden_0 rfl rfl ?_
  refine z_iload_n 2 dX9_burden_1 rfl rfl ?_
  rcases z_tc hq with ⟨a1, m1, h1, hq⟩ | ⟨ex1, h1, rfl⟩
  · refine z_callV1 (as := [zi v1]) (S := []) (kc := 1) (ks := 6) 5 dX9_burden_2 rfl (Q_qT_presentSlot  h1) kX9_presentSlot ⟨_, _, rfl⟩ ar_0 l_RX9_181 rfl rfl rfl rfl rfl rfl rfl ?_
    refine z_istore_n (L' := [some (zr 0), some (zi v1), some (zi v2), some (zi a1)]) 6 dX9_burden_5 rfl rfl rfl rfl ?_
    refine z_aload_n 7 dX9_burden_6 rfl rfl ?_
    refine z_iload_n 8 dX9_burden_7 rfl rfl ?_
    rcases z_tc hq with ⟨a2, m2, h2, hq⟩ | ⟨ex2, h2, rfl⟩
    · refine z_callV0 (as := [zi v2]) (S := []) (kc := 0) (ks := 0) 11 dX9_burden_8 rfl (Q_qT_requireFlat  h2) kX9_requireFlat ⟨_, _, rfl⟩ ar_0 l_RX9_147 rfl rfl rfl rfl rfl rfl rfl ?_
      refine z_aload_n 12 dX9_burden_11 rfl rfl ?_
      refine z_getR (e := 1) (r := 1) 15 dX9_burden_12 rfl f_RX9_12 ar_0 rfl ar_1.1 ?_
      refine z_iload_n 16 dX9_burden_15 rfl rfl ?_
      refine z_iload_n 17 dX9_burden_16 rfl rfl ?_
      obtain ⟨a3, h3, hq⟩ := z_b hq
      refine z_callV1 (as := [zi a1, zi v2]) (S := []) (kc := 0) (ks := 0) 20 dX9_burden_17 rfl (Q_qH_burdenFor zH_1 h3) kX2_burdenFor ⟨_, _, rfl⟩ ar_1 l_RX9_196 rfl rfl rfl rfl rfl rfl rfl ?_
      cases hq
      exact z_ireturn rfl dX9_burden_20
    · exact z_callVX (e := ex2) (as := [zi v2]) (S := []) (kc := 0) (ks := 0) dX9_burden_8 (Q_qT_requireFlat  h2) kX9_requireFlat ⟨_, _, rfl⟩ ar_0 l_RX9_147 rfl rfl rfl rfl rfl rfl rfl
  · exact z_callVX (e := ex1) (as := [zi v1]) (S := []) (kc := 1) (ks := 6) dX9_burden_2 (Q_qT_presentSlot  h1) kX9_presentSlot ⟨_, _, rfl⟩ ar_0 l_RX9_181 rfl rfl rfl rfl rfl rfl rfl
set_option maxRecDepth 100000 in
set_option maxHeartbeats 4000000 in
theorem L_qT_flatByRank_l9 {g : yG} {a : Nat → Nat} {μ ν : zM} {o : zO} {kc ks : Nat} {v2 : Int} {v3 : Int} {R : Int ⊕ Unit}   (hr : ∀ (x : Int), R = .inl x → o = .inl (some (zi x)) ∧ ν = μ) (he : ∀ (tz : Unit), R = .inr tz → Z g a mX9_flatByRank 3 kc ks 44 [some (zr 0), none, some (zi v2), some (zi v3), none] [] μ o ν) : ∀ (n : Nat) (v4 : Int), qT_flatByRank_l9 μ v2 v3 n v4 = some R → Z g a mX9_flatByRank 3 kc ks 9 [some (zr 0), none, some (zi v2), some (zi v3), some (zi v4)] [] μ o ν := by
  intro n
  induction n with
  | zero => intro v4 hq; cases hq
  | succ n ih =>
    intro v4 hq
    rw [qT_flatByRank_l9] at hq
    refine z_iload 11 dX9_flatByRank_9 rfl rfl ?_
    refine z_aload_n 12 dX9_flatByRank_11 rfl rfl ?_
    refine z_getR (e := 1) (r := 1) 15 dX9_flatByRank_12 rfl f_RX9_12 ar_0 rfl ar_1.1 ?_
    refine z_getI (x := (μ 1 0)) 18 dX9_flatByRank_15 rfl f_RX9_144 ar_1 rfl ?_
    refine z_icmp_ge 44 21 dX9_flatByRank_18 rfl rfl (fun hc => ?_) (fun hc => ?_)
    · replace hq := z_in hq (Int.not_lt.mpr hc)
      exact Z.sub (zle_s (zle_n (zle_s (zle_s (zle_n zle_nil))))) (he _ (Option.some.inj hq).symm)
    · replace hq := z_ip hq hc
      refine z_aload_n 22 dX9_flatByRank_21 rfl rfl ?_
      refine z_getR (e := 1) (r := 1) 25 dX9_flatByRank_22 rfl f_RX9_12 ar_0 rfl ar_1.1 ?_
      refine z_iload_n 26 dX9_flatByRank_25 rfl rfl ?_
      refine z_iload 28 dX9_flatByRank_26 rfl rfl ?_
      obtain ⟨a2, h2, hq⟩ := z_b hq
      refine z_callV1 (as := [zi v3, zi v4]) (S := []) 31 dX9_flatByRank_28 rfl (Q_qH_rankFor zH_1 h2) kX2_rankFor ⟨_, _, rfl⟩ ar_1 l_RX9_199 rfl rfl rfl rfl rfl rfl rfl ?_
      refine z_iload_n 32 dX9_flatByRank_31 rfl rfl ?_
      refine z_icmp_ne 38 35 dX9_flatByRank_32 rfl rfl (fun hc => ?_) (fun hc => ?_)
      · replace hq := z_in hq hc
        refine z_iinc (r := (wr (v4 + 1))) (L' := [some (zr 0), none, some (zi v2), some (zi v3), some (zi (wr (v4 + 1)))]) 41 dX9_flatByRank_38 rfl rfl rfl rfl rfl rfl ?_
        refine z_goto 9 dX9_flatByRank_41 rfl ?_
        exact Z.sub (zle_s (zle_n (zle_s (zle_s (zle_s zle_nil))))) (ih _ hq)
      · replace hq := z_ip hq hc
        refine z_iload 37 dX9_flatByRank_35 rfl rfl ?_
        obtain ⟨ho, hv⟩ := hr _ (Option.some.inj hq).symm
        exact z_conv ho hv (z_ireturn rfl dX9_flatByRank_37)
set_option maxRecDepth 100000 in
set_option maxHeartbeats 4000000 in
theorem Q_qT_flatByRank {g : yG} {a : Nat → Nat} {μ : zM} {v1 : Int} {v2 : Int} {r : Int ⊕ Nat} {ν : zM}  (hq : qT_flatByRank μ v1 v2 = some (r, ν)) : zC g a mX9_flatByRank 3 2 12 [zr 0, zi v1, zi v2] μ (zri r) ν := by
  unfold qT_flatByRank at hq
  refine z_of (L := [some (zr 0), some (zi v1), some (zi v2), none, none]) pl_RX9 rfl (zc_of rfl) rfl rfl ?_
  refine z_aload_n 1 dX9_flatByRank_0 rfl rfl ?_
  refine z_iload_n 2 dX9_flatByRank_1 rfl rfl ?_
  rcases z_tc hq with ⟨a1, m1, h1, hq⟩ | ⟨ex1, h1, rfl⟩
  · refine z_callV1 (as := [zi v1]) (S := []) (kc := 1) (ks := 6) 5 dX9_flatByRank_2 rfl (Q_qT_presentSlot  h1) kX9_presentSlot ⟨_, _, rfl⟩ ar_0 l_RX9_181 rfl rfl rfl rfl rfl rfl rfl ?_
    refine z_istore_n (L' := [some (zr 0), some (zi v1), some (zi v2), some (zi a1), none]) 6 dX9_flatByRank_5 rfl rfl rfl rfl ?_
    refine z_iconst 7 dX9_flatByRank_6 rfl (by decide) ?_
    refine z_istore (L' := [some (zr 0), some (zi v1), some (zi v2), some (zi a1), some (zi 0)]) 9 dX9_flatByRank_7 rfl rfl rfl rfl ?_
    rcases bndS_some hq with ⟨x3, h3, hq⟩ | ⟨t3, h3, hq⟩
    · exact Z.sub (zle_s (zle_n (zle_s (zle_s (zle_s zle_nil))))) (L_qT_flatByRank_l9  (R := .inl x3) (fun _ e => by cases e; cases hq; exact ⟨rfl, rfl⟩) (fun _ e => by cases e) _ _ h3)
    · refine Z.sub (zle_s (zle_n (zle_s (zle_s (zle_s zle_nil))))) (L_qT_flatByRank_l9  (R := .inr t3) (fun _ e => by cases e) (fun _ e => ?_) _ _ h3)
      cases e
      cases hq
      exact z_throwN (cls := "java/util/NoSuchElementException") (text := "no such rank") (names := ["java/lang/Exception"]) (e := 0) tf_0 (yb 638 (by decide +kernel) rfl) (yb 107 (by decide +kernel) rfl) ts_202 (by decide +kernel) t_RX9_165 rfl rfl dX9_flatByRank_44 dX9_flatByRank_47 dX9_flatByRank_48 dX9_flatByRank_50 dX9_flatByRank_53 rfl rfl rfl
  · exact z_callVX (e := ex1) (as := [zi v1]) (S := []) (kc := 1) (ks := 6) dX9_flatByRank_2 (Q_qT_presentSlot  h1) kX9_presentSlot ⟨_, _, rfl⟩ ar_0 l_RX9_181 rfl rfl rfl rfl rfl rfl rfl
set_option maxRecDepth 100000 in
set_option maxHeartbeats 4000000 in
theorem L_qH_rankByPurse_l4 {g : yG} {a : Nat → Nat} {μ ν : zM} {o : zO} {kc ks : Nat} {h : Nat} {v1 : Int} {R : Int}  (A_h : zH h) (he : ∀ (tz : Int), R = tz → Z g a mX2_rankByPurse 0 kc ks 56 [some (zr h), some (zi v1), some (zi tz), none] [] μ o ν) : ∀ (n : Nat) (v2 : Int) (v3 : Int), qH_rankByPurse_l4 μ h v1 n v2 v3 = some R → Z g a mX2_rankByPurse 0 kc ks 4 [some (zr h), some (zi v1), some (zi v2), some (zi v3)] [] μ o ν := by
  intro n
  induction n with
  | zero => intro v2 v3 hq; cases hq
  | succ n ih =>
    intro v2 v3 hq
    rw [qH_rankByPurse_l4] at hq
    refine z_iload_n 5 dX2_rankByPurse_4 rfl rfl ?_
    refine z_aload_n 6 dX2_rankByPurse_5 rfl rfl ?_
    refine z_getI (x := (μ h 3)) 9 dX2_rankByPurse_6 rfl f_RX2_22 A_h.a0 rfl ?_
    refine z_icmp_ge 56 12 dX2_rankByPurse_9 rfl rfl (fun hc => ?_) (fun hc => ?_)
    · replace hq := z_in hq (Int.not_lt.mpr hc)
      exact Z.sub (zle_s (zle_s (zle_s (zle_n zle_nil)))) (he _ (Option.some.inj hq).symm)
    · replace hq := z_ip hq hc
      refine z_aload_n 13 dX2_rankByPurse_12 rfl rfl ?_
      refine z_getR (e := 7) (r := (h + 7)) 16 dX2_rankByPurse_13 rfl f_RX2_40 A_h.a0 rfl A_h.a7.1 ?_
      refine z_iload_n 17 dX2_rankByPurse_16 rfl rfl ?_
      obtain ⟨hg17, hq⟩ := z_g hq
      refine z_iaload (x := (μ (h + 7) v3)) 18 dX2_rankByPurse_17 rfl A_h.a7 hg17 rfl ?_
      refine z_aload_n 19 dX2_rankByPurse_18 rfl rfl ?_
      refine z_getR (e := 7) (r := (h + 7)) 22 dX2_rankByPurse_19 rfl f_RX2_40 A_h.a0 rfl A_h.a7.1 ?_
      refine z_iload_n 23 dX2_rankByPurse_22 rfl rfl ?_
      obtain ⟨hg23, hq⟩ := z_g hq
      refine z_iaload (x := (μ (h + 7) v1)) 24 dX2_rankByPurse_23 rfl A_h.a7 hg23 rfl ?_
      refine z_icmp_gt 47 27 dX2_rankByPurse_24 rfl rfl (fun hc => ?_) (fun hc => ?_)
      · replace hq := z_ip hq hc
        refine z_iinc (r := (wr (v2 + 1))) (L' := [some (zr h), some (zi v1), some (zi (wr (v2 + 1))), some (zi v3)]) 50 dX2_rankByPurse_47 rfl rfl rfl rfl rfl rfl ?_
        refine z_iinc (r := (wr (v3 + 1))) (L' := [some (zr h), some (zi v1), some (zi (wr (v2 + 1))), some (zi (wr (v3 + 1)))]) 53 dX2_rankByPurse_50 rfl rfl rfl rfl rfl rfl ?_
        refine z_goto 4 dX2_rankByPurse_53 rfl ?_
        exact Z.sub (zle_s (zle_s (zle_s (zle_s zle_nil)))) (ih _ _ hq)
      · replace hq := z_in hq (Int.not_lt.mpr hc)
        refine z_aload_n 28 dX2_rankByPurse_27 rfl rfl ?_
        refine z_getR (e := 7) (r := (h + 7)) 31 dX2_rankByPurse_28 rfl f_RX2_40 A_h.a0 rfl A_h.a7.1 ?_
        refine z_iload_n 32 dX2_rankByPurse_31 rfl rfl ?_
        obtain ⟨hg32, hq⟩ := z_g hq
        refine z_iaload (x := (μ (h + 7) v3)) 33 dX2_rankByPurse_32 rfl A_h.a7 hg32 rfl ?_
        refine z_aload_n 34 dX2_rankByPurse_33 rfl rfl ?_
        refine z_getR (e := 7) (r := (h + 7)) 37 dX2_rankByPurse_34 rfl f_RX2_40 A_h.a0 rfl A_h.a7.1 ?_
        refine z_iload_n 38 dX2_rankByPurse_37 rfl rfl ?_
        obtain ⟨hg38, hq⟩ := z_g hq
        refine z_iaload (x := (μ (h + 7) v1)) 39 dX2_rankByPurse_38 rfl A_h.a7 hg38 rfl ?_
        refine z_icmp_ne 50 42 dX2_rankByPurse_39 rfl rfl (fun hc => ?_) (fun hc => ?_)
        · replace hq := z_in hq hc
          refine z_iinc (r := (wr (v3 + 1))) (L' := [some (zr h), some (zi v1), some (zi v2), some (zi (wr (v3 + 1)))]) 53 dX2_rankByPurse_50 rfl rfl rfl rfl rfl rfl ?_
          refine z_goto 4 dX2_rankByPurse_53 rfl ?_
          exact Z.sub (zle_s (zle_s (zle_s (zle_s zle_nil)))) (ih _ _ hq)
        · replace hq := z_ip hq hc
          refine z_iload_n 43 dX2_rankByPurse_42 rfl rfl ?_
          refine z_iload_n 44 dX2_rankByPurse_43 rfl rfl ?_
          refine z_icmp_ge 50 47 dX2_rankByPurse_44 rfl rfl (fun hc => ?_) (fun hc => ?_)
          · replace hq := z_in hq (Int.not_lt.mpr hc)
            refine z_iinc (r := (wr (v3 + 1))) (L' := [some (zr h), some (zi v1), some (zi v2), some (zi (wr (v3 + 1)))]) 53 dX2_rankByPurse_50 rfl rfl rfl rfl rfl rfl ?_
            refine z_goto 4 dX2_rankByPurse_53 rfl ?_
            exact Z.sub (zle_s (zle_s (zle_s (zle_s zle_nil)))) (ih _ _ hq)
          · replace hq := z_ip hq hc
            refine z_iinc (r := (wr (v2 + 1))) (L' := [some (zr h), some (zi v1), some (zi (wr (v2 + 1))), some (zi v3)]) 50 dX2_rankByPurse_47 rfl rfl rfl rfl rfl rfl ?_
            refine z_iinc (r := (wr (v3 + 1))) (L' := [some (zr h), some (zi v1), some (zi (wr (v2 + 1))), some (zi (wr (v3 + 1)))]) 53 dX2_rankByPurse_50 rfl rfl rfl rfl rfl rfl ?_
            refine z_goto 4 dX2_rankByPurse_53 rfl ?_
            exact Z.sub (zle_s (zle_s (zle_s (zle_s zle_nil)))) (ih _ _ hq)
set_option maxRecDepth 100000 in
set_option maxHeartbeats 4000000 in
theorem Q_qH_rankByPurse {g : yG} {a : Nat → Nat} {μ : zM} {h : Nat} {v1 : Int} {r : Int} (A_h : zH h) (hq : qH_rankByPurse μ h v1 = some r) : zC g a mX2_rankByPurse 0 0 0 [zr h, zi v1] μ (.inl (some (zi r))) μ := by
  unfold qH_rankByPurse at hq
  refine z_of (L := [some (zr h), some (zi v1), none, none]) pl_RX2 rfl (zc_of rfl) rfl rfl ?_
  refine z_iconst 1 dX2_rankByPurse_0 rfl (by decide) ?_
  refine z_istore_n (L' := [some (zr h), some (zi v1), some (zi 0), none]) 2 dX2_rankByPurse_1 rfl rfl rfl rfl ?_
  refine z_iconst 3 dX2_rankByPurse_2 rfl (by decide) ?_
  refine z_istore_n (L' := [some (zr h), some (zi v1), some (zi 0), some (zi 0)]) 4 dX2_rankByPurse_3 rfl rfl rfl rfl ?_
  obtain ⟨t1, h1, hq⟩ := z_b hq
  refine Z.sub (zle_s (zle_s (zle_s (zle_s zle_nil)))) (L_qH_rankByPurse_l4 A_h (R := t1) (fun _ e => ?_) _ _ _ h1)
  cases e
  refine z_iload_n 57 dX2_rankByPurse_56 rfl rfl ?_
  cases hq
  exact z_ireturn rfl dX2_rankByPurse_57
set_option maxRecDepth 100000 in
set_option maxHeartbeats 4000000 in
theorem L_qT_tenantByPurse_l2 {g : yG} {a : Nat → Nat} {μ ν : zM} {o : zO} {kc ks : Nat} {v1 : Int} {R : Int ⊕ Unit}   (hr : ∀ (x : Int), R = .inl x → o = .inl (some (zi x)) ∧ ν = μ) (he : ∀ (tz : Unit), R = .inr tz → Z g a mX9_tenantByPurse 1 kc ks 41 [some (zr 0), some (zi v1), none] [] μ o ν) : ∀ (n : Nat) (v2 : Int), qT_tenantByPurse_l2 μ v1 n v2 = some R → Z g a mX9_tenantByPurse 1 kc ks 2 [some (zr 0), some (zi v1), some (zi v2)] [] μ o ν := by
  intro n
  induction n with
  | zero => intro v2 hq; cases hq
  | succ n ih =>
    intro v2 hq
    rw [qT_tenantByPurse_l2] at hq
    refine z_iload_n 3 dX9_tenantByPurse_2 rfl rfl ?_
    refine z_aload_n 4 dX9_tenantByPurse_3 rfl rfl ?_
    refine z_getR (e := 1) (r := 1) 7 dX9_tenantByPurse_4 rfl f_RX9_12 ar_0 rfl ar_1.1 ?_
    refine z_getI (x := (μ 1 3)) 10 dX9_tenantByPurse_7 rfl f_RX9_175 ar_1 rfl ?_
    refine z_icmp_ge 41 13 dX9_tenantByPurse_10 rfl rfl (fun hc => ?_) (fun hc => ?_)
    · replace hq := z_in hq (Int.not_lt.mpr hc)
      exact Z.sub (zle_s (zle_s (zle_n zle_nil))) (he _ (Option.some.inj hq).symm)
    · replace hq := z_ip hq hc
      refine z_aload_n 14 dX9_tenantByPurse_13 rfl rfl ?_
      refine z_getR (e := 1) (r := 1) 17 dX9_tenantByPurse_14 rfl f_RX9_12 ar_0 rfl ar_1.1 ?_
      refine z_iload_n 18 dX9_tenantByPurse_17 rfl rfl ?_
      obtain ⟨a1, h1, hq⟩ := z_b hq
      refine z_callV1 (as := [zi v2]) (S := []) 21 dX9_tenantByPurse_18 rfl (Q_qH_rankByPurse zH_1 h1) kX2_rankByPurse ⟨_, _, rfl⟩ ar_1 l_RX9_204 rfl rfl rfl rfl rfl rfl rfl ?_
      refine z_iload_n 22 dX9_tenantByPurse_21 rfl rfl ?_
      refine z_icmp_ne 35 25 dX9_tenantByPurse_22 rfl rfl (fun hc => ?_) (fun hc => ?_)
      · replace hq := z_in hq hc
        refine z_iinc (r := (wr (v2 + 1))) (L' := [some (zr 0), some (zi v1), some (zi (wr (v2 + 1)))]) 38 dX9_tenantByPurse_35 rfl rfl rfl rfl rfl rfl ?_
        refine z_goto 2 dX9_tenantByPurse_38 rfl ?_
        exact Z.sub (zle_s (zle_s (zle_s zle_nil))) (ih _ hq)
      · replace hq := z_ip hq hc
        refine z_aload_n 26 dX9_tenantByPurse_25 rfl rfl ?_
        refine z_getR (e := 1) (r := 1) 29 dX9_tenantByPurse_26 rfl f_RX9_12 ar_0 rfl ar_1.1 ?_
        refine z_getR (e := 3) (r := 4) 32 dX9_tenantByPurse_29 rfl f_RX9_168 ar_1 rfl ar_4.1 ?_
        refine z_iload_n 33 dX9_tenantByPurse_32 rfl rfl ?_
        obtain ⟨hg33, hq⟩ := z_g hq
        refine z_iaload (x := (μ 4 v2)) 34 dX9_tenantByPurse_33 rfl ar_4 hg33 rfl ?_
        obtain ⟨ho, hv⟩ := hr _ (Option.some.inj hq).symm
        exact z_conv ho hv (z_ireturn rfl dX9_tenantByPurse_34)
set_option maxRecDepth 100000 in
set_option maxHeartbeats 4000000 in
theorem Q_qT_tenantByPurse {g : yG} {a : Nat → Nat} {μ : zM} {v1 : Int} {r : Int ⊕ Nat} {ν : zM}  (hq : qT_tenantByPurse μ v1 = some (r, ν)) : zC g a mX9_tenantByPurse 1 1 6 [zr 0, zi v1] μ (zri r) ν := by
  unfold qT_tenantByPurse at hq
  refine z_of (L := [some (zr 0), some (zi v1), none]) pl_RX9 rfl (zc_of rfl) rfl rfl ?_
  refine z_iconst 1 dX9_tenantByPurse_0 rfl (by decide) ?_
  refine z_istore_n (L' := [some (zr 0), some (zi v1), some (zi 0)]) 2 dX9_tenantByPurse_1 rfl rfl rfl rfl ?_
  rcases bndS_some hq with ⟨x2, h2, hq⟩ | ⟨t2, h2, hq⟩
  · exact Z.sub (zle_s (zle_s (zle_s zle_nil))) (L_qT_tenantByPurse_l2  (R := .inl x2) (fun _ e => by cases e; cases hq; exact ⟨rfl, rfl⟩) (fun _ e => by cases e) _ _ h2)
  · refine Z.sub (zle_s (zle_s (zle_s zle_nil))) (L_qT_tenantByPurse_l2  (R := .inr t2) (fun _ e => by cases e) (fun _ e => ?_) _ _ h2)
    cases e
    cases hq
    exact z_throwN (cls := "java/util/NoSuchElementException") (text := "no such rank") (names := ["java/lang/Exception"]) (e := 0) tf_0 (yb 638 (by decide +kernel) rfl) (yb 107 (by decide +kernel) rfl) ts_202 (by decide +kernel) t_RX9_165 rfl rfl dX9_tenantByPurse_41 dX9_tenantByPurse_44 dX9_tenantByPurse_45 dX9_tenantByPurse_47 dX9_tenantByPurse_50 rfl rfl rfl
set_option maxRecDepth 100000 in
set_option maxHeartbeats 4000000 in
theorem Q_qT_requireFloor {g : yG} {a : Nat → Nat} {μ : zM} {v0 : Int} {r : Int ⊕ Nat} {ν : zM}  (hq : qT_requireFloor μ v0 = some (r, ν)) : zC g a mX9_requireFloor 1 1 6 [zi v0] μ (zrv r) ν := by
  unfold qT_requireFloor at hq
  refine z_of (L := [some (zi v0)]) pl_RX9 rfl (zc_of rfl) rfl rfl ?_
  refine z_iload_n 1 dX9_requireFloor_0 rfl rfl ?_
  refine z_iconst 2 dX9_requireFloor_1 rfl (by decide) ?_
  refine z_iconst 3 dX9_requireFloor_2 rfl (by decide) ?_
  obtain ⟨a1, h1, hq⟩ := z_b hq
  refine z_callS1 (as := [zi v0, zi 0, zi 5]) (S := []) (kc := 1) (ks := 6) 6 dX9_requireFloor_3 rfl (Q_qT_isWithin  h1) kX9_isWithin l_RX9_373 rfl rfl rfl rfl rfl rfl rfl ?_
  refine z_if_ne 20 9 dX9_requireFloor_6 rfl rfl (fun hc => ?_) (fun hc => ?_)
  · replace hq := z_in hq hc
    cases hq
    exact z_return rfl dX9_requireFloor_20
  · replace hq := z_ip hq hc
    cases hq
    exact z_throwSW (cls := "java/lang/IndexOutOfBoundsException") (text := "no such floor") (names := ["java/lang/RuntimeException", "java/lang/Exception"]) (e := 1) tf_1 (yb 710 (by decide +kernel) rfl) (yb 108 (by decide +kernel) rfl) ts_377 (by decide +kernel) t_RX9_296 rfl rfl dX9_requireFloor_9 dX9_requireFloor_12 dX9_requireFloor_13 dX9_requireFloor_16 dX9_requireFloor_19 rfl rfl rfl
set_option maxRecDepth 100000 in
set_option maxHeartbeats 4000000 in
theorem L_qH_creakOn_l4 {g : yG} {a : Nat → Nat} {μ ν : zM} {o : zO} {kc ks : Nat} {h : Nat} {v1 : Int} {R : Int}  (A_h : zH h) (he : ∀ (tz : Int), R = tz → Z g a mX2_creakOn 0 kc ks 52 [some (zr h), some (zi v1), some (zi tz), none, none] [] μ o ν) : ∀ (n : Nat) (v2 : Int) (v3 : Int), qH_creakOn_l4 μ h v1 n v2 v3 = some R → Z g a mX2_creakOn 0 kc ks 4 [some (zr h), some (zi v1), some (zi v2), some (zi v3), none] [] μ o ν := by
  intro n
  induction n with
  | zero => intro v2 v3 hq; cases hq
  | succ n ih =>
    intro v2 v3 hq
    rw [qH_creakOn_l4] at hq
    refine z_iload_n 5 dX2_creakOn_4 rfl rfl ?_
    refine z_aload_n 6 dX2_creakOn_5 rfl rfl ?_
    refine z_getI (x := (μ h 3)) 9 dX2_creakOn_6 rfl f_RX2_22 A_h.a0 rfl ?_
    refine z_icmp_ge 52 12 dX2_creakOn_9 rfl rfl (fun hc => ?_) (fun hc => ?_)
    · replace hq := z_in hq (Int.not_lt.mpr hc)
      exact Z.sub (zle_s (zle_s (zle_s (zle_n (zle_n zle_nil))))) (he _ (Option.some.inj hq).symm)
    · replace hq := z_ip hq hc
      refine z_aload_n 13 dX2_creakOn_12 rfl rfl ?_
      refine z_getR (e := 9) (r := (h + 9)) 16 dX2_creakOn_13 rfl f_RX2_46 A_h.a0 rfl A_h.a9.1 ?_
      refine z_iload_n 17 dX2_creakOn_16 rfl rfl ?_
      obtain ⟨hg17, hq⟩ := z_g hq
      refine z_iaload (x := (μ (h + 9) v3)) 18 dX2_creakOn_17 rfl A_h.a9 hg17 rfl ?_
      refine z_istore (L' := [some (zr h), some (zi v1), some (zi v2), some (zi v3), some (zi (μ (h + 9) v3))]) 20 dX2_creakOn_18 rfl rfl rfl rfl ?_
      refine z_iload 22 dX2_creakOn_20 rfl rfl ?_
      refine z_iconst 23 dX2_creakOn_22 rfl (by decide) ?_
      refine z_icmp_eq 46 26 dX2_creakOn_23 rfl rfl (fun hc => ?_) (fun hc => ?_)
      · replace hq := z_ip hq hc
        refine z_iinc (r := (wr (v3 + 1))) (L' := [some (zr h), some (zi v1), some (zi v2), some (zi (wr (v3 + 1))), some (zi (μ (h + 9) v3))]) 49 dX2_creakOn_46 rfl rfl rfl rfl rfl rfl ?_
        refine z_goto 4 dX2_creakOn_49 rfl ?_
        exact Z.sub (zle_s (zle_s (zle_s (zle_s (zle_n zle_nil))))) (ih _ _ hq)
      · replace hq := z_in hq hc
        refine z_aload_n 27 dX2_creakOn_26 rfl rfl ?_
        refine z_getR (e := 1) (r := (h + 1)) 30 dX2_creakOn_27 rfl f_RX2_15 A_h.a0 rfl A_h.a1.1 ?_
        refine z_iload 32 dX2_creakOn_30 rfl rfl ?_
        obtain ⟨hg32, hq⟩ := z_g hq
        refine z_iaload (x := (μ (h + 1) (μ (h + 9) v3))) 33 dX2_creakOn_32 rfl A_h.a1 hg32 rfl ?_
        refine z_iload_n 34 dX2_creakOn_33 rfl rfl ?_
        refine z_icmp_ne 46 37 dX2_creakOn_34 rfl rfl (fun hc => ?_) (fun hc => ?_)
        · replace hq := z_in hq hc
          refine z_iinc (r := (wr (v3 + 1))) (L' := [some (zr h), some (zi v1), some (zi v2), some (zi (wr (v3 + 1))), some (zi (μ (h + 9) v3))]) 49 dX2_creakOn_46 rfl rfl rfl rfl rfl rfl ?_
          refine z_goto 4 dX2_creakOn_49 rfl ?_
          exact Z.sub (zle_s (zle_s (zle_s (zle_s (zle_n zle_nil))))) (ih _ _ hq)
        · replace hq := z_ip hq hc
          refine z_iload_n 38 dX2_creakOn_37 rfl rfl ?_
          refine z_aload_n 39 dX2_creakOn_38 rfl rfl ?_
          refine z_getR (e := 4) (r := (h + 4)) 42 dX2_creakOn_39 rfl f_RX2_31 A_h.a0 rfl A_h.a4.1 ?_
          refine z_iload_n 43 dX2_creakOn_42 rfl rfl ?_
          obtain ⟨hg43, hq⟩ := z_g hq
          refine z_iaload (x := (μ (h + 4) v3)) 44 dX2_creakOn_43 rfl A_h.a4 hg43 rfl ?_
          refine z_iadd (r := (wr (v2 + (μ (h + 4) v3)))) 45 dX2_creakOn_44 rfl rfl ?_
          refine z_istore_n (L' := [some (zr h), some (zi v1), some (zi (wr (v2 + (μ (h + 4) v3)))), some (zi v3), some (zi (μ (h + 9) v3))]) 46 dX2_creakOn_45 rfl rfl rfl rfl ?_
          refine z_iinc (r := (wr (v3 + 1))) (L' := [some (zr h), some (zi v1), some (zi (wr (v2 + (μ (h + 4) v3)))), some (zi (wr (v3 + 1))), some (zi (μ (h + 9) v3))]) 49 dX2_creakOn_46 rfl rfl rfl rfl rfl rfl ?_
          refine z_goto 4 dX2_creakOn_49 rfl ?_
          exact Z.sub (zle_s (zle_s (zle_s (zle_s (zle_n zle_nil))))) (ih _ _ hq)
set_option maxRecDepth 100000 in
set_option maxHeartbeats 4000000 in
theorem Q_qH_creakOn {g : yG} {a : Nat → Nat} {μ : zM} {h : Nat} {v1 : Int} {r : Int} (A_h : zH h) (hq : qH_creakOn μ h v1 = some r) : zC g a mX2_creakOn 0 0 0 [zr h, zi v1] μ (.inl (some (zi r))) μ := by
  unfold qH_creakOn at hq
  refine z_of (L := [some (zr h), some (zi v1), none, none, none]) pl_RX2 rfl (zc_of rfl) rfl rfl ?_
  refine z_iconst 1 dX2_creakOn_0 rfl (by decide) ?_
  refine z_istore_n (L' := [some (zr h), some (zi v1), some (zi 0), none, none]) 2 dX2_creakOn_1 rfl rfl rfl rfl ?_
  refine z_iconst 3 dX2_creakOn_2 rfl (by decide) ?_
  refine z_istore_n (L' := [some (zr h), some (zi v1), some (zi 0), some (zi 0), none]) 4 dX2_creakOn_3 rfl rfl rfl rfl ?_
  obtain ⟨t1, h1, hq⟩ := z_b hq
  refine Z.sub (zle_s (zle_s (zle_s (zle_s (zle_n zle_nil))))) (L_qH_creakOn_l4 A_h (R := t1) (fun _ e => ?_) _ _ _ h1)
  cases e
  refine z_iload_n 53 dX2_creakOn_52 rfl rfl ?_
  cases hq
  exact z_ireturn rfl dX2_creakOn_53
set_option maxRecDepth 100000 in
set_option maxHeartbeats 4000000 in
theorem Q_qT_creak {g : yG} {a : Nat → Nat} {μ : zM} {v1 : Int} {r : Int ⊕ Nat} {ν : zM}  (hq : qT_creak μ v1 = some (r, ν)) : zC g a mX9_creak 2 1 6 [zr 0, zi v1] μ (zri r) ν := by
  unfold qT_creak at hq
  refine z_of (L := [some (zr 0), some (zi v1)]) pl_RX9 rfl (zc_of rfl) rfl rfl ?_
  refine z_iload_n 1 dX9_creak_0 rfl rfl ?_
  rcases z_tc hq with ⟨a1, m1, h1, hq⟩ | ⟨ex1, h1, rfl⟩
  · refine z_callS0 (as := [zi v1]) (S := []) (kc := 0) (ks := 0) 4 dX9_creak_1 rfl (Q_qT_requireFloor  h1) kX9_requireFloor l_RX9_207 rfl rfl rfl rfl rfl rfl rfl ?_
    refine z_aload_n 5 dX9_creak_4 rfl rfl ?_
    refine z_getR (e := 1) (r := 1) 8 dX9_creak_5 rfl f_RX9_12 ar_0 rfl ar_1.1 ?_
    refine z_iload_n 9 dX9_creak_8 rfl rfl ?_
    obtain ⟨a2, h2, hq⟩ := z_b hq
    refine z_callV1 (as := [zi v1]) (S := []) (kc := 0) (ks := 0) 12 dX9_creak_9 rfl (Q_qH_creakOn zH_1 h2) kX2_creakOn ⟨_, _, rfl⟩ ar_1 l_RX9_210 rfl rfl rfl rfl rfl rfl rfl ?_
    cases hq
    exact z_ireturn rfl dX9_creak_12
  · exact z_callSX (e := ex1) (as := [zi v1]) (S := []) (kc := 0) (ks := 0) dX9_creak_1 (Q_qT_requireFloor  h1) kX9_requireFloor l_RX9_207 rfl rfl rfl rfl rfl rfl rfl
set_option maxRecDepth 100000 in
set_option maxHeartbeats 4000000 in
theorem L_qS_measure_l2 {g : yG} {a : Nat → Nat} {ν : zM} {o : zO} {kc ks : Nat} {v1 : Nat} {R : zM}  (A_v1 : zH v1) (he : ∀ (m : zM), R = m → Z g a mX7_measure 1 kc ks 25 [some (zr 132), some (zr v1), none] [] m o ν) : ∀ (n : Nat) (μ : zM) (v2 : Int), qS_measure_l2 v1 n μ v2 = some R → Z g a mX7_measure 1 kc ks 2 [some (zr 132), some (zr v1), some (zi v2)] [] μ o ν := by
  intro n
  induction n with
  | zero => intro μ v2 hq; cases hq
  | succ n ih =>
    intro μ v2 hq
    rw [qS_measure_l2] at hq
    refine z_iload_n 3 dX7_measure_2 rfl rfl ?_
    refine z_bipush 5 dX7_measure_3 rfl (by decide) (by decide) ?_
    refine z_icmp_ge 25 8 dX7_measure_5 rfl rfl (fun hc => ?_) (fun hc => ?_)
    · replace hq := z_in hq (Int.not_lt.mpr hc)
      exact Z.sub (zle_s (zle_s (zle_n zle_nil))) (he _ (Option.some.inj hq).symm)
    · replace hq := z_ip hq hc
      refine z_aload_n 9 dX7_measure_8 rfl rfl ?_
      refine z_getR (e := 1) (r := 133) 12 dX7_measure_9 rfl f_RX7_9 ar_132 rfl ar_133.1 ?_
      refine z_iload_n 13 dX7_measure_12 rfl rfl ?_
      refine z_aload_n 14 dX7_measure_13 rfl rfl ?_
      refine z_iload_n 15 dX7_measure_14 rfl rfl ?_
      obtain ⟨a1, h1, hq⟩ := z_b hq
      refine z_callV1 (as := [zi v2]) (S := [zi v2, zr 133]) 18 dX7_measure_15 rfl (Q_qH_creakOn A_v1 h1) kX2_creakOn ⟨_, _, rfl⟩ A_v1.a0 l_RX7_21 rfl rfl rfl rfl rfl rfl rfl ?_
      obtain ⟨hg18, hq⟩ := z_g hq
      obtain ⟨m2, em2, hq⟩ := z_m hq
      refine z_iastore 19 dX7_measure_18 rfl ar_133 hg18 em2 ?_
      refine z_iinc (r := (wr (v2 + 1))) (L' := [some (zr 132), some (zr v1), some (zi (wr (v2 + 1)))]) 22 dX7_measure_19 rfl rfl rfl rfl rfl rfl ?_
      refine z_goto 2 dX7_measure_22 rfl ?_
      exact Z.sub (zle_s (zle_s (zle_s zle_nil))) (ih _ _ hq)
set_option maxRecDepth 100000 in
set_option maxHeartbeats 4000000 in
theorem Q_qS_measure {g : yG} {a : Nat → Nat} {μ : zM} {v1 : Nat} {ν : zM} (A_v1 : zH v1) (hq : qS_measure μ v1 = some ν) : zC g a mX7_measure 1 0 0 [zr 132, zr v1] μ (.inl none) ν := by
  unfold qS_measure at hq
  refine z_of (L := [some (zr 132), some (zr v1), none]) pl_RX7 rfl (zc_of rfl) rfl rfl ?_
  refine z_iconst 1 dX7_measure_0 rfl (by decide) ?_
  refine z_istore_n (L' := [some (zr 132), some (zr v1), some (zi 0)]) 2 dX7_measure_1 rfl rfl rfl rfl ?_
  obtain ⟨m3, h3, hq⟩ := z_b hq
  refine Z.sub (zle_s (zle_s (zle_s zle_nil))) (L_qS_measure_l2 A_v1 (R := m3) (fun _ e => ?_) _ _ _ h3)
  cases e
  cases hq
  exact z_return rfl dX7_measure_25
set_option maxRecDepth 100000 in
set_option maxHeartbeats 4000000 in
theorem J_qS_spread_j25 {g : yG} {a : Nat → Nat} {μ : zM} {kc ks : Nat} {v0 : Nat} {v2 : Int} {v3 : Int} {r : Int} {ν : zM} {f : zM → Nat → Int → Int → Option (Int × zM)} {D9 : Nat} (hf : ∀ {μ : zM} {v0 : Nat} {v2 : Int} {v3 : Int} {r : Int} {ν : zM}, zH v0 → f μ v0 v2 v3 = some (r, ν) → zC g a mX7_spread D9 0 0 [zr v0, zr 133, zi v2, zi v3] μ (.inl (some (zi r))) ν) {d : Nat} (hd : D9 + 1 ≤ d) (hB : 0 ≤ D9)  (A_v0 : zH v0) (hq : qS_spread_j25 f μ v0 v2 v3 = some (r, ν)) : Z g a mX7_spread d kc ks 25 [some (zr v0), some (zr 133), some (zi v2), some (zi v3), none, none, none] [] μ (.inl (some (zi r))) ν := by
  unfold qS_spread_j25 at hq
  refine z_aload_n 26 dX7_spread_25 rfl rfl ?_
  refine z_aload_n 27 dX7_spread_26 rfl rfl ?_
  refine z_iload_n 28 dX7_spread_27 rfl rfl ?_
  refine z_iconst 29 dX7_spread_28 rfl (by decide) ?_
  refine z_iadd (r := (wr (v2 + 1))) 30 dX7_spread_29 rfl rfl ?_
  refine z_iload_n 31 dX7_spread_30 rfl rfl ?_
  obtain ⟨a1, m1, h1, hq⟩ := bnd2_some hq
  refine z_callS1 (as := [zr v0, zr 133, zi (wr (v2 + 1)), zi v3]) (S := []) 34 dX7_spread_31 rfl (hf A_v0 h1) kX7_spread l_RX7_31 (Nat.ble_eq.mpr (by omega)) rfl rfl rfl rfl rfl rfl ?_
  cases hq
  exact z_ireturn rfl dX7_spread_34
set_option maxRecDepth 100000 in
set_option maxHeartbeats 4000000 in
theorem L_qS_spread_l49 {g : yG} {a : Nat → Nat} {ν : zM} {o : zO} {kc ks : Nat} {v0 : Nat} {v2 : Int} {v3 : Int} {v4 : Int} {R : (Int) × zM} {f : zM → Nat → Int → Int → Option (Int × zM)} {D9 : Nat} (hf : ∀ {μ : zM} {v0 : Nat} {v2 : Int} {v3 : Int} {r : Int} {ν : zM}, zH v0 → f μ v0 v2 v3 = some (r, ν) → zC g a mX7_spread D9 0 0 [zr v0, zr 133, zi v2, zi v3] μ (.inl (some (zi r))) ν) {d : Nat} (hd : D9 + 1 ≤ d) (hB : 0 ≤ D9)  (A_v0 : zH v0) (he : ∀ (tz : Int) (m : zM), R = (tz, m) → Z g a mX7_spread d kc ks 103 [some (zr v0), some (zr 133), some (zi v2), some (zi v3), some (zi v4), some (zi tz), none] [] m o ν) : ∀ (n : Nat) (μ : zM) (v5 : Int) (v6 : Int), qS_spread_l49 f v0 v2 v3 v4 n μ v5 v6 = some R → Z g a mX7_spread d kc ks 49 [some (zr v0), some (zr 133), some (zi v2), some (zi v3), some (zi v4), some (zi v5), some (zi v6)] [] μ o ν := by
  intro n
  induction n with
  | zero => intro μ v5 v6 hq; cases hq
  | succ n ih =>
    intro μ v5 v6 hq
    rw [qS_spread_l49] at hq
    refine z_iload 51 dX7_spread_49 rfl rfl ?_
    refine z_aload_n 52 dX7_spread_51 rfl rfl ?_
    refine z_alen (x := 6) 53 dX7_spread_52 rfl ar_133 rfl ?_
    refine z_icmp_ge 103 56 dX7_spread_53 rfl rfl (fun hc => ?_) (fun hc => ?_)
    · replace hq := z_in hq (Int.not_lt.mpr hc)
      exact Z.sub (zle_s (zle_s (zle_s (zle_s (zle_s (zle_s (zle_n zle_nil))))))) (he _ _ (Option.some.inj hq).symm)
    · replace hq := z_ip hq hc
      refine z_aload_n 57 dX7_spread_56 rfl rfl ?_
      refine z_iload 59 dX7_spread_57 rfl rfl ?_
      obtain ⟨hg59, hq⟩ := z_g hq
      refine z_iaload (x := (μ 133 v6)) 60 dX7_spread_59 rfl ar_133 hg59 rfl ?_
      refine z_iload 62 dX7_spread_60 rfl rfl ?_
      refine z_icmp_lt 97 65 dX7_spread_62 rfl rfl (fun hc => ?_) (fun hc => ?_)
      · replace hq := z_ip hq hc
        refine z_iinc (r := (wr (v6 + 1))) (L' := [some (zr v0), some (zr 133), some (zi v2), some (zi v3), some (zi v4), some (zi v5), some (zi (wr (v6 + 1)))]) 100 dX7_spread_97 rfl rfl rfl rfl rfl rfl ?_
        refine z_goto 49 dX7_spread_100 rfl ?_
        exact Z.sub (zle_s (zle_s (zle_s (zle_s (zle_s (zle_s (zle_s zle_nil))))))) (ih _ _ _ hq)
      · replace hq := z_in hq (Int.not_lt.mpr hc)
        refine z_aload_n 66 dX7_spread_65 rfl rfl ?_
        refine z_iload 68 dX7_spread_66 rfl rfl ?_
        refine z_dup2 69 dX7_spread_68 rfl rfl rfl ?_
        obtain ⟨hg69, hq⟩ := z_g hq
        refine z_iaload (x := (μ 133 v6)) 70 dX7_spread_69 rfl ar_133 hg69 rfl ?_
        refine z_iload 72 dX7_spread_70 rfl rfl ?_
        refine z_isub (r := (wr ((μ 133 v6) - v4))) 73 dX7_spread_72 rfl rfl ?_
        obtain ⟨hg73, hq⟩ := z_g hq
        obtain ⟨m2, em2, hq⟩ := z_m hq
        refine z_iastore 74 dX7_spread_73 rfl ar_133 hg73 em2 ?_
        refine z_iload 76 dX7_spread_74 rfl rfl ?_
        refine z_aload_n 77 dX7_spread_76 rfl rfl ?_
        refine z_aload_n 78 dX7_spread_77 rfl rfl ?_
        refine z_iload_n 79 dX7_spread_78 rfl rfl ?_
        refine z_iconst 80 dX7_spread_79 rfl (by decide) ?_
        refine z_iadd (r := (wr (v2 + 1))) 81 dX7_spread_80 rfl rfl ?_
        refine z_iload_n 82 dX7_spread_81 rfl rfl ?_
        obtain ⟨a3, m3, h3, hq⟩ := bnd2_some hq
        refine z_callS1 (as := [zr v0, zr 133, zi (wr (v2 + 1)), zi v3]) (S := [zi v5]) 85 dX7_spread_82 rfl (hf A_v0 h3) kX7_spread l_RX7_31 (Nat.ble_eq.mpr (by omega)) rfl rfl rfl rfl rfl rfl ?_
        refine z_iadd (r := (wr (v5 + a3))) 86 dX7_spread_85 rfl rfl ?_
        refine z_istore (L' := [some (zr v0), some (zr 133), some (zi v2), some (zi v3), some (zi v4), some (zi (wr (v5 + a3))), some (zi v6)]) 88 dX7_spread_86 rfl rfl rfl rfl ?_
        refine z_aload_n 89 dX7_spread_88 rfl rfl ?_
        refine z_iload 91 dX7_spread_89 rfl rfl ?_
        refine z_dup2 92 dX7_spread_91 rfl rfl rfl ?_
        obtain ⟨hg92, hq⟩ := z_g hq
        refine z_iaload (x := (m3 133 v6)) 93 dX7_spread_92 rfl ar_133 hg92 rfl ?_
        refine z_iload 95 dX7_spread_93 rfl rfl ?_
        refine z_iadd (r := (wr ((m3 133 v6) + v4))) 96 dX7_spread_95 rfl rfl ?_
        obtain ⟨hg96, hq⟩ := z_g hq
        obtain ⟨m4, em4, hq⟩ := z_m hq
        refine z_iastore 97 dX7_spread_96 rfl ar_133 hg96 em4 ?_
        refine z_iinc (r := (wr (v6 + 1))) (L' := [some (zr v0), some (zr 133), some (zi v2), some (zi v3), some (zi v4), some (zi (wr (v5 + a3))), some (zi (wr (v6 + 1)))]) 100 dX7_spread_97 rfl rfl rfl rfl rfl rfl ?_
        refine z_goto 49 dX7_spread_100 rfl ?_
        exact Z.sub (zle_s (zle_s (zle_s (zle_s (zle_s (zle_s (zle_s zle_nil))))))) (ih _ _ _ hq)
set_option maxRecDepth 100000 in
set_option maxHeartbeats 4000000 in
theorem Q_qS_spread_b {g : yG} {a : Nat → Nat} {μ : zM} {v0 : Nat} {v2 : Int} {v3 : Int} {r : Int} {ν : zM} {f : zM → Nat → Int → Int → Option (Int × zM)} {D9 : Nat} (hf : ∀ {μ : zM} {v0 : Nat} {v2 : Int} {v3 : Int} {r : Int} {ν : zM}, zH v0 → f μ v0 v2 v3 = some (r, ν) → zC g a mX7_spread D9 0 0 [zr v0, zr 133, zi v2, zi v3] μ (.inl (some (zi r))) ν) {d : Nat} (hd : D9 + 1 ≤ d) (hB : 0 ≤ D9) (A_v0 : zH v0) (hq : qS_spread_b f μ v0 v2 v3 = some (r, ν)) : zC g a mX7_spread d 0 0 [zr v0, zr 133, zi v2, zi v3] μ (.inl (some (zi r))) ν := by
  unfold qS_spread_b at hq
  refine z_of (L := [some (zr v0), some (zr 133), some (zi v2), some (zi v3), none, none, none]) pl_RX7 rfl (zc_of rfl) rfl rfl ?_
  refine z_iload_n 1 dX7_spread_0 rfl rfl ?_
  refine z_aload_n 2 dX7_spread_1 rfl rfl ?_
  refine z_getI (x := (μ v0 3)) 5 dX7_spread_2 rfl f_RX7_35 A_v0.a0 rfl ?_
  refine z_icmp_lt 10 8 dX7_spread_5 rfl rfl (fun hc => ?_) (fun hc => ?_)
  · replace hq := z_ip hq hc
    refine z_aload_n 11 dX7_spread_10 rfl rfl ?_
    refine z_getR (e := 9) (r := (v0 + 9)) 14 dX7_spread_11 rfl f_RX7_39 A_v0.a0 rfl A_v0.a9.1 ?_
    refine z_iload_n 15 dX7_spread_14 rfl rfl ?_
    obtain ⟨hg15, hq⟩ := z_g hq
    refine z_iaload (x := (μ (v0 + 9) v2)) 16 dX7_spread_15 rfl A_v0.a9 hg15 rfl ?_
    refine z_iconst 17 dX7_spread_16 rfl (by decide) ?_
    refine z_icmp_eq 25 20 dX7_spread_17 rfl rfl (fun hc => ?_) (fun hc => ?_)
    · replace hq := z_ip hq hc
      exact Z.sub (zle_s (zle_s (zle_s (zle_s (zle_n (zle_n (zle_n zle_nil))))))) (J_qS_spread_j25 hf hd hB A_v0 hq)
    · replace hq := z_in hq hc
      refine z_iload_n 21 dX7_spread_20 rfl rfl ?_
      refine z_iload_n 22 dX7_spread_21 rfl rfl ?_
      refine z_icmp_ne 35 25 dX7_spread_22 rfl rfl (fun hc => ?_) (fun hc => ?_)
      · replace hq := z_in hq hc
        refine z_aload_n 36 dX7_spread_35 rfl rfl ?_
        refine z_getR (e := 4) (r := (v0 + 4)) 39 dX7_spread_36 rfl f_RX7_42 A_v0.a0 rfl A_v0.a4.1 ?_
        refine z_iload_n 40 dX7_spread_39 rfl rfl ?_
        obtain ⟨hg40, hq⟩ := z_g hq
        refine z_iaload (x := (μ (v0 + 4) v2)) 41 dX7_spread_40 rfl A_v0.a4 hg40 rfl ?_
        refine z_istore (L' := [some (zr v0), some (zr 133), some (zi v2), some (zi v3), some (zi (μ (v0 + 4) v2)), none, none]) 43 dX7_spread_41 rfl rfl rfl rfl ?_
        refine z_iconst 44 dX7_spread_43 rfl (by decide) ?_
        refine z_istore (L' := [some (zr v0), some (zr 133), some (zi v2), some (zi v3), some (zi (μ (v0 + 4) v2)), some (zi 0), none]) 46 dX7_spread_44 rfl rfl rfl rfl ?_
        refine z_iconst 47 dX7_spread_46 rfl (by decide) ?_
        refine z_istore (L' := [some (zr v0), some (zr 133), some (zi v2), some (zi v3), some (zi (μ (v0 + 4) v2)), some (zi 0), some (zi 0)]) 49 dX7_spread_47 rfl rfl rfl rfl ?_
        obtain ⟨t5, m5, h5, hq⟩ := bnd2_some hq
        refine Z.sub (zle_s (zle_s (zle_s (zle_s (zle_s (zle_s (zle_s zle_nil))))))) (L_qS_spread_l49 hf hd hB A_v0 (R := (t5, m5)) (fun _ _ e => ?_) _ _ _ _ h5)
        cases e
        refine z_iload 105 dX7_spread_103 rfl rfl ?_
        cases hq
        exact z_ireturn rfl dX7_spread_105
      · replace hq := z_ip hq hc
        exact Z.sub (zle_s (zle_s (zle_s (zle_s (zle_n (zle_n (zle_n zle_nil))))))) (J_qS_spread_j25 hf hd hB A_v0 hq)
  · replace hq := z_in hq (Int.not_lt.mpr hc)
    refine z_iconst 9 dX7_spread_8 rfl (by decide) ?_
    cases hq
    exact z_ireturn rfl dX7_spread_9
set_option maxRecDepth 100000 in
set_option maxHeartbeats 4000000 in
theorem Q_qS_spread {g : yG} {a : Nat → Nat} : ∀ (n d : Nat), 0 + 1 * n ≤ d → ∀ {μ : zM} {v0 : Nat} {v2 : Int} {v3 : Int} {r : Int} {ν : zM}, zH v0 → qS_spread n μ v0 v2 v3 = some (r, ν) → zC g a mX7_spread d 0 0 [zr v0, zr 133, zi v2, zi v3] μ (.inl (some (zi r))) ν := by
  intro n
  induction n with
  | zero => intro d hd μ _ _ _ _ _ A_v0 hq; cases hq
  | succ n ih =>
    intro d hd μ _ _ _ _ _ A_v0 hq
    rw [qS_spread] at hq
    exact Q_qS_spread_b (f := qS_spread n) (D9 := 0 + 1 * n) (ih (0 + 1 * n) (Nat.le_refl _)) (by omega) (by omega) A_v0 hq
set_option maxRecDepth 100000 in
set_option maxHeartbeats 4000000 in
theorem Q_qS_countByTrying {g : yG} {a : Nat → Nat} {μ : zM} {v1 : Nat} {r : Int} {ν : zM} (A_v1 : zH v1) (hq : qS_countByTrying μ v1 = some (r, ν)) : zC g a mX7_countByTrying 21 0 0 [zr 132, zr v1] μ (.inl (some (zi r))) ν := by
  unfold qS_countByTrying at hq
  refine z_of (L := [some (zr 132), some (zr v1)]) pl_RX7 rfl (zc_of rfl) rfl rfl ?_
  refine z_aload_n 1 dX7_countByTrying_0 rfl rfl ?_
  refine z_aload_n 2 dX7_countByTrying_1 rfl rfl ?_
  obtain ⟨m1, h1, hq⟩ := z_b hq
  refine z_callV0 (as := [zr v1]) (S := []) 5 dX7_countByTrying_2 rfl (Q_qS_measure A_v1 h1) kX7_measure ⟨_, _, rfl⟩ ar_132 l_RX7_27 rfl rfl rfl rfl rfl rfl rfl ?_
  refine z_aload_n 6 dX7_countByTrying_5 rfl rfl ?_
  refine z_aload_n 7 dX7_countByTrying_6 rfl rfl ?_
  refine z_getR (e := 1) (r := 133) 10 dX7_countByTrying_7 rfl f_RX7_9 ar_132 rfl ar_133.1 ?_
  refine z_iconst 11 dX7_countByTrying_10 rfl (by decide) ?_
  refine z_iconst 12 dX7_countByTrying_11 rfl (by decide) ?_
  obtain ⟨a2, m2, h2, hq⟩ := bnd2_some hq
  refine z_callS1 (as := [zr v1, zr 133, zi 0, zi (-1)]) (S := []) 15 dX7_countByTrying_12 rfl (Q_qS_spread 20 20 (by decide) A_v1 h2) kX7_spread l_RX7_31 rfl rfl rfl rfl rfl rfl rfl ?_
  cases hq
  exact z_ireturn rfl dX7_countByTrying_15
set_option maxRecDepth 100000 in
set_option maxHeartbeats 4000000 in
theorem Q_qT_censuses {g : yG} {a : Nat → Nat} {μ : zM}  {r : Int} {ν : zM}  (hq : qT_censuses μ = some (r, ν)) : zC g a mX9_censuses 22 0 0 [zr 0] μ (.inl (some (zi r))) ν := by
  unfold qT_censuses at hq
  refine z_of (L := [some (zr 0)]) pl_RX9 rfl (zc_of rfl) rfl rfl ?_
  refine z_aload_n 1 dX9_censuses_0 rfl rfl ?_
  refine z_getR (e := 132) (r := 132) 4 dX9_censuses_1 rfl f_RX9_39 ar_0 rfl ar_132.1 ?_
  refine z_aload_n 5 dX9_censuses_4 rfl rfl ?_
  refine z_getR (e := 1) (r := 1) 8 dX9_censuses_5 rfl f_RX9_12 ar_0 rfl ar_1.1 ?_
  obtain ⟨a1, m1, h1, hq⟩ := bnd2_some hq
  refine z_callV1 (as := [zr 1]) (S := []) 11 dX9_censuses_8 rfl (Q_qS_countByTrying zH_1 h1) kX7_countByTrying ⟨_, _, rfl⟩ ar_132 l_RX9_213 rfl rfl rfl rfl rfl rfl rfl ?_
  cases hq
  exact z_ireturn rfl dX9_censuses_11
set_option maxRecDepth 100000 in
set_option maxHeartbeats 4000000 in
theorem L_qS_weighSets_l21 {g : yG} {a : Nat → Nat} {ν : zM} {o : zO} {kc ks : Nat} {v1 : Nat} {v2 : Int} {R : zM}  (A_v1 : zH v1) (he : ∀ (m : zM), R = m → Z g a mX7_weighSets 1 kc ks 59 [some (zr 132), some (zr v1), some (zi v2), none] [] m o ν) : ∀ (n : Nat) (μ : zM) (v3 : Int), qS_weighSets_l21 v1 v2 n μ v3 = some R → Z g a mX7_weighSets 1 kc ks 21 [some (zr 132), some (zr v1), some (zi v2), some (zi v3)] [] μ o ν := by
  intro n
  induction n with
  | zero => intro μ v3 hq; cases hq
  | succ n ih =>
    intro μ v3 hq
    rw [qS_weighSets_l21] at hq
    refine z_iload_n 22 dX7_weighSets_21 rfl rfl ?_
    refine z_aload_n 23 dX7_weighSets_22 rfl rfl ?_
    refine z_getI (x := (μ v1 3)) 26 dX7_weighSets_23 rfl f_RX7_35 A_v1.a0 rfl ?_
    refine z_icmp_ge 59 29 dX7_weighSets_26 rfl rfl (fun hc => ?_) (fun hc => ?_)
    · replace hq := z_in hq (Int.not_lt.mpr hc)
      exact Z.sub (zle_s (zle_s (zle_s (zle_n zle_nil)))) (he _ (Option.some.inj hq).symm)
    · replace hq := z_ip hq hc
      refine z_iload_n 30 dX7_weighSets_29 rfl rfl ?_
      refine z_iload_n 31 dX7_weighSets_30 rfl rfl ?_
      refine z_ishr (r := (yshr v2 v3)) 32 dX7_weighSets_31 rfl rfl ?_
      refine z_iconst 33 dX7_weighSets_32 rfl (by decide) ?_
      refine z_iand (r := (yand (yshr v2 v3) 1)) 34 dX7_weighSets_33 rfl rfl ?_
      refine z_iconst 35 dX7_weighSets_34 rfl (by decide) ?_
      refine z_icmp_ne 53 38 dX7_weighSets_35 rfl rfl (fun hc => ?_) (fun hc => ?_)
      · replace hq := z_in hq hc
        refine z_iinc (r := (wr (v3 + 1))) (L' := [some (zr 132), some (zr v1), some (zi v2), some (zi (wr (v3 + 1)))]) 56 dX7_weighSets_53 rfl rfl rfl rfl rfl rfl ?_
        refine z_goto 21 dX7_weighSets_56 rfl ?_
        exact Z.sub (zle_s (zle_s (zle_s (zle_s zle_nil)))) (ih _ _ hq)
      · replace hq := z_ip hq hc
        refine z_aload_n 39 dX7_weighSets_38 rfl rfl ?_
        refine z_getR (e := 2) (r := 134) 42 dX7_weighSets_39 rfl f_RX7_15 ar_132 rfl ar_134.1 ?_
        refine z_iload_n 43 dX7_weighSets_42 rfl rfl ?_
        refine z_dup2 44 dX7_weighSets_43 rfl rfl rfl ?_
        obtain ⟨hg44, hq⟩ := z_g hq
        refine z_iaload (x := (μ 134 v2)) 45 dX7_weighSets_44 rfl ar_134 hg44 rfl ?_
        refine z_aload_n 46 dX7_weighSets_45 rfl rfl ?_
        refine z_getR (e := 4) (r := (v1 + 4)) 49 dX7_weighSets_46 rfl f_RX7_42 A_v1.a0 rfl A_v1.a4.1 ?_
        refine z_iload_n 50 dX7_weighSets_49 rfl rfl ?_
        obtain ⟨hg50, hq⟩ := z_g hq
        refine z_iaload (x := (μ (v1 + 4) v3)) 51 dX7_weighSets_50 rfl A_v1.a4 hg50 rfl ?_
        refine z_iadd (r := (wr ((μ 134 v2) + (μ (v1 + 4) v3)))) 52 dX7_weighSets_51 rfl rfl ?_
        obtain ⟨hg52, hq⟩ := z_g hq
        obtain ⟨m2, em2, hq⟩ := z_m hq
        refine z_iastore 53 dX7_weighSets_52 rfl ar_134 hg52 em2 ?_
        refine z_iinc (r := (wr (v3 + 1))) (L' := [some (zr 132), some (zr v1), some (zi v2), some (zi (wr (v3 + 1)))]) 56 dX7_weighSets_53 rfl rfl rfl rfl rfl rfl ?_
        refine z_goto 21 dX7_weighSets_56 rfl ?_
        exact Z.sub (zle_s (zle_s (zle_s (zle_s zle_nil)))) (ih _ _ hq)
set_option maxRecDepth 100000 in
set_option maxHeartbeats 4000000 in
theorem L_qS_weighSets_l10 {g : yG} {a : Nat → Nat} {ν : zM} {o : zO} {kc ks : Nat} {v1 : Nat} {R : zM}  (A_v1 : zH v1) (he : ∀ (m : zM), R = m → Z g a mX7_weighSets 1 kc ks 65 [some (zr 132), some (zr v1), none, none] [] m o ν) : ∀ (n : Nat) (μ : zM) (v2 : Int), qS_weighSets_l10 v1 n μ v2 = some R → Z g a mX7_weighSets 1 kc ks 10 [some (zr 132), some (zr v1), some (zi v2), none] [] μ o ν := by
  intro n
  induction n with
  | zero => intro μ v2 hq; cases hq
  | succ n ih =>
    intro μ v2 hq
    rw [qS_weighSets_l10] at hq
    refine z_iload_n 11 dX7_weighSets_10 rfl rfl ?_
    refine z_aload_n 12 dX7_weighSets_11 rfl rfl ?_
    refine z_getR (e := 2) (r := 134) 15 dX7_weighSets_12 rfl f_RX7_15 ar_132 rfl ar_134.1 ?_
    refine z_alen (x := 64) 16 dX7_weighSets_15 rfl ar_134 rfl ?_
    refine z_icmp_ge 65 19 dX7_weighSets_16 rfl rfl (fun hc => ?_) (fun hc => ?_)
    · replace hq := z_in hq (Int.not_lt.mpr hc)
      exact Z.sub (zle_s (zle_s (zle_n (zle_n zle_nil)))) (he _ (Option.some.inj hq).symm)
    · replace hq := z_ip hq hc
      refine z_iconst 20 dX7_weighSets_19 rfl (by decide) ?_
      refine z_istore_n (L' := [some (zr 132), some (zr v1), some (zi v2), some (zi 0)]) 21 dX7_weighSets_20 rfl rfl rfl rfl ?_
      obtain ⟨m3, h3, hq⟩ := z_b hq
      refine Z.sub (zle_s (zle_s (zle_s (zle_s zle_nil)))) (L_qS_weighSets_l21 A_v1 (R := m3) (fun _ e => ?_) _ _ _ h3)
      cases e
      refine z_iinc (r := (wr (v2 + 1))) (L' := [some (zr 132), some (zr v1), some (zi (wr (v2 + 1))), none]) 62 dX7_weighSets_59 rfl rfl rfl rfl rfl rfl ?_
      refine z_goto 10 dX7_weighSets_62 rfl ?_
      exact Z.sub (zle_s (zle_s (zle_s (zle_n zle_nil)))) (ih _ _ hq)
set_option maxRecDepth 100000 in
set_option maxHeartbeats 4000000 in
theorem Q_qS_weighSets {g : yG} {a : Nat → Nat} {μ : zM} {v1 : Nat} {ν : zM} (A_v1 : zH v1) (hq : qS_weighSets μ v1 = some ν) : zC g a mX7_weighSets 1 0 0 [zr 132, zr v1] μ (.inl none) ν := by
  unfold qS_weighSets at hq
  refine z_of (L := [some (zr 132), some (zr v1), none, none]) pl_RX7 rfl (zc_of rfl) rfl rfl ?_
  refine z_aload_n 1 dX7_weighSets_0 rfl rfl ?_
  refine z_getR (e := 2) (r := 134) 4 dX7_weighSets_1 rfl f_RX7_15 ar_132 rfl ar_134.1 ?_
  refine z_iconst 5 dX7_weighSets_4 rfl (by decide) ?_
  obtain ⟨m1, h1, hq⟩ := z_b hq
  refine z_callN0 (as := [zr 134, zi 0]) (S := []) 8 dX7_weighSets_5 rfl (Q_qT_fill ar_134 h1) kX9_fill n_RX7_48 rfl rfl rfl rfl rfl rfl rfl ?_
  refine z_iconst 9 dX7_weighSets_8 rfl (by decide) ?_
  refine z_istore_n (L' := [some (zr 132), some (zr v1), some (zi 0), none]) 10 dX7_weighSets_9 rfl rfl rfl rfl ?_
  obtain ⟨m4, h4, hq⟩ := z_b hq
  refine Z.sub (zle_s (zle_s (zle_s (zle_n zle_nil)))) (L_qS_weighSets_l10 A_v1 (R := m4) (fun _ e => ?_) _ _ _ h4)
  cases e
  cases hq
  exact z_return rfl dX7_weighSets_65
set_option maxRecDepth 100000 in
set_option maxHeartbeats 4000000 in
theorem L_qS_housedSet_l4 {g : yG} {a : Nat → Nat} {μ ν : zM} {o : zO} {kc ks : Nat} {v0 : Nat} {R : Int}  (A_v0 : zH v0) (he : ∀ (tz : Int), R = tz → Z g a mX7_housedSet 0 kc ks 34 [some (zr v0), some (zi tz), none] [] μ o ν) : ∀ (n : Nat) (v1 : Int) (v2 : Int), qS_housedSet_l4 μ v0 n v1 v2 = some R → Z g a mX7_housedSet 0 kc ks 4 [some (zr v0), some (zi v1), some (zi v2)] [] μ o ν := by
  intro n
  induction n with
  | zero => intro v1 v2 hq; cases hq
  | succ n ih =>
    intro v1 v2 hq
    rw [qS_housedSet_l4] at hq
    refine z_iload_n 5 dX7_housedSet_4 rfl rfl ?_
    refine z_aload_n 6 dX7_housedSet_5 rfl rfl ?_
    refine z_getI (x := (μ v0 3)) 9 dX7_housedSet_6 rfl f_RX7_35 A_v0.a0 rfl ?_
    refine z_icmp_ge 34 12 dX7_housedSet_9 rfl rfl (fun hc => ?_) (fun hc => ?_)
    · replace hq := z_in hq (Int.not_lt.mpr hc)
      exact Z.sub (zle_s (zle_s (zle_n zle_nil))) (he _ (Option.some.inj hq).symm)
    · replace hq := z_ip hq hc
      refine z_aload_n 13 dX7_housedSet_12 rfl rfl ?_
      refine z_getR (e := 9) (r := (v0 + 9)) 16 dX7_housedSet_13 rfl f_RX7_39 A_v0.a0 rfl A_v0.a9.1 ?_
      refine z_iload_n 17 dX7_housedSet_16 rfl rfl ?_
      obtain ⟨hg17, hq⟩ := z_g hq
      refine z_iaload (x := (μ (v0 + 9) v2)) 18 dX7_housedSet_17 rfl A_v0.a9 hg17 rfl ?_
      refine z_iconst 19 dX7_housedSet_18 rfl (by decide) ?_
      refine z_icmp_eq 28 22 dX7_housedSet_19 rfl rfl (fun hc => ?_) (fun hc => ?_)
      · replace hq := z_ip hq hc
        refine z_iinc (r := (wr (v2 + 1))) (L' := [some (zr v0), some (zi v1), some (zi (wr (v2 + 1)))]) 31 dX7_housedSet_28 rfl rfl rfl rfl rfl rfl ?_
        refine z_goto 4 dX7_housedSet_31 rfl ?_
        exact Z.sub (zle_s (zle_s (zle_s zle_nil))) (ih _ _ hq)
      · replace hq := z_in hq hc
        refine z_iload_n 23 dX7_housedSet_22 rfl rfl ?_
        refine z_iconst 24 dX7_housedSet_23 rfl (by decide) ?_
        refine z_iload_n 25 dX7_housedSet_24 rfl rfl ?_
        refine z_ishl (r := (yshl 1 v2)) 26 dX7_housedSet_25 rfl rfl ?_
        refine z_ior (r := (yor v1 (yshl 1 v2))) 27 dX7_housedSet_26 rfl rfl ?_
        refine z_istore_n (L' := [some (zr v0), some (zi (yor v1 (yshl 1 v2))), some (zi v2)]) 28 dX7_housedSet_27 rfl rfl rfl rfl ?_
        refine z_iinc (r := (wr (v2 + 1))) (L' := [some (zr v0), some (zi (yor v1 (yshl 1 v2))), some (zi (wr (v2 + 1)))]) 31 dX7_housedSet_28 rfl rfl rfl rfl rfl rfl ?_
        refine z_goto 4 dX7_housedSet_31 rfl ?_
        exact Z.sub (zle_s (zle_s (zle_s zle_nil))) (ih _ _ hq)
set_option maxRecDepth 100000 in
set_option maxHeartbeats 4000000 in
theorem Q_qS_housedSet {g : yG} {a : Nat → Nat} {μ : zM} {v0 : Nat} {r : Int} (A_v0 : zH v0) (hq : qS_housedSet μ v0 = some r) : zC g a mX7_housedSet 0 0 0 [zr v0] μ (.inl (some (zi r))) μ := by
  unfold qS_housedSet at hq
  refine z_of (L := [some (zr v0), none, none]) pl_RX7 rfl (zc_of rfl) rfl rfl ?_
  refine z_iconst 1 dX7_housedSet_0 rfl (by decide) ?_
  refine z_istore_n (L' := [some (zr v0), some (zi 0), none]) 2 dX7_housedSet_1 rfl rfl rfl rfl ?_
  refine z_iconst 3 dX7_housedSet_2 rfl (by decide) ?_
  refine z_istore_n (L' := [some (zr v0), some (zi 0), some (zi 0)]) 4 dX7_housedSet_3 rfl rfl rfl rfl ?_
  obtain ⟨t1, h1, hq⟩ := z_b hq
  refine Z.sub (zle_s (zle_s (zle_s zle_nil))) (L_qS_housedSet_l4 A_v0 (R := t1) (fun _ e => ?_) _ _ _ h1)
  cases e
  refine z_iload_n 35 dX7_housedSet_34 rfl rfl ?_
  cases hq
  exact z_ireturn rfl dX7_housedSet_35
set_option maxRecDepth 100000 in
set_option maxHeartbeats 4000000 in
theorem L_qS_improve_l12 {g : yG} {a : Nat → Nat} {μ ν : zM} {o : zO} {kc ks : Nat} {v2 : Int} {v3 : Int} {R : Int}   (he : ∀ (tz : Int), R = tz → Z g a mX7_improve 0 kc ks 58 [some (zr 132), none, some (zi v2), some (zi v3), some (zi tz), none] [] μ o ν) : ∀ (n : Nat) (v4 : Int) (v5 : Int), qS_improve_l12 μ v2 v3 n v4 v5 = some R → Z g a mX7_improve 0 kc ks 12 [some (zr 132), none, some (zi v2), some (zi v3), some (zi v4), some (zi v5)] [] μ o ν := by
  intro n
  induction n with
  | zero => intro v4 v5 hq; cases hq
  | succ n ih =>
    intro v4 v5 hq
    rw [qS_improve_l12] at hq
    refine z_iload 14 dX7_improve_12 rfl rfl ?_
    refine z_iload_n 15 dX7_improve_14 rfl rfl ?_
    refine z_icmp_gt 58 18 dX7_improve_15 rfl rfl (fun hc => ?_) (fun hc => ?_)
    · replace hq := z_ip hq hc
      exact Z.sub (zle_s (zle_n (zle_s (zle_s (zle_s (zle_n zle_nil)))))) (he _ (Option.some.inj hq).symm)
    · replace hq := z_in hq (Int.not_lt.mpr hc)
      refine z_aload_n 19 dX7_improve_18 rfl rfl ?_
      refine z_getR (e := 2) (r := 134) 22 dX7_improve_19 rfl f_RX7_15 ar_132 rfl ar_134.1 ?_
      refine z_iload 24 dX7_improve_22 rfl rfl ?_
      obtain ⟨hg24, hq⟩ := z_g hq
      refine z_iaload (x := (μ 134 v5)) 25 dX7_improve_24 rfl ar_134 hg24 rfl ?_
      refine z_iload_n 26 dX7_improve_25 rfl rfl ?_
      refine z_icmp_ne 52 29 dX7_improve_26 rfl rfl (fun hc => ?_) (fun hc => ?_)
      · replace hq := z_in hq hc
        refine z_iinc (r := (wr (v5 + 1))) (L' := [some (zr 132), none, some (zi v2), some (zi v3), some (zi v4), some (zi (wr (v5 + 1)))]) 55 dX7_improve_52 rfl rfl rfl rfl rfl rfl ?_
        refine z_goto 12 dX7_improve_55 rfl ?_
        exact Z.sub (zle_s (zle_n (zle_s (zle_s (zle_s (zle_s zle_nil)))))) (ih _ _ hq)
      · replace hq := z_ip hq hc
        refine z_iload 31 dX7_improve_29 rfl rfl ?_
        refine z_iload_n 32 dX7_improve_31 rfl rfl ?_
        refine z_iand (r := (yand v5 v3)) 33 dX7_improve_32 rfl rfl ?_
        refine z_iload 35 dX7_improve_33 rfl rfl ?_
        refine z_icmp_ne 52 38 dX7_improve_35 rfl rfl (fun hc => ?_) (fun hc => ?_)
        · replace hq := z_in hq hc
          refine z_iinc (r := (wr (v5 + 1))) (L' := [some (zr 132), none, some (zi v2), some (zi v3), some (zi v4), some (zi (wr (v5 + 1)))]) 55 dX7_improve_52 rfl rfl rfl rfl rfl rfl ?_
          refine z_goto 12 dX7_improve_55 rfl ?_
          exact Z.sub (zle_s (zle_n (zle_s (zle_s (zle_s (zle_s zle_nil)))))) (ih _ _ hq)
        · replace hq := z_ip hq hc
          refine z_iload 40 dX7_improve_38 rfl rfl ?_
          refine z_aload_n 41 dX7_improve_40 rfl rfl ?_
          refine z_getR (e := 3) (r := 135) 44 dX7_improve_41 rfl f_RX7_18 ar_132 rfl ar_135.1 ?_
          refine z_iload_n 45 dX7_improve_44 rfl rfl ?_
          refine z_iload 47 dX7_improve_45 rfl rfl ?_
          refine z_ixor (r := (yxor v3 v5)) 48 dX7_improve_47 rfl rfl ?_
          obtain ⟨hg48, hq⟩ := z_g hq
          refine z_iaload (x := (μ 135 (yxor v3 v5))) 49 dX7_improve_48 rfl ar_135 hg48 rfl ?_
          refine z_iadd (r := (wr (v4 + (μ 135 (yxor v3 v5))))) 50 dX7_improve_49 rfl rfl ?_
          refine z_istore (L' := [some (zr 132), none, some (zi v2), some (zi v3), some (zi (wr (v4 + (μ 135 (yxor v3 v5))))), some (zi v5)]) 52 dX7_improve_50 rfl rfl rfl rfl ?_
          refine z_iinc (r := (wr (v5 + 1))) (L' := [some (zr 132), none, some (zi v2), some (zi v3), some (zi (wr (v4 + (μ 135 (yxor v3 v5))))), some (zi (wr (v5 + 1)))]) 55 dX7_improve_52 rfl rfl rfl rfl rfl rfl ?_
          refine z_goto 12 dX7_improve_55 rfl ?_
          exact Z.sub (zle_s (zle_n (zle_s (zle_s (zle_s (zle_s zle_nil)))))) (ih _ _ hq)
set_option maxRecDepth 100000 in
set_option maxHeartbeats 4000000 in
theorem L_qS_improve_l2 {g : yG} {a : Nat → Nat} {ν : zM} {o : zO} {kc ks : Nat} {v2 : Int} {R : zM}   (he : ∀ (m : zM), R = m → Z g a mX7_improve 0 kc ks 72 [some (zr 132), none, some (zi v2), none, none, none] [] m o ν) : ∀ (n : Nat) (μ : zM) (v3 : Int), qS_improve_l2 v2 n μ v3 = some R → Z g a mX7_improve 0 kc ks 2 [some (zr 132), none, some (zi v2), some (zi v3), none, none] [] μ o ν := by
  intro n
  induction n with
  | zero => intro μ v3 hq; cases hq
  | succ n ih =>
    intro μ v3 hq
    rw [qS_improve_l2] at hq
    refine z_iload_n 3 dX7_improve_2 rfl rfl ?_
    refine z_if_lt 72 6 dX7_improve_3 rfl rfl (fun hc => ?_) (fun hc => ?_)
    · replace hq := z_ip hq hc
      exact Z.sub (zle_s (zle_n (zle_s (zle_n (zle_n (zle_n zle_nil)))))) (he _ (Option.some.inj hq).symm)
    · replace hq := z_in hq (Int.not_lt.mpr hc)
      refine z_iconst 7 dX7_improve_6 rfl (by decide) ?_
      refine z_istore (L' := [some (zr 132), none, some (zi v2), some (zi v3), some (zi 0), none]) 9 dX7_improve_7 rfl rfl rfl rfl ?_
      refine z_iconst 10 dX7_improve_9 rfl (by decide) ?_
      refine z_istore (L' := [some (zr 132), none, some (zi v2), some (zi v3), some (zi 0), some (zi 0)]) 12 dX7_improve_10 rfl rfl rfl rfl ?_
      obtain ⟨t1, h1, hq⟩ := z_b hq
      refine Z.sub (zle_s (zle_n (zle_s (zle_s (zle_s (zle_s zle_nil)))))) (L_qS_improve_l12  (R := t1) (fun _ e => ?_) _ _ _ h1)
      cases e
      refine z_aload_n 59 dX7_improve_58 rfl rfl ?_
      refine z_getR (e := 3) (r := 135) 62 dX7_improve_59 rfl f_RX7_18 ar_132 rfl ar_135.1 ?_
      refine z_iload_n 63 dX7_improve_62 rfl rfl ?_
      refine z_iload 65 dX7_improve_63 rfl rfl ?_
      obtain ⟨hg65, hq⟩ := z_g hq
      obtain ⟨m2, em2, hq⟩ := z_m hq
      refine z_iastore 66 dX7_improve_65 rfl ar_135 hg65 em2 ?_
      refine z_iinc (r := (wr (v3 + (-1)))) (L' := [some (zr 132), none, some (zi v2), some (zi (wr (v3 + (-1)))), some (zi t1), none]) 69 dX7_improve_66 rfl rfl rfl rfl rfl rfl ?_
      refine z_goto 2 dX7_improve_69 rfl ?_
      exact Z.sub (zle_s (zle_n (zle_s (zle_s (zle_n (zle_n zle_nil)))))) (ih _ _ hq)
set_option maxRecDepth 100000 in
set_option maxHeartbeats 4000000 in
theorem Q_qS_improve {g : yG} {a : Nat → Nat} {μ : zM} {v1 : Int} {v2 : Int} {ν : zM}  (hq : qS_improve μ v1 v2 = some ν) : zC g a mX7_improve 0 0 0 [zr 132, zi v1, zi v2] μ (.inl none) ν := by
  unfold qS_improve at hq
  refine z_of (L := [some (zr 132), some (zi v1), some (zi v2), none, none, none]) pl_RX7 rfl (zc_of rfl) rfl rfl ?_
  refine z_iload_n 1 dX7_improve_0 rfl rfl ?_
  refine z_istore_n (L' := [some (zr 132), some (zi v1), some (zi v2), some (zi v1), none, none]) 2 dX7_improve_1 rfl rfl rfl rfl ?_
  obtain ⟨m3, h3, hq⟩ := z_b hq
  refine Z.sub (zle_s (zle_n (zle_s (zle_s (zle_n (zle_n zle_nil)))))) (L_qS_improve_l2  (R := m3) (fun _ e => ?_) _ _ _ h3)
  cases e
  cases hq
  exact z_return rfl dX7_improve_72
