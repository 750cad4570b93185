/-! ===== the methods do what the mirror says (laid by wip/whole/tools/proofs.py) ===== -/
set_option maxRecDepth 100000 in
set_option maxHeartbeats 4000000 in
theorem Q_qT_isWithin {g : yG} {a : Nat → Nat} {μ : zM} {v0 : Int} {v1 : Int} {v2 : Int} {r : Int}  (hq : qT_isWithin μ v0 v1 v2 = some r) : zC g a mX9_isWithin 0 0 0 [zi v0, zi v1, zi v2] μ (.inl (some (zi r))) μ := by
  unfold qT_isWithin at hq
  refine z_of (L := [some (zi v0), some (zi v1), some (zi v2)]) pl_RX9 rfl (zc_of rfl) rfl rfl ?_
  refine z_iload_n 1 dX9_isWithin_0 rfl rfl ?_
  refine z_iload_n 2 dX9_isWithin_1 rfl rfl ?_
  refine z_icmp_lt 14 5 dX9_isWithin_2 rfl rfl (fun hc => ?_) (fun hc => ?_)
  · replace hq := z_ip hq hc
    refine z_iconst 15 dX9_isWithin_14 rfl (by decide) ?_
    cases hq
    exact z_zreturn rfl dX9_isWithin_15 (by decide)
  · replace hq := z_in hq (Int.not_lt.mpr hc)
    refine z_iload_n 6 dX9_isWithin_5 rfl rfl ?_
    refine z_iload_n 7 dX9_isWithin_6 rfl rfl ?_
    refine z_icmp_gt 14 10 dX9_isWithin_7 rfl rfl (fun hc => ?_) (fun hc => ?_)
    · replace hq := z_ip hq hc
      refine z_iconst 15 dX9_isWithin_14 rfl (by decide) ?_
      cases hq
      exact z_zreturn rfl dX9_isWithin_15 (by decide)
    · replace hq := z_in hq (Int.not_lt.mpr hc)
      refine z_iconst 11 dX9_isWithin_10 rfl (by decide) ?_
      refine z_goto 15 dX9_isWithin_11 rfl ?_
      cases hq
      exact z_zreturn rfl dX9_isWithin_15 (by decide)
set_option maxRecDepth 100000 in
set_option maxHeartbeats 4000000 in
theorem Q_qH_refusalOfFlat {g : yG} {a : Nat → Nat} {μ : zM} {h : Nat} {v1 : Int} {v2 : Int} {r : Int} (A_h : zH h) (hq : qH_refusalOfFlat μ h v1 v2 = some r) : zC g a mX2_refusalOfFlat 1 0 0 [zr h, zi v1, zi v2] μ (.inl (some (zre r))) μ := by
  unfold qH_refusalOfFlat at hq
  refine z_of (L := [some (zr h), some (zi v1), some (zi v2)]) pl_RX2 rfl (zc_of rfl) rfl rfl ?_
  refine z_iload_n 1 dX2_refusalOfFlat_0 rfl rfl ?_
  refine z_iconst 2 dX2_refusalOfFlat_1 rfl (by decide) ?_
  refine z_iconst 3 dX2_refusalOfFlat_2 rfl (by decide) ?_
  obtain ⟨a1, h1, hq⟩ := z_b hq
  refine z_callN1 (as := [zi v1, zi 0, zi 5]) (S := []) 6 dX2_refusalOfFlat_3 rfl (Q_qT_isWithin  h1) kX9_isWithin n_RX2_81 rfl rfl rfl rfl rfl rfl rfl ?_
  refine z_if_eq 19 9 dX2_refusalOfFlat_6 rfl rfl (fun hc => ?_) (fun hc => ?_)
  · replace hq := z_ip hq hc
    refine z_enumR (x := 3) 22 dX2_refusalOfFlat_19 rfl (by decide) (yb 621 (by decide +kernel) rfl) ?_
    cases hq
    exact z_areturn rfl (Or.inl ⟨_, rfl⟩) dX2_refusalOfFlat_22
  · replace hq := z_in hq hc
    refine z_iload_n 10 dX2_refusalOfFlat_9 rfl rfl ?_
    refine z_iconst 11 dX2_refusalOfFlat_10 rfl (by decide) ?_
    refine z_bipush 13 dX2_refusalOfFlat_11 rfl (by decide) (by decide) ?_
    obtain ⟨a2, h2, hq⟩ := z_b hq
    refine z_callN1 (as := [zi v2, zi 1, zi 99]) (S := []) 16 dX2_refusalOfFlat_13 rfl (Q_qT_isWithin  h2) kX9_isWithin n_RX2_81 rfl rfl rfl rfl rfl rfl rfl ?_
    refine z_if_ne 23 19 dX2_refusalOfFlat_16 rfl rfl (fun hc => ?_) (fun hc => ?_)
    · replace hq := z_in hq hc
      refine z_aload_n 24 dX2_refusalOfFlat_23 rfl rfl ?_
      refine z_getI (x := (μ h 0)) 27 dX2_refusalOfFlat_24 rfl f_RX2_9 A_h.a0 rfl ?_
      refine z_bipush 29 dX2_refusalOfFlat_27 rfl (by decide) (by decide) ?_
      refine z_icmp_lt 38 32 dX2_refusalOfFlat_29 rfl rfl (fun hc => ?_) (fun hc => ?_)
      · replace hq := z_ip hq hc
        refine z_enumR (x := 0) 41 dX2_refusalOfFlat_38 rfl (by decide) (yb 625 (by decide +kernel) rfl) ?_
        cases hq
        exact z_areturn rfl (Or.inl ⟨_, rfl⟩) dX2_refusalOfFlat_41
      · replace hq := z_in hq (Int.not_lt.mpr hc)
        refine z_enumR (x := 4) 35 dX2_refusalOfFlat_32 rfl (by decide) (yb 623 (by decide +kernel) rfl) ?_
        refine z_goto 41 dX2_refusalOfFlat_35 rfl ?_
        cases hq
        exact z_areturn rfl (Or.inl ⟨_, rfl⟩) dX2_refusalOfFlat_41
    · replace hq := z_ip hq hc
      refine z_enumR (x := 3) 22 dX2_refusalOfFlat_19 rfl (by decide) (yb 621 (by decide +kernel) rfl) ?_
      cases hq
      exact z_areturn rfl (Or.inl ⟨_, rfl⟩) dX2_refusalOfFlat_22
set_option maxRecDepth 100000 in
set_option maxHeartbeats 4000000 in
theorem Q_qT_refuse {g : yG} {a : Nat → Nat} {μ : zM} {v0 : Int} {r : Int ⊕ Nat} {ν : zM}  (hq : qT_refuse μ v0 = some (r, ν)) : zC g a mX9_refuse 1 1 6 [zre v0] μ (zrv r) ν := by
  unfold qT_refuse at hq
  refine z_of (L := [some (zre v0)]) pl_RX9 rfl (zc_of rfl) rfl rfl ?_
  refine z_swR 3 dX9_refuse_0 rfl (yb 630 (by decide +kernel) rfl) ?_
  refine z_aload_n 4 dX9_refuse_3 rfl rfl ?_
  obtain ⟨hg4, hq⟩ := z_g hq
  refine z_ordR 7 dX9_refuse_4 rfl hg4 o_RX9_355 rfl rfl rfl ?_
  obtain ⟨hg7, hq⟩ := z_g hq
  refine z_ldR 8 dX9_refuse_7 rfl hg7 ?_
  by_cases hs0 : (swRefusal v0) = 1
  · replace hq := z_ip hq hs0
    refine z_swIn 44 dX9_refuse_8 hs0 rfl rfl rfl ?_
    cases hq
    exact z_throwNW (cls := "java/util/NoSuchElementException") (text := "no such tenant") (names := ["java/lang/Exception"]) (e := 0) tf_0 (yb 638 (by decide +kernel) rfl) (yb 107 (by decide +kernel) rfl) ts_360 (by decide +kernel) t_RX9_165 rfl rfl dX9_refuse_44 dX9_refuse_47 dX9_refuse_48 dX9_refuse_51 dX9_refuse_54 rfl rfl rfl
  · replace hq := z_in hq hs0
    by_cases hs1 : (swRefusal v0) = 2
    · replace hq := z_ip hq hs1
      refine z_swIn 55 dX9_refuse_8 hs1 rfl rfl rfl ?_
      cases hq
      exact z_throwSW (cls := "java/lang/IndexOutOfBoundsException") (text := "no such flat") (names := ["java/lang/RuntimeException", "java/lang/Exception"]) (e := 1) tf_1 (yb 710 (by decide +kernel) rfl) (yb 108 (by decide +kernel) rfl) ts_362 (by decide +kernel) t_RX9_296 rfl rfl dX9_refuse_55 dX9_refuse_58 dX9_refuse_59 dX9_refuse_62 dX9_refuse_65 rfl rfl rfl
    · replace hq := z_in hq hs1
      by_cases hs2 : (swRefusal v0) = 3
      · replace hq := z_ip hq hs2
        refine z_swIn 66 dX9_refuse_8 hs2 rfl rfl rfl ?_
        cases hq
        exact z_throwSW (cls := "java/lang/IllegalArgumentException") (text := "an argument is out of range") (names := ["java/lang/RuntimeException", "java/lang/Exception"]) (e := 2) tf_2 (yb 726 (by decide +kernel) rfl) (yb 109 (by decide +kernel) rfl) ts_364 (by decide +kernel) t_RX9_317 rfl rfl dX9_refuse_66 dX9_refuse_69 dX9_refuse_70 dX9_refuse_73 dX9_refuse_76 rfl rfl rfl
      · replace hq := z_in hq hs2
        by_cases hs3 : (swRefusal v0) = 4
        · replace hq := z_ip hq hs3
          refine z_swIn 77 dX9_refuse_8 hs3 rfl rfl rfl ?_
          cases hq
          exact z_throwSW (cls := "java/lang/IllegalStateException") (text := "not in this state of the house") (names := ["java/lang/RuntimeException", "java/lang/Exception"]) (e := 3) tf_3 (yb 742 (by decide +kernel) rfl) (yb 110 (by decide +kernel) rfl) ts_366 (by decide +kernel) t_RX9_305 rfl rfl dX9_refuse_77 dX9_refuse_80 dX9_refuse_81 dX9_refuse_84 dX9_refuse_87 rfl rfl rfl
        · replace hq := z_in hq hs3
          by_cases hs4 : (swRefusal v0) = 5
          · replace hq := z_ip hq hs4
            refine z_swIn 88 dX9_refuse_8 hs4 rfl rfl rfl ?_
            cases hq
            exact z_throwSW (cls := "java/lang/UnsupportedOperationException") (text := "the tenant cannot afford the flat") (names := ["java/lang/RuntimeException", "java/lang/Exception"]) (e := 4) tf_4 (yb 758 (by decide +kernel) rfl) (yb 111 (by decide +kernel) rfl) ts_368 (by decide +kernel) t_RX9_332 rfl rfl dX9_refuse_88 dX9_refuse_91 dX9_refuse_92 dX9_refuse_95 dX9_refuse_98 rfl rfl rfl
          · replace hq := z_in hq hs4
            refine z_swOut 99 dX9_refuse_8 (by omega) rfl ?_
            cases hq
            exact z_return rfl dX9_refuse_99
set_option maxRecDepth 100000 in
set_option maxHeartbeats 4000000 in
theorem Q_qH_copyRow {g : yG} {a : Nat → Nat} {μ : zM} {v0 : Nat} {v1 : Nat} {ν : zM} (A_v0 : zAr v0 0 6) (A_v1 : zAr v1 0 6) (hq : qH_copyRow μ v0 v1 = some ν) : zC g a mX2_copyRow 0 0 0 [zr v0, zr v1] μ (.inl none) ν := by
  unfold qH_copyRow at hq
  refine z_of (L := [some (zr v0), some (zr v1)]) pl_RX2 rfl (zc_of rfl) rfl rfl ?_
  refine z_aload_n 1 dX2_copyRow_0 rfl rfl ?_
  refine z_iconst 2 dX2_copyRow_1 rfl (by decide) ?_
  refine z_aload_n 3 dX2_copyRow_2 rfl rfl ?_
  refine z_iconst 4 dX2_copyRow_3 rfl (by decide) ?_
  refine z_aload_n 5 dX2_copyRow_4 rfl rfl ?_
  refine z_alen (x := 6) 6 dX2_copyRow_5 rfl A_v0 rfl ?_
  refine z_aload_n 7 dX2_copyRow_6 rfl rfl ?_
  refine z_alen (x := 6) 8 dX2_copyRow_7 rfl A_v1 rfl ?_
  refine z_min (r := 6) 11 dX2_copyRow_8 rfl rfl ⟨(yb 368 (by decide +kernel) rfl), (yb 369 (by decide +kernel) rfl), (yb 112 (by decide +kernel) rfl), (yb 370 (by decide +kernel) rfl)⟩ rfl ?_
  obtain ⟨m1, em1, hq⟩ := z_m hq
  refine z_arraycopy (n := 6) 14 dX2_copyRow_11 rfl A_v0 A_v1 rfl rfl rfl ⟨(yb 371 (by decide +kernel) rfl), (yb 373 (by decide +kernel) rfl), (yb 372 (by decide +kernel) rfl), (yb 113 (by decide +kernel) rfl)⟩ rfl em1 ?_
  cases hq
  exact z_return rfl dX2_copyRow_14
set_option maxRecDepth 100000 in
set_option maxHeartbeats 4000000 in
theorem Q_qH_copyFrom {g : yG} {a : Nat → Nat} {μ : zM} {h : Nat} {v1 : Nat} {ν : zM} (A_h : zH h) (A_v1 : zH v1) (hq : qH_copyFrom μ h v1 = some ν) : zC g a mX2_copyFrom 1 0 0 [zr h, zr v1] μ (.inl none) ν := by
  unfold qH_copyFrom at hq
  refine z_of (L := [some (zr h), some (zr v1)]) pl_RX2 rfl (zc_of rfl) rfl rfl ?_
  refine z_aload_n 1 dX2_copyFrom_0 rfl rfl ?_
  refine z_aload_n 2 dX2_copyFrom_1 rfl rfl ?_
  refine z_getI (x := (μ v1 0)) 5 dX2_copyFrom_2 rfl f_RX2_9 A_v1.a0 rfl ?_
  obtain ⟨m1, em1, hq⟩ := z_m hq
  refine z_putI 8 dX2_copyFrom_5 rfl p_RX2_9 A_h.a0 em1 ?_
  refine z_aload_n 9 dX2_copyFrom_8 rfl rfl ?_
  refine z_getR (e := 1) (r := (v1 + 1)) 12 dX2_copyFrom_9 rfl f_RX2_15 A_v1.a0 rfl A_v1.a1.1 ?_
  refine z_aload_n 13 dX2_copyFrom_12 rfl rfl ?_
  refine z_getR (e := 1) (r := (h + 1)) 16 dX2_copyFrom_13 rfl f_RX2_15 A_h.a0 rfl A_h.a1.1 ?_
  obtain ⟨m2, h2, hq⟩ := z_b hq
  refine z_callS0 (as := [zr (v1 + 1), zr (h + 1)]) (S := []) 19 dX2_copyFrom_16 rfl (Q_qH_copyRow A_v1.a1 A_h.a1 h2) kX2_copyRow l_RX2_65 rfl rfl rfl rfl rfl rfl rfl ?_
  refine z_aload_n 20 dX2_copyFrom_19 rfl rfl ?_
  refine z_getR (e := 2) (r := (v1 + 2)) 23 dX2_copyFrom_20 rfl f_RX2_19 A_v1.a0 rfl A_v1.a2.1 ?_
  refine z_aload_n 24 dX2_copyFrom_23 rfl rfl ?_
  refine z_getR (e := 2) (r := (h + 2)) 27 dX2_copyFrom_24 rfl f_RX2_19 A_h.a0 rfl A_h.a2.1 ?_
  obtain ⟨m3, h3, hq⟩ := z_b hq
  refine z_callS0 (as := [zr (v1 + 2), zr (h + 2)]) (S := []) 30 dX2_copyFrom_27 rfl (Q_qH_copyRow A_v1.a2 A_h.a2 h3) kX2_copyRow l_RX2_65 rfl rfl rfl rfl rfl rfl rfl ?_
  refine z_aload_n 31 dX2_copyFrom_30 rfl rfl ?_
  refine z_aload_n 32 dX2_copyFrom_31 rfl rfl ?_
  refine z_getI (x := (m3 v1 3)) 35 dX2_copyFrom_32 rfl f_RX2_22 A_v1.a0 rfl ?_
  obtain ⟨m4, em4, hq⟩ := z_m hq
  refine z_putI 38 dX2_copyFrom_35 rfl p_RX2_22 A_h.a0 em4 ?_
  refine z_aload_n 39 dX2_copyFrom_38 rfl rfl ?_
  refine z_aload_n 40 dX2_copyFrom_39 rfl rfl ?_
  refine z_getI (x := (m4 v1 4)) 43 dX2_copyFrom_40 rfl f_RX2_25 A_v1.a0 rfl ?_
  obtain ⟨m5, em5, hq⟩ := z_m hq
  refine z_putI 46 dX2_copyFrom_43 rfl p_RX2_25 A_h.a0 em5 ?_
  refine z_aload_n 47 dX2_copyFrom_46 rfl rfl ?_
  refine z_getR (e := 3) (r := (v1 + 3)) 50 dX2_copyFrom_47 rfl f_RX2_28 A_v1.a0 rfl A_v1.a3.1 ?_
  refine z_aload_n 51 dX2_copyFrom_50 rfl rfl ?_
  refine z_getR (e := 3) (r := (h + 3)) 54 dX2_copyFrom_51 rfl f_RX2_28 A_h.a0 rfl A_h.a3.1 ?_
  obtain ⟨m6, h6, hq⟩ := z_b hq
  refine z_callS0 (as := [zr (v1 + 3), zr (h + 3)]) (S := []) 57 dX2_copyFrom_54 rfl (Q_qH_copyRow A_v1.a3 A_h.a3 h6) kX2_copyRow l_RX2_65 rfl rfl rfl rfl rfl rfl rfl ?_
  refine z_aload_n 58 dX2_copyFrom_57 rfl rfl ?_
  refine z_getR (e := 4) (r := (v1 + 4)) 61 dX2_copyFrom_58 rfl f_RX2_31 A_v1.a0 rfl A_v1.a4.1 ?_
  refine z_aload_n 62 dX2_copyFrom_61 rfl rfl ?_
  refine z_getR (e := 4) (r := (h + 4)) 65 dX2_copyFrom_62 rfl f_RX2_31 A_h.a0 rfl A_h.a4.1 ?_
  obtain ⟨m7, h7, hq⟩ := z_b hq
  refine z_callS0 (as := [zr (v1 + 4), zr (h + 4)]) (S := []) 68 dX2_copyFrom_65 rfl (Q_qH_copyRow A_v1.a4 A_h.a4 h7) kX2_copyRow l_RX2_65 rfl rfl rfl rfl rfl rfl rfl ?_
  refine z_aload_n 69 dX2_copyFrom_68 rfl rfl ?_
  refine z_getR (e := 5) (r := (v1 + 5)) 72 dX2_copyFrom_69 rfl f_RX2_34 A_v1.a0 rfl A_v1.a5.1 ?_
  refine z_aload_n 73 dX2_copyFrom_72 rfl rfl ?_
  refine z_getR (e := 5) (r := (h + 5)) 76 dX2_copyFrom_73 rfl f_RX2_34 A_h.a0 rfl A_h.a5.1 ?_
  obtain ⟨m8, h8, hq⟩ := z_b hq
  refine z_callS0 (as := [zr (v1 + 5), zr (h + 5)]) (S := []) 79 dX2_copyFrom_76 rfl (Q_qH_copyRow A_v1.a5 A_h.a5 h8) kX2_copyRow l_RX2_65 rfl rfl rfl rfl rfl rfl rfl ?_
  refine z_aload_n 80 dX2_copyFrom_79 rfl rfl ?_
  refine z_getR (e := 6) (r := (v1 + 6)) 83 dX2_copyFrom_80 rfl f_RX2_37 A_v1.a0 rfl A_v1.a6.1 ?_
  refine z_aload_n 84 dX2_copyFrom_83 rfl rfl ?_
  refine z_getR (e := 6) (r := (h + 6)) 87 dX2_copyFrom_84 rfl f_RX2_37 A_h.a0 rfl A_h.a6.1 ?_
  obtain ⟨m9, h9, hq⟩ := z_b hq
  refine z_callS0 (as := [zr (v1 + 6), zr (h + 6)]) (S := []) 90 dX2_copyFrom_87 rfl (Q_qH_copyRow A_v1.a6 A_h.a6 h9) kX2_copyRow l_RX2_65 rfl rfl rfl rfl rfl rfl rfl ?_
  refine z_aload_n 91 dX2_copyFrom_90 rfl rfl ?_
  refine z_getR (e := 7) (r := (v1 + 7)) 94 dX2_copyFrom_91 rfl f_RX2_40 A_v1.a0 rfl A_v1.a7.1 ?_
  refine z_aload_n 95 dX2_copyFrom_94 rfl rfl ?_
  refine z_getR (e := 7) (r := (h + 7)) 98 dX2_copyFrom_95 rfl f_RX2_40 A_h.a0 rfl A_h.a7.1 ?_
  obtain ⟨m10, h10, hq⟩ := z_b hq
  refine z_callS0 (as := [zr (v1 + 7), zr (h + 7)]) (S := []) 101 dX2_copyFrom_98 rfl (Q_qH_copyRow A_v1.a7 A_h.a7 h10) kX2_copyRow l_RX2_65 rfl rfl rfl rfl rfl rfl rfl ?_
  refine z_aload_n 102 dX2_copyFrom_101 rfl rfl ?_
  refine z_getR (e := 8) (r := (v1 + 8)) 105 dX2_copyFrom_102 rfl f_RX2_43 A_v1.a0 rfl A_v1.a8.1 ?_
  refine z_aload_n 106 dX2_copyFrom_105 rfl rfl ?_
  refine z_getR (e := 8) (r := (h + 8)) 109 dX2_copyFrom_106 rfl f_RX2_43 A_h.a0 rfl A_h.a8.1 ?_
  obtain ⟨m11, h11, hq⟩ := z_b hq
  refine z_callS0 (as := [zr (v1 + 8), zr (h + 8)]) (S := []) 112 dX2_copyFrom_109 rfl (Q_qH_copyRow A_v1.a8 A_h.a8 h11) kX2_copyRow l_RX2_65 rfl rfl rfl rfl rfl rfl rfl ?_
  refine z_aload_n 113 dX2_copyFrom_112 rfl rfl ?_
  refine z_getR (e := 9) (r := (v1 + 9)) 116 dX2_copyFrom_113 rfl f_RX2_46 A_v1.a0 rfl A_v1.a9.1 ?_
  refine z_aload_n 117 dX2_copyFrom_116 rfl rfl ?_
  refine z_getR (e := 9) (r := (h + 9)) 120 dX2_copyFrom_117 rfl f_RX2_46 A_h.a0 rfl A_h.a9.1 ?_
  obtain ⟨m12, h12, hq⟩ := z_b hq
  refine z_callS0 (as := [zr (v1 + 9), zr (h + 9)]) (S := []) 123 dX2_copyFrom_120 rfl (Q_qH_copyRow A_v1.a9 A_h.a9 h12) kX2_copyRow l_RX2_65 rfl rfl rfl rfl rfl rfl rfl ?_
  refine z_aload_n 124 dX2_copyFrom_123 rfl rfl ?_
  refine z_aload_n 125 dX2_copyFrom_124 rfl rfl ?_
  refine z_getI (x := (m12 v1 12)) 128 dX2_copyFrom_125 rfl f_RX2_49 A_v1.a0 rfl ?_
  obtain ⟨m13, em13, hq⟩ := z_m hq
  refine z_putI 131 dX2_copyFrom_128 rfl p_RX2_49 A_h.a0 em13 ?_
  refine z_aload_n 132 dX2_copyFrom_131 rfl rfl ?_
  refine z_aload_n 133 dX2_copyFrom_132 rfl rfl ?_
  refine z_getI (x := (m13 v1 13)) 136 dX2_copyFrom_133 rfl f_RX2_52 A_v1.a0 rfl ?_
  obtain ⟨m14, em14, hq⟩ := z_m hq
  refine z_putI 139 dX2_copyFrom_136 rfl p_RX2_52 A_h.a0 em14 ?_
  refine z_aload_n 140 dX2_copyFrom_139 rfl rfl ?_
  refine z_aload_n 141 dX2_copyFrom_140 rfl rfl ?_
  refine z_getI (x := (m14 v1 14)) 144 dX2_copyFrom_141 rfl f_RX2_55 A_v1.a0 rfl ?_
  obtain ⟨m15, em15, hq⟩ := z_m hq
  refine z_putI 147 dX2_copyFrom_144 rfl p_RX2_55 A_h.a0 em15 ?_
  refine z_aload_n 148 dX2_copyFrom_147 rfl rfl ?_
  refine z_aload_n 149 dX2_copyFrom_148 rfl rfl ?_
  refine z_getJ (x := (m15 v1 15)) 152 dX2_copyFrom_149 rfl f_RX2_58 A_v1.a0 rfl ?_
  obtain ⟨m16, em16, hq⟩ := z_m hq
  refine z_putJ 155 dX2_copyFrom_152 rfl p_RX2_58 A_h.a0 em16 ?_
  refine z_aload_n 156 dX2_copyFrom_155 rfl rfl ?_
  refine z_aload_n 157 dX2_copyFrom_156 rfl rfl ?_
  refine z_getJ (x := (m16 v1 16)) 160 dX2_copyFrom_157 rfl f_RX2_62 A_v1.a0 rfl ?_
  obtain ⟨m17, em17, hq⟩ := z_m hq
  refine z_putJ 163 dX2_copyFrom_160 rfl p_RX2_62 A_h.a0 em17 ?_
  cases hq
  exact z_return rfl dX2_copyFrom_163
set_option maxRecDepth 100000 in
set_option maxHeartbeats 4000000 in
theorem Q_qY_push {g : yG} {a : Nat → Nat} {μ : zM} {v1 : Nat} {ν : zM} (A_v1 : zH v1) (hq : qY_push μ v1 = some ν) : zC g a mX1_push 2 0 0 [zr 31, zr v1] μ (.inl none) ν := by
  unfold qY_push at hq
  refine z_of (L := [some (zr 31), some (zr v1)]) pl_RX1 rfl (zc_of rfl) rfl rfl ?_
  refine z_aload_n 1 dX1_push_0 rfl rfl ?_
  refine z_getR (e := 1) (r := 32) 4 dX1_push_1 rfl f_RX1_11 ar_31 rfl ar_32.1 ?_
  refine z_aload_n 5 dX1_push_4 rfl rfl ?_
  refine z_getI (x := (μ 31 1)) 8 dX1_push_5 rfl f_RX1_17 ar_31 rfl ?_
  refine z_aload_n 9 dX1_push_8 rfl rfl ?_
  refine z_getI (x := (μ 31 2)) 12 dX1_push_9 rfl f_RX1_21 ar_31 rfl ?_
  refine z_iadd (r := (wr ((μ 31 1) + (μ 31 2)))) 13 dX1_push_12 rfl rfl ?_
  refine z_bipush 15 dX1_push_13 rfl (by decide) (by decide) ?_
  refine z_irem 16 dX1_push_15 rfl (by decide) ?_
  obtain ⟨hg16, hq⟩ := z_g hq
  refine z_aald4 17 dX1_push_16 rfl ar_32 hg16 (zH_ring hg16).a0.1 ?_
  refine z_aload_n 18 dX1_push_17 rfl rfl ?_
  obtain ⟨m1, h1, hq⟩ := z_b hq
  refine z_callV0 (as := [zr v1]) (S := []) 21 dX1_push_18 rfl (Q_qH_copyFrom (zH_ring hg16) A_v1 h1) kX2_copyFrom ⟨_, _, rfl⟩ (zH_ring hg16).a0 l_RX1_25 rfl rfl rfl rfl rfl rfl rfl ?_
  refine z_aload_n 22 dX1_push_21 rfl rfl ?_
  refine z_getI (x := (m1 31 2)) 25 dX1_push_22 rfl f_RX1_21 ar_31 rfl ?_
  refine z_bipush 27 dX1_push_25 rfl (by decide) (by decide) ?_
  refine z_icmp_ge 43 30 dX1_push_27 rfl rfl (fun hc => ?_) (fun hc => ?_)
  · replace hq := z_in hq (Int.not_lt.mpr hc)
    refine z_aload_n 44 dX1_push_43 rfl rfl ?_
    refine z_aload_n 45 dX1_push_44 rfl rfl ?_
    refine z_getI (x := (m1 31 1)) 48 dX1_push_45 rfl f_RX1_17 ar_31 rfl ?_
    refine z_iconst 49 dX1_push_48 rfl (by decide) ?_
    refine z_iadd (r := (wr ((m1 31 1) + 1))) 50 dX1_push_49 rfl rfl ?_
    refine z_bipush 52 dX1_push_50 rfl (by decide) (by decide) ?_
    refine z_irem 53 dX1_push_52 rfl (by decide) ?_
    obtain ⟨m2, em2, hq⟩ := z_m hq
    refine z_putI 56 dX1_push_53 rfl p_RX1_17 ar_31 em2 ?_
    cases hq
    exact z_return rfl dX1_push_56
  · replace hq := z_ip hq hc
    refine z_aload_n 31 dX1_push_30 rfl rfl ?_
    refine z_dup 32 dX1_push_31 rfl rfl ?_
    refine z_getI (x := (m1 31 2)) 35 dX1_push_32 rfl f_RX1_21 ar_31 rfl ?_
    refine z_iconst 36 dX1_push_35 rfl (by decide) ?_
    refine z_iadd (r := (wr ((m1 31 2) + 1))) 37 dX1_push_36 rfl rfl ?_
    obtain ⟨m3, em3, hq⟩ := z_m hq
    refine z_putI 40 dX1_push_37 rfl p_RX1_21 ar_31 em3 ?_
    refine z_goto 56 dX1_push_40 rfl ?_
    cases hq
    exact z_return rfl dX1_push_56
set_option maxRecDepth 100000 in
set_option maxHeartbeats 4000000 in
theorem Q_qH_buildFlat {g : yG} {a : Nat → Nat} {μ : zM} {h : Nat} {v1 : Int} {v2 : Int} {r : Int} {ν : zM} (A_h : zH h) (hq : qH_buildFlat μ h v1 v2 = some (r, ν)) : zC g a mX2_buildFlat 0 0 0 [zr h, zi v1, zi v2] μ (.inl (some (zi r))) ν := by
  unfold qH_buildFlat at hq
  refine z_of (L := [some (zr h), some (zi v1), some (zi v2), none]) pl_RX2 rfl (zc_of rfl) rfl rfl ?_
  refine z_aload_n 1 dX2_buildFlat_0 rfl rfl ?_
  refine z_getI (x := (μ h 0)) 4 dX2_buildFlat_1 rfl f_RX2_9 A_h.a0 rfl ?_
  refine z_istore_n (L' := [some (zr h), some (zi v1), some (zi v2), some (zi (μ h 0))]) 5 dX2_buildFlat_4 rfl rfl rfl rfl ?_
  refine z_aload_n 6 dX2_buildFlat_5 rfl rfl ?_
  refine z_getR (e := 1) (r := (h + 1)) 9 dX2_buildFlat_6 rfl f_RX2_15 A_h.a0 rfl A_h.a1.1 ?_
  refine z_iload_n 10 dX2_buildFlat_9 rfl rfl ?_
  refine z_iload_n 11 dX2_buildFlat_10 rfl rfl ?_
  obtain ⟨hg11, hq⟩ := z_g hq
  obtain ⟨m1, em1, hq⟩ := z_m hq
  refine z_iastore 12 dX2_buildFlat_11 rfl A_h.a1 hg11 em1 ?_
  refine z_aload_n 13 dX2_buildFlat_12 rfl rfl ?_
  refine z_getR (e := 2) (r := (h + 2)) 16 dX2_buildFlat_13 rfl f_RX2_19 A_h.a0 rfl A_h.a2.1 ?_
  refine z_iload_n 17 dX2_buildFlat_16 rfl rfl ?_
  refine z_iload_n 18 dX2_buildFlat_17 rfl rfl ?_
  obtain ⟨hg18, hq⟩ := z_g hq
  obtain ⟨m2, em2, hq⟩ := z_m hq
  refine z_iastore 19 dX2_buildFlat_18 rfl A_h.a2 hg18 em2 ?_
  refine z_aload_n 20 dX2_buildFlat_19 rfl rfl ?_
  refine z_dup 21 dX2_buildFlat_20 rfl rfl ?_
  refine z_getI (x := (m2 h 0)) 24 dX2_buildFlat_21 rfl f_RX2_9 A_h.a0 rfl ?_
  refine z_iconst 25 dX2_buildFlat_24 rfl (by decide) ?_
  refine z_iadd (r := (wr ((m2 h 0) + 1))) 26 dX2_buildFlat_25 rfl rfl ?_
  obtain ⟨m3, em3, hq⟩ := z_m hq
  refine z_putI 29 dX2_buildFlat_26 rfl p_RX2_9 A_h.a0 em3 ?_
  refine z_iload_n 30 dX2_buildFlat_29 rfl rfl ?_
  cases hq
  exact z_ireturn rfl dX2_buildFlat_30
set_option maxRecDepth 100000 in
set_option maxHeartbeats 4000000 in
theorem Q_qT_addFlat {g : yG} {a : Nat → Nat} {μ : zM} {v1 : Int} {v2 : Int} {r : Int ⊕ Nat} {ν : zM}  (hq : qT_addFlat μ v1 v2 = some (r, ν)) : zC g a mX9_addFlat 3 1 6 [zr 0, zi v1, zi v2] μ (zri r) ν := by
  unfold qT_addFlat at hq
  refine z_of (L := [some (zr 0), some (zi v1), some (zi v2)]) pl_RX9 rfl (zc_of rfl) rfl rfl ?_
  refine z_aload_n 1 dX9_addFlat_0 rfl rfl ?_
  refine z_getR (e := 1) (r := 1) 4 dX9_addFlat_1 rfl f_RX9_12 ar_0 rfl ar_1.1 ?_
  refine z_iload_n 5 dX9_addFlat_4 rfl rfl ?_
  refine z_iload_n 6 dX9_addFlat_5 rfl rfl ?_
  obtain ⟨a1, h1, hq⟩ := z_b hq
  refine z_callV1 (as := [zi v1, zi v2]) (S := []) (kc := 1) (ks := 6) 9 dX9_addFlat_6 rfl (Q_qH_refusalOfFlat zH_1 h1) kX2_refusalOfFlat ⟨_, _, rfl⟩ ar_1 l_RX9_71 rfl rfl rfl rfl rfl rfl rfl ?_
  rcases z_tc hq with ⟨a2, m2, h2, hq⟩ | ⟨ex2, h2, rfl⟩
  · refine z_callS0 (as := [zre a1]) (S := []) (kc := 0) (ks := 0) 12 dX9_addFlat_9 rfl (Q_qT_refuse  h2) kX9_refuse l_RX9_75 rfl rfl rfl rfl rfl rfl rfl ?_
    refine z_aload_n 13 dX9_addFlat_12 rfl rfl ?_
    refine z_getR (e := 31) (r := 31) 16 dX9_addFlat_13 rfl f_RX9_25 ar_0 rfl ar_31.1 ?_
    refine z_aload_n 17 dX9_addFlat_16 rfl rfl ?_
    refine z_getR (e := 1) (r := 1) 20 dX9_addFlat_17 rfl f_RX9_12 ar_0 rfl ar_1.1 ?_
    obtain ⟨m3, h3, hq⟩ := z_b hq
    refine z_callV0 (as := [zr 1]) (S := []) (kc := 0) (ks := 0) 23 dX9_addFlat_20 rfl (Q_qY_push zH_1 h3) kX1_push ⟨_, _, rfl⟩ ar_31 l_RX9_79 rfl rfl rfl rfl rfl rfl rfl ?_
    refine z_aload_n 24 dX9_addFlat_23 rfl rfl ?_
    refine z_getR (e := 1) (r := 1) 27 dX9_addFlat_24 rfl f_RX9_12 ar_0 rfl ar_1.1 ?_
    refine z_iload_n 28 dX9_addFlat_27 rfl rfl ?_
    refine z_iload_n 29 dX9_addFlat_28 rfl rfl ?_
    obtain ⟨a4, m4, h4, hq⟩ := bnd2_some hq
    refine z_callV1 (as := [zi v1, zi v2]) (S := []) (kc := 0) (ks := 0) 32 dX9_addFlat_29 rfl (Q_qH_buildFlat zH_1 h4) kX2_buildFlat ⟨_, _, rfl⟩ ar_1 l_RX9_83 rfl rfl rfl rfl rfl rfl rfl ?_
    cases hq
    exact z_ireturn rfl dX9_addFlat_32
  · exact z_callSX (e := ex2) (as := [zre a1]) (S := []) (kc := 0) (ks := 0) dX9_addFlat_9 (Q_qT_refuse  h2) kX9_refuse l_RX9_75 rfl rfl rfl rfl rfl rfl rfl
set_option maxRecDepth 100000 in
set_option maxHeartbeats 4000000 in
theorem L_qH_slotOf_l2 {g : yG} {a : Nat → Nat} {μ ν : zM} {o : zO} {kc ks : Nat} {h : Nat} {v1 : Int} {R : Int ⊕ Unit}  (A_h : zH h) (hr : ∀ (x : Int), R = .inl x → o = .inl (some (zi x)) ∧ ν = μ) (he : ∀ (t : Unit), R = .inr t → Z g a mX2_slotOf 0 kc ks 28 [some (zr h), some (zi v1), none] [] μ o ν) : ∀ (n : Nat) (v2 : Int), qH_slotOf_l2 μ h v1 n v2 = some R → Z g a mX2_slotOf 0 kc ks 2 [some (zr h), some (zi v1), some (zi v2)] [] μ o ν := by
  intro n
  induction n with
  | zero => intro v2 hq; cases hq
  | succ n ih =>
    intro v2 hq
    rw [qH_slotOf_l2] at hq
    refine z_iload_n 3 dX2_slotOf_2 rfl rfl ?_
    refine z_aload_n 4 dX2_slotOf_3 rfl rfl ?_
    refine z_getI (x := (μ h 3)) 7 dX2_slotOf_4 rfl f_RX2_22 A_h.a0 rfl ?_
    refine z_icmp_ge 28 10 dX2_slotOf_7 rfl rfl (fun hc => ?_) (fun hc => ?_)
    · replace hq := z_in hq (Int.not_lt.mpr hc)
      exact Z.sub (zle_s (zle_s (zle_n zle_nil))) (he _ (Option.some.inj hq).symm)
    · replace hq := z_ip hq hc
      refine z_aload_n 11 dX2_slotOf_10 rfl rfl ?_
      refine z_getR (e := 3) (r := (h + 3)) 14 dX2_slotOf_11 rfl f_RX2_28 A_h.a0 rfl A_h.a3.1 ?_
      refine z_iload_n 15 dX2_slotOf_14 rfl rfl ?_
      obtain ⟨hg15, hq⟩ := z_g hq
      refine z_iaload (x := (μ (h + 3) v2)) 16 dX2_slotOf_15 rfl A_h.a3 hg15 rfl ?_
      refine z_iload_n 17 dX2_slotOf_16 rfl rfl ?_
      refine z_icmp_ne 22 20 dX2_slotOf_17 rfl rfl (fun hc => ?_) (fun hc => ?_)
      · replace hq := z_in hq hc
        refine z_iinc (r := (wr (v2 + 1))) (L' := [some (zr h), some (zi v1), some (zi (wr (v2 + 1)))]) 25 dX2_slotOf_22 rfl rfl rfl rfl rfl rfl ?_
        refine z_goto 2 dX2_slotOf_25 rfl ?_
        exact Z.sub (zle_s (zle_s (zle_s zle_nil))) (ih _ hq)
      · replace hq := z_ip hq hc
        refine z_iload_n 21 dX2_slotOf_20 rfl rfl ?_
        obtain ⟨ho, hv⟩ := hr _ (Option.some.inj hq).symm
        exact z_conv ho hv (z_ireturn rfl dX2_slotOf_21)
set_option maxRecDepth 100000 in
set_option maxHeartbeats 4000000 in
theorem Q_qH_slotOf {g : yG} {a : Nat → Nat} {μ : zM} {h : Nat} {v1 : Int} {r : Int} (A_h : zH h) (hq : qH_slotOf μ h v1 = some r) : zC g a mX2_slotOf 0 0 0 [zr h, zi v1] μ (.inl (some (zi r))) μ := by
  unfold qH_slotOf at hq
  refine z_of (L := [some (zr h), some (zi v1), none]) pl_RX2 rfl (zc_of rfl) rfl rfl ?_
  refine z_iconst 1 dX2_slotOf_0 rfl (by decide) ?_
  refine z_istore_n (L' := [some (zr h), some (zi v1), some (zi 0)]) 2 dX2_slotOf_1 rfl rfl rfl rfl ?_
  rcases bndS_some hq with ⟨x1, h1, hq⟩ | ⟨t1, h1, hq⟩
  · exact Z.sub (zle_s (zle_s (zle_s zle_nil))) (L_qH_slotOf_l2 A_h (R := .inl x1) (fun _ e => by cases e; cases hq; exact ⟨rfl, rfl⟩) (fun _ e => by cases e) _ _ h1)
  · refine Z.sub (zle_s (zle_s (zle_s zle_nil))) (L_qH_slotOf_l2 A_h (R := .inr t1) (fun _ e => by cases e) (fun _ e => ?_) _ _ h1)
    cases e
    refine z_iconst 29 dX2_slotOf_28 rfl (by decide) ?_
    cases hq
    exact z_ireturn rfl dX2_slotOf_29
set_option maxRecDepth 100000 in
set_option maxHeartbeats 4000000 in
theorem Q_qH_canAfford {g : yG} {a : Nat → Nat} {μ : zM} {h : Nat} {v1 : Int} {v2 : Int} {r : Int} (A_h : zH h) (hq : qH_canAfford μ h v1 v2 = some r) : zC g a mX2_canAfford 0 0 0 [zr h, zi v1, zi v2] μ (.inl (some (zi r))) μ := by
  unfold qH_canAfford at hq
  refine z_of (L := [some (zr h), some (zi v1), some (zi v2)]) pl_RX2 rfl (zc_of rfl) rfl rfl ?_
  refine z_aload_n 1 dX2_canAfford_0 rfl rfl ?_
  refine z_getR (e := 2) (r := (h + 2)) 4 dX2_canAfford_1 rfl f_RX2_19 A_h.a0 rfl A_h.a2.1 ?_
  refine z_iload_n 5 dX2_canAfford_4 rfl rfl ?_
  obtain ⟨hg5, hq⟩ := z_g hq
  refine z_iaload (x := (μ (h + 2) v2)) 6 dX2_canAfford_5 rfl A_h.a2 hg5 rfl ?_
  refine z_aload_n 7 dX2_canAfford_6 rfl rfl ?_
  refine z_getR (e := 7) (r := (h + 7)) 10 dX2_canAfford_7 rfl f_RX2_40 A_h.a0 rfl A_h.a7.1 ?_
  refine z_iload_n 11 dX2_canAfford_10 rfl rfl ?_
  obtain ⟨hg11, hq⟩ := z_g hq
  refine z_iaload (x := (μ (h + 7) v1)) 12 dX2_canAfford_11 rfl A_h.a7 hg11 rfl ?_
  refine z_icmp_gt 19 15 dX2_canAfford_12 rfl rfl (fun hc => ?_) (fun hc => ?_)
  · replace hq := z_ip hq hc
    refine z_iconst 20 dX2_canAfford_19 rfl (by decide) ?_
    cases hq
    exact z_zreturn rfl dX2_canAfford_20 (by decide)
  · replace hq := z_in hq (Int.not_lt.mpr hc)
    refine z_iconst 16 dX2_canAfford_15 rfl (by decide) ?_
    refine z_goto 20 dX2_canAfford_16 rfl ?_
    cases hq
    exact z_zreturn rfl dX2_canAfford_20 (by decide)
set_option maxRecDepth 100000 in
set_option maxHeartbeats 4000000 in
theorem Q_qH_burdenFor {g : yG} {a : Nat → Nat} {μ : zM} {h : Nat} {v1 : Int} {v2 : Int} {r : Int} (A_h : zH h) (hq : qH_burdenFor μ h v1 v2 = some r) : zC g a mX2_burdenFor 0 0 0 [zr h, zi v1, zi v2] μ (.inl (some (zi r))) μ := by
  unfold qH_burdenFor at hq
  refine z_of (L := [some (zr h), some (zi v1), some (zi v2), none]) pl_RX2 rfl (zc_of rfl) rfl rfl ?_
  refine z_aload_n 1 dX2_burdenFor_0 rfl rfl ?_
  refine z_getR (e := 1) (r := (h + 1)) 4 dX2_burdenFor_1 rfl f_RX2_15 A_h.a0 rfl A_h.a1.1 ?_
  refine z_iload_n 5 dX2_burdenFor_4 rfl rfl ?_
  obtain ⟨hg5, hq⟩ := z_g hq
  refine z_iaload (x := (μ (h + 1) v2)) 6 dX2_burdenFor_5 rfl A_h.a1 hg5 rfl ?_
  refine z_aload_n 7 dX2_burdenFor_6 rfl rfl ?_
  refine z_getR (e := 5) (r := (h + 5)) 10 dX2_burdenFor_7 rfl f_RX2_34 A_h.a0 rfl A_h.a5.1 ?_
  refine z_iload_n 11 dX2_burdenFor_10 rfl rfl ?_
  obtain ⟨hg11, hq⟩ := z_g hq
  refine z_iaload (x := (μ (h + 5) v1)) 12 dX2_burdenFor_11 rfl A_h.a5 hg11 rfl ?_
  refine z_isub (r := (wr ((μ (h + 1) v2) - (μ (h + 5) v1)))) 13 dX2_burdenFor_12 rfl rfl ?_
  refine z_istore_n (L' := [some (zr h), some (zi v1), some (zi v2), some (zi (wr ((μ (h + 1) v2) - (μ (h + 5) v1))))]) 14 dX2_burdenFor_13 rfl rfl rfl rfl ?_
  refine z_aload_n 15 dX2_burdenFor_14 rfl rfl ?_
  refine z_getR (e := 2) (r := (h + 2)) 18 dX2_burdenFor_15 rfl f_RX2_19 A_h.a0 rfl A_h.a2.1 ?_
  refine z_iload_n 19 dX2_burdenFor_18 rfl rfl ?_
  obtain ⟨hg19, hq⟩ := z_g hq
  refine z_iaload (x := (μ (h + 2) v2)) 20 dX2_burdenFor_19 rfl A_h.a2 hg19 rfl ?_
  refine z_iconst 21 dX2_burdenFor_20 rfl (by decide) ?_
  refine z_iload_n 22 dX2_burdenFor_21 rfl rfl ?_
  refine z_if_ge 30 25 dX2_burdenFor_22 rfl rfl (fun hc => ?_) (fun hc => ?_)
  · replace hq := z_in hq (Int.not_lt.mpr hc)
    refine z_iload_n 31 dX2_burdenFor_30 rfl rfl ?_
    refine z_imul (r := (wr (3 * (wr ((μ (h + 1) v2) - (μ (h + 5) v1)))))) 32 dX2_burdenFor_31 rfl rfl ?_
    refine z_iadd (r := (wr ((μ (h + 2) v2) + (wr (3 * (wr ((μ (h + 1) v2) - (μ (h + 5) v1)))))))) 33 dX2_burdenFor_32 rfl rfl ?_
    cases hq
    exact z_ireturn rfl dX2_burdenFor_33
  · replace hq := z_ip hq hc
    refine z_iload_n 26 dX2_burdenFor_25 rfl rfl ?_
    refine z_ineg (r := (wr (-(wr ((μ (h + 1) v2) - (μ (h + 5) v1)))))) 27 dX2_burdenFor_26 rfl rfl ?_
    refine z_goto 31 dX2_burdenFor_27 rfl ?_
    refine z_imul (r := (wr (3 * (wr (-(wr ((μ (h + 1) v2) - (μ (h + 5) v1)))))))) 32 dX2_burdenFor_31 rfl rfl ?_
    refine z_iadd (r := (wr ((μ (h + 2) v2) + (wr (3 * (wr (-(wr ((μ (h + 1) v2) - (μ (h + 5) v1)))))))))) 33 dX2_burdenFor_32 rfl rfl ?_
    cases hq
    exact z_ireturn rfl dX2_burdenFor_33
set_option maxRecDepth 100000 in
set_option maxHeartbeats 4000000 in
theorem Q_qH_prefersFlat {g : yG} {a : Nat → Nat} {μ : zM} {h : Nat} {v1 : Int} {v2 : Int} {v3 : Int} {r : Int} (A_h : zH h) (hq : qH_prefersFlat μ h v1 v2 v3 = some r) : zC g a mX2_prefersFlat 1 0 0 [zr h, zi v1, zi v2, zi v3] μ (.inl (some (zi r))) μ := by
  unfold qH_prefersFlat at hq
  refine z_of (L := [some (zr h), some (zi v1), some (zi v2), some (zi v3), none, none]) pl_RX2 rfl (zc_of rfl) rfl rfl ?_
  refine z_aload_n 1 dX2_prefersFlat_0 rfl rfl ?_
  refine z_iload_n 2 dX2_prefersFlat_1 rfl rfl ?_
  refine z_iload_n 3 dX2_prefersFlat_2 rfl rfl ?_
  obtain ⟨a1, h1, hq⟩ := z_b hq
  refine z_callV1 (as := [zi v1, zi v2]) (S := []) 6 dX2_prefersFlat_3 rfl (Q_qH_burdenFor A_h h1) kX2_burdenFor ⟨_, _, rfl⟩ A_h.a0 l_RX2_125 rfl rfl rfl rfl rfl rfl rfl ?_
  refine z_istore (L' := [some (zr h), some (zi v1), some (zi v2), some (zi v3), some (zi a1), none]) 8 dX2_prefersFlat_6 rfl rfl rfl rfl ?_
  refine z_aload_n 9 dX2_prefersFlat_8 rfl rfl ?_
  refine z_iload_n 10 dX2_prefersFlat_9 rfl rfl ?_
  refine z_iload_n 11 dX2_prefersFlat_10 rfl rfl ?_
  obtain ⟨a2, h2, hq⟩ := z_b hq
  refine z_callV1 (as := [zi v1, zi v3]) (S := []) 14 dX2_prefersFlat_11 rfl (Q_qH_burdenFor A_h h2) kX2_burdenFor ⟨_, _, rfl⟩ A_h.a0 l_RX2_125 rfl rfl rfl rfl rfl rfl rfl ?_
  refine z_istore (L' := [some (zr h), some (zi v1), some (zi v2), some (zi v3), some (zi a1), some (zi a2)]) 16 dX2_prefersFlat_14 rfl rfl rfl rfl ?_
  refine z_iload 18 dX2_prefersFlat_16 rfl rfl ?_
  refine z_iload 20 dX2_prefersFlat_18 rfl rfl ?_
  refine z_icmp_lt 35 23 dX2_prefersFlat_20 rfl rfl (fun hc => ?_) (fun hc => ?_)
  · replace hq := z_ip hq hc
    refine z_iconst 36 dX2_prefersFlat_35 rfl (by decide) ?_
    refine z_goto 40 dX2_prefersFlat_36 rfl ?_
    cases hq
    exact z_zreturn rfl dX2_prefersFlat_40 (by decide)
  · replace hq := z_in hq (Int.not_lt.mpr hc)
    refine z_iload 25 dX2_prefersFlat_23 rfl rfl ?_
    refine z_iload 27 dX2_prefersFlat_25 rfl rfl ?_
    refine z_icmp_ne 39 30 dX2_prefersFlat_27 rfl rfl (fun hc => ?_) (fun hc => ?_)
    · replace hq := z_in hq hc
      refine z_iconst 40 dX2_prefersFlat_39 rfl (by decide) ?_
      cases hq
      exact z_zreturn rfl dX2_prefersFlat_40 (by decide)
    · replace hq := z_ip hq hc
      refine z_iload_n 31 dX2_prefersFlat_30 rfl rfl ?_
      refine z_iload_n 32 dX2_prefersFlat_31 rfl rfl ?_
      refine z_icmp_ge 39 35 dX2_prefersFlat_32 rfl rfl (fun hc => ?_) (fun hc => ?_)
      · replace hq := z_in hq (Int.not_lt.mpr hc)
        refine z_iconst 40 dX2_prefersFlat_39 rfl (by decide) ?_
        cases hq
        exact z_zreturn rfl dX2_prefersFlat_40 (by decide)
      · replace hq := z_ip hq hc
        refine z_iconst 36 dX2_prefersFlat_35 rfl (by decide) ?_
        refine z_goto 40 dX2_prefersFlat_36 rfl ?_
        cases hq
        exact z_zreturn rfl dX2_prefersFlat_40 (by decide)
set_option maxRecDepth 100000 in
set_option maxHeartbeats 4000000 in
theorem Q_qH_isPreferredTo {g : yG} {a : Nat → Nat} {μ : zM} {h : Nat} {v1 : Int} {v2 : Int} {r : Int} (A_h : zH h) (hq : qH_isPreferredTo μ h v1 v2 = some r) : zC g a mX2_isPreferredTo 0 0 0 [zr h, zi v1, zi v2] μ (.inl (some (zi r))) μ := by
  unfold qH_isPreferredTo at hq
  refine z_of (L := [some (zr h), some (zi v1), some (zi v2)]) pl_RX2 rfl (zc_of rfl) rfl rfl ?_
  refine z_aload_n 1 dX2_isPreferredTo_0 rfl rfl ?_
  refine z_getR (e := 4) (r := (h + 4)) 4 dX2_isPreferredTo_1 rfl f_RX2_31 A_h.a0 rfl A_h.a4.1 ?_
  refine z_iload_n 5 dX2_isPreferredTo_4 rfl rfl ?_
  obtain ⟨hg5, hq⟩ := z_g hq
  refine z_iaload (x := (μ (h + 4) v1)) 6 dX2_isPreferredTo_5 rfl A_h.a4 hg5 rfl ?_
  refine z_aload_n 7 dX2_isPreferredTo_6 rfl rfl ?_
  refine z_getR (e := 4) (r := (h + 4)) 10 dX2_isPreferredTo_7 rfl f_RX2_31 A_h.a0 rfl A_h.a4.1 ?_
  refine z_iload_n 11 dX2_isPreferredTo_10 rfl rfl ?_
  obtain ⟨hg11, hq⟩ := z_g hq
  refine z_iaload (x := (μ (h + 4) v2)) 12 dX2_isPreferredTo_11 rfl A_h.a4 hg11 rfl ?_
  refine z_icmp_lt 35 15 dX2_isPreferredTo_12 rfl rfl (fun hc => ?_) (fun hc => ?_)
  · replace hq := z_ip hq hc
    refine z_iconst 36 dX2_isPreferredTo_35 rfl (by decide) ?_
    refine z_goto 40 dX2_isPreferredTo_36 rfl ?_
    cases hq
    exact z_zreturn rfl dX2_isPreferredTo_40 (by decide)
  · replace hq := z_in hq (Int.not_lt.mpr hc)
    refine z_aload_n 16 dX2_isPreferredTo_15 rfl rfl ?_
    refine z_getR (e := 4) (r := (h + 4)) 19 dX2_isPreferredTo_16 rfl f_RX2_31 A_h.a0 rfl A_h.a4.1 ?_
    refine z_iload_n 20 dX2_isPreferredTo_19 rfl rfl ?_
    obtain ⟨hg20, hq⟩ := z_g hq
    refine z_iaload (x := (μ (h + 4) v1)) 21 dX2_isPreferredTo_20 rfl A_h.a4 hg20 rfl ?_
    refine z_aload_n 22 dX2_isPreferredTo_21 rfl rfl ?_
    refine z_getR (e := 4) (r := (h + 4)) 25 dX2_isPreferredTo_22 rfl f_RX2_31 A_h.a0 rfl A_h.a4.1 ?_
    refine z_iload_n 26 dX2_isPreferredTo_25 rfl rfl ?_
    obtain ⟨hg26, hq⟩ := z_g hq
    refine z_iaload (x := (μ (h + 4) v2)) 27 dX2_isPreferredTo_26 rfl A_h.a4 hg26 rfl ?_
    refine z_icmp_ne 39 30 dX2_isPreferredTo_27 rfl rfl (fun hc => ?_) (fun hc => ?_)
    · replace hq := z_in hq hc
      refine z_iconst 40 dX2_isPreferredTo_39 rfl (by decide) ?_
      cases hq
      exact z_zreturn rfl dX2_isPreferredTo_40 (by decide)
    · replace hq := z_ip hq hc
      refine z_iload_n 31 dX2_isPreferredTo_30 rfl rfl ?_
      refine z_iload_n 32 dX2_isPreferredTo_31 rfl rfl ?_
      refine z_icmp_ge 39 35 dX2_isPreferredTo_32 rfl rfl (fun hc => ?_) (fun hc => ?_)
      · replace hq := z_in hq (Int.not_lt.mpr hc)
        refine z_iconst 40 dX2_isPreferredTo_39 rfl (by decide) ?_
        cases hq
        exact z_zreturn rfl dX2_isPreferredTo_40 (by decide)
      · replace hq := z_ip hq hc
        refine z_iconst 36 dX2_isPreferredTo_35 rfl (by decide) ?_
        refine z_goto 40 dX2_isPreferredTo_36 rfl ?_
        cases hq
        exact z_zreturn rfl dX2_isPreferredTo_40 (by decide)
set_option maxRecDepth 100000 in
set_option maxHeartbeats 4000000 in
theorem J_qH_candidateFor_j63 {g : yG} {a : Nat → Nat} {μ ν : zM} {o : zO} {kc ks : Nat} {h : Nat} {v1 : Int} {v2 : Int} {v3 : Int} {v4 : Int} {s0 : Int} {rec : Int → Int → Option (Int)} {R : Int}  (A_h : zH h) (he : ∀ (t : Int), R = t → Z g a mX2_candidateFor 2 kc ks 94 [some (zr h), some (zi v1), some (zi v2), some (zi t), none, none] [] μ o ν) (hrec : ∀ (v3 : Int) (v4 : Int), rec v3 v4 = some R → Z g a mX2_candidateFor 2 kc ks 5 [some (zr h), some (zi v1), some (zi v2), some (zi v3), some (zi v4), none] [] μ o ν) (hq : qH_candidateFor_j63 rec μ h v1 v2 v3 v4 s0 = some R) : Z g a mX2_candidateFor 2 kc ks 63 [some (zr h), some (zi v1), some (zi v2), some (zi v3), some (zi v4), none] [zi s0] μ o ν := by
  unfold qH_candidateFor_j63 at hq
  refine z_istore (L' := [some (zr h), some (zi v1), some (zi v2), some (zi v3), some (zi v4), some (zi s0)]) 65 dX2_candidateFor_63 rfl rfl rfl rfl ?_
  refine z_iload 67 dX2_candidateFor_65 rfl rfl ?_
  refine z_if_eq 88 70 dX2_candidateFor_67 rfl rfl (fun hc => ?_) (fun hc => ?_)
  · replace hq := z_ip hq hc
    refine z_iinc (r := (wr (v4 + 1))) (L' := [some (zr h), some (zi v1), some (zi v2), some (zi v3), some (zi (wr (v4 + 1))), some (zi s0)]) 91 dX2_candidateFor_88 rfl rfl rfl rfl rfl rfl ?_
    refine z_goto 5 dX2_candidateFor_91 rfl ?_
    exact Z.sub (zle_s (zle_s (zle_s (zle_s (zle_s (zle_n zle_nil)))))) (hrec _ _ hq)
  · replace hq := z_in hq hc
    refine z_iload_n 71 dX2_candidateFor_70 rfl rfl ?_
    refine z_iconst 72 dX2_candidateFor_71 rfl (by decide) ?_
    refine z_icmp_eq 85 75 dX2_candidateFor_72 rfl rfl (fun hc => ?_) (fun hc => ?_)
    · replace hq := z_ip hq hc
      refine z_iload 87 dX2_candidateFor_85 rfl rfl ?_
      refine z_istore_n (L' := [some (zr h), some (zi v1), some (zi v2), some (zi v4), some (zi v4), some (zi s0)]) 88 dX2_candidateFor_87 rfl rfl rfl rfl ?_
      refine z_iinc (r := (wr (v4 + 1))) (L' := [some (zr h), some (zi v1), some (zi v2), some (zi v4), some (zi (wr (v4 + 1))), some (zi s0)]) 91 dX2_candidateFor_88 rfl rfl rfl rfl rfl rfl ?_
      refine z_goto 5 dX2_candidateFor_91 rfl ?_
      exact Z.sub (zle_s (zle_s (zle_s (zle_s (zle_s (zle_n zle_nil)))))) (hrec _ _ hq)
    · replace hq := z_in hq hc
      refine z_aload_n 76 dX2_candidateFor_75 rfl rfl ?_
      refine z_iload 78 dX2_candidateFor_76 rfl rfl ?_
      refine z_iload_n 79 dX2_candidateFor_78 rfl rfl ?_
      obtain ⟨a1, h1, hq⟩ := z_b hq
      refine z_callV1 (as := [zi v4, zi v3]) (S := []) 82 dX2_candidateFor_79 rfl (Q_qH_isPreferredTo A_h h1) kX2_isPreferredTo ⟨_, _, rfl⟩ A_h.a0 l_RX2_144 rfl rfl rfl rfl rfl rfl rfl ?_
      refine z_if_eq 88 85 dX2_candidateFor_82 rfl rfl (fun hc => ?_) (fun hc => ?_)
      · replace hq := z_ip hq hc
        refine z_iinc (r := (wr (v4 + 1))) (L' := [some (zr h), some (zi v1), some (zi v2), some (zi v3), some (zi (wr (v4 + 1))), some (zi s0)]) 91 dX2_candidateFor_88 rfl rfl rfl rfl rfl rfl ?_
        refine z_goto 5 dX2_candidateFor_91 rfl ?_
        exact Z.sub (zle_s (zle_s (zle_s (zle_s (zle_s (zle_n zle_nil)))))) (hrec _ _ hq)
      · replace hq := z_in hq hc
        refine z_iload 87 dX2_candidateFor_85 rfl rfl ?_
        refine z_istore_n (L' := [some (zr h), some (zi v1), some (zi v2), some (zi v4), some (zi v4), some (zi s0)]) 88 dX2_candidateFor_87 rfl rfl rfl rfl ?_
        refine z_iinc (r := (wr (v4 + 1))) (L' := [some (zr h), some (zi v1), some (zi v2), some (zi v4), some (zi (wr (v4 + 1))), some (zi s0)]) 91 dX2_candidateFor_88 rfl rfl rfl rfl rfl rfl ?_
        refine z_goto 5 dX2_candidateFor_91 rfl ?_
        exact Z.sub (zle_s (zle_s (zle_s (zle_s (zle_s (zle_n zle_nil)))))) (hrec _ _ hq)
set_option maxRecDepth 100000 in
set_option maxHeartbeats 4000000 in
theorem J_qH_candidateFor_j62 {g : yG} {a : Nat → Nat} {μ ν : zM} {o : zO} {kc ks : Nat} {h : Nat} {v1 : Int} {v2 : Int} {v3 : Int} {v4 : Int} {rec : Int → Int → Option (Int)} {R : Int}  (A_h : zH h) (he : ∀ (t : Int), R = t → Z g a mX2_candidateFor 2 kc ks 94 [some (zr h), some (zi v1), some (zi v2), some (zi t), none, none] [] μ o ν) (hrec : ∀ (v3 : Int) (v4 : Int), rec v3 v4 = some R → Z g a mX2_candidateFor 2 kc ks 5 [some (zr h), some (zi v1), some (zi v2), some (zi v3), some (zi v4), none] [] μ o ν) (hq : qH_candidateFor_j62 rec μ h v1 v2 v3 v4 = some R) : Z g a mX2_candidateFor 2 kc ks 62 [some (zr h), some (zi v1), some (zi v2), some (zi v3), some (zi v4), none] [] μ o ν := by
  unfold qH_candidateFor_j62 at hq
  refine z_iconst 63 dX2_candidateFor_62 rfl (by decide) ?_
  exact Z.sub (zle_s (zle_s (zle_s (zle_s (zle_s (zle_n zle_nil)))))) (J_qH_candidateFor_j63 A_h he hrec hq)
set_option maxRecDepth 100000 in
set_option maxHeartbeats 4000000 in
theorem J_qH_candidateFor_j58 {g : yG} {a : Nat → Nat} {μ ν : zM} {o : zO} {kc ks : Nat} {h : Nat} {v1 : Int} {v2 : Int} {v3 : Int} {v4 : Int} {rec : Int → Int → Option (Int)} {R : Int}  (A_h : zH h) (he : ∀ (t : Int), R = t → Z g a mX2_candidateFor 2 kc ks 94 [some (zr h), some (zi v1), some (zi v2), some (zi t), none, none] [] μ o ν) (hrec : ∀ (v3 : Int) (v4 : Int), rec v3 v4 = some R → Z g a mX2_candidateFor 2 kc ks 5 [some (zr h), some (zi v1), some (zi v2), some (zi v3), some (zi v4), none] [] μ o ν) (hq : qH_candidateFor_j58 rec μ h v1 v2 v3 v4 = some R) : Z g a mX2_candidateFor 2 kc ks 58 [some (zr h), some (zi v1), some (zi v2), some (zi v3), some (zi v4), none] [] μ o ν := by
  unfold qH_candidateFor_j58 at hq
  refine z_iconst 59 dX2_candidateFor_58 rfl (by decide) ?_
  refine z_goto 63 dX2_candidateFor_59 rfl ?_
  exact Z.sub (zle_s (zle_s (zle_s (zle_s (zle_s (zle_n zle_nil)))))) (J_qH_candidateFor_j63 A_h he hrec hq)
set_option maxRecDepth 100000 in
set_option maxHeartbeats 4000000 in
theorem L_qH_candidateFor_l5 {g : yG} {a : Nat → Nat} {μ ν : zM} {o : zO} {kc ks : Nat} {h : Nat} {v1 : Int} {v2 : Int} {R : Int}  (A_h : zH h) (he : ∀ (t : Int), R = t → Z g a mX2_candidateFor 2 kc ks 94 [some (zr h), some (zi v1), some (zi v2), some (zi t), none, none] [] μ o ν) : ∀ (n : Nat) (v3 : Int) (v4 : Int), qH_candidateFor_l5 μ h v1 v2 n v3 v4 = some R → Z g a mX2_candidateFor 2 kc ks 5 [some (zr h), some (zi v1), some (zi v2), some (zi v3), some (zi v4), none] [] μ o ν := by
  intro n
  induction n with
  | zero => intro v3 v4 hq; cases hq
  | succ n ih =>
    intro v3 v4 hq
    rw [qH_candidateFor_l5] at hq
    refine z_iload 7 dX2_candidateFor_5 rfl rfl ?_
    refine z_aload_n 8 dX2_candidateFor_7 rfl rfl ?_
    refine z_getI (x := (μ h 3)) 11 dX2_candidateFor_8 rfl f_RX2_22 A_h.a0 rfl ?_
    refine z_icmp_ge 94 14 dX2_candidateFor_11 rfl rfl (fun hc => ?_) (fun hc => ?_)
    · replace hq := z_in hq (Int.not_lt.mpr hc)
      exact Z.sub (zle_s (zle_s (zle_s (zle_s (zle_n (zle_n zle_nil)))))) (he _ (Option.some.inj hq).symm)
    · replace hq := z_ip hq hc
      refine z_iload 16 dX2_candidateFor_14 rfl rfl ?_
      refine z_iload_n 17 dX2_candidateFor_16 rfl rfl ?_
      refine z_icmp_eq 62 20 dX2_candidateFor_17 rfl rfl (fun hc => ?_) (fun hc => ?_)
      · replace hq := z_ip hq hc
        exact Z.sub (zle_s (zle_s (zle_s (zle_s (zle_s (zle_n zle_nil)))))) (J_qH_candidateFor_j62 A_h he ih hq)
      · replace hq := z_in hq hc
        refine z_aload_n 21 dX2_candidateFor_20 rfl rfl ?_
        refine z_iload 23 dX2_candidateFor_21 rfl rfl ?_
        refine z_iload_n 24 dX2_candidateFor_23 rfl rfl ?_
        obtain ⟨a2, h2, hq⟩ := z_b hq
        refine z_callV1 (as := [zi v4, zi v1]) (S := []) 27 dX2_candidateFor_24 rfl (Q_qH_canAfford A_h h2) kX2_canAfford ⟨_, _, rfl⟩ A_h.a0 l_RX2_114 rfl rfl rfl rfl rfl rfl rfl ?_
        refine z_if_eq 62 30 dX2_candidateFor_27 rfl rfl (fun hc => ?_) (fun hc => ?_)
        · replace hq := z_ip hq hc
          exact Z.sub (zle_s (zle_s (zle_s (zle_s (zle_s (zle_n zle_nil)))))) (J_qH_candidateFor_j62 A_h he ih hq)
        · replace hq := z_in hq hc
          refine z_aload_n 31 dX2_candidateFor_30 rfl rfl ?_
          refine z_getR (e := 9) (r := (h + 9)) 34 dX2_candidateFor_31 rfl f_RX2_46 A_h.a0 rfl A_h.a9.1 ?_
          refine z_iload 36 dX2_candidateFor_34 rfl rfl ?_
          obtain ⟨hg36, hq⟩ := z_g hq
          refine z_iaload (x := (μ (h + 9) v4)) 37 dX2_candidateFor_36 rfl A_h.a9 hg36 rfl ?_
          refine z_iconst 38 dX2_candidateFor_37 rfl (by decide) ?_
          refine z_icmp_eq 58 41 dX2_candidateFor_38 rfl rfl (fun hc => ?_) (fun hc => ?_)
          · replace hq := z_ip hq hc
            exact Z.sub (zle_s (zle_s (zle_s (zle_s (zle_s (zle_n zle_nil)))))) (J_qH_candidateFor_j58 A_h he ih hq)
          · replace hq := z_in hq hc
            refine z_aload_n 42 dX2_candidateFor_41 rfl rfl ?_
            refine z_iload 44 dX2_candidateFor_42 rfl rfl ?_
            refine z_iload_n 45 dX2_candidateFor_44 rfl rfl ?_
            refine z_aload_n 46 dX2_candidateFor_45 rfl rfl ?_
            refine z_getR (e := 9) (r := (h + 9)) 49 dX2_candidateFor_46 rfl f_RX2_46 A_h.a0 rfl A_h.a9.1 ?_
            refine z_iload 51 dX2_candidateFor_49 rfl rfl ?_
            obtain ⟨hg51, hq⟩ := z_g hq
            refine z_iaload (x := (μ (h + 9) v4)) 52 dX2_candidateFor_51 rfl A_h.a9 hg51 rfl ?_
            obtain ⟨a3, h3, hq⟩ := z_b hq
            refine z_callV1 (as := [zi v4, zi v1, zi (μ (h + 9) v4)]) (S := []) 55 dX2_candidateFor_52 rfl (Q_qH_prefersFlat A_h h3) kX2_prefersFlat ⟨_, _, rfl⟩ A_h.a0 l_RX2_141 rfl rfl rfl rfl rfl rfl rfl ?_
            refine z_if_eq 62 58 dX2_candidateFor_55 rfl rfl (fun hc => ?_) (fun hc => ?_)
            · replace hq := z_ip hq hc
              exact Z.sub (zle_s (zle_s (zle_s (zle_s (zle_s (zle_n zle_nil)))))) (J_qH_candidateFor_j62 A_h he ih hq)
            · replace hq := z_in hq hc
              exact Z.sub (zle_s (zle_s (zle_s (zle_s (zle_s (zle_n zle_nil)))))) (J_qH_candidateFor_j58 A_h he ih hq)
set_option maxRecDepth 100000 in
set_option maxHeartbeats 4000000 in
theorem Q_qH_candidateFor {g : yG} {a : Nat → Nat} {μ : zM} {h : Nat} {v1 : Int} {v2 : Int} {r : Int} (A_h : zH h) (hq : qH_candidateFor μ h v1 v2 = some r) : zC g a mX2_candidateFor 2 0 0 [zr h, zi v1, zi v2] μ (.inl (some (zi r))) μ := by
  unfold qH_candidateFor at hq
  refine z_of (L := [some (zr h), some (zi v1), some (zi v2), none, none, none]) pl_RX2 rfl (zc_of rfl) rfl rfl ?_
  refine z_iconst 1 dX2_candidateFor_0 rfl (by decide) ?_
  refine z_istore_n (L' := [some (zr h), some (zi v1), some (zi v2), some (zi (-1)), none, none]) 2 dX2_candidateFor_1 rfl rfl rfl rfl ?_
  refine z_iconst 3 dX2_candidateFor_2 rfl (by decide) ?_
  refine z_istore (L' := [some (zr h), some (zi v1), some (zi v2), some (zi (-1)), some (zi 0), none]) 5 dX2_candidateFor_3 rfl rfl rfl rfl ?_
  obtain ⟨t4, h4, hq⟩ := z_b hq
  refine Z.sub (zle_s (zle_s (zle_s (zle_s (zle_s (zle_n zle_nil)))))) (L_qH_candidateFor_l5 A_h (R := t4) (fun _ e => ?_) _ _ _ h4)
  cases e
  refine z_iload_n 95 dX2_candidateFor_94 rfl rfl ?_
  cases hq
  exact z_ireturn rfl dX2_candidateFor_95
