/-! ===== the methods do what the mirror says (laid by wip/whole/tools/proofs.py) ===== -/
set_option maxRecDepth 100000 in
set_option maxHeartbeats 4000000 in
theorem Q_qT_isWithin {g : yG} {a : Nat → Nat} {μ : zM} {v0 : Int} {v1 : Int} {v2 : Int} {r : Int}  (hq : qT_isWithin μ v0 v1 v2 = some r) : zC g a mX9_isWithin 0 0 0 [zi v0, zi v1, zi v2] μ (.inl (some (zi r))) μ := by
  unfold qT_isWithin at hq
  refine z_of (L := [some (zi v0), some (zi v1), some (zi v2)]) pl_RX9 rfl (zc_of rfl) rfl rfl ?_
  refine z_iload_n 1 dX9_isWithin_0 rfl rfl ?_
  refine z_iload_n 2 dX9_isWithin_1 rfl rfl ?_
  refine z_icmp_lt 14 5 dX9_isWithin_2 rfl rfl (fun hc => ?_) (fun hc => ?_)
  · replace hq := z_ip hq hc
    refine z_iconst 15 dX9_isWithin_14 rfl (by decide) ?_
    cases hq
    exact z_zreturn rfl dX9_isWithin_15 (by decide)
  · replace hq := z_in hq (Int.not_lt.mpr hc)
    refine z_iload_n 6 dX9_isWithin_5 rfl rfl ?_
    refine z_iload_n 7 dX9_isWithin_6 rfl rfl ?_
    refine z_icmp_gt 14 10 dX9_isWithin_7 rfl rfl (fun hc => ?_) (fun hc => ?_)
    · replace hq := z_ip hq hc
      refine z_iconst 15 dX9_isWithin_14 rfl (by decide) ?_
      cases hq
      exact z_zreturn rfl dX9_isWithin_15 (by decide)
    · replace hq := z_in hq (Int.not_lt.mpr hc)
      refine z_iconst 11 dX9_isWithin_10 rfl (by decide) ?_
      refine z_goto 15 dX9_isWithin_11 rfl ?_
      cases hq
      exact z_zreturn rfl dX9_isWithin_15 (by decide)
set_option maxRecDepth 100000 in
set_option maxHeartbeats 4000000 in
theorem Q_qH_refusalOfFlat {g : yG} {a : Nat → Nat} {μ : zM} {h : Nat} {v1 : Int} {v2 : Int} {r : Int} (A_h : zH h) (hq : qH_refusalOfFlat μ h v1 v2 = some r) : zC g a mX2_refusalOfFlat 1 0 0 [zr h, zi v1, zi v2] μ (.inl (some (zre r))) μ := by
  unfold qH_refusalOfFlat at hq
  refine z_of (L := [some (zr h), some (zi v1), some (zi v2)]) pl_RX2 rfl (zc_of rfl) rfl rfl ?_
  refine z_iload_n 1 dX2_refusalOfFlat_0 rfl rfl ?_
  refine z_iconst 2 dX2_refusalOfFlat_1 rfl (by decide) ?_
  refine z_iconst 3 dX2_refusalOfFlat_2 rfl (by decide) ?_
  obtain ⟨a1, h1, hq⟩ := z_b hq
  refine z_callN1 (as := [zi v1, zi 0, zi 5]) (S := []) 6 dX2_refusalOfFlat_3 rfl (Q_qT_isWithin  h1) kX9_isWithin n_RX2_81 rfl rfl rfl rfl rfl rfl rfl ?_
  refine z_if_eq 19 9 dX2_refusalOfFlat_6 rfl rfl (fun hc => ?_) (fun hc => ?_)
  · replace hq := z_ip hq hc
    refine z_enumR (x := 3) 22 dX2_refusalOfFlat_19 rfl (by decide) (yb 621 (by decide +kernel) rfl) ?_
    cases hq
    exact z_areturn rfl (Or.inl ⟨_, rfl⟩) dX2_refusalOfFlat_22
  · replace hq := z_in hq hc
    refine z_iload_n 10 dX2_refusalOfFlat_9 rfl rfl ?_
    refine z_iconst 11 dX2_refusalOfFlat_10 rfl (by decide) ?_
    refine z_bipush 13 dX2_refusalOfFlat_11 rfl (by decide) (by decide) ?_
    obtain ⟨a2, h2, hq⟩ := z_b hq
    refine z_callN1 (as := [zi v2, zi 1, zi 99]) (S := []) 16 dX2_refusalOfFlat_13 rfl (Q_qT_isWithin  h2) kX9_isWithin n_RX2_81 rfl rfl rfl rfl rfl rfl rfl ?_
    refine z_if_ne 23 19 dX2_refusalOfFlat_16 rfl rfl (fun hc => ?_) (fun hc => ?_)
    · replace hq := z_in hq hc
      refine z_aload_n 24 dX2_refusalOfFlat_23 rfl rfl ?_
      refine z_getI (x := (μ h 0)) 27 dX2_refusalOfFlat_24 rfl f_RX2_9 A_h.a0 rfl ?_
      refine z_bipush 29 dX2_refusalOfFlat_27 rfl (by decide) (by decide) ?_
      refine z_icmp_lt 38 32 dX2_refusalOfFlat_29 rfl rfl (fun hc => ?_) (fun hc => ?_)
      · replace hq := z_ip hq hc
        refine z_enumR (x := 0) 41 dX2_refusalOfFlat_38 rfl (by decide) (yb 625 (by decide +kernel) rfl) ?_
        cases hq
        exact z_areturn rfl (Or.inl ⟨_, rfl⟩) dX2_refusalOfFlat_41
      · replace hq := z_in hq (Int.not_lt.mpr hc)
        refine z_enumR (x := 4) 35 dX2_refusalOfFlat_32 rfl (by decide) (yb 623 (by decide +kernel) rfl) ?_
        refine z_goto 41 dX2_refusalOfFlat_35 rfl ?_
        cases hq
        exact z_areturn rfl (Or.inl ⟨_, rfl⟩) dX2_refusalOfFlat_41
    · replace hq := z_ip hq hc
      refine z_enumR (x := 3) 22 dX2_refusalOfFlat_19 rfl (by decide) (yb 621 (by decide +kernel) rfl) ?_
      cases hq
      exact z_areturn rfl (Or.inl ⟨_, rfl⟩) dX2_refusalOfFlat_22
set_option maxRecDepth 100000 in
set_option maxHeartbeats 4000000 in
theorem Q_qT_refuse {g : yG} {a : Nat → Nat} {μ : zM} {v0 : Int} {r : Int ⊕ Nat} {ν : zM}  (hq : qT_refuse μ v0 = some (r, ν)) : zC g a mX9_refuse 1 1 6 [zre v0] μ (zrv r) ν := by
  unfold qT_refuse at hq
  refine z_of (L := [some (zre v0)]) pl_RX9 rfl (zc_of rfl) rfl rfl ?_
  refine z_swR 3 dX9_refuse_0 rfl (yb 630 (by decide +kernel) rfl) ?_
  refine z_aload_n 4 dX9_refuse_3 rfl rfl ?_
  obtain ⟨hg4, hq⟩ := z_g hq
  refine z_ordR 7 dX9_refuse_4 rfl hg4 o_RX9_355 rfl rfl rfl ?_
  obtain ⟨hg7, hq⟩ := z_g hq
  refine z_ldR 8 dX9_refuse_7 rfl hg7 ?_
  by_cases hs0 : (swRefusal v0) = 1
  · replace hq := z_ip hq hs0
    refine z_swIn 44 dX9_refuse_8 hs0 rfl rfl rfl ?_
    cases hq
    exact z_throwNW (cls := "java/util/NoSuchElementException") (text := "no such tenant") (names := ["java/lang/Exception"]) (e := 0) tf_0 (yb 638 (by decide +kernel) rfl) (yb 107 (by decide +kernel) rfl) ts_360 (by decide +kernel) t_RX9_165 rfl rfl dX9_refuse_44 dX9_refuse_47 dX9_refuse_48 dX9_refuse_51 dX9_refuse_54 rfl rfl rfl
  · replace hq := z_in hq hs0
    by_cases hs1 : (swRefusal v0) = 2
    · replace hq := z_ip hq hs1
      refine z_swIn 55 dX9_refuse_8 hs1 rfl rfl rfl ?_
      cases hq
      exact z_throwSW (cls := "java/lang/IndexOutOfBoundsException") (text := "no such flat") (names := ["java/lang/RuntimeException", "java/lang/Exception"]) (e := 1) tf_1 (yb 710 (by decide +kernel) rfl) (yb 108 (by decide +kernel) rfl) ts_362 (by decide +kernel) t_RX9_296 rfl rfl dX9_refuse_55 dX9_refuse_58 dX9_refuse_59 dX9_refuse_62 dX9_refuse_65 rfl rfl rfl
    · replace hq := z_in hq hs1
      by_cases hs2 : (swRefusal v0) = 3
      · replace hq := z_ip hq hs2
        refine z_swIn 66 dX9_refuse_8 hs2 rfl rfl rfl ?_
        cases hq
        exact z_throwSW (cls := "java/lang/IllegalArgumentException") (text := "an argument is out of range") (names := ["java/lang/RuntimeException", "java/lang/Exception"]) (e := 2) tf_2 (yb 726 (by decide +kernel) rfl) (yb 109 (by decide +kernel) rfl) ts_364 (by decide +kernel) t_RX9_317 rfl rfl dX9_refuse_66 dX9_refuse_69 dX9_refuse_70 dX9_refuse_73 dX9_refuse_76 rfl rfl rfl
      · replace hq := z_in hq hs2
        by_cases hs3 : (swRefusal v0) = 4
        · replace hq := z_ip hq hs3
          refine z_swIn 77 dX9_refuse_8 hs3 rfl rfl rfl ?_
          cases hq
          exact z_throwSW (cls := "java/lang/IllegalStateException") (text := "not in this state of the house") (names := ["java/lang/RuntimeException", "java/lang/Exception"]) (e := 3) tf_3 (yb 742 (by decide +kernel) rfl) (yb 110 (by decide +kernel) rfl) ts_366 (by decide +kernel) t_RX9_305 rfl rfl dX9_refuse_77 dX9_refuse_80 dX9_refuse_81 dX9_refuse_84 dX9_refuse_87 rfl rfl rfl
        · replace hq := z_in hq hs3
          by_cases hs4 : (swRefusal v0) = 5
          · replace hq := z_ip hq hs4
            refine z_swIn 88 dX9_refuse_8 hs4 rfl rfl rfl ?_
            cases hq
            exact z_throwSW (cls := "java/lang/UnsupportedOperationException") (text := "the tenant cannot afford the flat") (names := ["java/lang/RuntimeException", "java/lang/Exception"]) (e := 4) tf_4 (yb 758 (by decide +kernel) rfl) (yb 111 (by decide +kernel) rfl) ts_368 (by decide +kernel) t_RX9_332 rfl rfl dX9_refuse_88 dX9_refuse_91 dX9_refuse_92 dX9_refuse_95 dX9_refuse_98 rfl rfl rfl
          · replace hq := z_in hq hs4
            refine z_swOut 99 dX9_refuse_8 (by omega) rfl ?_
            cases hq
            exact z_return rfl dX9_refuse_99
set_option maxRecDepth 100000 in
set_option maxHeartbeats 4000000 in
theorem Q_qH_copyRow {g : yG} {a : Nat → Nat} {μ : zM} {v0 : Nat} {v1 : Nat} {ν : zM} (A_v0 : zAr v0 0 6) (A_v1 : zAr v1 0 6) (hq : qH_copyRow μ v0 v1 = some ν) : zC g a mX2_copyRow 0 0 0 [zr v0, zr v1] μ (.inl none) ν := by
  unfold qH_copyRow at hq
  refine z_of (L := [some (zr v0), some (zr v1)]) pl_RX2 rfl (zc_of rfl) rfl rfl ?_
  refine z_aload_n 1 dX2_copyRow_0 rfl rfl ?_
  refine z_iconst 2 dX2_copyRow_1 rfl (by decide) ?_
  refine z_aload_n 3 dX2_copyRow_2 rfl rfl ?_
  refine z_iconst 4 dX2_copyRow_3 rfl (by decide) ?_
  refine z_aload_n 5 dX2_copyRow_4 rfl rfl ?_
  refine z_alen (x := 6) 6 dX2_copyRow_5 rfl A_v0 rfl ?_
  refine z_aload_n 7 dX2_copyRow_6 rfl rfl ?_
  refine z_alen (x := 6) 8 dX2_copyRow_7 rfl A_v1 rfl ?_
  refine z_min (r := 6) 11 dX2_copyRow_8 rfl rfl ⟨(yb 368 (by decide +kernel) rfl), (yb 369 (by decide +kernel) rfl), (yb 112 (by decide +kernel) rfl), (yb 370 (by decide +kernel) rfl)⟩ rfl ?_
  obtain ⟨m1, em1, hq⟩ := z_m hq
  refine z_arraycopy (n := 6) 14 dX2_copyRow_11 rfl A_v0 A_v1 rfl rfl rfl ⟨(yb 371 (by decide +kernel) rfl), (yb 373 (by decide +kernel) rfl), (yb 372 (by decide +kernel) rfl), (yb 113 (by decide +kernel) rfl)⟩ rfl em1 ?_
  cases hq
  exact z_return rfl dX2_copyRow_14
set_option maxRecDepth 100000 in
set_option maxHeartbeats 4000000 in
theorem Q_qH_copyFrom {g : yG} {a : Nat → Nat} {μ : zM} {h : Nat} {v1 : Nat} {ν : zM} (A_h : zH h) (A_v1 : zH v1) (hq : qH_copyFrom μ h v1 = some ν) : zC g a mX2_copyFrom 1 0 0 [zr h, zr v1] μ (.inl none) ν := by
  unfold qH_copyFrom at hq
  refine z_of (L := [some (zr h), some (zr v1)]) pl_RX2 rfl (zc_of rfl) rfl rfl ?_
  refine z_aload_n 1 dX2_copyFrom_0 rfl rfl ?_
  refine z_aload_n 2 dX2_copyFrom_1 rfl rfl ?_
  refine z_getI (x := (μ v1 0)) 5 dX2_copyFrom_2 rfl f_RX2_9 A_v1.a0 rfl ?_
  obtain ⟨m1, em1, hq⟩ := z_m hq
  refine z_putI 8 dX2_copyFrom_5 rfl p_RX2_9 A_h.a0 em1 ?_
  refine z_aload_n 9 dX2_copyFrom_8 rfl rfl ?_
  refine z_getR (e := 1) (r := (v1 + 1)) 12 dX2_copyFrom_9 rfl f_RX2_15 A_v1.a0 rfl A_v1.a1.1 ?_
  refine z_aload_n 13 dX2_copyFrom_12 rfl rfl ?_
  refine z_getR (e := 1) (r := (h + 1)) 16 dX2_copyFrom_13 rfl f_RX2_15 A_h.a0 rfl A_h.a1.1 ?_
  obtain ⟨m2, h2, hq⟩ := z_b hq
  refine z_callS0 (as := [zr (v1 + 1), zr (h + 1)]) (S := []) 19 dX2_copyFrom_16 rfl (Q_qH_copyRow A_v1.a1 A_h.a1 h2) kX2_copyRow l_RX2_65 rfl rfl rfl rfl rfl rfl rfl ?_
  refine z_aload_n 20 dX2_copyFrom_19 rfl rfl ?_
  refine z_getR (e := 2) (r := (v1 + 2)) 23 dX2_copyFrom_20 rfl f_RX2_19 A_v1.a0 rfl A_v1.a2.1 ?_
  refine z_aload_n 24 dX2_copyFrom_23 rfl rfl ?_
  refine z_getR (e := 2) (r := (h + 2)) 27 dX2_copyFrom_24 rfl f_RX2_19 A_h.a0 rfl A_h.a2.1 ?_
  obtain ⟨m3, h3, hq⟩ := z_b hq
  refine z_callS0 (as := [zr (v1 + 2), zr (h + 2)]) (S := []) 30 dX2_copyFrom_27 rfl (Q_qH_copyRow A_v1.a2 A_h.a2 h3) kX2_copyRow l_RX2_65 rfl rfl rfl rfl rfl rfl rfl ?_
  refine z_aload_n 31 dX2_copyFrom_30 rfl rfl ?_
  refine z_aload_n 32 dX2_copyFrom_31 rfl rfl ?_
  refine z_getI (x := (m3 v1 3)) 35 dX2_copyFrom_32 rfl f_RX2_22 A_v1.a0 rfl ?_
  obtain ⟨m4, em4, hq⟩ := z_m hq
  refine z_putI 38 dX2_copyFrom_35 rfl p_RX2_22 A_h.a0 em4 ?_
  refine z_aload_n 39 dX2_copyFrom_38 rfl rfl ?_
  refine z_aload_n 40 dX2_copyFrom_39 rfl rfl ?_
  refine z_getI (x := (m4 v1 4)) 43 dX2_copyFrom_40 rfl f_RX2_25 A_v1.a0 rfl ?_
  obtain ⟨m5, em5, hq⟩ := z_m hq
  refine z_putI 46 dX2_copyFrom_43 rfl p_RX2_25 A_h.a0 em5 ?_
  refine z_aload_n 47 dX2_copyFrom_46 rfl rfl ?_
  refine z_getR (e := 3) (r := (v1 + 3)) 50 dX2_copyFrom_47 rfl f_RX2_28 A_v1.a0 rfl A_v1.a3.1 ?_
  refine z_aload_n 51 dX2_copyFrom_50 rfl rfl ?_
  refine z_getR (e := 3) (r := (h + 3)) 54 dX2_copyFrom_51 rfl f_RX2_28 A_h.a0 rfl A_h.a3.1 ?_
  obtain ⟨m6, h6, hq⟩ := z_b hq
  refine z_callS0 (as := [zr (v1 + 3), zr (h + 3)]) (S := []) 57 dX2_copyFrom_54 rfl (Q_qH_copyRow A_v1.a3 A_h.a3 h6) kX2_copyRow l_RX2_65 rfl rfl rfl rfl rfl rfl rfl ?_
  refine z_aload_n 58 dX2_copyFrom_57 rfl rfl ?_
  refine z_getR (e := 4) (r := (v1 + 4)) 61 dX2_copyFrom_58 rfl f_RX2_31 A_v1.a0 rfl A_v1.a4.1 ?_
  refine z_aload_n 62 dX2_copyFrom_61 rfl rfl ?_
  refine z_getR (e := 4) (r := (h + 4)) 65 dX2_copyFrom_62 rfl f_RX2_31 A_h.a0 rfl A_h.a4.1 ?_
  obtain ⟨m7, h7, hq⟩ := z_b hq
  refine z_callS0 (as := [zr (v1 + 4), zr (h + 4)]) (S := []) 68 dX2_copyFrom_65 rfl (Q_qH_copyRow A_v1.a4 A_h.a4 h7) kX2_copyRow l_RX2_65 rfl rfl rfl rfl rfl rfl rfl ?_
  refine z_aload_n 69 dX2_copyFrom_68 rfl rfl ?_
  refine z_getR (e := 5) (r := (v1 + 5)) 72 dX2_copyFrom_69 rfl f_RX2_34 A_v1.a0 rfl A_v1.a5.1 ?_
  refine z_aload_n 73 dX2_copyFrom_72 rfl rfl ?_
  refine z_getR (e := 5) (r := (h + 5)) 76 dX2_copyFrom_73 rfl f_RX2_34 A_h.a0 rfl A_h.a5.1 ?_
  obtain ⟨m8, h8, hq⟩ := z_b hq
  refine z_callS0 (as := [zr (v1 + 5), zr (h + 5)]) (S := []) 79 dX2_copyFrom_76 rfl (Q_qH_copyRow A_v1.a5 A_h.a5 h8) kX2_copyRow l_RX2_65 rfl rfl rfl rfl rfl rfl rfl ?_
  refine z_aload_n 80 dX2_copyFrom_79 rfl rfl ?_
  refine z_getR (e := 6) (r := (v1 + 6)) 83 dX2_copyFrom_80 rfl f_RX2_37 A_v1.a0 rfl A_v1.a6.1 ?_
  refine z_aload_n 84 dX2_copyFrom_83 rfl rfl ?_
  refine z_getR (e := 6) (r := (h + 6)) 87 dX2_copyFrom_84 rfl f_RX2_37 A_h.a0 rfl A_h.a6.1 ?_
  obtain ⟨m9, h9, hq⟩ := z_b hq
  refine z_callS0 (as := [zr (v1 + 6), zr (h + 6)]) (S := []) 90 dX2_copyFrom_87 rfl (Q_qH_copyRow A_v1.a6 A_h.a6 h9) kX2_copyRow l_RX2_65 rfl rfl rfl rfl rfl rfl rfl ?_
  refine z_aload_n 91 dX2_copyFrom_90 rfl rfl ?_
  refine z_getR (e := 7) (r := (v1 + 7)) 94 dX2_copyFrom_91 rfl f_RX2_40 A_v1.a0 rfl A_v1.a7.1 ?_
  refine z_aload_n 95 dX2_copyFrom_94 rfl rfl ?_
  refine z_getR (e := 7) (r := (h + 7)) 98 dX2_copyFrom_95 rfl f_RX2_40 A_h.a0 rfl A_h.a7.1 ?_
  obtain ⟨m10, h10, hq⟩ := z_b hq
  refine z_callS0 (as := [zr (v1 + 7), zr (h + 7)]) (S := []) 101 dX2_copyFrom_98 rfl (Q_qH_copyRow A_v1.a7 A_h.a7 h10) kX2_copyRow l_RX2_65 rfl rfl rfl rfl rfl rfl rfl ?_
  refine z_aload_n 102 dX2_copyFrom_101 rfl rfl ?_
  refine z_getR (e := 8) (r := (v1 + 8)) 105 dX2_copyFrom_102 rfl f_RX2_43 A_v1.a0 rfl A_v1.a8.1 ?_
  refine z_aload_n 106 dX2_copyFrom_105 rfl rfl ?_
  refine z_getR (e := 8) (r := (h + 8)) 109 dX2_copyFrom_106 rfl f_RX2_43 A_h.a0 rfl A_h.a8.1 ?_
  obtain ⟨m11, h11, hq⟩ := z_b hq
  refine z_callS0 (as := [zr (v1 + 8), zr (h + 8)]) (S := []) 112 dX2_copyFrom_109 rfl (Q_qH_copyRow A_v1.a8 A_h.a8 h11) kX2_copyRow l_RX2_65 rfl rfl rfl rfl rfl rfl rfl ?_
  refine z_aload_n 113 dX2_copyFrom_112 rfl rfl ?_
  refine z_getR (e := 9) (r := (v1 + 9)) 116 dX2_copyFrom_113 rfl f_RX2_46 A_v1.a0 rfl A_v1.a9.1 ?_
  refine z_aload_n 117 dX2_copyFrom_116 rfl rfl ?_
  refine z_getR (e := 9) (r := (h + 9)) 120 dX2_copyFrom_117 rfl f_RX2_46 A_h.a0 rfl A_h.a9.1 ?_
  obtain ⟨m12, h12, hq⟩ := z_b hq
  refine z_callS0 (as := [zr (v1 + 9), zr (h + 9)]) (S := []) 123 dX2_copyFrom_120 rfl (Q_qH_copyRow A_v1.a9 A_h.a9 h12) kX2_copyRow l_RX2_65 rfl rfl rfl rfl rfl rfl rfl ?_
  refine z_aload_n 124 dX2_copyFrom_123 rfl rfl ?_
  refine z_aload_n 125 dX2_copyFrom_124 rfl rfl ?_
  refine z_getI (x := (m12 v1 12)) 128 dX2_copyFrom_125 rfl f_RX2_49 A_v1.a0 rfl ?_
  obtain ⟨m13, em13, hq⟩ := z_m hq
  refine z_putI 131 dX2_copyFrom_128 rfl p_RX2_49 A_h.a0 em13 ?_
  refine z_aload_n 132 dX2_copyFrom_131 rfl rfl ?_
  refine z_aload_n 133 dX2_copyFrom_132 rfl rfl ?_
  refine z_getI (x := (m13 v1 13)) 136 dX2_copyFrom_133 rfl f_RX2_52 A_v1.a0 rfl ?_
  obtain ⟨m14, em14, hq⟩ := z_m hq
  refine z_putI 139 dX2_copyFrom_136 rfl p_RX2_52 A_h.a0 em14 ?_
  refine z_aload_n 140 dX2_copyFrom_139 rfl rfl ?_
  refine z_aload_n 141 dX2_copyFrom_140 rfl rfl ?_
  refine z_getI (x := (m14 v1 14)) 144 dX2_copyFrom_141 rfl f_RX2_55 A_v1.a0 rfl ?_
  obtain ⟨m15, em15, hq⟩ := z_m hq
  refine z_putI 147 dX2_copyFrom_144 rfl p_RX2_55 A_h.a0 em15 ?_
  refine z_aload_n 148 dX2_copyFrom_147 rfl rfl ?_
  refine z_aload_n 149 dX2_copyFrom_148 rfl rfl ?_
  refine z_getJ (x := (m15 v1 15)) 152 dX2_copyFrom_149 rfl f_RX2_58 A_v1.a0 rfl ?_
  obtain ⟨m16, em16, hq⟩ := z_m hq
  refine z_putJ 155 dX2_copyFrom_152 rfl p_RX2_58 A_h.a0 em16 ?_
  refine z_aload_n 156 dX2_copyFrom_155 rfl rfl ?_
  refine z_aload_n 157 dX2_copyFrom_156 rfl rfl ?_
  refine z_getJ (x := (m16 v1 16)) 160 dX2_copyFrom_157 rfl f_RX2_62 A_v1.a0 rfl ?_
  obtain ⟨m17, em17, hq⟩ := z_m hq
  refine z_putJ 163 dX2_copyFrom_160 rfl p_RX2_62 A_h.a0 em17 ?_
  cases hq
  exact z_return rfl dX2_copyFrom_163
set_option maxRecDepth 100000 in
set_option maxHeartbeats 4000000 in
theorem Q_qY_push {g : yG} {a : Nat → Nat} {μ : zM} {v1 : Nat} {ν : zM} (A_v1 : zH v1) (hq : qY_push μ v1 = some ν) : zC g a mX1_push 2 0 0 [zr 31, zr v1] μ (.inl none) ν := by
  unfold qY_push at hq
  refine z_of (L := [some (zr 31), some (zr v1)]) pl_RX1 rfl (zc_of rfl) rfl rfl ?_
  refine z_aload_n 1 dX1_push_0 rfl rfl ?_
  refine z_getR (e := 1) (r := 32) 4 dX1_push_1 rfl f_RX1_11 ar_31 rfl ar_32.1 ?_
  refine z_aload_n 5 dX1_push_4 rfl rfl ?_
  refine z_getI (x := (μ 31 1)) 8 dX1_push_5 rfl f_RX1_17 ar_31 rfl ?_
  refine z_aload_n 9 dX1_push_8 rfl rfl ?_
  refine z_getI (x := (μ 31 2)) 12 dX1_push_9 rfl f_RX1_21 ar_31 rfl ?_
  refine z_iadd (r := (wr ((μ 31 1) + (μ 31 2)))) 13 dX1_push_12 rfl rfl ?_
  refine z_bipush 15 dX1_push_13 rfl (by decide) (by decide) ?_
  refine z_irem 16 dX1_push_15 rfl (by decide) ?_
  obtain ⟨hg16, hq⟩ := z_g hq
  refine z_aald4 17 dX1_push_16 rfl ar_32 hg16 (zH_ring hg16).a0.1 ?_
  refine z_aload_n 18 dX1_push_17 rfl rfl ?_
  obtain ⟨m1, h1, hq⟩ := z_b hq
  refine z_callV0 (as := [zr v1]) (S := []) 21 dX1_push_18 rfl (Q_qH_copyFrom (zH_ring hg16) A_v1 h1) kX2_copyFrom ⟨_, _, rfl⟩ (zH_ring hg16).a0 l_RX1_25 rfl rfl rfl rfl rfl rfl rfl ?_
  refine z_aload_n 22 dX1_push_21 rfl rfl ?_
  refine z_getI (x := (m1 31 2)) 25 dX1_push_22 rfl f_RX1_21 ar_31 rfl ?_
  refine z_bipush 27 dX1_push_25 rfl (by decide) (by decide) ?_
  refine z_icmp_ge 43 30 dX1_push_27 rfl rfl (fun hc => ?_) (fun hc => ?_)
  · replace hq := z_in hq (Int.not_lt.mpr hc)
    refine z_aload_n 44 dX1_push_43 rfl rfl ?_
    refine z_aload_n 45 dX1_push_44 rfl rfl ?_
    refine z_getI (x := (m1 31 1)) 48 dX1_push_45 rfl f_RX1_17 ar_31 rfl ?_
    refine z_iconst 49 dX1_push_48 rfl (by decide) ?_
    refine z_iadd (r := (wr ((m1 31 1) + 1))) 50 dX1_push_49 rfl rfl ?_
    refine z_bipush 52 dX1_push_50 rfl (by decide) (by decide) ?_
    refine z_irem 53 dX1_push_52 rfl (by decide) ?_
    obtain ⟨m2, em2, hq⟩ := z_m hq
    refine z_putI 56 dX1_push_53 rfl p_RX1_17 ar_31 em2 ?_
    cases hq
    exact z_return rfl dX1_push_56
  · replace hq := z_ip hq hc
    refine z_aload_n 31 dX1_push_30 rfl rfl ?_
    refine z_dup 32 dX1_push_31 rfl rfl ?_
    refine z_getI (x := (m1 31 2)) 35 dX1_push_32 rfl f_RX1_21 ar_31 rfl ?_
    refine z_iconst 36 dX1_push_35 rfl (by decide) ?_
    refine z_iadd (r := (wr ((m1 31 2) + 1))) 37 dX1_push_36 rfl rfl ?_
    obtain ⟨m3, em3, hq⟩ := z_m hq
    refine z_putI 40 dX1_push_37 rfl p_RX1_21 ar_31 em3 ?_
    refine z_goto 56 dX1_push_40 rfl ?_
    cases hq
    exact z_return rfl dX1_push_56
set_option maxRecDepth 100000 in
set_option maxHeartbeats 4000000 in
theorem Q_qH_buildFlat {g : yG} {a : Nat → Nat} {μ : zM} {h : Nat} {v1 : Int} {v2 : Int} {r : Int} {ν : zM} (A_h : zH h) (hq : qH_buildFlat μ h v1 v2 = some (r, ν)) : zC g a mX2_buildFlat 0 0 0 [zr h, zi v1, zi v2] μ (.inl (some (zi r))) ν := by
  unfold qH_buildFlat at hq
  refine z_of (L := [some (zr h), some (zi v1), some (zi v2), none]) pl_RX2 rfl (zc_of rfl) rfl rfl ?_
  refine z_aload_n 1 dX2_buildFlat_0 rfl rfl ?_
  refine z_getI (x := (μ h 0)) 4 dX2_buildFlat_1 rfl f_RX2_9 A_h.a0 rfl ?_
  refine z_istore_n (L' := [some (zr h), some (zi v1), some (zi v2), some (zi (μ h 0))]) 5 dX2_buildFlat_4 rfl rfl rfl rfl ?_
  refine z_aload_n 6 dX2_buildFlat_5 rfl rfl ?_
  refine z_getR (e := 1) (r := (h + 1)) 9 dX2_buildFlat_6 rfl f_RX2_15 A_h.a0 rfl A_h.a1.1 ?_
  refine z_iload_n 10 dX2_buildFlat_9 rfl rfl ?_
  refine z_iload_n 11 dX2_buildFlat_10 rfl rfl ?_
  obtain ⟨hg11, hq⟩ := z_g hq
  obtain ⟨m1, em1, hq⟩ := z_m hq
  refine z_iastore 12 dX2_buildFlat_11 rfl A_h.a1 hg11 em1 ?_
  refine z_aload_n 13 dX2_buildFlat_12 rfl rfl ?_
  refine z_getR (e := 2) (r := (h + 2)) 16 dX2_buildFlat_13 rfl f_RX2_19 A_h.a0 rfl A_h.a2.1 ?_
  refine z_iload_n 17 dX2_buildFlat_16 rfl rfl ?_
  refine z_iload_n 18 dX2_buildFlat_17 rfl rfl ?_
  obtain ⟨hg18, hq⟩ := z_g hq
  obtain ⟨m2, em2, hq⟩ := z_m hq
  refine z_iastore 19 dX2_buildFlat_18 rfl A_h.a2 hg18 em2 ?_
  refine z_aload_n 20 dX2_buildFlat_19 rfl rfl ?_
  refine z_dup 21 dX2_buildFlat_20 rfl rfl ?_
  refine z_getI (x := (m2 h 0)) 24 dX2_buildFlat_21 rfl f_RX2_9 A_h.a0 rfl ?_
  refine z_iconst 25 dX2_buildFlat_24 rfl (by decide) ?_
  refine z_iadd (r := (wr ((m2 h 0) + 1))) 26 dX2_buildFlat_25 rfl rfl ?_
  obtain ⟨m3, em3, hq⟩ := z_m hq
  refine z_putI 29 dX2_buildFlat_26 rfl p_RX2_9 A_h.a0 em3 ?_
  refine z_iload_n 30 dX2_buildFlat_29 rfl rfl ?_
  cases hq
  exact z_ireturn rfl dX2_buildFlat_30
set_option maxRecDepth 100000 in
set_option maxHeartbeats 4000000 in
theorem Q_qT_addFlat {g : yG} {a : Nat → Nat} {μ : zM} {v1 : Int} {v2 : Int} {r : Int ⊕ Nat} {ν : zM}  (hq : qT_addFlat μ v1 v2 = some (r, ν)) : zC g a mX9_addFlat 3 1 6 [zr 0, zi v1, zi v2] μ (zri r) ν := by
  unfold qT_addFlat at hq
  refine z_of (L := [some (zr 0), some (zi v1), some (zi v2)]) pl_RX9 rfl (zc_of rfl) rfl rfl ?_
  refine z_aload_n 1 dX9_addFlat_0 rfl rfl ?_
  refine z_getR (e := 1) (r := 1) 4 dX9_addFlat_1 rfl f_RX9_12 ar_0 rfl ar_1.1 ?_
  refine z_iload_n 5 dX9_addFlat_4 rfl rfl ?_
  refine z_iload_n 6 dX9_addFlat_5 rfl rfl ?_
  obtain ⟨a1, h1, hq⟩ := z_b hq
  refine z_callV1 (as := [zi v1, zi v2]) (S := []) (kc := 1) (ks := 6) 9 dX9_addFlat_6 rfl (Q_qH_refusalOfFlat zH_1 h1) kX2_refusalOfFlat ⟨_, _, rfl⟩ ar_1 l_RX9_71 rfl rfl rfl rfl rfl rfl rfl ?_
  rcases z_tc hq with ⟨a2, m2, h2, hq⟩ | ⟨ex2, h2, rfl⟩
  · refine z_callS0 (as := [zre a1]) (S := []) (kc := 0) (ks := 0) 12 dX9_addFlat_9 rfl (Q_qT_refuse  h2) kX9_refuse l_RX9_75 rfl rfl rfl rfl rfl rfl rfl ?_
    refine z_aload_n 13 dX9_addFlat_12 rfl rfl ?_
    refine z_getR (e := 31) (r := 31) 16 dX9_addFlat_13 rfl f_RX9_25 ar_0 rfl ar_31.1 ?_
    refine z_aload_n 17 dX9_addFlat_16 rfl rfl ?_
    refine z_getR (e := 1) (r := 1) 20 dX9_addFlat_17 rfl f_RX9_12 ar_0 rfl ar_1.1 ?_
    obtain ⟨m3, h3, hq⟩ := z_b hq
    refine z_callV0 (as := [zr 1]) (S := []) (kc := 0) (ks := 0) 23 dX9_addFlat_20 rfl (Q_qY_push zH_1 h3) kX1_push ⟨_, _, rfl⟩ ar_31 l_RX9_79 rfl rfl rfl rfl rfl rfl rfl ?_
    refine z_aload_n 24 dX9_addFlat_23 rfl rfl ?_
    refine z_getR (e := 1) (r := 1) 27 dX9_addFlat_24 rfl f_RX9_12 ar_0 rfl ar_1.1 ?_
    refine z_iload_n 28 dX9_addFlat_27 rfl rfl ?_
    refine z_iload_n 29 dX9_addFlat_28 rfl rfl ?_
    obtain ⟨a4, m4, h4, hq⟩ := bnd2_some hq
    refine z_callV1 (as := [zi v1, zi v2]) (S := []) (kc := 0) (ks := 0) 32 dX9_addFlat_29 rfl (Q_qH_buildFlat zH_1 h4) kX2_buildFlat ⟨_, _, rfl⟩ ar_1 l_RX9_83 rfl rfl rfl rfl rfl rfl rfl ?_
    cases hq
    exact z_ireturn rfl dX9_addFlat_32
  · exact z_callSX (e := ex2) (as := [zre a1]) (S := []) (kc := 0) (ks := 0) dX9_addFlat_9 (Q_qT_refuse  h2) kX9_refuse l_RX9_75 rfl rfl rfl rfl rfl rfl rfl
set_option maxRecDepth 100000 in
set_option maxHeartbeats 4000000 in
theorem Q_qH_refusalOfTenant {g : yG} {a : Nat → Nat} {μ : zM} {h : Nat} {v1 : Int} {v2 : Int} {v3 : Int} {v4 : Int} {r : Int} (A_h : zH h) (hq : qH_refusalOfTenant μ h v1 v2 v3 v4 = some r) : zC g a mX2_refusalOfTenant 1 0 0 [zr h, zi v1, zi v2, zi v3, zi v4] μ (.inl (some (zre r))) μ := by
  unfold qH_refusalOfTenant at hq
  refine z_of (L := [some (zr h), some (zi v1), some (zi v2), some (zi v3), some (zi v4)]) pl_RX2 rfl (zc_of rfl) rfl rfl ?_
  refine z_iload_n 1 dX2_refusalOfTenant_0 rfl rfl ?_
  refine z_iconst 2 dX2_refusalOfTenant_1 rfl (by decide) ?_
  refine z_bipush 4 dX2_refusalOfTenant_2 rfl (by decide) (by decide) ?_
  obtain ⟨a1, h1, hq⟩ := z_b hq
  refine z_callN1 (as := [zi v1, zi 1, zi 50]) (S := []) 7 dX2_refusalOfTenant_4 rfl (Q_qT_isWithin  h1) kX9_isWithin n_RX2_81 rfl rfl rfl rfl rfl rfl rfl ?_
  refine z_if_eq 40 10 dX2_refusalOfTenant_7 rfl rfl (fun hc => ?_) (fun hc => ?_)
  · replace hq := z_ip hq hc
    refine z_enumR (x := 3) 43 dX2_refusalOfTenant_40 rfl (by decide) (yb 621 (by decide +kernel) rfl) ?_
    cases hq
    exact z_areturn rfl (Or.inl ⟨_, rfl⟩) dX2_refusalOfTenant_43
  · replace hq := z_in hq hc
    refine z_iload_n 11 dX2_refusalOfTenant_10 rfl rfl ?_
    refine z_iconst 12 dX2_refusalOfTenant_11 rfl (by decide) ?_
    refine z_iconst 13 dX2_refusalOfTenant_12 rfl (by decide) ?_
    obtain ⟨a2, h2, hq⟩ := z_b hq
    refine z_callN1 (as := [zi v2, zi 0, zi 5]) (S := []) 16 dX2_refusalOfTenant_13 rfl (Q_qT_isWithin  h2) kX9_isWithin n_RX2_81 rfl rfl rfl rfl rfl rfl rfl ?_
    refine z_if_eq 40 19 dX2_refusalOfTenant_16 rfl rfl (fun hc => ?_) (fun hc => ?_)
    · replace hq := z_ip hq hc
      refine z_enumR (x := 3) 43 dX2_refusalOfTenant_40 rfl (by decide) (yb 621 (by decide +kernel) rfl) ?_
      cases hq
      exact z_areturn rfl (Or.inl ⟨_, rfl⟩) dX2_refusalOfTenant_43
    · replace hq := z_in hq hc
      refine z_iload_n 20 dX2_refusalOfTenant_19 rfl rfl ?_
      refine z_iconst 21 dX2_refusalOfTenant_20 rfl (by decide) ?_
      refine z_bipush 23 dX2_refusalOfTenant_21 rfl (by decide) (by decide) ?_
      obtain ⟨a3, h3, hq⟩ := z_b hq
      refine z_callN1 (as := [zi v3, zi 1, zi 40]) (S := []) 26 dX2_refusalOfTenant_23 rfl (Q_qT_isWithin  h3) kX9_isWithin n_RX2_81 rfl rfl rfl rfl rfl rfl rfl ?_
      refine z_if_eq 40 29 dX2_refusalOfTenant_26 rfl rfl (fun hc => ?_) (fun hc => ?_)
      · replace hq := z_ip hq hc
        refine z_enumR (x := 3) 43 dX2_refusalOfTenant_40 rfl (by decide) (yb 621 (by decide +kernel) rfl) ?_
        cases hq
        exact z_areturn rfl (Or.inl ⟨_, rfl⟩) dX2_refusalOfTenant_43
      · replace hq := z_in hq hc
        refine z_iload 31 dX2_refusalOfTenant_29 rfl rfl ?_
        refine z_iconst 32 dX2_refusalOfTenant_31 rfl (by decide) ?_
        refine z_bipush 34 dX2_refusalOfTenant_32 rfl (by decide) (by decide) ?_
        obtain ⟨a4, h4, hq⟩ := z_b hq
        refine z_callN1 (as := [zi v4, zi 0, zi 99]) (S := []) 37 dX2_refusalOfTenant_34 rfl (Q_qT_isWithin  h4) kX9_isWithin n_RX2_81 rfl rfl rfl rfl rfl rfl rfl ?_
        refine z_if_ne 44 40 dX2_refusalOfTenant_37 rfl rfl (fun hc => ?_) (fun hc => ?_)
        · replace hq := z_in hq hc
          refine z_aload_n 45 dX2_refusalOfTenant_44 rfl rfl ?_
          refine z_getI (x := (μ h 3)) 48 dX2_refusalOfTenant_45 rfl f_RX2_22 A_h.a0 rfl ?_
          refine z_bipush 50 dX2_refusalOfTenant_48 rfl (by decide) (by decide) ?_
          refine z_icmp_lt 59 53 dX2_refusalOfTenant_50 rfl rfl (fun hc => ?_) (fun hc => ?_)
          · replace hq := z_ip hq hc
            refine z_enumR (x := 0) 62 dX2_refusalOfTenant_59 rfl (by decide) (yb 625 (by decide +kernel) rfl) ?_
            cases hq
            exact z_areturn rfl (Or.inl ⟨_, rfl⟩) dX2_refusalOfTenant_62
          · replace hq := z_in hq (Int.not_lt.mpr hc)
            refine z_enumR (x := 4) 56 dX2_refusalOfTenant_53 rfl (by decide) (yb 623 (by decide +kernel) rfl) ?_
            refine z_goto 62 dX2_refusalOfTenant_56 rfl ?_
            cases hq
            exact z_areturn rfl (Or.inl ⟨_, rfl⟩) dX2_refusalOfTenant_62
        · replace hq := z_ip hq hc
          refine z_enumR (x := 3) 43 dX2_refusalOfTenant_40 rfl (by decide) (yb 621 (by decide +kernel) rfl) ?_
          cases hq
          exact z_areturn rfl (Or.inl ⟨_, rfl⟩) dX2_refusalOfTenant_43
set_option maxRecDepth 100000 in
set_option maxHeartbeats 4000000 in
theorem Q_qH_welcome {g : yG} {a : Nat → Nat} {μ : zM} {h : Nat} {v1 : Int} {v2 : Int} {v3 : Int} {v4 : Int} {r : Int} {ν : zM} (A_h : zH h) (hq : qH_welcome μ h v1 v2 v3 v4 = some (r, ν)) : zC g a mX2_welcome 0 0 0 [zr h, zi v1, zi v2, zi v3, zi v4] μ (.inl (some (zi r))) ν := by
  unfold qH_welcome at hq
  refine z_of (L := [some (zr h), some (zi v1), some (zi v2), some (zi v3), some (zi v4), none]) pl_RX2 rfl (zc_of rfl) rfl rfl ?_
  refine z_aload_n 1 dX2_welcome_0 rfl rfl ?_
  refine z_getI (x := (μ h 3)) 4 dX2_welcome_1 rfl f_RX2_22 A_h.a0 rfl ?_
  refine z_istore (L' := [some (zr h), some (zi v1), some (zi v2), some (zi v3), some (zi v4), some (zi (μ h 3))]) 6 dX2_welcome_4 rfl rfl rfl rfl ?_
  refine z_aload_n 7 dX2_welcome_6 rfl rfl ?_
  refine z_getR (e := 3) (r := (h + 3)) 10 dX2_welcome_7 rfl f_RX2_28 A_h.a0 rfl A_h.a3.1 ?_
  refine z_iload 12 dX2_welcome_10 rfl rfl ?_
  refine z_aload_n 13 dX2_welcome_12 rfl rfl ?_
  refine z_getI (x := (μ h 4)) 16 dX2_welcome_13 rfl f_RX2_25 A_h.a0 rfl ?_
  obtain ⟨hg16, hq⟩ := z_g hq
  obtain ⟨m1, em1, hq⟩ := z_m hq
  refine z_iastore 17 dX2_welcome_16 rfl A_h.a3 hg16 em1 ?_
  refine z_aload_n 18 dX2_welcome_17 rfl rfl ?_
  refine z_getR (e := 4) (r := (h + 4)) 21 dX2_welcome_18 rfl f_RX2_31 A_h.a0 rfl A_h.a4.1 ?_
  refine z_iload 23 dX2_welcome_21 rfl rfl ?_
  refine z_iload_n 24 dX2_welcome_23 rfl rfl ?_
  obtain ⟨hg24, hq⟩ := z_g hq
  obtain ⟨m2, em2, hq⟩ := z_m hq
  refine z_iastore 25 dX2_welcome_24 rfl A_h.a4 hg24 em2 ?_
  refine z_aload_n 26 dX2_welcome_25 rfl rfl ?_
  refine z_getR (e := 5) (r := (h + 5)) 29 dX2_welcome_26 rfl f_RX2_34 A_h.a0 rfl A_h.a5.1 ?_
  refine z_iload 31 dX2_welcome_29 rfl rfl ?_
  refine z_iload_n 32 dX2_welcome_31 rfl rfl ?_
  obtain ⟨hg32, hq⟩ := z_g hq
  obtain ⟨m3, em3, hq⟩ := z_m hq
  refine z_iastore 33 dX2_welcome_32 rfl A_h.a5 hg32 em3 ?_
  refine z_aload_n 34 dX2_welcome_33 rfl rfl ?_
  refine z_getR (e := 6) (r := (h + 6)) 37 dX2_welcome_34 rfl f_RX2_37 A_h.a0 rfl A_h.a6.1 ?_
  refine z_iload 39 dX2_welcome_37 rfl rfl ?_
  refine z_iload_n 40 dX2_welcome_39 rfl rfl ?_
  obtain ⟨hg40, hq⟩ := z_g hq
  obtain ⟨m4, em4, hq⟩ := z_m hq
  refine z_iastore 41 dX2_welcome_40 rfl A_h.a6 hg40 em4 ?_
  refine z_aload_n 42 dX2_welcome_41 rfl rfl ?_
  refine z_getR (e := 7) (r := (h + 7)) 45 dX2_welcome_42 rfl f_RX2_40 A_h.a0 rfl A_h.a7.1 ?_
  refine z_iload 47 dX2_welcome_45 rfl rfl ?_
  refine z_iload 49 dX2_welcome_47 rfl rfl ?_
  obtain ⟨hg49, hq⟩ := z_g hq
  obtain ⟨m5, em5, hq⟩ := z_m hq
  refine z_iastore 50 dX2_welcome_49 rfl A_h.a7 hg49 em5 ?_
  refine z_aload_n 51 dX2_welcome_50 rfl rfl ?_
  refine z_getR (e := 8) (r := (h + 8)) 54 dX2_welcome_51 rfl f_RX2_43 A_h.a0 rfl A_h.a8.1 ?_
  refine z_iload 56 dX2_welcome_54 rfl rfl ?_
  refine z_iconst 57 dX2_welcome_56 rfl (by decide) ?_
  obtain ⟨hg57, hq⟩ := z_g hq
  obtain ⟨m6, em6, hq⟩ := z_m hq
  refine z_iastore 58 dX2_welcome_57 rfl A_h.a8 hg57 em6 ?_
  refine z_aload_n 59 dX2_welcome_58 rfl rfl ?_
  refine z_getR (e := 9) (r := (h + 9)) 62 dX2_welcome_59 rfl f_RX2_46 A_h.a0 rfl A_h.a9.1 ?_
  refine z_iload 64 dX2_welcome_62 rfl rfl ?_
  refine z_iconst 65 dX2_welcome_64 rfl (by decide) ?_
  obtain ⟨hg65, hq⟩ := z_g hq
  obtain ⟨m7, em7, hq⟩ := z_m hq
  refine z_iastore 66 dX2_welcome_65 rfl A_h.a9 hg65 em7 ?_
  refine z_aload_n 67 dX2_welcome_66 rfl rfl ?_
  refine z_dup 68 dX2_welcome_67 rfl rfl ?_
  refine z_getI (x := (m7 h 3)) 71 dX2_welcome_68 rfl f_RX2_22 A_h.a0 rfl ?_
  refine z_iconst 72 dX2_welcome_71 rfl (by decide) ?_
  refine z_iadd (r := (wr ((m7 h 3) + 1))) 73 dX2_welcome_72 rfl rfl ?_
  obtain ⟨m8, em8, hq⟩ := z_m hq
  refine z_putI 76 dX2_welcome_73 rfl p_RX2_22 A_h.a0 em8 ?_
  refine z_aload_n 77 dX2_welcome_76 rfl rfl ?_
  refine z_dup 78 dX2_welcome_77 rfl rfl ?_
  refine z_getI (x := (m8 h 4)) 81 dX2_welcome_78 rfl f_RX2_25 A_h.a0 rfl ?_
  refine z_iconst 82 dX2_welcome_81 rfl (by decide) ?_
  refine z_iadd (r := (wr ((m8 h 4) + 1))) 83 dX2_welcome_82 rfl rfl ?_
  obtain ⟨m9, em9, hq⟩ := z_m hq
  refine z_putI 86 dX2_welcome_83 rfl p_RX2_25 A_h.a0 em9 ?_
  refine z_aload_n 87 dX2_welcome_86 rfl rfl ?_
  refine z_dup 88 dX2_welcome_87 rfl rfl ?_
  refine z_getJ (x := (m9 h 15)) 91 dX2_welcome_88 rfl f_RX2_58 A_h.a0 rfl ?_
  refine z_iload 93 dX2_welcome_91 rfl rfl ?_
  refine z_i2l 94 dX2_welcome_93 rfl ?_
  obtain ⟨hg94, hq⟩ := z_g hq
  refine z_ladd 95 dX2_welcome_94 rfl hg94 ?_
  obtain ⟨m10, em10, hq⟩ := z_m hq
  refine z_putJ 98 dX2_welcome_95 rfl p_RX2_58 A_h.a0 em10 ?_
  refine z_aload_n 99 dX2_welcome_98 rfl rfl ?_
  refine z_getR (e := 3) (r := (h + 3)) 102 dX2_welcome_99 rfl f_RX2_28 A_h.a0 rfl A_h.a3.1 ?_
  refine z_iload 104 dX2_welcome_102 rfl rfl ?_
  obtain ⟨hg104, hq⟩ := z_g hq
  refine z_iaload (x := (m10 (h + 3) (μ h 3))) 105 dX2_welcome_104 rfl A_h.a3 hg104 rfl ?_
  cases hq
  exact z_ireturn rfl dX2_welcome_105
set_option maxRecDepth 100000 in
set_option maxHeartbeats 4000000 in
theorem Q_qT_addTenant {g : yG} {a : Nat → Nat} {μ : zM} {v1 : Int} {v2 : Int} {v3 : Int} {v4 : Int} {r : Int ⊕ Nat} {ν : zM}  (hq : qT_addTenant μ v1 v2 v3 v4 = some (r, ν)) : zC g a mX9_addTenant 3 1 6 [zr 0, zi v1, zi v2, zi v3, zi v4] μ (zri r) ν := by
  unfold qT_addTenant at hq
  refine z_of (L := [some (zr 0), some (zi v1), some (zi v2), some (zi v3), some (zi v4)]) pl_RX9 rfl (zc_of rfl) rfl rfl ?_
  refine z_aload_n 1 dX9_addTenant_0 rfl rfl ?_
  refine z_getR (e := 1) (r := 1) 4 dX9_addTenant_1 rfl f_RX9_12 ar_0 rfl ar_1.1 ?_
  refine z_iload_n 5 dX9_addTenant_4 rfl rfl ?_
  refine z_iload_n 6 dX9_addTenant_5 rfl rfl ?_
  refine z_iload_n 7 dX9_addTenant_6 rfl rfl ?_
  refine z_iload 9 dX9_addTenant_7 rfl rfl ?_
  obtain ⟨a1, h1, hq⟩ := z_b hq
  refine z_callV1 (as := [zi v1, zi v2, zi v3, zi v4]) (S := []) (kc := 1) (ks := 6) 12 dX9_addTenant_9 rfl (Q_qH_refusalOfTenant zH_1 h1) kX2_refusalOfTenant ⟨_, _, rfl⟩ ar_1 l_RX9_87 rfl rfl rfl rfl rfl rfl rfl ?_
  rcases z_tc hq with ⟨a2, m2, h2, hq⟩ | ⟨ex2, h2, rfl⟩
  · refine z_callS0 (as := [zre a1]) (S := []) (kc := 0) (ks := 0) 15 dX9_addTenant_12 rfl (Q_qT_refuse  h2) kX9_refuse l_RX9_75 rfl rfl rfl rfl rfl rfl rfl ?_
    refine z_aload_n 16 dX9_addTenant_15 rfl rfl ?_
    refine z_getR (e := 31) (r := 31) 19 dX9_addTenant_16 rfl f_RX9_25 ar_0 rfl ar_31.1 ?_
    refine z_aload_n 20 dX9_addTenant_19 rfl rfl ?_
    refine z_getR (e := 1) (r := 1) 23 dX9_addTenant_20 rfl f_RX9_12 ar_0 rfl ar_1.1 ?_
    obtain ⟨m3, h3, hq⟩ := z_b hq
    refine z_callV0 (as := [zr 1]) (S := []) (kc := 0) (ks := 0) 26 dX9_addTenant_23 rfl (Q_qY_push zH_1 h3) kX1_push ⟨_, _, rfl⟩ ar_31 l_RX9_79 rfl rfl rfl rfl rfl rfl rfl ?_
    refine z_aload_n 27 dX9_addTenant_26 rfl rfl ?_
    refine z_getR (e := 1) (r := 1) 30 dX9_addTenant_27 rfl f_RX9_12 ar_0 rfl ar_1.1 ?_
    refine z_iload_n 31 dX9_addTenant_30 rfl rfl ?_
    refine z_iload_n 32 dX9_addTenant_31 rfl rfl ?_
    refine z_iload_n 33 dX9_addTenant_32 rfl rfl ?_
    refine z_iload 35 dX9_addTenant_33 rfl rfl ?_
    obtain ⟨a4, m4, h4, hq⟩ := bnd2_some hq
    refine z_callV1 (as := [zi v1, zi v2, zi v3, zi v4]) (S := []) (kc := 0) (ks := 0) 38 dX9_addTenant_35 rfl (Q_qH_welcome zH_1 h4) kX2_welcome ⟨_, _, rfl⟩ ar_1 l_RX9_91 rfl rfl rfl rfl rfl rfl rfl ?_
    cases hq
    exact z_ireturn rfl dX9_addTenant_38
  · exact z_callSX (e := ex2) (as := [zre a1]) (S := []) (kc := 0) (ks := 0) dX9_addTenant_12 (Q_qT_refuse  h2) kX9_refuse l_RX9_75 rfl rfl rfl rfl rfl rfl rfl
set_option maxRecDepth 100000 in
set_option maxHeartbeats 4000000 in
theorem L_qH_slotOf_l2 {g : yG} {a : Nat → Nat} {μ ν : zM} {o : zO} {kc ks : Nat} {h : Nat} {v1 : Int} {R : Int ⊕ Unit}  (A_h : zH h) (hr : ∀ (x : Int), R = .inl x → o = .inl (some (zi x)) ∧ ν = μ) (he : ∀ (tz : Unit), R = .inr tz → Z g a mX2_slotOf 0 kc ks 28 [some (zr h), some (zi v1), none] [] μ o ν) : ∀ (n : Nat) (v2 : Int), qH_slotOf_l2 μ h v1 n v2 = some R → Z g a mX2_slotOf 0 kc ks 2 [some (zr h), some (zi v1), some (zi v2)] [] μ o ν := by
  intro n
  induction n with
  | zero => intro v2 hq; cases hq
  | succ n ih =>
    intro v2 hq
    rw [qH_slotOf_l2] at hq
    refine z_iload_n 3 dX2_slotOf_2 rfl rfl ?_
    refine z_aload_n 4 dX2_slotOf_3 rfl rfl ?_
    refine z_getI (x := (μ h 3)) 7 dX2_slotOf_4 rfl f_RX2_22 A_h.a0 rfl ?_
    refine z_icmp_ge 28 10 dX2_slotOf_7 rfl rfl (fun hc => ?_) (fun hc => ?_)
    · replace hq := z_in hq (Int.not_lt.mpr hc)
      exact Z.sub (zle_s (zle_s (zle_n zle_nil))) (he _ (Option.some.inj hq).symm)
    · replace hq := z_ip hq hc
      refine z_aload_n 11 dX2_slotOf_10 rfl rfl ?_
      refine z_getR (e := 3) (r := (h + 3)) 14 dX2_slotOf_11 rfl f_RX2_28 A_h.a0 rfl A_h.a3.1 ?_
      refine z_iload_n 15 dX2_slotOf_14 rfl rfl ?_
      obtain ⟨hg15, hq⟩ := z_g hq
      refine z_iaload (x := (μ (h + 3) v2)) 16 dX2_slotOf_15 rfl A_h.a3 hg15 rfl ?_
      refine z_iload_n 17 dX2_slotOf_16 rfl rfl ?_
      refine z_icmp_ne 22 20 dX2_slotOf_17 rfl rfl (fun hc => ?_) (fun hc => ?_)
      · replace hq := z_in hq hc
        refine z_iinc (r := (wr (v2 + 1))) (L' := [some (zr h), some (zi v1), some (zi (wr (v2 + 1)))]) 25 dX2_slotOf_22 rfl rfl rfl rfl rfl rfl ?_
        refine z_goto 2 dX2_slotOf_25 rfl ?_
        exact Z.sub (zle_s (zle_s (zle_s zle_nil))) (ih _ hq)
      · replace hq := z_ip hq hc
        refine z_iload_n 21 dX2_slotOf_20 rfl rfl ?_
        obtain ⟨ho, hv⟩ := hr _ (Option.some.inj hq).symm
        exact z_conv ho hv (z_ireturn rfl dX2_slotOf_21)
set_option maxRecDepth 100000 in
set_option maxHeartbeats 4000000 in
theorem Q_qH_slotOf {g : yG} {a : Nat → Nat} {μ : zM} {h : Nat} {v1 : Int} {r : Int} (A_h : zH h) (hq : qH_slotOf μ h v1 = some r) : zC g a mX2_slotOf 0 0 0 [zr h, zi v1] μ (.inl (some (zi r))) μ := by
  unfold qH_slotOf at hq
  refine z_of (L := [some (zr h), some (zi v1), none]) pl_RX2 rfl (zc_of rfl) rfl rfl ?_
  refine z_iconst 1 dX2_slotOf_0 rfl (by decide) ?_
  refine z_istore_n (L' := [some (zr h), some (zi v1), some (zi 0)]) 2 dX2_slotOf_1 rfl rfl rfl rfl ?_
  rcases bndS_some hq with ⟨x1, h1, hq⟩ | ⟨t1, h1, hq⟩
  · exact Z.sub (zle_s (zle_s (zle_s zle_nil))) (L_qH_slotOf_l2 A_h (R := .inl x1) (fun _ e => by cases e; cases hq; exact ⟨rfl, rfl⟩) (fun _ e => by cases e) _ _ h1)
  · refine Z.sub (zle_s (zle_s (zle_s zle_nil))) (L_qH_slotOf_l2 A_h (R := .inr t1) (fun _ e => by cases e) (fun _ e => ?_) _ _ h1)
    cases e
    refine z_iconst 29 dX2_slotOf_28 rfl (by decide) ?_
    cases hq
    exact z_ireturn rfl dX2_slotOf_29
set_option maxRecDepth 100000 in
set_option maxHeartbeats 4000000 in
theorem Q_qH_refusalOfGoing {g : yG} {a : Nat → Nat} {μ : zM} {h : Nat} {v1 : Int} {r : Int} (A_h : zH h) (hq : qH_refusalOfGoing μ h v1 = some r) : zC g a mX2_refusalOfGoing 1 0 0 [zr h, zi v1] μ (.inl (some (zre r))) μ := by
  unfold qH_refusalOfGoing at hq
  refine z_of (L := [some (zr h), some (zi v1), none]) pl_RX2 rfl (zc_of rfl) rfl rfl ?_
  refine z_aload_n 1 dX2_refusalOfGoing_0 rfl rfl ?_
  refine z_iload_n 2 dX2_refusalOfGoing_1 rfl rfl ?_
  obtain ⟨a1, h1, hq⟩ := z_b hq
  refine z_callV1 (as := [zi v1]) (S := []) 5 dX2_refusalOfGoing_2 rfl (Q_qH_slotOf A_h h1) kX2_slotOf ⟨_, _, rfl⟩ A_h.a0 l_RX2_97 rfl rfl rfl rfl rfl rfl rfl ?_
  refine z_istore_n (L' := [some (zr h), some (zi v1), some (zi a1)]) 6 dX2_refusalOfGoing_5 rfl rfl rfl rfl ?_
  refine z_iload_n 7 dX2_refusalOfGoing_6 rfl rfl ?_
  refine z_iconst 8 dX2_refusalOfGoing_7 rfl (by decide) ?_
  refine z_icmp_ne 15 11 dX2_refusalOfGoing_8 rfl rfl (fun hc => ?_) (fun hc => ?_)
  · replace hq := z_in hq hc
    refine z_aload_n 16 dX2_refusalOfGoing_15 rfl rfl ?_
    refine z_getR (e := 9) (r := (h + 9)) 19 dX2_refusalOfGoing_16 rfl f_RX2_46 A_h.a0 rfl A_h.a9.1 ?_
    refine z_iload_n 20 dX2_refusalOfGoing_19 rfl rfl ?_
    obtain ⟨hg20, hq⟩ := z_g hq
    refine z_iaload (x := (μ (h + 9) a1)) 21 dX2_refusalOfGoing_20 rfl A_h.a9 hg20 rfl ?_
    refine z_iconst 22 dX2_refusalOfGoing_21 rfl (by decide) ?_
    refine z_icmp_eq 31 25 dX2_refusalOfGoing_22 rfl rfl (fun hc => ?_) (fun hc => ?_)
    · replace hq := z_ip hq hc
      refine z_enumR (x := 0) 34 dX2_refusalOfGoing_31 rfl (by decide) (yb 625 (by decide +kernel) rfl) ?_
      cases hq
      exact z_areturn rfl (Or.inl ⟨_, rfl⟩) dX2_refusalOfGoing_34
    · replace hq := z_in hq hc
      refine z_enumR (x := 4) 28 dX2_refusalOfGoing_25 rfl (by decide) (yb 623 (by decide +kernel) rfl) ?_
      refine z_goto 34 dX2_refusalOfGoing_28 rfl ?_
      cases hq
      exact z_areturn rfl (Or.inl ⟨_, rfl⟩) dX2_refusalOfGoing_34
  · replace hq := z_ip hq hc
    refine z_enumR (x := 1) 14 dX2_refusalOfGoing_11 rfl (by decide) (yb 806 (by decide +kernel) rfl) ?_
    cases hq
    exact z_areturn rfl (Or.inl ⟨_, rfl⟩) dX2_refusalOfGoing_14
set_option maxRecDepth 100000 in
set_option maxHeartbeats 4000000 in
theorem L_qH_closeGap_l4 {g : yG} {a : Nat → Nat} {ν : zM} {o : zO} {kc ks : Nat} {v0 : Nat} {R : zM}  (A_v0 : zAr v0 0 6) (he : ∀ (m : zM), R = m → Z g a mX2_closeGap 0 kc ks 24 [some (zr v0), none, none] [] m o ν) : ∀ (n : Nat) (μ : zM) (v2 : Int), qH_closeGap_l4 v0 n μ v2 = some R → Z g a mX2_closeGap 0 kc ks 4 [some (zr v0), none, some (zi v2)] [] μ o ν := by
  intro n
  induction n with
  | zero => intro μ v2 hq; cases hq
  | succ n ih =>
    intro μ v2 hq
    rw [qH_closeGap_l4] at hq
    refine z_iload_n 5 dX2_closeGap_4 rfl rfl ?_
    refine z_aload_n 6 dX2_closeGap_5 rfl rfl ?_
    refine z_alen (x := 6) 7 dX2_closeGap_6 rfl A_v0 rfl ?_
    refine z_icmp_ge 24 10 dX2_closeGap_7 rfl rfl (fun hc => ?_) (fun hc => ?_)
    · replace hq := z_in hq (Int.not_lt.mpr hc)
      exact Z.sub (zle_s (zle_n (zle_n zle_nil))) (he _ (Option.some.inj hq).symm)
    · replace hq := z_ip hq hc
      refine z_aload_n 11 dX2_closeGap_10 rfl rfl ?_
      refine z_iload_n 12 dX2_closeGap_11 rfl rfl ?_
      refine z_iconst 13 dX2_closeGap_12 rfl (by decide) ?_
      refine z_isub (r := (wr (v2 - 1))) 14 dX2_closeGap_13 rfl rfl ?_
      refine z_aload_n 15 dX2_closeGap_14 rfl rfl ?_
      refine z_iload_n 16 dX2_closeGap_15 rfl rfl ?_
      obtain ⟨hg16, hq⟩ := z_g hq
      refine z_iaload (x := (μ v0 v2)) 17 dX2_closeGap_16 rfl A_v0 hg16 rfl ?_
      obtain ⟨hg17, hq⟩ := z_g hq
      obtain ⟨m1, em1, hq⟩ := z_m hq
      refine z_iastore 18 dX2_closeGap_17 rfl A_v0 hg17 em1 ?_
      refine z_iinc (r := (wr (v2 + 1))) (L' := [some (zr v0), none, some (zi (wr (v2 + 1)))]) 21 dX2_closeGap_18 rfl rfl rfl rfl rfl rfl ?_
      refine z_goto 4 dX2_closeGap_21 rfl ?_
      exact Z.sub (zle_s (zle_n (zle_s zle_nil))) (ih _ _ hq)
set_option maxRecDepth 100000 in
set_option maxHeartbeats 4000000 in
theorem Q_qH_closeGap {g : yG} {a : Nat → Nat} {μ : zM} {v0 : Nat} {v1 : Int} {ν : zM} (A_v0 : zAr v0 0 6) (hq : qH_closeGap μ v0 v1 = some ν) : zC g a mX2_closeGap 0 0 0 [zr v0, zi v1] μ (.inl none) ν := by
  unfold qH_closeGap at hq
  refine z_of (L := [some (zr v0), some (zi v1), none]) pl_RX2 rfl (zc_of rfl) rfl rfl ?_
  refine z_iload_n 1 dX2_closeGap_0 rfl rfl ?_
  refine z_iconst 2 dX2_closeGap_1 rfl (by decide) ?_
  refine z_iadd (r := (wr (v1 + 1))) 3 dX2_closeGap_2 rfl rfl ?_
  refine z_istore_n (L' := [some (zr v0), some (zi v1), some (zi (wr (v1 + 1)))]) 4 dX2_closeGap_3 rfl rfl rfl rfl ?_
  obtain ⟨m2, h2, hq⟩ := z_b hq
  refine Z.sub (zle_s (zle_n (zle_s zle_nil))) (L_qH_closeGap_l4 A_v0 (R := m2) (fun _ e => ?_) _ _ _ h2)
  cases e
  cases hq
  exact z_return rfl dX2_closeGap_24
set_option maxRecDepth 100000 in
set_option maxHeartbeats 4000000 in
theorem Q_qH_sendAway {g : yG} {a : Nat → Nat} {μ : zM} {h : Nat} {v1 : Int} {r : Int} {ν : zM} (A_h : zH h) (hq : qH_sendAway μ h v1 = some (r, ν)) : zC g a mX2_sendAway 1 0 0 [zr h, zi v1] μ (.inl (some (zi r))) ν := by
  unfold qH_sendAway at hq
  refine z_of (L := [some (zr h), some (zi v1)]) pl_RX2 rfl (zc_of rfl) rfl rfl ?_
  refine z_aload_n 1 dX2_sendAway_0 rfl rfl ?_
  refine z_dup 2 dX2_sendAway_1 rfl rfl ?_
  refine z_getJ (x := (μ h 16)) 5 dX2_sendAway_2 rfl f_RX2_62 A_h.a0 rfl ?_
  refine z_aload_n 6 dX2_sendAway_5 rfl rfl ?_
  refine z_getR (e := 7) (r := (h + 7)) 9 dX2_sendAway_6 rfl f_RX2_40 A_h.a0 rfl A_h.a7.1 ?_
  refine z_iload_n 10 dX2_sendAway_9 rfl rfl ?_
  obtain ⟨hg10, hq⟩ := z_g hq
  refine z_iaload (x := (μ (h + 7) v1)) 11 dX2_sendAway_10 rfl A_h.a7 hg10 rfl ?_
  refine z_i2l 12 dX2_sendAway_11 rfl ?_
  obtain ⟨hg12, hq⟩ := z_g hq
  refine z_ladd 13 dX2_sendAway_12 rfl hg12 ?_
  obtain ⟨m1, em1, hq⟩ := z_m hq
  refine z_putJ 16 dX2_sendAway_13 rfl p_RX2_62 A_h.a0 em1 ?_
  refine z_aload_n 17 dX2_sendAway_16 rfl rfl ?_
  refine z_dup 18 dX2_sendAway_17 rfl rfl ?_
  refine z_getI (x := (m1 h 3)) 21 dX2_sendAway_18 rfl f_RX2_22 A_h.a0 rfl ?_
  refine z_iconst 22 dX2_sendAway_21 rfl (by decide) ?_
  refine z_isub (r := (wr ((m1 h 3) - 1))) 23 dX2_sendAway_22 rfl rfl ?_
  obtain ⟨m2, em2, hq⟩ := z_m hq
  refine z_putI 26 dX2_sendAway_23 rfl p_RX2_22 A_h.a0 em2 ?_
  refine z_aload_n 27 dX2_sendAway_26 rfl rfl ?_
  refine z_getR (e := 3) (r := (h + 3)) 30 dX2_sendAway_27 rfl f_RX2_28 A_h.a0 rfl A_h.a3.1 ?_
  refine z_iload_n 31 dX2_sendAway_30 rfl rfl ?_
  obtain ⟨m3, h3, hq⟩ := z_b hq
  refine z_callS0 (as := [zr (h + 3), zi v1]) (S := []) 34 dX2_sendAway_31 rfl (Q_qH_closeGap A_h.a3 h3) kX2_closeGap l_RX2_121 rfl rfl rfl rfl rfl rfl rfl ?_
  refine z_aload_n 35 dX2_sendAway_34 rfl rfl ?_
  refine z_getR (e := 4) (r := (h + 4)) 38 dX2_sendAway_35 rfl f_RX2_31 A_h.a0 rfl A_h.a4.1 ?_
  refine z_iload_n 39 dX2_sendAway_38 rfl rfl ?_
  obtain ⟨m4, h4, hq⟩ := z_b hq
  refine z_callS0 (as := [zr (h + 4), zi v1]) (S := []) 42 dX2_sendAway_39 rfl (Q_qH_closeGap A_h.a4 h4) kX2_closeGap l_RX2_121 rfl rfl rfl rfl rfl rfl rfl ?_
  refine z_aload_n 43 dX2_sendAway_42 rfl rfl ?_
  refine z_getR (e := 5) (r := (h + 5)) 46 dX2_sendAway_43 rfl f_RX2_34 A_h.a0 rfl A_h.a5.1 ?_
  refine z_iload_n 47 dX2_sendAway_46 rfl rfl ?_
  obtain ⟨m5, h5, hq⟩ := z_b hq
  refine z_callS0 (as := [zr (h + 5), zi v1]) (S := []) 50 dX2_sendAway_47 rfl (Q_qH_closeGap A_h.a5 h5) kX2_closeGap l_RX2_121 rfl rfl rfl rfl rfl rfl rfl ?_
  refine z_aload_n 51 dX2_sendAway_50 rfl rfl ?_
  refine z_getR (e := 6) (r := (h + 6)) 54 dX2_sendAway_51 rfl f_RX2_37 A_h.a0 rfl A_h.a6.1 ?_
  refine z_iload_n 55 dX2_sendAway_54 rfl rfl ?_
  obtain ⟨m6, h6, hq⟩ := z_b hq
  refine z_callS0 (as := [zr (h + 6), zi v1]) (S := []) 58 dX2_sendAway_55 rfl (Q_qH_closeGap A_h.a6 h6) kX2_closeGap l_RX2_121 rfl rfl rfl rfl rfl rfl rfl ?_
  refine z_aload_n 59 dX2_sendAway_58 rfl rfl ?_
  refine z_getR (e := 7) (r := (h + 7)) 62 dX2_sendAway_59 rfl f_RX2_40 A_h.a0 rfl A_h.a7.1 ?_
  refine z_iload_n 63 dX2_sendAway_62 rfl rfl ?_
  obtain ⟨m7, h7, hq⟩ := z_b hq
  refine z_callS0 (as := [zr (h + 7), zi v1]) (S := []) 66 dX2_sendAway_63 rfl (Q_qH_closeGap A_h.a7 h7) kX2_closeGap l_RX2_121 rfl rfl rfl rfl rfl rfl rfl ?_
  refine z_aload_n 67 dX2_sendAway_66 rfl rfl ?_
  refine z_getR (e := 8) (r := (h + 8)) 70 dX2_sendAway_67 rfl f_RX2_43 A_h.a0 rfl A_h.a8.1 ?_
  refine z_iload_n 71 dX2_sendAway_70 rfl rfl ?_
  obtain ⟨m8, h8, hq⟩ := z_b hq
  refine z_callS0 (as := [zr (h + 8), zi v1]) (S := []) 74 dX2_sendAway_71 rfl (Q_qH_closeGap A_h.a8 h8) kX2_closeGap l_RX2_121 rfl rfl rfl rfl rfl rfl rfl ?_
  refine z_aload_n 75 dX2_sendAway_74 rfl rfl ?_
  refine z_getR (e := 9) (r := (h + 9)) 78 dX2_sendAway_75 rfl f_RX2_46 A_h.a0 rfl A_h.a9.1 ?_
  refine z_iload_n 79 dX2_sendAway_78 rfl rfl ?_
  obtain ⟨m9, h9, hq⟩ := z_b hq
  refine z_callS0 (as := [zr (h + 9), zi v1]) (S := []) 82 dX2_sendAway_79 rfl (Q_qH_closeGap A_h.a9 h9) kX2_closeGap l_RX2_121 rfl rfl rfl rfl rfl rfl rfl ?_
  refine z_aload_n 83 dX2_sendAway_82 rfl rfl ?_
  refine z_getI (x := (m9 h 3)) 86 dX2_sendAway_83 rfl f_RX2_22 A_h.a0 rfl ?_
  cases hq
  exact z_ireturn rfl dX2_sendAway_86
set_option maxRecDepth 100000 in
set_option maxHeartbeats 4000000 in
theorem Q_qT_removeTenant {g : yG} {a : Nat → Nat} {μ : zM} {v1 : Int} {r : Int ⊕ Nat} {ν : zM}  (hq : qT_removeTenant μ v1 = some (r, ν)) : zC g a mX9_removeTenant 3 1 6 [zr 0, zi v1] μ (zri r) ν := by
  unfold qT_removeTenant at hq
  refine z_of (L := [some (zr 0), some (zi v1)]) pl_RX9 rfl (zc_of rfl) rfl rfl ?_
  refine z_aload_n 1 dX9_removeTenant_0 rfl rfl ?_
  refine z_getR (e := 1) (r := 1) 4 dX9_removeTenant_1 rfl f_RX9_12 ar_0 rfl ar_1.1 ?_
  refine z_iload_n 5 dX9_removeTenant_4 rfl rfl ?_
  obtain ⟨a1, h1, hq⟩ := z_b hq
  refine z_callV1 (as := [zi v1]) (S := []) (kc := 1) (ks := 6) 8 dX9_removeTenant_5 rfl (Q_qH_refusalOfGoing zH_1 h1) kX2_refusalOfGoing ⟨_, _, rfl⟩ ar_1 l_RX9_95 rfl rfl rfl rfl rfl rfl rfl ?_
  rcases z_tc hq with ⟨a2, m2, h2, hq⟩ | ⟨ex2, h2, rfl⟩
  · refine z_callS0 (as := [zre a1]) (S := []) (kc := 0) (ks := 0) 11 dX9_removeTenant_8 rfl (Q_qT_refuse  h2) kX9_refuse l_RX9_75 rfl rfl rfl rfl rfl rfl rfl ?_
    refine z_aload_n 12 dX9_removeTenant_11 rfl rfl ?_
    refine z_getR (e := 31) (r := 31) 15 dX9_removeTenant_12 rfl f_RX9_25 ar_0 rfl ar_31.1 ?_
    refine z_aload_n 16 dX9_removeTenant_15 rfl rfl ?_
    refine z_getR (e := 1) (r := 1) 19 dX9_removeTenant_16 rfl f_RX9_12 ar_0 rfl ar_1.1 ?_
    obtain ⟨m3, h3, hq⟩ := z_b hq
    refine z_callV0 (as := [zr 1]) (S := []) (kc := 0) (ks := 0) 22 dX9_removeTenant_19 rfl (Q_qY_push zH_1 h3) kX1_push ⟨_, _, rfl⟩ ar_31 l_RX9_79 rfl rfl rfl rfl rfl rfl rfl ?_
    refine z_aload_n 23 dX9_removeTenant_22 rfl rfl ?_
    refine z_getR (e := 1) (r := 1) 26 dX9_removeTenant_23 rfl f_RX9_12 ar_0 rfl ar_1.1 ?_
    refine z_aload_n 27 dX9_removeTenant_26 rfl rfl ?_
    refine z_getR (e := 1) (r := 1) 30 dX9_removeTenant_27 rfl f_RX9_12 ar_0 rfl ar_1.1 ?_
    refine z_iload_n 31 dX9_removeTenant_30 rfl rfl ?_
    obtain ⟨a4, h4, hq⟩ := z_b hq
    refine z_callV1 (as := [zi v1]) (S := [zr 1]) (kc := 0) (ks := 0) 34 dX9_removeTenant_31 rfl (Q_qH_slotOf zH_1 h4) kX2_slotOf ⟨_, _, rfl⟩ ar_1 l_RX9_99 rfl rfl rfl rfl rfl rfl rfl ?_
    obtain ⟨a5, m5, h5, hq⟩ := bnd2_some hq
    refine z_callV1 (as := [zi a4]) (S := []) (kc := 0) (ks := 0) 37 dX9_removeTenant_34 rfl (Q_qH_sendAway zH_1 h5) kX2_sendAway ⟨_, _, rfl⟩ ar_1 l_RX9_103 rfl rfl rfl rfl rfl rfl rfl ?_
    cases hq
    exact z_ireturn rfl dX9_removeTenant_37
  · exact z_callSX (e := ex2) (as := [zre a1]) (S := []) (kc := 0) (ks := 0) dX9_removeTenant_8 (Q_qT_refuse  h2) kX9_refuse l_RX9_75 rfl rfl rfl rfl rfl rfl rfl
set_option maxRecDepth 100000 in
set_option maxHeartbeats 4000000 in
theorem Q_qH_hasFlat {g : yG} {a : Nat → Nat} {μ : zM} {h : Nat} {v1 : Int} {r : Int} (A_h : zH h) (hq : qH_hasFlat μ h v1 = some r) : zC g a mX2_hasFlat 0 0 0 [zr h, zi v1] μ (.inl (some (zi r))) μ := by
  unfold qH_hasFlat at hq
  refine z_of (L := [some (zr h), some (zi v1)]) pl_RX2 rfl (zc_of rfl) rfl rfl ?_
  refine z_iload_n 1 dX2_hasFlat_0 rfl rfl ?_
  refine z_if_lt 16 4 dX2_hasFlat_1 rfl rfl (fun hc => ?_) (fun hc => ?_)
  · replace hq := z_ip hq hc
    refine z_iconst 17 dX2_hasFlat_16 rfl (by decide) ?_
    cases hq
    exact z_zreturn rfl dX2_hasFlat_17 (by decide)
  · replace hq := z_in hq (Int.not_lt.mpr hc)
    refine z_iload_n 5 dX2_hasFlat_4 rfl rfl ?_
    refine z_aload_n 6 dX2_hasFlat_5 rfl rfl ?_
    refine z_getI (x := (μ h 0)) 9 dX2_hasFlat_6 rfl f_RX2_9 A_h.a0 rfl ?_
    refine z_icmp_ge 16 12 dX2_hasFlat_9 rfl rfl (fun hc => ?_) (fun hc => ?_)
    · replace hq := z_in hq (Int.not_lt.mpr hc)
      refine z_iconst 17 dX2_hasFlat_16 rfl (by decide) ?_
      cases hq
      exact z_zreturn rfl dX2_hasFlat_17 (by decide)
    · replace hq := z_ip hq hc
      refine z_iconst 13 dX2_hasFlat_12 rfl (by decide) ?_
      refine z_goto 17 dX2_hasFlat_13 rfl ?_
      cases hq
      exact z_zreturn rfl dX2_hasFlat_17 (by decide)
set_option maxRecDepth 100000 in
set_option maxHeartbeats 4000000 in
theorem L_qH_slotIn_l2 {g : yG} {a : Nat → Nat} {μ ν : zM} {o : zO} {kc ks : Nat} {h : Nat} {v1 : Int} {R : Int ⊕ Unit}  (A_h : zH h) (hr : ∀ (x : Int), R = .inl x → o = .inl (some (zi x)) ∧ ν = μ) (he : ∀ (tz : Unit), R = .inr tz → Z g a mX2_slotIn 0 kc ks 28 [some (zr h), some (zi v1), none] [] μ o ν) : ∀ (n : Nat) (v2 : Int), qH_slotIn_l2 μ h v1 n v2 = some R → Z g a mX2_slotIn 0 kc ks 2 [some (zr h), some (zi v1), some (zi v2)] [] μ o ν := by
  intro n
  induction n with
  | zero => intro v2 hq; cases hq
  | succ n ih =>
    intro v2 hq
    rw [qH_slotIn_l2] at hq
    refine z_iload_n 3 dX2_slotIn_2 rfl rfl ?_
    refine z_aload_n 4 dX2_slotIn_3 rfl rfl ?_
    refine z_getI (x := (μ h 3)) 7 dX2_slotIn_4 rfl f_RX2_22 A_h.a0 rfl ?_
    refine z_icmp_ge 28 10 dX2_slotIn_7 rfl rfl (fun hc => ?_) (fun hc => ?_)
    · replace hq := z_in hq (Int.not_lt.mpr hc)
      exact Z.sub (zle_s (zle_s (zle_n zle_nil))) (he _ (Option.some.inj hq).symm)
    · replace hq := z_ip hq hc
      refine z_aload_n 11 dX2_slotIn_10 rfl rfl ?_
      refine z_getR (e := 9) (r := (h + 9)) 14 dX2_slotIn_11 rfl f_RX2_46 A_h.a0 rfl A_h.a9.1 ?_
      refine z_iload_n 15 dX2_slotIn_14 rfl rfl ?_
      obtain ⟨hg15, hq⟩ := z_g hq
      refine z_iaload (x := (μ (h + 9) v2)) 16 dX2_slotIn_15 rfl A_h.a9 hg15 rfl ?_
      refine z_iload_n 17 dX2_slotIn_16 rfl rfl ?_
      refine z_icmp_ne 22 20 dX2_slotIn_17 rfl rfl (fun hc => ?_) (fun hc => ?_)
      · replace hq := z_in hq hc
        refine z_iinc (r := (wr (v2 + 1))) (L' := [some (zr h), some (zi v1), some (zi (wr (v2 + 1)))]) 25 dX2_slotIn_22 rfl rfl rfl rfl rfl rfl ?_
        refine z_goto 2 dX2_slotIn_25 rfl ?_
        exact Z.sub (zle_s (zle_s (zle_s zle_nil))) (ih _ hq)
      · replace hq := z_ip hq hc
        refine z_iload_n 21 dX2_slotIn_20 rfl rfl ?_
        obtain ⟨ho, hv⟩ := hr _ (Option.some.inj hq).symm
        exact z_conv ho hv (z_ireturn rfl dX2_slotIn_21)
set_option maxRecDepth 100000 in
set_option maxHeartbeats 4000000 in
theorem Q_qH_slotIn {g : yG} {a : Nat → Nat} {μ : zM} {h : Nat} {v1 : Int} {r : Int} (A_h : zH h) (hq : qH_slotIn μ h v1 = some r) : zC g a mX2_slotIn 0 0 0 [zr h, zi v1] μ (.inl (some (zi r))) μ := by
  unfold qH_slotIn at hq
  refine z_of (L := [some (zr h), some (zi v1), none]) pl_RX2 rfl (zc_of rfl) rfl rfl ?_
  refine z_iconst 1 dX2_slotIn_0 rfl (by decide) ?_
  refine z_istore_n (L' := [some (zr h), some (zi v1), some (zi 0)]) 2 dX2_slotIn_1 rfl rfl rfl rfl ?_
  rcases bndS_some hq with ⟨x1, h1, hq⟩ | ⟨t1, h1, hq⟩
  · exact Z.sub (zle_s (zle_s (zle_s zle_nil))) (L_qH_slotIn_l2 A_h (R := .inl x1) (fun _ e => by cases e; cases hq; exact ⟨rfl, rfl⟩) (fun _ e => by cases e) _ _ h1)
  · refine Z.sub (zle_s (zle_s (zle_s zle_nil))) (L_qH_slotIn_l2 A_h (R := .inr t1) (fun _ e => by cases e) (fun _ e => ?_) _ _ h1)
    cases e
    refine z_iconst 29 dX2_slotIn_28 rfl (by decide) ?_
    cases hq
    exact z_ireturn rfl dX2_slotIn_29
set_option maxRecDepth 100000 in
set_option maxHeartbeats 4000000 in
theorem Q_qH_canAfford {g : yG} {a : Nat → Nat} {μ : zM} {h : Nat} {v1 : Int} {v2 : Int} {r : Int} (A_h : zH h) (hq : qH_canAfford μ h v1 v2 = some r) : zC g a mX2_canAfford 0 0 0 [zr h, zi v1, zi v2] μ (.inl (some (zi r))) μ := by
  unfold qH_canAfford at hq
  refine z_of (L := [some (zr h), some (zi v1), some (zi v2)]) pl_RX2 rfl (zc_of rfl) rfl rfl ?_
  refine z_aload_n 1 dX2_canAfford_0 rfl rfl ?_
  refine z_getR (e := 2) (r := (h + 2)) 4 dX2_canAfford_1 rfl f_RX2_19 A_h.a0 rfl A_h.a2.1 ?_
  refine z_iload_n 5 dX2_canAfford_4 rfl rfl ?_
  obtain ⟨hg5, hq⟩ := z_g hq
  refine z_iaload (x := (μ (h + 2) v2)) 6 dX2_canAfford_5 rfl A_h.a2 hg5 rfl ?_
  refine z_aload_n 7 dX2_canAfford_6 rfl rfl ?_
  refine z_getR (e := 7) (r := (h + 7)) 10 dX2_canAfford_7 rfl f_RX2_40 A_h.a0 rfl A_h.a7.1 ?_
  refine z_iload_n 11 dX2_canAfford_10 rfl rfl ?_
  obtain ⟨hg11, hq⟩ := z_g hq
  refine z_iaload (x := (μ (h + 7) v1)) 12 dX2_canAfford_11 rfl A_h.a7 hg11 rfl ?_
  refine z_icmp_gt 19 15 dX2_canAfford_12 rfl rfl (fun hc => ?_) (fun hc => ?_)
  · replace hq := z_ip hq hc
    refine z_iconst 20 dX2_canAfford_19 rfl (by decide) ?_
    cases hq
    exact z_zreturn rfl dX2_canAfford_20 (by decide)
  · replace hq := z_in hq (Int.not_lt.mpr hc)
    refine z_iconst 16 dX2_canAfford_15 rfl (by decide) ?_
    refine z_goto 20 dX2_canAfford_16 rfl ?_
    cases hq
    exact z_zreturn rfl dX2_canAfford_20 (by decide)
set_option maxRecDepth 100000 in
set_option maxHeartbeats 4000000 in
theorem Q_qH_refusalOfMovingIn {g : yG} {a : Nat → Nat} {μ : zM} {h : Nat} {v1 : Int} {v2 : Int} {r : Int} (A_h : zH h) (hq : qH_refusalOfMovingIn μ h v1 v2 = some r) : zC g a mX2_refusalOfMovingIn 1 0 0 [zr h, zi v1, zi v2] μ (.inl (some (zre r))) μ := by
  unfold qH_refusalOfMovingIn at hq
  refine z_of (L := [some (zr h), some (zi v1), some (zi v2), none]) pl_RX2 rfl (zc_of rfl) rfl rfl ?_
  refine z_aload_n 1 dX2_refusalOfMovingIn_0 rfl rfl ?_
  refine z_iload_n 2 dX2_refusalOfMovingIn_1 rfl rfl ?_
  obtain ⟨a1, h1, hq⟩ := z_b hq
  refine z_callV1 (as := [zi v1]) (S := []) 5 dX2_refusalOfMovingIn_2 rfl (Q_qH_slotOf A_h h1) kX2_slotOf ⟨_, _, rfl⟩ A_h.a0 l_RX2_97 rfl rfl rfl rfl rfl rfl rfl ?_
  refine z_istore_n (L' := [some (zr h), some (zi v1), some (zi v2), some (zi a1)]) 6 dX2_refusalOfMovingIn_5 rfl rfl rfl rfl ?_
  refine z_iload_n 7 dX2_refusalOfMovingIn_6 rfl rfl ?_
  refine z_iconst 8 dX2_refusalOfMovingIn_7 rfl (by decide) ?_
  refine z_icmp_ne 15 11 dX2_refusalOfMovingIn_8 rfl rfl (fun hc => ?_) (fun hc => ?_)
  · replace hq := z_in hq hc
    refine z_aload_n 16 dX2_refusalOfMovingIn_15 rfl rfl ?_
    refine z_iload_n 17 dX2_refusalOfMovingIn_16 rfl rfl ?_
    obtain ⟨a2, h2, hq⟩ := z_b hq
    refine z_callV1 (as := [zi v2]) (S := []) 20 dX2_refusalOfMovingIn_17 rfl (Q_qH_hasFlat A_h h2) kX2_hasFlat ⟨_, _, rfl⟩ A_h.a0 l_RX2_104 rfl rfl rfl rfl rfl rfl rfl ?_
    refine z_if_ne 27 23 dX2_refusalOfMovingIn_20 rfl rfl (fun hc => ?_) (fun hc => ?_)
    · replace hq := z_in hq hc
      refine z_aload_n 28 dX2_refusalOfMovingIn_27 rfl rfl ?_
      refine z_getR (e := 9) (r := (h + 9)) 31 dX2_refusalOfMovingIn_28 rfl f_RX2_46 A_h.a0 rfl A_h.a9.1 ?_
      refine z_iload_n 32 dX2_refusalOfMovingIn_31 rfl rfl ?_
      obtain ⟨hg32, hq⟩ := z_g hq
      refine z_iaload (x := (μ (h + 9) a1)) 33 dX2_refusalOfMovingIn_32 rfl A_h.a9 hg32 rfl ?_
      refine z_iconst 34 dX2_refusalOfMovingIn_33 rfl (by decide) ?_
      refine z_icmp_ne 46 37 dX2_refusalOfMovingIn_34 rfl rfl (fun hc => ?_) (fun hc => ?_)
      · replace hq := z_in hq hc
        refine z_enumR (x := 4) 49 dX2_refusalOfMovingIn_46 rfl (by decide) (yb 623 (by decide +kernel) rfl) ?_
        cases hq
        exact z_areturn rfl (Or.inl ⟨_, rfl⟩) dX2_refusalOfMovingIn_49
      · replace hq := z_ip hq hc
        refine z_aload_n 38 dX2_refusalOfMovingIn_37 rfl rfl ?_
        refine z_iload_n 39 dX2_refusalOfMovingIn_38 rfl rfl ?_
        obtain ⟨a3, h3, hq⟩ := z_b hq
        refine z_callV1 (as := [zi v2]) (S := []) 42 dX2_refusalOfMovingIn_39 rfl (Q_qH_slotIn A_h h3) kX2_slotIn ⟨_, _, rfl⟩ A_h.a0 l_RX2_111 rfl rfl rfl rfl rfl rfl rfl ?_
        refine z_iconst 43 dX2_refusalOfMovingIn_42 rfl (by decide) ?_
        refine z_icmp_eq 50 46 dX2_refusalOfMovingIn_43 rfl rfl (fun hc => ?_) (fun hc => ?_)
        · replace hq := z_ip hq hc
          refine z_aload_n 51 dX2_refusalOfMovingIn_50 rfl rfl ?_
          refine z_iload_n 52 dX2_refusalOfMovingIn_51 rfl rfl ?_
          refine z_iload_n 53 dX2_refusalOfMovingIn_52 rfl rfl ?_
          obtain ⟨a4, h4, hq⟩ := z_b hq
          refine z_callV1 (as := [zi a1, zi v2]) (S := []) 56 dX2_refusalOfMovingIn_53 rfl (Q_qH_canAfford A_h h4) kX2_canAfford ⟨_, _, rfl⟩ A_h.a0 l_RX2_114 rfl rfl rfl rfl rfl rfl rfl ?_
          refine z_if_eq 65 59 dX2_refusalOfMovingIn_56 rfl rfl (fun hc => ?_) (fun hc => ?_)
          · replace hq := z_ip hq hc
            refine z_enumR (x := 5) 68 dX2_refusalOfMovingIn_65 rfl (by decide) (yb 851 (by decide +kernel) rfl) ?_
            cases hq
            exact z_areturn rfl (Or.inl ⟨_, rfl⟩) dX2_refusalOfMovingIn_68
          · replace hq := z_in hq hc
            refine z_enumR (x := 0) 62 dX2_refusalOfMovingIn_59 rfl (by decide) (yb 625 (by decide +kernel) rfl) ?_
            refine z_goto 68 dX2_refusalOfMovingIn_62 rfl ?_
            cases hq
            exact z_areturn rfl (Or.inl ⟨_, rfl⟩) dX2_refusalOfMovingIn_68
        · replace hq := z_in hq hc
          refine z_enumR (x := 4) 49 dX2_refusalOfMovingIn_46 rfl (by decide) (yb 623 (by decide +kernel) rfl) ?_
          cases hq
          exact z_areturn rfl (Or.inl ⟨_, rfl⟩) dX2_refusalOfMovingIn_49
    · replace hq := z_ip hq hc
      refine z_enumR (x := 2) 26 dX2_refusalOfMovingIn_23 rfl (by decide) (yb 848 (by decide +kernel) rfl) ?_
      cases hq
      exact z_areturn rfl (Or.inl ⟨_, rfl⟩) dX2_refusalOfMovingIn_26
  · replace hq := z_ip hq hc
    refine z_enumR (x := 1) 14 dX2_refusalOfMovingIn_11 rfl (by decide) (yb 806 (by decide +kernel) rfl) ?_
    cases hq
    exact z_areturn rfl (Or.inl ⟨_, rfl⟩) dX2_refusalOfMovingIn_14
set_option maxRecDepth 100000 in
set_option maxHeartbeats 4000000 in
theorem Q_qH_burdenFor {g : yG} {a : Nat → Nat} {μ : zM} {h : Nat} {v1 : Int} {v2 : Int} {r : Int} (A_h : zH h) (hq : qH_burdenFor μ h v1 v2 = some r) : zC g a mX2_burdenFor 0 0 0 [zr h, zi v1, zi v2] μ (.inl (some (zi r))) μ := by
  unfold qH_burdenFor at hq
  refine z_of (L := [some (zr h), some (zi v1), some (zi v2), none]) pl_RX2 rfl (zc_of rfl) rfl rfl ?_
  refine z_aload_n 1 dX2_burdenFor_0 rfl rfl ?_
  refine z_getR (e := 1) (r := (h + 1)) 4 dX2_burdenFor_1 rfl f_RX2_15 A_h.a0 rfl A_h.a1.1 ?_
  refine z_iload_n 5 dX2_burdenFor_4 rfl rfl ?_
  obtain ⟨hg5, hq⟩ := z_g hq
  refine z_iaload (x := (μ (h + 1) v2)) 6 dX2_burdenFor_5 rfl A_h.a1 hg5 rfl ?_
  refine z_aload_n 7 dX2_burdenFor_6 rfl rfl ?_
  refine z_getR (e := 5) (r := (h + 5)) 10 dX2_burdenFor_7 rfl f_RX2_34 A_h.a0 rfl A_h.a5.1 ?_
  refine z_iload_n 11 dX2_burdenFor_10 rfl rfl ?_
  obtain ⟨hg11, hq⟩ := z_g hq
  refine z_iaload (x := (μ (h + 5) v1)) 12 dX2_burdenFor_11 rfl A_h.a5 hg11 rfl ?_
  refine z_isub (r := (wr ((μ (h + 1) v2) - (μ (h + 5) v1)))) 13 dX2_burdenFor_12 rfl rfl ?_
  refine z_istore_n (L' := [some (zr h), some (zi v1), some (zi v2), some (zi (wr ((μ (h + 1) v2) - (μ (h + 5) v1))))]) 14 dX2_burdenFor_13 rfl rfl rfl rfl ?_
  refine z_aload_n 15 dX2_burdenFor_14 rfl rfl ?_
  refine z_getR (e := 2) (r := (h + 2)) 18 dX2_burdenFor_15 rfl f_RX2_19 A_h.a0 rfl A_h.a2.1 ?_
  refine z_iload_n 19 dX2_burdenFor_18 rfl rfl ?_
  obtain ⟨hg19, hq⟩ := z_g hq
  refine z_iaload (x := (μ (h + 2) v2)) 20 dX2_burdenFor_19 rfl A_h.a2 hg19 rfl ?_
  refine z_iconst 21 dX2_burdenFor_20 rfl (by decide) ?_
  refine z_iload_n 22 dX2_burdenFor_21 rfl rfl ?_
  refine z_if_ge 30 25 dX2_burdenFor_22 rfl rfl (fun hc => ?_) (fun hc => ?_)
  · replace hq := z_in hq (Int.not_lt.mpr hc)
    refine z_iload_n 31 dX2_burdenFor_30 rfl rfl ?_
    refine z_imul (r := (wr (3 * (wr ((μ (h + 1) v2) - (μ (h + 5) v1)))))) 32 dX2_burdenFor_31 rfl rfl ?_
    refine z_iadd (r := (wr ((μ (h + 2) v2) + (wr (3 * (wr ((μ (h + 1) v2) - (μ (h + 5) v1)))))))) 33 dX2_burdenFor_32 rfl rfl ?_
    cases hq
    exact z_ireturn rfl dX2_burdenFor_33
  · replace hq := z_ip hq hc
    refine z_iload_n 26 dX2_burdenFor_25 rfl rfl ?_
    refine z_ineg (r := (wr (-(wr ((μ (h + 1) v2) - (μ (h + 5) v1)))))) 27 dX2_burdenFor_26 rfl rfl ?_
    refine z_goto 31 dX2_burdenFor_27 rfl ?_
    refine z_imul (r := (wr (3 * (wr (-(wr ((μ (h + 1) v2) - (μ (h + 5) v1)))))))) 32 dX2_burdenFor_31 rfl rfl ?_
    refine z_iadd (r := (wr ((μ (h + 2) v2) + (wr (3 * (wr (-(wr ((μ (h + 1) v2) - (μ (h + 5) v1)))))))))) 33 dX2_burdenFor_32 rfl rfl ?_
    cases hq
    exact z_ireturn rfl dX2_burdenFor_33
set_option maxRecDepth 100000 in
set_option maxHeartbeats 4000000 in
theorem Q_qH_lodge {g : yG} {a : Nat → Nat} {μ : zM} {h : Nat} {v1 : Int} {v2 : Int} {r : Int} {ν : zM} (A_h : zH h) (hq : qH_lodge μ h v1 v2 = some (r, ν)) : zC g a mX2_lodge 1 0 0 [zr h, zi v1, zi v2] μ (.inl (some (zi r))) ν := by
  unfold qH_lodge at hq
  refine z_of (L := [some (zr h), some (zi v1), some (zi v2)]) pl_RX2 rfl (zc_of rfl) rfl rfl ?_
  refine z_aload_n 1 dX2_lodge_0 rfl rfl ?_
  refine z_getR (e := 9) (r := (h + 9)) 4 dX2_lodge_1 rfl f_RX2_46 A_h.a0 rfl A_h.a9.1 ?_
  refine z_iload_n 5 dX2_lodge_4 rfl rfl ?_
  refine z_iload_n 6 dX2_lodge_5 rfl rfl ?_
  obtain ⟨hg6, hq⟩ := z_g hq
  obtain ⟨m1, em1, hq⟩ := z_m hq
  refine z_iastore 7 dX2_lodge_6 rfl A_h.a9 hg6 em1 ?_
  refine z_aload_n 8 dX2_lodge_7 rfl rfl ?_
  refine z_iload_n 9 dX2_lodge_8 rfl rfl ?_
  refine z_iload_n 10 dX2_lodge_9 rfl rfl ?_
  obtain ⟨a2, h2, hq⟩ := z_b hq
  refine z_callV1 (as := [zi v1, zi v2]) (S := []) 13 dX2_lodge_10 rfl (Q_qH_burdenFor A_h h2) kX2_burdenFor ⟨_, _, rfl⟩ A_h.a0 l_RX2_125 rfl rfl rfl rfl rfl rfl rfl ?_
  cases hq
  exact z_ireturn rfl dX2_lodge_13
set_option maxRecDepth 100000 in
set_option maxHeartbeats 4000000 in
theorem Q_qT_moveIn {g : yG} {a : Nat → Nat} {μ : zM} {v1 : Int} {v2 : Int} {r : Int ⊕ Nat} {ν : zM}  (hq : qT_moveIn μ v1 v2 = some (r, ν)) : zC g a mX9_moveIn 3 1 6 [zr 0, zi v1, zi v2] μ (zri r) ν := by
  unfold qT_moveIn at hq
  refine z_of (L := [some (zr 0), some (zi v1), some (zi v2)]) pl_RX9 rfl (zc_of rfl) rfl rfl ?_
  refine z_aload_n 1 dX9_moveIn_0 rfl rfl ?_
  refine z_getR (e := 1) (r := 1) 4 dX9_moveIn_1 rfl f_RX9_12 ar_0 rfl ar_1.1 ?_
  refine z_iload_n 5 dX9_moveIn_4 rfl rfl ?_
  refine z_iload_n 6 dX9_moveIn_5 rfl rfl ?_
  obtain ⟨a1, h1, hq⟩ := z_b hq
  refine z_callV1 (as := [zi v1, zi v2]) (S := []) (kc := 1) (ks := 6) 9 dX9_moveIn_6 rfl (Q_qH_refusalOfMovingIn zH_1 h1) kX2_refusalOfMovingIn ⟨_, _, rfl⟩ ar_1 l_RX9_106 rfl rfl rfl rfl rfl rfl rfl ?_
  rcases z_tc hq with ⟨a2, m2, h2, hq⟩ | ⟨ex2, h2, rfl⟩
  · refine z_callS0 (as := [zre a1]) (S := []) (kc := 0) (ks := 0) 12 dX9_moveIn_9 rfl (Q_qT_refuse  h2) kX9_refuse l_RX9_75 rfl rfl rfl rfl rfl rfl rfl ?_
    refine z_aload_n 13 dX9_moveIn_12 rfl rfl ?_
    refine z_getR (e := 31) (r := 31) 16 dX9_moveIn_13 rfl f_RX9_25 ar_0 rfl ar_31.1 ?_
    refine z_aload_n 17 dX9_moveIn_16 rfl rfl ?_
    refine z_getR (e := 1) (r := 1) 20 dX9_moveIn_17 rfl f_RX9_12 ar_0 rfl ar_1.1 ?_
    obtain ⟨m3, h3, hq⟩ := z_b hq
    refine z_callV0 (as := [zr 1]) (S := []) (kc := 0) (ks := 0) 23 dX9_moveIn_20 rfl (Q_qY_push zH_1 h3) kX1_push ⟨_, _, rfl⟩ ar_31 l_RX9_79 rfl rfl rfl rfl rfl rfl rfl ?_
    refine z_aload_n 24 dX9_moveIn_23 rfl rfl ?_
    refine z_getR (e := 1) (r := 1) 27 dX9_moveIn_24 rfl f_RX9_12 ar_0 rfl ar_1.1 ?_
    refine z_aload_n 28 dX9_moveIn_27 rfl rfl ?_
    refine z_getR (e := 1) (r := 1) 31 dX9_moveIn_28 rfl f_RX9_12 ar_0 rfl ar_1.1 ?_
    refine z_iload_n 32 dX9_moveIn_31 rfl rfl ?_
    obtain ⟨a4, h4, hq⟩ := z_b hq
    refine z_callV1 (as := [zi v1]) (S := [zr 1]) (kc := 0) (ks := 0) 35 dX9_moveIn_32 rfl (Q_qH_slotOf zH_1 h4) kX2_slotOf ⟨_, _, rfl⟩ ar_1 l_RX9_99 rfl rfl rfl rfl rfl rfl rfl ?_
    refine z_iload_n 36 dX9_moveIn_35 rfl rfl ?_
    obtain ⟨a5, m5, h5, hq⟩ := bnd2_some hq
    refine z_callV1 (as := [zi a4, zi v2]) (S := []) (kc := 0) (ks := 0) 39 dX9_moveIn_36 rfl (Q_qH_lodge zH_1 h5) kX2_lodge ⟨_, _, rfl⟩ ar_1 l_RX9_109 rfl rfl rfl rfl rfl rfl rfl ?_
    cases hq
    exact z_ireturn rfl dX9_moveIn_39
  · exact z_callSX (e := ex2) (as := [zre a1]) (S := []) (kc := 0) (ks := 0) dX9_moveIn_9 (Q_qT_refuse  h2) kX9_refuse l_RX9_75 rfl rfl rfl rfl rfl rfl rfl
set_option maxRecDepth 100000 in
set_option maxHeartbeats 4000000 in
theorem Q_qH_refusalOfMovingOut {g : yG} {a : Nat → Nat} {μ : zM} {h : Nat} {v1 : Int} {r : Int} (A_h : zH h) (hq : qH_refusalOfMovingOut μ h v1 = some r) : zC g a mX2_refusalOfMovingOut 1 0 0 [zr h, zi v1] μ (.inl (some (zre r))) μ := by
  unfold qH_refusalOfMovingOut at hq
  refine z_of (L := [some (zr h), some (zi v1), none]) pl_RX2 rfl (zc_of rfl) rfl rfl ?_
  refine z_aload_n 1 dX2_refusalOfMovingOut_0 rfl rfl ?_
  refine z_iload_n 2 dX2_refusalOfMovingOut_1 rfl rfl ?_
  obtain ⟨a1, h1, hq⟩ := z_b hq
  refine z_callV1 (as := [zi v1]) (S := []) 5 dX2_refusalOfMovingOut_2 rfl (Q_qH_slotOf A_h h1) kX2_slotOf ⟨_, _, rfl⟩ A_h.a0 l_RX2_97 rfl rfl rfl rfl rfl rfl rfl ?_
  refine z_istore_n (L' := [some (zr h), some (zi v1), some (zi a1)]) 6 dX2_refusalOfMovingOut_5 rfl rfl rfl rfl ?_
  refine z_iload_n 7 dX2_refusalOfMovingOut_6 rfl rfl ?_
  refine z_iconst 8 dX2_refusalOfMovingOut_7 rfl (by decide) ?_
  refine z_icmp_ne 15 11 dX2_refusalOfMovingOut_8 rfl rfl (fun hc => ?_) (fun hc => ?_)
  · replace hq := z_in hq hc
    refine z_aload_n 16 dX2_refusalOfMovingOut_15 rfl rfl ?_
    refine z_getR (e := 9) (r := (h + 9)) 19 dX2_refusalOfMovingOut_16 rfl f_RX2_46 A_h.a0 rfl A_h.a9.1 ?_
    refine z_iload_n 20 dX2_refusalOfMovingOut_19 rfl rfl ?_
    obtain ⟨hg20, hq⟩ := z_g hq
    refine z_iaload (x := (μ (h + 9) a1)) 21 dX2_refusalOfMovingOut_20 rfl A_h.a9 hg20 rfl ?_
    refine z_iconst 22 dX2_refusalOfMovingOut_21 rfl (by decide) ?_
    refine z_icmp_ne 31 25 dX2_refusalOfMovingOut_22 rfl rfl (fun hc => ?_) (fun hc => ?_)
    · replace hq := z_in hq hc
      refine z_enumR (x := 0) 34 dX2_refusalOfMovingOut_31 rfl (by decide) (yb 625 (by decide +kernel) rfl) ?_
      cases hq
      exact z_areturn rfl (Or.inl ⟨_, rfl⟩) dX2_refusalOfMovingOut_34
    · replace hq := z_ip hq hc
      refine z_enumR (x := 4) 28 dX2_refusalOfMovingOut_25 rfl (by decide) (yb 623 (by decide +kernel) rfl) ?_
      refine z_goto 34 dX2_refusalOfMovingOut_28 rfl ?_
      cases hq
      exact z_areturn rfl (Or.inl ⟨_, rfl⟩) dX2_refusalOfMovingOut_34
  · replace hq := z_ip hq hc
    refine z_enumR (x := 1) 14 dX2_refusalOfMovingOut_11 rfl (by decide) (yb 806 (by decide +kernel) rfl) ?_
    cases hq
    exact z_areturn rfl (Or.inl ⟨_, rfl⟩) dX2_refusalOfMovingOut_14
set_option maxRecDepth 100000 in
set_option maxHeartbeats 4000000 in
theorem Q_qH_prefersFlat {g : yG} {a : Nat → Nat} {μ : zM} {h : Nat} {v1 : Int} {v2 : Int} {v3 : Int} {r : Int} (A_h : zH h) (hq : qH_prefersFlat μ h v1 v2 v3 = some r) : zC g a mX2_prefersFlat 1 0 0 [zr h, zi v1, zi v2, zi v3] μ (.inl (some (zi r))) μ := by
  unfold qH_prefersFlat at hq
  refine z_of (L := [some (zr h), some (zi v1), some (zi v2), some (zi v3), none, none]) pl_RX2 rfl (zc_of rfl) rfl rfl ?_
  refine z_aload_n 1 dX2_prefersFlat_0 rfl rfl ?_
  refine z_iload_n 2 dX2_prefersFlat_1 rfl rfl ?_
  refine z_iload_n 3 dX2_prefersFlat_2 rfl rfl ?_
  obtain ⟨a1, h1, hq⟩ := z_b hq
  refine z_callV1 (as := [zi v1, zi v2]) (S := []) 6 dX2_prefersFlat_3 rfl (Q_qH_burdenFor A_h h1) kX2_burdenFor ⟨_, _, rfl⟩ A_h.a0 l_RX2_125 rfl rfl rfl rfl rfl rfl rfl ?_
  refine z_istore (L' := [some (zr h), some (zi v1), some (zi v2), some (zi v3), some (zi a1), none]) 8 dX2_prefersFlat_6 rfl rfl rfl rfl ?_
  refine z_aload_n 9 dX2_prefersFlat_8 rfl rfl ?_
  refine z_iload_n 10 dX2_prefersFlat_9 rfl rfl ?_
  refine z_iload_n 11 dX2_prefersFlat_10 rfl rfl ?_
  obtain ⟨a2, h2, hq⟩ := z_b hq
  refine z_callV1 (as := [zi v1, zi v3]) (S := []) 14 dX2_prefersFlat_11 rfl (Q_qH_burdenFor A_h h2) kX2_burdenFor ⟨_, _, rfl⟩ A_h.a0 l_RX2_125 rfl rfl rfl rfl rfl rfl rfl ?_
  refine z_istore (L' := [some (zr h), some (zi v1), some (zi v2), some (zi v3), some (zi a1), some (zi a2)]) 16 dX2_prefersFlat_14 rfl rfl rfl rfl ?_
  refine z_iload 18 dX2_prefersFlat_16 rfl rfl ?_
  refine z_iload 20 dX2_prefersFlat_18 rfl rfl ?_
  refine z_icmp_lt 35 23 dX2_prefersFlat_20 rfl rfl (fun hc => ?_) (fun hc => ?_)
  · replace hq := z_ip hq hc
    refine z_iconst 36 dX2_prefersFlat_35 rfl (by decide) ?_
    refine z_goto 40 dX2_prefersFlat_36 rfl ?_
    cases hq
    exact z_zreturn rfl dX2_prefersFlat_40 (by decide)
  · replace hq := z_in hq (Int.not_lt.mpr hc)
    refine z_iload 25 dX2_prefersFlat_23 rfl rfl ?_
    refine z_iload 27 dX2_prefersFlat_25 rfl rfl ?_
    refine z_icmp_ne 39 30 dX2_prefersFlat_27 rfl rfl (fun hc => ?_) (fun hc => ?_)
    · replace hq := z_in hq hc
      refine z_iconst 40 dX2_prefersFlat_39 rfl (by decide) ?_
      cases hq
      exact z_zreturn rfl dX2_prefersFlat_40 (by decide)
    · replace hq := z_ip hq hc
      refine z_iload_n 31 dX2_prefersFlat_30 rfl rfl ?_
      refine z_iload_n 32 dX2_prefersFlat_31 rfl rfl ?_
      refine z_icmp_ge 39 35 dX2_prefersFlat_32 rfl rfl (fun hc => ?_) (fun hc => ?_)
      · replace hq := z_in hq (Int.not_lt.mpr hc)
        refine z_iconst 40 dX2_prefersFlat_39 rfl (by decide) ?_
        cases hq
        exact z_zreturn rfl dX2_prefersFlat_40 (by decide)
      · replace hq := z_ip hq hc
        refine z_iconst 36 dX2_prefersFlat_35 rfl (by decide) ?_
        refine z_goto 40 dX2_prefersFlat_36 rfl ?_
        cases hq
        exact z_zreturn rfl dX2_prefersFlat_40 (by decide)
set_option maxRecDepth 100000 in
set_option maxHeartbeats 4000000 in
theorem Q_qH_isPreferredTo {g : yG} {a : Nat → Nat} {μ : zM} {h : Nat} {v1 : Int} {v2 : Int} {r : Int} (A_h : zH h) (hq : qH_isPreferredTo μ h v1 v2 = some r) : zC g a mX2_isPreferredTo 0 0 0 [zr h, zi v1, zi v2] μ (.inl (some (zi r))) μ := by
  unfold qH_isPreferredTo at hq
  refine z_of (L := [some (zr h), some (zi v1), some (zi v2)]) pl_RX2 rfl (zc_of rfl) rfl rfl ?_
  refine z_aload_n 1 dX2_isPreferredTo_0 rfl rfl ?_
  refine z_getR (e := 4) (r := (h + 4)) 4 dX2_isPreferredTo_1 rfl f_RX2_31 A_h.a0 rfl A_h.a4.1 ?_
  refine z_iload_n 5 dX2_isPreferredTo_4 rfl rfl ?_
  obtain ⟨hg5, hq⟩ := z_g hq
  refine z_iaload (x := (μ (h + 4) v1)) 6 dX2_isPreferredTo_5 rfl A_h.a4 hg5 rfl ?_
  refine z_aload_n 7 dX2_isPreferredTo_6 rfl rfl ?_
  refine z_getR (e := 4) (r := (h + 4)) 10 dX2_isPreferredTo_7 rfl f_RX2_31 A_h.a0 rfl A_h.a4.1 ?_
  refine z_iload_n 11 dX2_isPreferredTo_10 rfl rfl ?_
  obtain ⟨hg11, hq⟩ := z_g hq
  refine z_iaload (x := (μ (h + 4) v2)) 12 dX2_isPreferredTo_11 rfl A_h.a4 hg11 rfl ?_
  refine z_icmp_lt 35 15 dX2_isPreferredTo_12 rfl rfl (fun hc => ?_) (fun hc => ?_)
  · replace hq := z_ip hq hc
    refine z_iconst 36 dX2_isPreferredTo_35 rfl (by decide) ?_
    refine z_goto 40 dX2_isPreferredTo_36 rfl ?_
    cases hq
    exact z_zreturn rfl dX2_isPreferredTo_40 (by decide)
  · replace hq := z_in hq (Int.not_lt.mpr hc)
    refine z_aload_n 16 dX2_isPreferredTo_15 rfl rfl ?_
    refine z_getR (e := 4) (r := (h + 4)) 19 dX2_isPreferredTo_16 rfl f_RX2_31 A_h.a0 rfl A_h.a4.1 ?_
    refine z_iload_n 20 dX2_isPreferredTo_19 rfl rfl ?_
    obtain ⟨hg20, hq⟩ := z_g hq
    refine z_iaload (x := (μ (h + 4) v1)) 21 dX2_isPreferredTo_20 rfl A_h.a4 hg20 rfl ?_
    refine z_aload_n 22 dX2_isPreferredTo_21 rfl rfl ?_
    refine z_getR (e := 4) (r := (h + 4)) 25 dX2_isPreferredTo_22 rfl f_RX2_31 A_h.a0 rfl A_h.a4.1 ?_
    refine z_iload_n 26 dX2_isPreferredTo_25 rfl rfl ?_
    obtain ⟨hg26, hq⟩ := z_g hq
    refine z_iaload (x := (μ (h + 4) v2)) 27 dX2_isPreferredTo_26 rfl A_h.a4 hg26 rfl ?_
    refine z_icmp_ne 39 30 dX2_isPreferredTo_27 rfl rfl (fun hc => ?_) (fun hc => ?_)
    · replace hq := z_in hq hc
      refine z_iconst 40 dX2_isPreferredTo_39 rfl (by decide) ?_
      cases hq
      exact z_zreturn rfl dX2_isPreferredTo_40 (by decide)
    · replace hq := z_ip hq hc
      refine z_iload_n 31 dX2_isPreferredTo_30 rfl rfl ?_
      refine z_iload_n 32 dX2_isPreferredTo_31 rfl rfl ?_
      refine z_icmp_ge 39 35 dX2_isPreferredTo_32 rfl rfl (fun hc => ?_) (fun hc => ?_)
      · replace hq := z_in hq (Int.not_lt.mpr hc)
        refine z_iconst 40 dX2_isPreferredTo_39 rfl (by decide) ?_
        cases hq
        exact z_zreturn rfl dX2_isPreferredTo_40 (by decide)
      · replace hq := z_ip hq hc
        refine z_iconst 36 dX2_isPreferredTo_35 rfl (by decide) ?_
        refine z_goto 40 dX2_isPreferredTo_36 rfl ?_
        cases hq
        exact z_zreturn rfl dX2_isPreferredTo_40 (by decide)
set_option maxRecDepth 100000 in
set_option maxHeartbeats 4000000 in
theorem J_qH_candidateFor_j63 {g : yG} {a : Nat → Nat} {μ ν : zM} {o : zO} {kc ks : Nat} {h : Nat} {v1 : Int} {v2 : Int} {v3 : Int} {v4 : Int} {s0 : Int} {rec : Int → Int → Option (Int)} {R : Int}  (A_h : zH h) (he : ∀ (tz : Int), R = tz → Z g a mX2_candidateFor 2 kc ks 94 [some (zr h), some (zi v1), some (zi v2), some (zi tz), none, none] [] μ o ν) (hrec : ∀ (v3 : Int) (v4 : Int), rec v3 v4 = some R → Z g a mX2_candidateFor 2 kc ks 5 [some (zr h), some (zi v1), some (zi v2), some (zi v3), some (zi v4), none] [] μ o ν) (hq : qH_candidateFor_j63 rec μ h v1 v2 v3 v4 s0 = some R) : Z g a mX2_candidateFor 2 kc ks 63 [some (zr h), some (zi v1), some (zi v2), some (zi v3), some (zi v4), none] [zi s0] μ o ν := by
  unfold qH_candidateFor_j63 at hq
  refine z_istore (L' := [some (zr h), some (zi v1), some (zi v2), some (zi v3), some (zi v4), some (zi s0)]) 65 dX2_candidateFor_63 rfl rfl rfl rfl ?_
  refine z_iload 67 dX2_candidateFor_65 rfl rfl ?_
  refine z_if_eq 88 70 dX2_candidateFor_67 rfl rfl (fun hc => ?_) (fun hc => ?_)
  · replace hq := z_ip hq hc
    refine z_iinc (r := (wr (v4 + 1))) (L' := [some (zr h), some (zi v1), some (zi v2), some (zi v3), some (zi (wr (v4 + 1))), some (zi s0)]) 91 dX2_candidateFor_88 rfl rfl rfl rfl rfl rfl ?_
    refine z_goto 5 dX2_candidateFor_91 rfl ?_
    exact Z.sub (zle_s (zle_s (zle_s (zle_s (zle_s (zle_n zle_nil)))))) (hrec _ _ hq)
  · replace hq := z_in hq hc
    refine z_iload_n 71 dX2_candidateFor_70 rfl rfl ?_
    refine z_iconst 72 dX2_candidateFor_71 rfl (by decide) ?_
    refine z_icmp_eq 85 75 dX2_candidateFor_72 rfl rfl (fun hc => ?_) (fun hc => ?_)
    · replace hq := z_ip hq hc
      refine z_iload 87 dX2_candidateFor_85 rfl rfl ?_
      refine z_istore_n (L' := [some (zr h), some (zi v1), some (zi v2), some (zi v4), some (zi v4), some (zi s0)]) 88 dX2_candidateFor_87 rfl rfl rfl rfl ?_
      refine z_iinc (r := (wr (v4 + 1))) (L' := [some (zr h), some (zi v1), some (zi v2), some (zi v4), some (zi (wr (v4 + 1))), some (zi s0)]) 91 dX2_candidateFor_88 rfl rfl rfl rfl rfl rfl ?_
      refine z_goto 5 dX2_candidateFor_91 rfl ?_
      exact Z.sub (zle_s (zle_s (zle_s (zle_s (zle_s (zle_n zle_nil)))))) (hrec _ _ hq)
    · replace hq := z_in hq hc
      refine z_aload_n 76 dX2_candidateFor_75 rfl rfl ?_
      refine z_iload 78 dX2_candidateFor_76 rfl rfl ?_
      refine z_iload_n 79 dX2_candidateFor_78 rfl rfl ?_
      obtain ⟨a1, h1, hq⟩ := z_b hq
      refine z_callV1 (as := [zi v4, zi v3]) (S := []) 82 dX2_candidateFor_79 rfl (Q_qH_isPreferredTo A_h h1) kX2_isPreferredTo ⟨_, _, rfl⟩ A_h.a0 l_RX2_144 rfl rfl rfl rfl rfl rfl rfl ?_
      refine z_if_eq 88 85 dX2_candidateFor_82 rfl rfl (fun hc => ?_) (fun hc => ?_)
      · replace hq := z_ip hq hc
        refine z_iinc (r := (wr (v4 + 1))) (L' := [some (zr h), some (zi v1), some (zi v2), some (zi v3), some (zi (wr (v4 + 1))), some (zi s0)]) 91 dX2_candidateFor_88 rfl rfl rfl rfl rfl rfl ?_
        refine z_goto 5 dX2_candidateFor_91 rfl ?_
        exact Z.sub (zle_s (zle_s (zle_s (zle_s (zle_s (zle_n zle_nil)))))) (hrec _ _ hq)
      · replace hq := z_in hq hc
        refine z_iload 87 dX2_candidateFor_85 rfl rfl ?_
        refine z_istore_n (L' := [some (zr h), some (zi v1), some (zi v2), some (zi v4), some (zi v4), some (zi s0)]) 88 dX2_candidateFor_87 rfl rfl rfl rfl ?_
        refine z_iinc (r := (wr (v4 + 1))) (L' := [some (zr h), some (zi v1), some (zi v2), some (zi v4), some (zi (wr (v4 + 1))), some (zi s0)]) 91 dX2_candidateFor_88 rfl rfl rfl rfl rfl rfl ?_
        refine z_goto 5 dX2_candidateFor_91 rfl ?_
        exact Z.sub (zle_s (zle_s (zle_s (zle_s (zle_s (zle_n zle_nil)))))) (hrec _ _ hq)
set_option maxRecDepth 100000 in
set_option maxHeartbeats 4000000 in
theorem J_qH_candidateFor_j62 {g : yG} {a : Nat → Nat} {μ ν : zM} {o : zO} {kc ks : Nat} {h : Nat} {v1 : Int} {v2 : Int} {v3 : Int} {v4 : Int} {rec : Int → Int → Option (Int)} {R : Int}  (A_h : zH h) (he : ∀ (tz : Int), R = tz → Z g a mX2_candidateFor 2 kc ks 94 [some (zr h), some (zi v1), some (zi v2), some (zi tz), none, none] [] μ o ν) (hrec : ∀ (v3 : Int) (v4 : Int), rec v3 v4 = some R → Z g a mX2_candidateFor 2 kc ks 5 [some (zr h), some (zi v1), some (zi v2), some (zi v3), some (zi v4), none] [] μ o ν) (hq : qH_candidateFor_j62 rec μ h v1 v2 v3 v4 = some R) : Z g a mX2_candidateFor 2 kc ks 62 [some (zr h), some (zi v1), some (zi v2), some (zi v3), some (zi v4), none] [] μ o ν := by
  unfold qH_candidateFor_j62 at hq
  refine z_iconst 63 dX2_candidateFor_62 rfl (by decide) ?_
  exact Z.sub (zle_s (zle_s (zle_s (zle_s (zle_s (zle_n zle_nil)))))) (J_qH_candidateFor_j63 A_h he hrec hq)
set_option maxRecDepth 100000 in
set_option maxHeartbeats 4000000 in
theorem J_qH_candidateFor_j58 {g : yG} {a : Nat → Nat} {μ ν : zM} {o : zO} {kc ks : Nat} {h : Nat} {v1 : Int} {v2 : Int} {v3 : Int} {v4 : Int} {rec : Int → Int → Option (Int)} {R : Int}  (A_h : zH h) (he : ∀ (tz : Int), R = tz → Z g a mX2_candidateFor 2 kc ks 94 [some (zr h), some (zi v1), some (zi v2), some (zi tz), none, none] [] μ o ν) (hrec : ∀ (v3 : Int) (v4 : Int), rec v3 v4 = some R → Z g a mX2_candidateFor 2 kc ks 5 [some (zr h), some (zi v1), some (zi v2), some (zi v3), some (zi v4), none] [] μ o ν) (hq : qH_candidateFor_j58 rec μ h v1 v2 v3 v4 = some R) : Z g a mX2_candidateFor 2 kc ks 58 [some (zr h), some (zi v1), some (zi v2), some (zi v3), some (zi v4), none] [] μ o ν := by
  unfold qH_candidateFor_j58 at hq
  refine z_iconst 59 dX2_candidateFor_58 rfl (by decide) ?_
  refine z_goto 63 dX2_candidateFor_59 rfl ?_
  exact Z.sub (zle_s (zle_s (zle_s (zle_s (zle_s (zle_n zle_nil)))))) (J_qH_candidateFor_j63 A_h he hrec hq)
set_option maxRecDepth 100000 in
set_option maxHeartbeats 4000000 in
theorem L_qH_candidateFor_l5 {g : yG} {a : Nat → Nat} {μ ν : zM} {o : zO} {kc ks : Nat} {h : Nat} {v1 : Int} {v2 : Int} {R : Int}  (A_h : zH h) (he : ∀ (tz : Int), R = tz → Z g a mX2_candidateFor 2 kc ks 94 [some (zr h), some (zi v1), some (zi v2), some (zi tz), none, none] [] μ o ν) : ∀ (n : Nat) (v3 : Int) (v4 : Int), qH_candidateFor_l5 μ h v1 v2 n v3 v4 = some R → Z g a mX2_candidateFor 2 kc ks 5 [some (zr h), some (zi v1), some (zi v2), some (zi v3), some (zi v4), none] [] μ o ν := by
  intro n
  induction n with
  | zero => intro v3 v4 hq; cases hq
  | succ n ih =>
    intro v3 v4 hq
    rw [qH_candidateFor_l5] at hq
    refine z_iload 7 dX2_candidateFor_5 rfl rfl ?_
    refine z_aload_n 8 dX2_candidateFor_7 rfl rfl ?_
    refine z_getI (x := (μ h 3)) 11 dX2_candidateFor_8 rfl f_RX2_22 A_h.a0 rfl ?_
    refine z_icmp_ge 94 14 dX2_candidateFor_11 rfl rfl (fun hc => ?_) (fun hc => ?_)
    · replace hq := z_in hq (Int.not_lt.mpr hc)
      exact Z.sub (zle_s (zle_s (zle_s (zle_s (zle_n (zle_n zle_nil)))))) (he _ (Option.some.inj hq).symm)
    · replace hq := z_ip hq hc
      refine z_iload 16 dX2_candidateFor_14 rfl rfl ?_
      refine z_iload_n 17 dX2_candidateFor_16 rfl rfl ?_
      refine z_icmp_eq 62 20 dX2_candidateFor_17 rfl rfl (fun hc => ?_) (fun hc => ?_)
      · replace hq := z_ip hq hc
        exact Z.sub (zle_s (zle_s (zle_s (zle_s (zle_s (zle_n zle_nil)))))) (J_qH_candidateFor_j62 A_h he ih hq)
      · replace hq := z_in hq hc
        refine z_aload_n 21 dX2_candidateFor_20 rfl rfl ?_
        refine z_iload 23 dX2_candidateFor_21 rfl rfl ?_
        refine z_iload_n 24 dX2_candidateFor_23 rfl rfl ?_
        obtain ⟨a2, h2, hq⟩ := z_b hq
        refine z_callV1 (as := [zi v4, zi v1]) (S := []) 27 dX2_candidateFor_24 rfl (Q_qH_canAfford A_h h2) kX2_canAfford ⟨_, _, rfl⟩ A_h.a0 l_RX2_114 rfl rfl rfl rfl rfl rfl rfl ?_
        refine z_if_eq 62 30 dX2_candidateFor_27 rfl rfl (fun hc => ?_) (fun hc => ?_)
        · replace hq := z_ip hq hc
          exact Z.sub (zle_s (zle_s (zle_s (zle_s (zle_s (zle_n zle_nil)))))) (J_qH_candidateFor_j62 A_h he ih hq)
        · replace hq := z_in hq hc
          refine z_aload_n 31 dX2_candidateFor_30 rfl rfl ?_
          refine z_getR (e := 9) (r := (h + 9)) 34 dX2_candidateFor_31 rfl f_RX2_46 A_h.a0 rfl A_h.a9.1 ?_
          refine z_iload 36 dX2_candidateFor_34 rfl rfl ?_
          obtain ⟨hg36, hq⟩ := z_g hq
          refine z_iaload (x := (μ (h + 9) v4)) 37 dX2_candidateFor_36 rfl A_h.a9 hg36 rfl ?_
          refine z_iconst 38 dX2_candidateFor_37 rfl (by decide) ?_
          refine z_icmp_eq 58 41 dX2_candidateFor_38 rfl rfl (fun hc => ?_) (fun hc => ?_)
          · replace hq := z_ip hq hc
            exact Z.sub (zle_s (zle_s (zle_s (zle_s (zle_s (zle_n zle_nil)))))) (J_qH_candidateFor_j58 A_h he ih hq)
          · replace hq := z_in hq hc
            refine z_aload_n 42 dX2_candidateFor_41 rfl rfl ?_
            refine z_iload 44 dX2_candidateFor_42 rfl rfl ?_
            refine z_iload_n 45 dX2_candidateFor_44 rfl rfl ?_
            refine z_aload_n 46 dX2_candidateFor_45 rfl rfl ?_
            refine z_getR (e := 9) (r := (h + 9)) 49 dX2_candidateFor_46 rfl f_RX2_46 A_h.a0 rfl A_h.a9.1 ?_
            refine z_iload 51 dX2_candidateFor_49 rfl rfl ?_
            obtain ⟨hg51, hq⟩ := z_g hq
            refine z_iaload (x := (μ (h + 9) v4)) 52 dX2_candidateFor_51 rfl A_h.a9 hg51 rfl ?_
            obtain ⟨a3, h3, hq⟩ := z_b hq
            refine z_callV1 (as := [zi v4, zi v1, zi (μ (h + 9) v4)]) (S := []) 55 dX2_candidateFor_52 rfl (Q_qH_prefersFlat A_h h3) kX2_prefersFlat ⟨_, _, rfl⟩ A_h.a0 l_RX2_141 rfl rfl rfl rfl rfl rfl rfl ?_
            refine z_if_eq 62 58 dX2_candidateFor_55 rfl rfl (fun hc => ?_) (fun hc => ?_)
            · replace hq := z_ip hq hc
              exact Z.sub (zle_s (zle_s (zle_s (zle_s (zle_s (zle_n zle_nil)))))) (J_qH_candidateFor_j62 A_h he ih hq)
            · replace hq := z_in hq hc
              exact Z.sub (zle_s (zle_s (zle_s (zle_s (zle_s (zle_n zle_nil)))))) (J_qH_candidateFor_j58 A_h he ih hq)
set_option maxRecDepth 100000 in
set_option maxHeartbeats 4000000 in
theorem Q_qH_candidateFor {g : yG} {a : Nat → Nat} {μ : zM} {h : Nat} {v1 : Int} {v2 : Int} {r : Int} (A_h : zH h) (hq : qH_candidateFor μ h v1 v2 = some r) : zC g a mX2_candidateFor 2 0 0 [zr h, zi v1, zi v2] μ (.inl (some (zi r))) μ := by
  unfold qH_candidateFor at hq
  refine z_of (L := [some (zr h), some (zi v1), some (zi v2), none, none, none]) pl_RX2 rfl (zc_of rfl) rfl rfl ?_
  refine z_iconst 1 dX2_candidateFor_0 rfl (by decide) ?_
  refine z_istore_n (L' := [some (zr h), some (zi v1), some (zi v2), some (zi (-1)), none, none]) 2 dX2_candidateFor_1 rfl rfl rfl rfl ?_
  refine z_iconst 3 dX2_candidateFor_2 rfl (by decide) ?_
  refine z_istore (L' := [some (zr h), some (zi v1), some (zi v2), some (zi (-1)), some (zi 0), none]) 5 dX2_candidateFor_3 rfl rfl rfl rfl ?_
  obtain ⟨t4, h4, hq⟩ := z_b hq
  refine Z.sub (zle_s (zle_s (zle_s (zle_s (zle_s (zle_n zle_nil)))))) (L_qH_candidateFor_l5 A_h (R := t4) (fun _ e => ?_) _ _ _ h4)
  cases e
  refine z_iload_n 95 dX2_candidateFor_94 rfl rfl ?_
  cases hq
  exact z_ireturn rfl dX2_candidateFor_95
set_option maxRecDepth 100000 in
set_option maxHeartbeats 4000000 in
theorem L_qH_leaveHome_l23 {g : yG} {a : Nat → Nat} {ν : zM} {o : zO} {kc ks : Nat} {h : Nat} {v1 : Int} {R : (Int ⊕ Int) × zM}  (A_h : zH h) (hr : ∀ (x : Int) (m : zM), R = (.inl x, m) → o = .inl (some (zi x)) ∧ ν = m) (he : ∀ (tz : Int) (m : zM), R = (.inr tz, m) → Z g a mX2_leaveHome 3 kc ks 76 [some (zr h), some (zi v1), none, some (zi tz), none, none] [] m o ν) : ∀ (n : Nat) (μ : zM) (v2 : Int) (v3 : Int), qH_leaveHome_l23 h v1 n μ v2 v3 = some R → Z g a mX2_leaveHome 3 kc ks 23 [some (zr h), some (zi v1), some (zi v2), some (zi v3), none, none] [] μ o ν := by
  intro n
  induction n with
  | zero => intro μ v2 v3 hq; cases hq
  | succ n ih =>
    intro μ v2 v3 hq
    rw [qH_leaveHome_l23] at hq
    refine z_iload_n 24 dX2_leaveHome_23 rfl rfl ?_
    refine z_iconst 25 dX2_leaveHome_24 rfl (by decide) ?_
    refine z_icmp_eq 76 28 dX2_leaveHome_25 rfl rfl (fun hc => ?_) (fun hc => ?_)
    · replace hq := z_ip hq hc
      exact Z.sub (zle_s (zle_s (zle_n (zle_s (zle_n (zle_n zle_nil)))))) (he _ _ (Option.some.inj hq).symm)
    · replace hq := z_in hq hc
      refine z_iload_n 29 dX2_leaveHome_28 rfl rfl ?_
      refine z_bipush 31 dX2_leaveHome_29 rfl (by decide) (by decide) ?_
      refine z_icmp_ge 76 34 dX2_leaveHome_31 rfl rfl (fun hc => ?_) (fun hc => ?_)
      · replace hq := z_in hq (Int.not_lt.mpr hc)
        exact Z.sub (zle_s (zle_s (zle_n (zle_s (zle_n (zle_n zle_nil)))))) (he _ _ (Option.some.inj hq).symm)
      · replace hq := z_ip hq hc
        refine z_aload_n 35 dX2_leaveHome_34 rfl rfl ?_
        refine z_iload_n 36 dX2_leaveHome_35 rfl rfl ?_
        refine z_iload_n 37 dX2_leaveHome_36 rfl rfl ?_
        obtain ⟨a3, h3, hq⟩ := z_b hq
        refine z_callV1 (as := [zi v2, zi v1]) (S := []) 40 dX2_leaveHome_37 rfl (Q_qH_candidateFor A_h h3) kX2_candidateFor ⟨_, _, rfl⟩ A_h.a0 l_RX2_138 rfl rfl rfl rfl rfl rfl rfl ?_
        refine z_istore (L' := [some (zr h), some (zi v1), some (zi v2), some (zi v3), some (zi a3), none]) 42 dX2_leaveHome_40 rfl rfl rfl rfl ?_
        refine z_iload 44 dX2_leaveHome_42 rfl rfl ?_
        refine z_iconst 45 dX2_leaveHome_44 rfl (by decide) ?_
        refine z_icmp_ne 50 48 dX2_leaveHome_45 rfl rfl (fun hc => ?_) (fun hc => ?_)
        · replace hq := z_in hq hc
          refine z_aload_n 51 dX2_leaveHome_50 rfl rfl ?_
          refine z_getR (e := 9) (r := (h + 9)) 54 dX2_leaveHome_51 rfl f_RX2_46 A_h.a0 rfl A_h.a9.1 ?_
          refine z_iload 56 dX2_leaveHome_54 rfl rfl ?_
          obtain ⟨hg56, hq⟩ := z_g hq
          refine z_iaload (x := (μ (h + 9) a3)) 57 dX2_leaveHome_56 rfl A_h.a9 hg56 rfl ?_
          refine z_istore (L' := [some (zr h), some (zi v1), some (zi v2), some (zi v3), some (zi a3), some (zi (μ (h + 9) a3))]) 59 dX2_leaveHome_57 rfl rfl rfl rfl ?_
          refine z_aload_n 60 dX2_leaveHome_59 rfl rfl ?_
          refine z_getR (e := 9) (r := (h + 9)) 63 dX2_leaveHome_60 rfl f_RX2_46 A_h.a0 rfl A_h.a9.1 ?_
          refine z_iload 65 dX2_leaveHome_63 rfl rfl ?_
          refine z_iload_n 66 dX2_leaveHome_65 rfl rfl ?_
          obtain ⟨hg66, hq⟩ := z_g hq
          obtain ⟨m4, em4, hq⟩ := z_m hq
          refine z_iastore 67 dX2_leaveHome_66 rfl A_h.a9 hg66 em4 ?_
          refine z_iload 69 dX2_leaveHome_67 rfl rfl ?_
          refine z_istore_n (L' := [some (zr h), some (zi v1), some (zi (μ (h + 9) a3)), some (zi v3), some (zi a3), some (zi (μ (h + 9) a3))]) 70 dX2_leaveHome_69 rfl rfl rfl rfl ?_
          refine z_iinc (r := (wr (v3 + 1))) (L' := [some (zr h), some (zi v1), some (zi (μ (h + 9) a3)), some (zi (wr (v3 + 1))), some (zi a3), some (zi (μ (h + 9) a3))]) 73 dX2_leaveHome_70 rfl rfl rfl rfl rfl rfl ?_
          refine z_goto 23 dX2_leaveHome_73 rfl ?_
          exact Z.sub (zle_s (zle_s (zle_s (zle_s (zle_n (zle_n zle_nil)))))) (ih _ _ _ hq)
        · replace hq := z_ip hq hc
          refine z_iload_n 49 dX2_leaveHome_48 rfl rfl ?_
          obtain ⟨ho, hv⟩ := hr _ _ (Option.some.inj hq).symm
          exact z_conv ho hv (z_ireturn rfl dX2_leaveHome_49)
set_option maxRecDepth 100000 in
set_option maxHeartbeats 4000000 in
theorem Q_qH_leaveHome {g : yG} {a : Nat → Nat} {μ : zM} {h : Nat} {v1 : Int} {r : Int} {ν : zM} (A_h : zH h) (hq : qH_leaveHome μ h v1 = some (r, ν)) : zC g a mX2_leaveHome 3 0 0 [zr h, zi v1] μ (.inl (some (zi r))) ν := by
  unfold qH_leaveHome at hq
  refine z_of (L := [some (zr h), some (zi v1), none, none, none, none]) pl_RX2 rfl (zc_of rfl) rfl rfl ?_
  refine z_aload_n 1 dX2_leaveHome_0 rfl rfl ?_
  refine z_getR (e := 9) (r := (h + 9)) 4 dX2_leaveHome_1 rfl f_RX2_46 A_h.a0 rfl A_h.a9.1 ?_
  refine z_iload_n 5 dX2_leaveHome_4 rfl rfl ?_
  obtain ⟨hg5, hq⟩ := z_g hq
  refine z_iaload (x := (μ (h + 9) v1)) 6 dX2_leaveHome_5 rfl A_h.a9 hg5 rfl ?_
  refine z_istore_n (L' := [some (zr h), some (zi v1), some (zi (μ (h + 9) v1)), none, none, none]) 7 dX2_leaveHome_6 rfl rfl rfl rfl ?_
  refine z_aload_n 8 dX2_leaveHome_7 rfl rfl ?_
  refine z_getR (e := 9) (r := (h + 9)) 11 dX2_leaveHome_8 rfl f_RX2_46 A_h.a0 rfl A_h.a9.1 ?_
  refine z_iload_n 12 dX2_leaveHome_11 rfl rfl ?_
  refine z_iconst 13 dX2_leaveHome_12 rfl (by decide) ?_
  obtain ⟨hg13, hq⟩ := z_g hq
  obtain ⟨m1, em1, hq⟩ := z_m hq
  refine z_iastore 14 dX2_leaveHome_13 rfl A_h.a9 hg13 em1 ?_
  refine z_aload_n 15 dX2_leaveHome_14 rfl rfl ?_
  refine z_getR (e := 8) (r := (h + 8)) 18 dX2_leaveHome_15 rfl f_RX2_43 A_h.a0 rfl A_h.a8.1 ?_
  refine z_iload_n 19 dX2_leaveHome_18 rfl rfl ?_
  refine z_iconst 20 dX2_leaveHome_19 rfl (by decide) ?_
  obtain ⟨hg20, hq⟩ := z_g hq
  obtain ⟨m2, em2, hq⟩ := z_m hq
  refine z_iastore 21 dX2_leaveHome_20 rfl A_h.a8 hg20 em2 ?_
  refine z_iconst 22 dX2_leaveHome_21 rfl (by decide) ?_
  refine z_istore_n (L' := [some (zr h), some (zi v1), some (zi (μ (h + 9) v1)), some (zi 0), none, none]) 23 dX2_leaveHome_22 rfl rfl rfl rfl ?_
  rcases bndS2_some hq with ⟨x5, m5, h5, hq⟩ | ⟨t5, m5, h5, hq⟩
  · exact Z.sub (zle_s (zle_s (zle_s (zle_s (zle_n (zle_n zle_nil)))))) (L_qH_leaveHome_l23 A_h (R := (.inl x5, m5)) (fun _ _ e => by cases e; cases hq; exact ⟨rfl, rfl⟩) (fun _ _ e => by cases e) _ _ _ _ h5)
  · refine Z.sub (zle_s (zle_s (zle_s (zle_s (zle_n (zle_n zle_nil)))))) (L_qH_leaveHome_l23 A_h (R := (.inr t5, m5)) (fun _ _ e => by cases e) (fun _ _ e => ?_) _ _ _ _ h5)
    cases e
    refine z_iload_n 77 dX2_leaveHome_76 rfl rfl ?_
    cases hq
    exact z_ireturn rfl dX2_leaveHome_77
set_option maxRecDepth 100000 in
set_option maxHeartbeats 4000000 in
theorem Q_qT_moveOut {g : yG} {a : Nat → Nat} {μ : zM} {v1 : Int} {r : Int ⊕ Nat} {ν : zM}  (hq : qT_moveOut μ v1 = some (r, ν)) : zC g a mX9_moveOut 4 1 6 [zr 0, zi v1] μ (zri r) ν := by
  unfold qT_moveOut at hq
  refine z_of (L := [some (zr 0), some (zi v1)]) pl_RX9 rfl (zc_of rfl) rfl rfl ?_
  refine z_aload_n 1 dX9_moveOut_0 rfl rfl ?_
  refine z_getR (e := 1) (r := 1) 4 dX9_moveOut_1 rfl f_RX9_12 ar_0 rfl ar_1.1 ?_
  refine z_iload_n 5 dX9_moveOut_4 rfl rfl ?_
  obtain ⟨a1, h1, hq⟩ := z_b hq
  refine z_callV1 (as := [zi v1]) (S := []) (kc := 1) (ks := 6) 8 dX9_moveOut_5 rfl (Q_qH_refusalOfMovingOut zH_1 h1) kX2_refusalOfMovingOut ⟨_, _, rfl⟩ ar_1 l_RX9_112 rfl rfl rfl rfl rfl rfl rfl ?_
  rcases z_tc hq with ⟨a2, m2, h2, hq⟩ | ⟨ex2, h2, rfl⟩
  · refine z_callS0 (as := [zre a1]) (S := []) (kc := 0) (ks := 0) 11 dX9_moveOut_8 rfl (Q_qT_refuse  h2) kX9_refuse l_RX9_75 rfl rfl rfl rfl rfl rfl rfl ?_
    refine z_aload_n 12 dX9_moveOut_11 rfl rfl ?_
    refine z_getR (e := 31) (r := 31) 15 dX9_moveOut_12 rfl f_RX9_25 ar_0 rfl ar_31.1 ?_
    refine z_aload_n 16 dX9_moveOut_15 rfl rfl ?_
    refine z_getR (e := 1) (r := 1) 19 dX9_moveOut_16 rfl f_RX9_12 ar_0 rfl ar_1.1 ?_
    obtain ⟨m3, h3, hq⟩ := z_b hq
    refine z_callV0 (as := [zr 1]) (S := []) (kc := 0) (ks := 0) 22 dX9_moveOut_19 rfl (Q_qY_push zH_1 h3) kX1_push ⟨_, _, rfl⟩ ar_31 l_RX9_79 rfl rfl rfl rfl rfl rfl rfl ?_
    refine z_aload_n 23 dX9_moveOut_22 rfl rfl ?_
    refine z_getR (e := 1) (r := 1) 26 dX9_moveOut_23 rfl f_RX9_12 ar_0 rfl ar_1.1 ?_
    refine z_aload_n 27 dX9_moveOut_26 rfl rfl ?_
    refine z_getR (e := 1) (r := 1) 30 dX9_moveOut_27 rfl f_RX9_12 ar_0 rfl ar_1.1 ?_
    refine z_iload_n 31 dX9_moveOut_30 rfl rfl ?_
    obtain ⟨a4, h4, hq⟩ := z_b hq
    refine z_callV1 (as := [zi v1]) (S := [zr 1]) (kc := 0) (ks := 0) 34 dX9_moveOut_31 rfl (Q_qH_slotOf zH_1 h4) kX2_slotOf ⟨_, _, rfl⟩ ar_1 l_RX9_99 rfl rfl rfl rfl rfl rfl rfl ?_
    obtain ⟨a5, m5, h5, hq⟩ := bnd2_some hq
    refine z_callV1 (as := [zi a4]) (S := []) (kc := 0) (ks := 0) 37 dX9_moveOut_34 rfl (Q_qH_leaveHome zH_1 h5) kX2_leaveHome ⟨_, _, rfl⟩ ar_1 l_RX9_115 rfl rfl rfl rfl rfl rfl rfl ?_
    cases hq
    exact z_ireturn rfl dX9_moveOut_37
  · exact z_callSX (e := ex2) (as := [zre a1]) (S := []) (kc := 0) (ks := 0) dX9_moveOut_8 (Q_qT_refuse  h2) kX9_refuse l_RX9_75 rfl rfl rfl rfl rfl rfl rfl
set_option maxRecDepth 100000 in
set_option maxHeartbeats 4000000 in
theorem Q_qH_refusalOfRent {g : yG} {a : Nat → Nat} {μ : zM} {h : Nat} {v1 : Int} {v2 : Int} {r : Int} (A_h : zH h) (hq : qH_refusalOfRent μ h v1 v2 = some r) : zC g a mX2_refusalOfRent 1 0 0 [zr h, zi v1, zi v2] μ (.inl (some (zre r))) μ := by
  unfold qH_refusalOfRent at hq
  refine z_of (L := [some (zr h), some (zi v1), some (zi v2)]) pl_RX2 rfl (zc_of rfl) rfl rfl ?_
  refine z_aload_n 1 dX2_refusalOfRent_0 rfl rfl ?_
  refine z_iload_n 2 dX2_refusalOfRent_1 rfl rfl ?_
  obtain ⟨a1, h1, hq⟩ := z_b hq
  refine z_callV1 (as := [zi v1]) (S := []) 5 dX2_refusalOfRent_2 rfl (Q_qH_hasFlat A_h h1) kX2_hasFlat ⟨_, _, rfl⟩ A_h.a0 l_RX2_104 rfl rfl rfl rfl rfl rfl rfl ?_
  refine z_if_ne 12 8 dX2_refusalOfRent_5 rfl rfl (fun hc => ?_) (fun hc => ?_)
  · replace hq := z_in hq hc
    refine z_iload_n 13 dX2_refusalOfRent_12 rfl rfl ?_
    refine z_iconst 14 dX2_refusalOfRent_13 rfl (by decide) ?_
    refine z_bipush 16 dX2_refusalOfRent_14 rfl (by decide) (by decide) ?_
    obtain ⟨a2, h2, hq⟩ := z_b hq
    refine z_callN1 (as := [zi v2, zi 1, zi 99]) (S := []) 19 dX2_refusalOfRent_16 rfl (Q_qT_isWithin  h2) kX9_isWithin n_RX2_81 rfl rfl rfl rfl rfl rfl rfl ?_
    refine z_if_eq 28 22 dX2_refusalOfRent_19 rfl rfl (fun hc => ?_) (fun hc => ?_)
    · replace hq := z_ip hq hc
      refine z_enumR (x := 3) 31 dX2_refusalOfRent_28 rfl (by decide) (yb 621 (by decide +kernel) rfl) ?_
      cases hq
      exact z_areturn rfl (Or.inl ⟨_, rfl⟩) dX2_refusalOfRent_31
    · replace hq := z_in hq hc
      refine z_enumR (x := 0) 25 dX2_refusalOfRent_22 rfl (by decide) (yb 625 (by decide +kernel) rfl) ?_
      refine z_goto 31 dX2_refusalOfRent_25 rfl ?_
      cases hq
      exact z_areturn rfl (Or.inl ⟨_, rfl⟩) dX2_refusalOfRent_31
  · replace hq := z_ip hq hc
    refine z_enumR (x := 2) 11 dX2_refusalOfRent_8 rfl (by decide) (yb 848 (by decide +kernel) rfl) ?_
    cases hq
    exact z_areturn rfl (Or.inl ⟨_, rfl⟩) dX2_refusalOfRent_11
set_option maxRecDepth 100000 in
set_option maxHeartbeats 4000000 in
theorem Q_qH_changeRent {g : yG} {a : Nat → Nat} {μ : zM} {h : Nat} {v1 : Int} {v2 : Int} {r : Int} {ν : zM} (A_h : zH h) (hq : qH_changeRent μ h v1 v2 = some (r, ν)) : zC g a mX2_changeRent 0 0 0 [zr h, zi v1, zi v2] μ (.inl (some (zi r))) ν := by
  unfold qH_changeRent at hq
  refine z_of (L := [some (zr h), some (zi v1), some (zi v2), none]) pl_RX2 rfl (zc_of rfl) rfl rfl ?_
  refine z_aload_n 1 dX2_changeRent_0 rfl rfl ?_
  refine z_getR (e := 2) (r := (h + 2)) 4 dX2_changeRent_1 rfl f_RX2_19 A_h.a0 rfl A_h.a2.1 ?_
  refine z_iload_n 5 dX2_changeRent_4 rfl rfl ?_
  obtain ⟨hg5, hq⟩ := z_g hq
  refine z_iaload (x := (μ (h + 2) v1)) 6 dX2_changeRent_5 rfl A_h.a2 hg5 rfl ?_
  refine z_istore_n (L' := [some (zr h), some (zi v1), some (zi v2), some (zi (μ (h + 2) v1))]) 7 dX2_changeRent_6 rfl rfl rfl rfl ?_
  refine z_aload_n 8 dX2_changeRent_7 rfl rfl ?_
  refine z_getR (e := 2) (r := (h + 2)) 11 dX2_changeRent_8 rfl f_RX2_19 A_h.a0 rfl A_h.a2.1 ?_
  refine z_iload_n 12 dX2_changeRent_11 rfl rfl ?_
  refine z_iload_n 13 dX2_changeRent_12 rfl rfl ?_
  obtain ⟨hg13, hq⟩ := z_g hq
  obtain ⟨m1, em1, hq⟩ := z_m hq
  refine z_iastore 14 dX2_changeRent_13 rfl A_h.a2 hg13 em1 ?_
  refine z_iload_n 15 dX2_changeRent_14 rfl rfl ?_
  cases hq
  exact z_ireturn rfl dX2_changeRent_15
set_option maxRecDepth 100000 in
set_option maxHeartbeats 4000000 in
theorem Q_qT_setRent {g : yG} {a : Nat → Nat} {μ : zM} {v1 : Int} {v2 : Int} {r : Int ⊕ Nat} {ν : zM}  (hq : qT_setRent μ v1 v2 = some (r, ν)) : zC g a mX9_setRent 3 1 6 [zr 0, zi v1, zi v2] μ (zri r) ν := by
  unfold qT_setRent at hq
  refine z_of (L := [some (zr 0), some (zi v1), some (zi v2)]) pl_RX9 rfl (zc_of rfl) rfl rfl ?_
  refine z_aload_n 1 dX9_setRent_0 rfl rfl ?_
  refine z_getR (e := 1) (r := 1) 4 dX9_setRent_1 rfl f_RX9_12 ar_0 rfl ar_1.1 ?_
  refine z_iload_n 5 dX9_setRent_4 rfl rfl ?_
  refine z_iload_n 6 dX9_setRent_5 rfl rfl ?_
  obtain ⟨a1, h1, hq⟩ := z_b hq
  refine z_callV1 (as := [zi v1, zi v2]) (S := []) (kc := 1) (ks := 6) 9 dX9_setRent_6 rfl (Q_qH_refusalOfRent zH_1 h1) kX2_refusalOfRent ⟨_, _, rfl⟩ ar_1 l_RX9_118 rfl rfl rfl rfl rfl rfl rfl ?_
  rcases z_tc hq with ⟨a2, m2, h2, hq⟩ | ⟨ex2, h2, rfl⟩
  · refine z_callS0 (as := [zre a1]) (S := []) (kc := 0) (ks := 0) 12 dX9_setRent_9 rfl (Q_qT_refuse  h2) kX9_refuse l_RX9_75 rfl rfl rfl rfl rfl rfl rfl ?_
    refine z_aload_n 13 dX9_setRent_12 rfl rfl ?_
    refine z_getR (e := 31) (r := 31) 16 dX9_setRent_13 rfl f_RX9_25 ar_0 rfl ar_31.1 ?_
    refine z_aload_n 17 dX9_setRent_16 rfl rfl ?_
    refine z_getR (e := 1) (r := 1) 20 dX9_setRent_17 rfl f_RX9_12 ar_0 rfl ar_1.1 ?_
    obtain ⟨m3, h3, hq⟩ := z_b hq
    refine z_callV0 (as := [zr 1]) (S := []) (kc := 0) (ks := 0) 23 dX9_setRent_20 rfl (Q_qY_push zH_1 h3) kX1_push ⟨_, _, rfl⟩ ar_31 l_RX9_79 rfl rfl rfl rfl rfl rfl rfl ?_
    refine z_aload_n 24 dX9_setRent_23 rfl rfl ?_
    refine z_getR (e := 1) (r := 1) 27 dX9_setRent_24 rfl f_RX9_12 ar_0 rfl ar_1.1 ?_
    refine z_iload_n 28 dX9_setRent_27 rfl rfl ?_
    refine z_iload_n 29 dX9_setRent_28 rfl rfl ?_
    obtain ⟨a4, m4, h4, hq⟩ := bnd2_some hq
    refine z_callV1 (as := [zi v1, zi v2]) (S := []) (kc := 0) (ks := 0) 32 dX9_setRent_29 rfl (Q_qH_changeRent zH_1 h4) kX2_changeRent ⟨_, _, rfl⟩ ar_1 l_RX9_121 rfl rfl rfl rfl rfl rfl rfl ?_
    cases hq
    exact z_ireturn rfl dX9_setRent_32
  · exact z_callSX (e := ex2) (as := [zre a1]) (S := []) (kc := 0) (ks := 0) dX9_setRent_9 (Q_qT_refuse  h2) kX9_refuse l_RX9_75 rfl rfl rfl rfl rfl rfl rfl
set_option maxRecDepth 100000 in
set_option maxHeartbeats 4000000 in
theorem Q_qH_refusalOfGift {g : yG} {a : Nat → Nat} {μ : zM} {h : Nat} {v1 : Int} {v2 : Int} {r : Int} (A_h : zH h) (hq : qH_refusalOfGift μ h v1 v2 = some r) : zC g a mX2_refusalOfGift 1 0 0 [zr h, zi v1, zi v2] μ (.inl (some (zre r))) μ := by
  unfold qH_refusalOfGift at hq
  refine z_of (L := [some (zr h), some (zi v1), some (zi v2)]) pl_RX2 rfl (zc_of rfl) rfl rfl ?_
  refine z_aload_n 1 dX2_refusalOfGift_0 rfl rfl ?_
  refine z_iload_n 2 dX2_refusalOfGift_1 rfl rfl ?_
  obtain ⟨a1, h1, hq⟩ := z_b hq
  refine z_callV1 (as := [zi v1]) (S := []) 5 dX2_refusalOfGift_2 rfl (Q_qH_slotOf A_h h1) kX2_slotOf ⟨_, _, rfl⟩ A_h.a0 l_RX2_97 rfl rfl rfl rfl rfl rfl rfl ?_
  refine z_iconst 6 dX2_refusalOfGift_5 rfl (by decide) ?_
  refine z_icmp_ne 13 9 dX2_refusalOfGift_6 rfl rfl (fun hc => ?_) (fun hc => ?_)
  · replace hq := z_in hq hc
    refine z_iload_n 14 dX2_refusalOfGift_13 rfl rfl ?_
    refine z_iconst 15 dX2_refusalOfGift_14 rfl (by decide) ?_
    refine z_bipush 17 dX2_refusalOfGift_15 rfl (by decide) (by decide) ?_
    obtain ⟨a2, h2, hq⟩ := z_b hq
    refine z_callN1 (as := [zi v2, zi 1, zi 99]) (S := []) 20 dX2_refusalOfGift_17 rfl (Q_qT_isWithin  h2) kX9_isWithin n_RX2_81 rfl rfl rfl rfl rfl rfl rfl ?_
    refine z_if_eq 29 23 dX2_refusalOfGift_20 rfl rfl (fun hc => ?_) (fun hc => ?_)
    · replace hq := z_ip hq hc
      refine z_enumR (x := 3) 32 dX2_refusalOfGift_29 rfl (by decide) (yb 621 (by decide +kernel) rfl) ?_
      cases hq
      exact z_areturn rfl (Or.inl ⟨_, rfl⟩) dX2_refusalOfGift_32
    · replace hq := z_in hq hc
      refine z_enumR (x := 0) 26 dX2_refusalOfGift_23 rfl (by decide) (yb 625 (by decide +kernel) rfl) ?_
      refine z_goto 32 dX2_refusalOfGift_26 rfl ?_
      cases hq
      exact z_areturn rfl (Or.inl ⟨_, rfl⟩) dX2_refusalOfGift_32
  · replace hq := z_ip hq hc
    refine z_enumR (x := 1) 12 dX2_refusalOfGift_9 rfl (by decide) (yb 806 (by decide +kernel) rfl) ?_
    cases hq
    exact z_areturn rfl (Or.inl ⟨_, rfl⟩) dX2_refusalOfGift_12
set_option maxRecDepth 100000 in
set_option maxHeartbeats 4000000 in
theorem Q_qH_receive {g : yG} {a : Nat → Nat} {μ : zM} {h : Nat} {v1 : Int} {v2 : Int} {r : Int} {ν : zM} (A_h : zH h) (hq : qH_receive μ h v1 v2 = some (r, ν)) : zC g a mX2_receive 0 0 0 [zr h, zi v1, zi v2] μ (.inl (some (zi r))) ν := by
  unfold qH_receive at hq
  refine z_of (L := [some (zr h), some (zi v1), some (zi v2)]) pl_RX2 rfl (zc_of rfl) rfl rfl ?_
  refine z_aload_n 1 dX2_receive_0 rfl rfl ?_
  refine z_getR (e := 7) (r := (h + 7)) 4 dX2_receive_1 rfl f_RX2_40 A_h.a0 rfl A_h.a7.1 ?_
  refine z_iload_n 5 dX2_receive_4 rfl rfl ?_
  refine z_dup2 6 dX2_receive_5 rfl rfl rfl ?_
  obtain ⟨hg6, hq⟩ := z_g hq
  refine z_iaload (x := (μ (h + 7) v1)) 7 dX2_receive_6 rfl A_h.a7 hg6 rfl ?_
  refine z_iload_n 8 dX2_receive_7 rfl rfl ?_
  refine z_iadd (r := (wr ((μ (h + 7) v1) + v2))) 9 dX2_receive_8 rfl rfl ?_
  obtain ⟨hg9, hq⟩ := z_g hq
  obtain ⟨m1, em1, hq⟩ := z_m hq
  refine z_iastore 10 dX2_receive_9 rfl A_h.a7 hg9 em1 ?_
  refine z_aload_n 11 dX2_receive_10 rfl rfl ?_
  refine z_dup 12 dX2_receive_11 rfl rfl ?_
  refine z_getJ (x := (m1 h 15)) 15 dX2_receive_12 rfl f_RX2_58 A_h.a0 rfl ?_
  refine z_iload_n 16 dX2_receive_15 rfl rfl ?_
  refine z_i2l 17 dX2_receive_16 rfl ?_
  obtain ⟨hg17, hq⟩ := z_g hq
  refine z_ladd 18 dX2_receive_17 rfl hg17 ?_
  obtain ⟨m2, em2, hq⟩ := z_m hq
  refine z_putJ 21 dX2_receive_18 rfl p_RX2_58 A_h.a0 em2 ?_
  refine z_aload_n 22 dX2_receive_21 rfl rfl ?_
  refine z_getR (e := 7) (r := (h + 7)) 25 dX2_receive_22 rfl f_RX2_40 A_h.a0 rfl A_h.a7.1 ?_
  refine z_iload_n 26 dX2_receive_25 rfl rfl ?_
  obtain ⟨hg26, hq⟩ := z_g hq
  refine z_iaload (x := (m2 (h + 7) v1)) 27 dX2_receive_26 rfl A_h.a7 hg26 rfl ?_
  cases hq
  exact z_ireturn rfl dX2_receive_27
set_option maxRecDepth 100000 in
set_option maxHeartbeats 4000000 in
theorem Q_qT_give {g : yG} {a : Nat → Nat} {μ : zM} {v1 : Int} {v2 : Int} {r : Int ⊕ Nat} {ν : zM}  (hq : qT_give μ v1 v2 = some (r, ν)) : zC g a mX9_give 3 1 6 [zr 0, zi v1, zi v2] μ (zri r) ν := by
  unfold qT_give at hq
  refine z_of (L := [some (zr 0), some (zi v1), some (zi v2)]) pl_RX9 rfl (zc_of rfl) rfl rfl ?_
  refine z_aload_n 1 dX9_give_0 rfl rfl ?_
  refine z_getR (e := 1) (r := 1) 4 dX9_give_1 rfl f_RX9_12 ar_0 rfl ar_1.1 ?_
  refine z_iload_n 5 dX9_give_4 rfl rfl ?_
  refine z_iload_n 6 dX9_give_5 rfl rfl ?_
  obtain ⟨a1, h1, hq⟩ := z_b hq
  refine z_callV1 (as := [zi v1, zi v2]) (S := []) (kc := 1) (ks := 6) 9 dX9_give_6 rfl (Q_qH_refusalOfGift zH_1 h1) kX2_refusalOfGift ⟨_, _, rfl⟩ ar_1 l_RX9_124 rfl rfl rfl rfl rfl rfl rfl ?_
  rcases z_tc hq with ⟨a2, m2, h2, hq⟩ | ⟨ex2, h2, rfl⟩
  · refine z_callS0 (as := [zre a1]) (S := []) (kc := 0) (ks := 0) 12 dX9_give_9 rfl (Q_qT_refuse  h2) kX9_refuse l_RX9_75 rfl rfl rfl rfl rfl rfl rfl ?_
    refine z_aload_n 13 dX9_give_12 rfl rfl ?_
    refine z_getR (e := 31) (r := 31) 16 dX9_give_13 rfl f_RX9_25 ar_0 rfl ar_31.1 ?_
    refine z_aload_n 17 dX9_give_16 rfl rfl ?_
    refine z_getR (e := 1) (r := 1) 20 dX9_give_17 rfl f_RX9_12 ar_0 rfl ar_1.1 ?_
    obtain ⟨m3, h3, hq⟩ := z_b hq
    refine z_callV0 (as := [zr 1]) (S := []) (kc := 0) (ks := 0) 23 dX9_give_20 rfl (Q_qY_push zH_1 h3) kX1_push ⟨_, _, rfl⟩ ar_31 l_RX9_79 rfl rfl rfl rfl rfl rfl rfl ?_
    refine z_aload_n 24 dX9_give_23 rfl rfl ?_
    refine z_getR (e := 1) (r := 1) 27 dX9_give_24 rfl f_RX9_12 ar_0 rfl ar_1.1 ?_
    refine z_aload_n 28 dX9_give_27 rfl rfl ?_
    refine z_getR (e := 1) (r := 1) 31 dX9_give_28 rfl f_RX9_12 ar_0 rfl ar_1.1 ?_
    refine z_iload_n 32 dX9_give_31 rfl rfl ?_
    obtain ⟨a4, h4, hq⟩ := z_b hq
    refine z_callV1 (as := [zi v1]) (S := [zr 1]) (kc := 0) (ks := 0) 35 dX9_give_32 rfl (Q_qH_slotOf zH_1 h4) kX2_slotOf ⟨_, _, rfl⟩ ar_1 l_RX9_99 rfl rfl rfl rfl rfl rfl rfl ?_
    refine z_iload_n 36 dX9_give_35 rfl rfl ?_
    obtain ⟨a5, m5, h5, hq⟩ := bnd2_some hq
    refine z_callV1 (as := [zi a4, zi v2]) (S := []) (kc := 0) (ks := 0) 39 dX9_give_36 rfl (Q_qH_receive zH_1 h5) kX2_receive ⟨_, _, rfl⟩ ar_1 l_RX9_127 rfl rfl rfl rfl rfl rfl rfl ?_
    cases hq
    exact z_ireturn rfl dX9_give_39
  · exact z_callSX (e := ex2) (as := [zre a1]) (S := []) (kc := 0) (ks := 0) dX9_give_9 (Q_qT_refuse  h2) kX9_refuse l_RX9_75 rfl rfl rfl rfl rfl rfl rfl
set_option maxRecDepth 100000 in
set_option maxHeartbeats 4000000 in
theorem L_qT_fill_l2 {g : yG} {a : Nat → Nat} {ν : zM} {o : zO} {kc ks : Nat} {v0 : Nat} {n0 : Nat} {v1 : Int} {R : zM}  (A_v0 : zAr v0 0 n0) (he : ∀ (m : zM), R = m → Z g a mX9_fill 0 kc ks 18 [some (zr v0), some (zi v1), none] [] m o ν) : ∀ (n : Nat) (μ : zM) (v2 : Int), qT_fill_l2 v0 n0 v1 n μ v2 = some R → Z g a mX9_fill 0 kc ks 2 [some (zr v0), some (zi v1), some (zi v2)] [] μ o ν := by
  intro n
  induction n with
  | zero => intro μ v2 hq; cases hq
  | succ n ih =>
    intro μ v2 hq
    rw [qT_fill_l2] at hq
    refine z_iload_n 3 dX9_fill_2 rfl rfl ?_
    refine z_aload_n 4 dX9_fill_3 rfl rfl ?_
    refine z_alen (x := (n0 : Int)) 5 dX9_fill_4 rfl A_v0 rfl ?_
    refine z_icmp_ge 18 8 dX9_fill_5 rfl rfl (fun hc => ?_) (fun hc => ?_)
    · replace hq := z_in hq (Int.not_lt.mpr hc)
      exact Z.sub (zle_s (zle_s (zle_n zle_nil))) (he _ (Option.some.inj hq).symm)
    · replace hq := z_ip hq hc
      refine z_aload_n 9 dX9_fill_8 rfl rfl ?_
      refine z_iload_n 10 dX9_fill_9 rfl rfl ?_
      refine z_iload_n 11 dX9_fill_10 rfl rfl ?_
      obtain ⟨hg11, hq⟩ := z_g hq
      obtain ⟨m1, em1, hq⟩ := z_m hq
      refine z_iastore 12 dX9_fill_11 rfl A_v0 hg11 em1 ?_
      refine z_iinc (r := (wr (v2 + 1))) (L' := [some (zr v0), some (zi v1), some (zi (wr (v2 + 1)))]) 15 dX9_fill_12 rfl rfl rfl rfl rfl rfl ?_
      refine z_goto 2 dX9_fill_15 rfl ?_
      exact Z.sub (zle_s (zle_s (zle_s zle_nil))) (ih _ _ hq)
set_option maxRecDepth 100000 in
set_option maxHeartbeats 4000000 in
theorem Q_qT_fill {g : yG} {a : Nat → Nat} {μ : zM} {v0 : Nat} {n0 : Nat} {v1 : Int} {ν : zM} (A_v0 : zAr v0 0 n0) (hq : qT_fill μ v0 n0 v1 = some ν) : zC g a mX9_fill 0 0 0 [zr v0, zi v1] μ (.inl none) ν := by
  unfold qT_fill at hq
  refine z_of (L := [some (zr v0), some (zi v1), none]) pl_RX9 rfl (zc_of rfl) rfl rfl ?_
  refine z_iconst 1 dX9_fill_0 rfl (by decide) ?_
  refine z_istore_n (L' := [some (zr v0), some (zi v1), some (zi 0)]) 2 dX9_fill_1 rfl rfl rfl rfl ?_
  obtain ⟨m2, h2, hq⟩ := z_b hq
  refine Z.sub (zle_s (zle_s (zle_s zle_nil))) (L_qT_fill_l2 A_v0 (R := m2) (fun _ e => ?_) _ _ _ h2)
  cases e
  cases hq
  exact z_return rfl dX9_fill_18
set_option maxRecDepth 100000 in
set_option maxHeartbeats 4000000 in
theorem L_qH_rankFor_l5 {g : yG} {a : Nat → Nat} {μ ν : zM} {o : zO} {kc ks : Nat} {h : Nat} {v1 : Int} {v2 : Int} {R : Int}  (A_h : zH h) (he : ∀ (tz : Int), R = tz → Z g a mX2_rankFor 2 kc ks 34 [some (zr h), some (zi v1), some (zi v2), some (zi tz), none] [] μ o ν) : ∀ (n : Nat) (v3 : Int) (v4 : Int), qH_rankFor_l5 μ h v1 v2 n v3 v4 = some R → Z g a mX2_rankFor 2 kc ks 5 [some (zr h), some (zi v1), some (zi v2), some (zi v3), some (zi v4)] [] μ o ν := by
  intro n
  induction n with
  | zero => intro v3 v4 hq; cases hq
  | succ n ih =>
    intro v3 v4 hq
    rw [qH_rankFor_l5] at hq
    refine z_iload 7 dX2_rankFor_5 rfl rfl ?_
    refine z_aload_n 8 dX2_rankFor_7 rfl rfl ?_
    refine z_getI (x := (μ h 0)) 11 dX2_rankFor_8 rfl f_RX2_9 A_h.a0 rfl ?_
    refine z_icmp_ge 34 14 dX2_rankFor_11 rfl rfl (fun hc => ?_) (fun hc => ?_)
    · replace hq := z_in hq (Int.not_lt.mpr hc)
      exact Z.sub (zle_s (zle_s (zle_s (zle_s (zle_n zle_nil))))) (he _ (Option.some.inj hq).symm)
    · replace hq := z_ip hq hc
      refine z_aload_n 15 dX2_rankFor_14 rfl rfl ?_
      refine z_iload_n 16 dX2_rankFor_15 rfl rfl ?_
      refine z_iload 18 dX2_rankFor_16 rfl rfl ?_
      refine z_iload_n 19 dX2_rankFor_18 rfl rfl ?_
      obtain ⟨a1, h1, hq⟩ := z_b hq
      refine z_callV1 (as := [zi v1, zi v4, zi v2]) (S := []) 22 dX2_rankFor_19 rfl (Q_qH_prefersFlat A_h h1) kX2_prefersFlat ⟨_, _, rfl⟩ A_h.a0 l_RX2_141 rfl rfl rfl rfl rfl rfl rfl ?_
      refine z_if_eq 28 25 dX2_rankFor_22 rfl rfl (fun hc => ?_) (fun hc => ?_)
      · replace hq := z_ip hq hc
        refine z_iinc (r := (wr (v4 + 1))) (L' := [some (zr h), some (zi v1), some (zi v2), some (zi v3), some (zi (wr (v4 + 1)))]) 31 dX2_rankFor_28 rfl rfl rfl rfl rfl rfl ?_
        refine z_goto 5 dX2_rankFor_31 rfl ?_
        exact Z.sub (zle_s (zle_s (zle_s (zle_s (zle_s zle_nil))))) (ih _ _ hq)
      · replace hq := z_in hq hc
        refine z_iinc (r := (wr (v3 + 1))) (L' := [some (zr h), some (zi v1), some (zi v2), some (zi (wr (v3 + 1))), some (zi v4)]) 28 dX2_rankFor_25 rfl rfl rfl rfl rfl rfl ?_
        refine z_iinc (r := (wr (v4 + 1))) (L' := [some (zr h), some (zi v1), some (zi v2), some (zi (wr (v3 + 1))), some (zi (wr (v4 + 1)))]) 31 dX2_rankFor_28 rfl rfl rfl rfl rfl rfl ?_
        refine z_goto 5 dX2_rankFor_31 rfl ?_
        exact Z.sub (zle_s (zle_s (zle_s (zle_s (zle_s zle_nil))))) (ih _ _ hq)
set_option maxRecDepth 100000 in
set_option maxHeartbeats 4000000 in
theorem Q_qH_rankFor {g : yG} {a : Nat → Nat} {μ : zM} {h : Nat} {v1 : Int} {v2 : Int} {r : Int} (A_h : zH h) (hq : qH_rankFor μ h v1 v2 = some r) : zC g a mX2_rankFor 2 0 0 [zr h, zi v1, zi v2] μ (.inl (some (zi r))) μ := by
  unfold qH_rankFor at hq
  refine z_of (L := [some (zr h), some (zi v1), some (zi v2), none, none]) pl_RX2 rfl (zc_of rfl) rfl rfl ?_
  refine z_iconst 1 dX2_rankFor_0 rfl (by decide) ?_
  refine z_istore_n (L' := [some (zr h), some (zi v1), some (zi v2), some (zi 0), none]) 2 dX2_rankFor_1 rfl rfl rfl rfl ?_
  refine z_iconst 3 dX2_rankFor_2 rfl (by decide) ?_
  refine z_istore (L' := [some (zr h), some (zi v1), some (zi v2), some (zi 0), some (zi 0)]) 5 dX2_rankFor_3 rfl rfl rfl rfl ?_
  obtain ⟨t2, h2, hq⟩ := z_b hq
  refine Z.sub (zle_s (zle_s (zle_s (zle_s (zle_s zle_nil))))) (L_qH_rankFor_l5 A_h (R := t2) (fun _ e => ?_) _ _ _ h2)
  cases e
  refine z_iload_n 35 dX2_rankFor_34 rfl rfl ?_
  cases hq
  exact z_ireturn rfl dX2_rankFor_35
