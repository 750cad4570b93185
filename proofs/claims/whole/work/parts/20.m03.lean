/-! ===== the methods do what the mirror says (laid by wip/whole/tools/proofs.py) ===== -/
set_option maxRecDepth 100000 in
set_option maxHeartbeats 4000000 in
theorem Q_qX_clear {g : yG} {a : Nat → Nat} {μ : zM} {t : Nat} {ν : zM} (A_t : zTx t) (hq : qX_clear μ t = some ν) : zC g a mX8_clear 0 0 0 [zr t] μ (.inl none) ν := by
  unfold qX_clear at hq
  refine z_of (L := [some (zr t)]) pl_RX8 rfl (zc_of rfl) rfl rfl ?_
  refine z_aload_n 1 dX8_clear_0 rfl rfl ?_
  refine z_iconst 2 dX8_clear_1 rfl (by decide) ?_
  obtain ⟨m1, em1, hq⟩ := z_m hq
  refine z_putI 5 dX8_clear_2 rfl p_RX8_15 A_t.1 em1 ?_
  cases hq
  exact z_return rfl dX8_clear_5
set_option maxRecDepth 100000 in
set_option maxHeartbeats 4000000 in
theorem Q_qX_append {g : yG} {a : Nat → Nat} {μ : zM} {t : Nat} {v1 : Int} {ν : zM} (A_t : zTx t) (hq : qX_append μ t v1 = some ν) : zC g a mX8_append 0 0 0 [zr t, zi v1] μ (.inl none) ν := by
  unfold qX_append at hq
  refine z_of (L := [some (zr t), some (zi v1)]) pl_RX8 rfl (zc_of rfl) rfl rfl ?_
  refine z_aload_n 1 dX8_append_0 rfl rfl ?_
  refine z_getI (x := (μ t 1)) 4 dX8_append_1 rfl f_RX8_15 A_t.1 rfl ?_
  refine z_aload_n 5 dX8_append_4 rfl rfl ?_
  refine z_getR (e := 1) (r := (t + 1)) 8 dX8_append_5 rfl f_RX8_9 A_t.1 rfl A_t.2.1 ?_
  refine z_alenC (x := 128) 9 dX8_append_8 rfl A_t.2 rfl ?_
  refine z_icmp_ge 32 12 dX8_append_9 rfl rfl (fun hc => ?_) (fun hc => ?_)
  · replace hq := z_in hq (Int.not_lt.mpr hc)
    cases hq
    exact z_return rfl dX8_append_32
  · replace hq := z_ip hq hc
    refine z_aload_n 13 dX8_append_12 rfl rfl ?_
    refine z_getR (e := 1) (r := (t + 1)) 16 dX8_append_13 rfl f_RX8_9 A_t.1 rfl A_t.2.1 ?_
    refine z_aload_n 17 dX8_append_16 rfl rfl ?_
    refine z_getI (x := (μ t 1)) 20 dX8_append_17 rfl f_RX8_15 A_t.1 rfl ?_
    refine z_iload_n 21 dX8_append_20 rfl rfl ?_
    obtain ⟨hg21, hq⟩ := z_g hq
    obtain ⟨m1, em1, hq⟩ := z_m hq
    refine z_castore 22 dX8_append_21 rfl A_t.2 hg21.1 hg21.2 em1 ?_
    refine z_aload_n 23 dX8_append_22 rfl rfl ?_
    refine z_dup 24 dX8_append_23 rfl rfl ?_
    refine z_getI (x := (m1 t 1)) 27 dX8_append_24 rfl f_RX8_15 A_t.1 rfl ?_
    refine z_iconst 28 dX8_append_27 rfl (by decide) ?_
    refine z_iadd (r := (wr ((m1 t 1) + 1))) 29 dX8_append_28 rfl rfl ?_
    obtain ⟨m2, em2, hq⟩ := z_m hq
    refine z_putI 32 dX8_append_29 rfl p_RX8_15 A_t.1 em2 ?_
    cases hq
    exact z_return rfl dX8_append_32
set_option maxRecDepth 100000 in
set_option maxHeartbeats 4000000 in
theorem L_qX_appendNumber_l2 {g : yG} {a : Nat → Nat} {μ ν : zM} {o : zO} {kc ks : Nat} {t : Nat} {v1 : Int} {R : Int}  (A_t : zTx t) (he : ∀ (tz : Int), R = tz → Z g a mX8_appendNumber 1 kc ks 18 [some (zr t), some (zi v1), some (zi tz), none] [] μ o ν) : ∀ (n : Nat) (v2 : Int), qX_appendNumber_l2 μ t v1 n v2 = some R → Z g a mX8_appendNumber 1 kc ks 2 [some (zr t), some (zi v1), some (zi v2), none] [] μ o ν := by
  intro n
  induction n with
  | zero => intro v2 hq; cases hq
  | succ n ih =>
    intro v2 hq
    rw [qX_appendNumber_l2] at hq
    refine z_iload_n 3 dX8_appendNumber_2 rfl rfl ?_
    refine z_iload_n 4 dX8_appendNumber_3 rfl rfl ?_
    refine z_bipush 6 dX8_appendNumber_4 rfl (by decide) (by decide) ?_
    refine z_idiv 7 dX8_appendNumber_6 rfl (by decide) ?_
    refine z_icmp_gt 18 10 dX8_appendNumber_7 rfl rfl (fun hc => ?_) (fun hc => ?_)
    · replace hq := z_ip hq hc
      exact Z.sub (zle_s (zle_s (zle_s (zle_n zle_nil)))) (he _ (Option.some.inj hq).symm)
    · replace hq := z_in hq (Int.not_lt.mpr hc)
      refine z_iload_n 11 dX8_appendNumber_10 rfl rfl ?_
      refine z_bipush 13 dX8_appendNumber_11 rfl (by decide) (by decide) ?_
      refine z_imul (r := (wr (v2 * 10))) 14 dX8_appendNumber_13 rfl rfl ?_
      refine z_istore_n (L' := [some (zr t), some (zi v1), some (zi (wr (v2 * 10))), none]) 15 dX8_appendNumber_14 rfl rfl rfl rfl ?_
      refine z_goto 2 dX8_appendNumber_15 rfl ?_
      exact Z.sub (zle_s (zle_s (zle_s (zle_n zle_nil)))) (ih _ hq)
set_option maxRecDepth 100000 in
set_option maxHeartbeats 4000000 in
theorem L_qX_appendNumber_l20 {g : yG} {a : Nat → Nat} {ν : zM} {o : zO} {kc ks : Nat} {t : Nat} {v1 : Int} {R : zM}  (A_t : zTx t) (he : ∀ (m : zM), R = m → Z g a mX8_appendNumber 1 kc ks 46 [some (zr t), some (zi v1), none, none] [] m o ν) : ∀ (n : Nat) (μ : zM) (v3 : Int), qX_appendNumber_l20 t v1 n μ v3 = some R → Z g a mX8_appendNumber 1 kc ks 20 [some (zr t), some (zi v1), none, some (zi v3)] [] μ o ν := by
  intro n
  induction n with
  | zero => intro μ v3 hq; cases hq
  | succ n ih =>
    intro μ v3 hq
    rw [qX_appendNumber_l20] at hq
    refine z_iload_n 21 dX8_appendNumber_20 rfl rfl ?_
    refine z_if_le 46 24 dX8_appendNumber_21 rfl rfl (fun hc => ?_) (fun hc => ?_)
    · replace hq := z_in hq (Int.not_lt.mpr hc)
      exact Z.sub (zle_s (zle_s (zle_n (zle_n zle_nil)))) (he _ (Option.some.inj hq).symm)
    · replace hq := z_ip hq hc
      refine z_aload_n 25 dX8_appendNumber_24 rfl rfl ?_
      refine z_bipush 27 dX8_appendNumber_25 rfl (by decide) (by decide) ?_
      refine z_iload_n 28 dX8_appendNumber_27 rfl rfl ?_
      refine z_iload_n 29 dX8_appendNumber_28 rfl rfl ?_
      obtain ⟨hg29, hq⟩ := z_g hq
      refine z_idiv 30 dX8_appendNumber_29 rfl hg29 ?_
      refine z_bipush 32 dX8_appendNumber_30 rfl (by decide) (by decide) ?_
      refine z_irem 33 dX8_appendNumber_32 rfl (by decide) ?_
      refine z_iadd (r := (wr (48 + (Int.tmod (wr (Int.tdiv v1 v3)) 10)))) 34 dX8_appendNumber_33 rfl rfl ?_
      refine z_i2c (r := ((wr (48 + (Int.tmod (wr (Int.tdiv v1 v3)) 10))) % 65536)) 35 dX8_appendNumber_34 rfl rfl ?_
      obtain ⟨m2, h2, hq⟩ := z_b hq
      refine z_callV0 (as := [zi ((wr (48 + (Int.tmod (wr (Int.tdiv v1 v3)) 10))) % 65536)]) (S := []) 38 dX8_appendNumber_35 rfl (Q_qX_append A_t h2) kX8_append ⟨_, _, rfl⟩ A_t.1 l_RX8_19 rfl rfl rfl rfl rfl rfl rfl ?_
      refine z_iload_n 39 dX8_appendNumber_38 rfl rfl ?_
      refine z_bipush 41 dX8_appendNumber_39 rfl (by decide) (by decide) ?_
      refine z_idiv 42 dX8_appendNumber_41 rfl (by decide) ?_
      refine z_istore_n (L' := [some (zr t), some (zi v1), none, some (zi (wr (Int.tdiv v3 10)))]) 43 dX8_appendNumber_42 rfl rfl rfl rfl ?_
      refine z_goto 20 dX8_appendNumber_43 rfl ?_
      exact Z.sub (zle_s (zle_s (zle_n (zle_s zle_nil)))) (ih _ _ hq)
set_option maxRecDepth 100000 in
set_option maxHeartbeats 4000000 in
theorem Q_qX_appendNumber {g : yG} {a : Nat → Nat} {μ : zM} {t : Nat} {v1 : Int} {ν : zM} (A_t : zTx t) (hq : qX_appendNumber μ t v1 = some ν) : zC g a mX8_appendNumber 1 0 0 [zr t, zi v1] μ (.inl none) ν := by
  unfold qX_appendNumber at hq
  refine z_of (L := [some (zr t), some (zi v1), none, none]) pl_RX8 rfl (zc_of rfl) rfl rfl ?_
  refine z_iconst 1 dX8_appendNumber_0 rfl (by decide) ?_
  refine z_istore_n (L' := [some (zr t), some (zi v1), some (zi 1), none]) 2 dX8_appendNumber_1 rfl rfl rfl rfl ?_
  obtain ⟨t1, h1, hq⟩ := z_b hq
  refine Z.sub (zle_s (zle_s (zle_s (zle_n zle_nil)))) (L_qX_appendNumber_l2 A_t (R := t1) (fun _ e => ?_) _ _ h1)
  cases e
  refine z_iload_n 19 dX8_appendNumber_18 rfl rfl ?_
  refine z_istore_n (L' := [some (zr t), some (zi v1), some (zi t1), some (zi t1)]) 20 dX8_appendNumber_19 rfl rfl rfl rfl ?_
  obtain ⟨m3, h3, hq⟩ := z_b hq
  refine Z.sub (zle_s (zle_s (zle_n (zle_s zle_nil)))) (L_qX_appendNumber_l20 A_t (R := m3) (fun _ e => ?_) _ _ _ h3)
  cases e
  cases hq
  exact z_return rfl dX8_appendNumber_46
set_option maxRecDepth 100000 in
set_option maxHeartbeats 4000000 in
theorem Q_qT_appendFlat {g : yG} {a : Nat → Nat} {μ : zM} {v1 : Int} {ν : zM}  (hq : qT_appendFlat μ v1 = some ν) : zC g a mX9_appendFlat 2 0 0 [zr 0, zi v1] μ (.inl none) ν := by
  unfold qT_appendFlat at hq
  refine z_of (L := [some (zr 0), some (zi v1), none]) pl_RX9 rfl (zc_of rfl) rfl rfl ?_
  refine z_aload_n 1 dX9_appendFlat_0 rfl rfl ?_
  refine z_getR (e := 140) (r := 140) 4 dX9_appendFlat_1 rfl f_RX9_57 ar_0 rfl ar_140.1 ?_
  refine z_bipush 6 dX9_appendFlat_4 rfl (by decide) (by decide) ?_
  obtain ⟨m1, h1, hq⟩ := z_b hq
  refine z_callV0 (as := [zi 32]) (S := []) 9 dX9_appendFlat_6 rfl (Q_qX_append zTx_140 h1) kX8_append ⟨_, _, rfl⟩ ar_140 l_RX9_282 rfl rfl rfl rfl rfl rfl rfl ?_
  refine z_aload_n 10 dX9_appendFlat_9 rfl rfl ?_
  refine z_getR (e := 140) (r := 140) 13 dX9_appendFlat_10 rfl f_RX9_57 ar_0 rfl ar_140.1 ?_
  refine z_iload_n 14 dX9_appendFlat_13 rfl rfl ?_
  obtain ⟨m2, h2, hq⟩ := z_b hq
  refine z_callV0 (as := [zi v1]) (S := []) 17 dX9_appendFlat_14 rfl (Q_qX_appendNumber zTx_140 h2) kX8_appendNumber ⟨_, _, rfl⟩ ar_140 l_RX9_279 rfl rfl rfl rfl rfl rfl rfl ?_
  refine z_aload_n 18 dX9_appendFlat_17 rfl rfl ?_
  refine z_getR (e := 140) (r := 140) 21 dX9_appendFlat_18 rfl f_RX9_57 ar_0 rfl ar_140.1 ?_
  refine z_bipush 23 dX9_appendFlat_21 rfl (by decide) (by decide) ?_
  obtain ⟨m3, h3, hq⟩ := z_b hq
  refine z_callV0 (as := [zi 61]) (S := []) 26 dX9_appendFlat_23 rfl (Q_qX_append zTx_140 h3) kX8_append ⟨_, _, rfl⟩ ar_140 l_RX9_282 rfl rfl rfl rfl rfl rfl rfl ?_
  refine z_aload_n 27 dX9_appendFlat_26 rfl rfl ?_
  refine z_getR (e := 140) (r := 140) 30 dX9_appendFlat_27 rfl f_RX9_57 ar_0 rfl ar_140.1 ?_
  refine z_aload_n 31 dX9_appendFlat_30 rfl rfl ?_
  refine z_getR (e := 1) (r := 1) 34 dX9_appendFlat_31 rfl f_RX9_12 ar_0 rfl ar_1.1 ?_
  refine z_getR (e := 2) (r := 3) 37 dX9_appendFlat_34 rfl f_RX9_155 ar_1 rfl ar_3.1 ?_
  refine z_iload_n 38 dX9_appendFlat_37 rfl rfl ?_
  obtain ⟨hg38, hq⟩ := z_g hq
  refine z_iaload (x := (m3 3 v1)) 39 dX9_appendFlat_38 rfl ar_3 hg38 rfl ?_
  obtain ⟨m4, h4, hq⟩ := z_b hq
  refine z_callV0 (as := [zi (m3 3 v1)]) (S := []) 42 dX9_appendFlat_39 rfl (Q_qX_appendNumber zTx_140 h4) kX8_appendNumber ⟨_, _, rfl⟩ ar_140 l_RX9_279 rfl rfl rfl rfl rfl rfl rfl ?_
  refine z_aload_n 43 dX9_appendFlat_42 rfl rfl ?_
  refine z_getR (e := 1) (r := 1) 46 dX9_appendFlat_43 rfl f_RX9_12 ar_0 rfl ar_1.1 ?_
  refine z_iload_n 47 dX9_appendFlat_46 rfl rfl ?_
  obtain ⟨a5, h5, hq⟩ := z_b hq
  refine z_callV1 (as := [zi v1]) (S := []) 50 dX9_appendFlat_47 rfl (Q_qH_slotIn zH_1 h5) kX2_slotIn ⟨_, _, rfl⟩ ar_1 l_RX9_158 rfl rfl rfl rfl rfl rfl rfl ?_
  refine z_istore_n (L' := [some (zr 0), some (zi v1), some (zi a5)]) 51 dX9_appendFlat_50 rfl rfl rfl rfl ?_
  refine z_iload_n 52 dX9_appendFlat_51 rfl rfl ?_
  refine z_iconst 53 dX9_appendFlat_52 rfl (by decide) ?_
  refine z_icmp_eq 81 56 dX9_appendFlat_53 rfl rfl (fun hc => ?_) (fun hc => ?_)
  · replace hq := z_ip hq hc
    cases hq
    exact z_return rfl dX9_appendFlat_81
  · replace hq := z_in hq hc
    refine z_aload_n 57 dX9_appendFlat_56 rfl rfl ?_
    refine z_getR (e := 140) (r := 140) 60 dX9_appendFlat_57 rfl f_RX9_57 ar_0 rfl ar_140.1 ?_
    refine z_bipush 62 dX9_appendFlat_60 rfl (by decide) (by decide) ?_
    obtain ⟨m6, h6, hq⟩ := z_b hq
    refine z_callV0 (as := [zi 58]) (S := []) 65 dX9_appendFlat_62 rfl (Q_qX_append zTx_140 h6) kX8_append ⟨_, _, rfl⟩ ar_140 l_RX9_282 rfl rfl rfl rfl rfl rfl rfl ?_
    refine z_aload_n 66 dX9_appendFlat_65 rfl rfl ?_
    refine z_getR (e := 140) (r := 140) 69 dX9_appendFlat_66 rfl f_RX9_57 ar_0 rfl ar_140.1 ?_
    refine z_aload_n 70 dX9_appendFlat_69 rfl rfl ?_
    refine z_getR (e := 1) (r := 1) 73 dX9_appendFlat_70 rfl f_RX9_12 ar_0 rfl ar_1.1 ?_
    refine z_getR (e := 3) (r := 4) 76 dX9_appendFlat_73 rfl f_RX9_168 ar_1 rfl ar_4.1 ?_
    refine z_iload_n 77 dX9_appendFlat_76 rfl rfl ?_
    obtain ⟨hg77, hq⟩ := z_g hq
    refine z_iaload (x := (m6 4 a5)) 78 dX9_appendFlat_77 rfl ar_4 hg77 rfl ?_
    obtain ⟨m7, h7, hq⟩ := z_b hq
    refine z_callV0 (as := [zi (m6 4 a5)]) (S := []) 81 dX9_appendFlat_78 rfl (Q_qX_appendNumber zTx_140 h7) kX8_appendNumber ⟨_, _, rfl⟩ ar_140 l_RX9_279 rfl rfl rfl rfl rfl rfl rfl ?_
    cases hq
    exact z_return rfl dX9_appendFlat_81
set_option maxRecDepth 100000 in
set_option maxHeartbeats 4000000 in
theorem L_qT_writeFloor_l45 {g : yG} {a : Nat → Nat} {ν : zM} {o : zO} {kc ks : Nat} {v1 : Int} {R : zM}   (he : ∀ (m : zM), R = m → Z g a mX9_writeFloor 3 kc ks 80 [some (zr 0), some (zi v1), none] [] m o ν) : ∀ (n : Nat) (μ : zM) (v2 : Int), qT_writeFloor_l45 v1 n μ v2 = some R → Z g a mX9_writeFloor 3 kc ks 45 [some (zr 0), some (zi v1), some (zi v2)] [] μ o ν := by
  intro n
  induction n with
  | zero => intro μ v2 hq; cases hq
  | succ n ih =>
    intro μ v2 hq
    rw [qT_writeFloor_l45] at hq
    refine z_iload_n 46 dX9_writeFloor_45 rfl rfl ?_
    refine z_aload_n 47 dX9_writeFloor_46 rfl rfl ?_
    refine z_getR (e := 1) (r := 1) 50 dX9_writeFloor_47 rfl f_RX9_12 ar_0 rfl ar_1.1 ?_
    refine z_getI (x := (μ 1 0)) 53 dX9_writeFloor_50 rfl f_RX9_144 ar_1 rfl ?_
    refine z_icmp_ge 80 56 dX9_writeFloor_53 rfl rfl (fun hc => ?_) (fun hc => ?_)
    · replace hq := z_in hq (Int.not_lt.mpr hc)
      exact Z.sub (zle_s (zle_s (zle_n zle_nil))) (he _ (Option.some.inj hq).symm)
    · replace hq := z_ip hq hc
      refine z_aload_n 57 dX9_writeFloor_56 rfl rfl ?_
      refine z_getR (e := 1) (r := 1) 60 dX9_writeFloor_57 rfl f_RX9_12 ar_0 rfl ar_1.1 ?_
      refine z_getR (e := 1) (r := 2) 63 dX9_writeFloor_60 rfl f_RX9_151 ar_1 rfl ar_2.1 ?_
      refine z_iload_n 64 dX9_writeFloor_63 rfl rfl ?_
      obtain ⟨hg64, hq⟩ := z_g hq
      refine z_iaload (x := (μ 2 v2)) 65 dX9_writeFloor_64 rfl ar_2 hg64 rfl ?_
      refine z_iload_n 66 dX9_writeFloor_65 rfl rfl ?_
      refine z_icmp_ne 74 69 dX9_writeFloor_66 rfl rfl (fun hc => ?_) (fun hc => ?_)
      · replace hq := z_in hq hc
        refine z_iinc (r := (wr (v2 + 1))) (L' := [some (zr 0), some (zi v1), some (zi (wr (v2 + 1)))]) 77 dX9_writeFloor_74 rfl rfl rfl rfl rfl rfl ?_
        refine z_goto 45 dX9_writeFloor_77 rfl ?_
        exact Z.sub (zle_s (zle_s (zle_s zle_nil))) (ih _ _ hq)
      · replace hq := z_ip hq hc
        refine z_aload_n 70 dX9_writeFloor_69 rfl rfl ?_
        refine z_iload_n 71 dX9_writeFloor_70 rfl rfl ?_
        obtain ⟨m7, h7, hq⟩ := z_b hq
        refine z_callV0 (as := [zi v2]) (S := []) 74 dX9_writeFloor_71 rfl (Q_qT_appendFlat  h7) kX9_appendFlat ⟨_, _, rfl⟩ ar_0 l_RX9_286 rfl rfl rfl rfl rfl rfl rfl ?_
        refine z_iinc (r := (wr (v2 + 1))) (L' := [some (zr 0), some (zi v1), some (zi (wr (v2 + 1)))]) 77 dX9_writeFloor_74 rfl rfl rfl rfl rfl rfl ?_
        refine z_goto 45 dX9_writeFloor_77 rfl ?_
        exact Z.sub (zle_s (zle_s (zle_s zle_nil))) (ih _ _ hq)
set_option maxRecDepth 100000 in
set_option maxHeartbeats 4000000 in
theorem Q_qT_writeFloor {g : yG} {a : Nat → Nat} {μ : zM} {v1 : Int} {r : Int ⊕ Nat} {ν : zM}  (hq : qT_writeFloor μ v1 = some (r, ν)) : zC g a mX9_writeFloor 3 1 6 [zr 0, zi v1] μ (zri r) ν := by
  unfold qT_writeFloor at hq
  refine z_of (L := [some (zr 0), some (zi v1), none]) pl_RX9 rfl (zc_of rfl) rfl rfl ?_
  refine z_iload_n 1 dX9_writeFloor_0 rfl rfl ?_
  rcases z_tc hq with ⟨a1, m1, h1, hq⟩ | ⟨ex1, h1, rfl⟩
  · refine z_callS0 (as := [zi v1]) (S := []) (kc := 0) (ks := 0) 4 dX9_writeFloor_1 rfl (Q_qT_requireFloor  h1) kX9_requireFloor l_RX9_207 rfl rfl rfl rfl rfl rfl rfl ?_
    refine z_aload_n 5 dX9_writeFloor_4 rfl rfl ?_
    refine z_getR (e := 140) (r := 140) 8 dX9_writeFloor_5 rfl f_RX9_57 ar_0 rfl ar_140.1 ?_
    obtain ⟨m2, h2, hq⟩ := z_b hq
    refine z_callV0 (as := []) (S := []) (kc := 0) (ks := 0) 11 dX9_writeFloor_8 rfl (Q_qX_clear zTx_140 h2) kX8_clear ⟨_, _, rfl⟩ ar_140 l_RX9_276 rfl rfl rfl rfl rfl rfl rfl ?_
    refine z_aload_n 12 dX9_writeFloor_11 rfl rfl ?_
    refine z_getR (e := 140) (r := 140) 15 dX9_writeFloor_12 rfl f_RX9_57 ar_0 rfl ar_140.1 ?_
    refine z_iload_n 16 dX9_writeFloor_15 rfl rfl ?_
    obtain ⟨m3, h3, hq⟩ := z_b hq
    refine z_callV0 (as := [zi v1]) (S := []) (kc := 0) (ks := 0) 19 dX9_writeFloor_16 rfl (Q_qX_appendNumber zTx_140 h3) kX8_appendNumber ⟨_, _, rfl⟩ ar_140 l_RX9_279 rfl rfl rfl rfl rfl rfl rfl ?_
    refine z_aload_n 20 dX9_writeFloor_19 rfl rfl ?_
    refine z_getR (e := 140) (r := 140) 23 dX9_writeFloor_20 rfl f_RX9_57 ar_0 rfl ar_140.1 ?_
    refine z_bipush 25 dX9_writeFloor_23 rfl (by decide) (by decide) ?_
    obtain ⟨m4, h4, hq⟩ := z_b hq
    refine z_callV0 (as := [zi 126]) (S := []) (kc := 0) (ks := 0) 28 dX9_writeFloor_25 rfl (Q_qX_append zTx_140 h4) kX8_append ⟨_, _, rfl⟩ ar_140 l_RX9_282 rfl rfl rfl rfl rfl rfl rfl ?_
    refine z_aload_n 29 dX9_writeFloor_28 rfl rfl ?_
    refine z_getR (e := 140) (r := 140) 32 dX9_writeFloor_29 rfl f_RX9_57 ar_0 rfl ar_140.1 ?_
    refine z_aload_n 33 dX9_writeFloor_32 rfl rfl ?_
    refine z_getR (e := 1) (r := 1) 36 dX9_writeFloor_33 rfl f_RX9_12 ar_0 rfl ar_1.1 ?_
    refine z_iload_n 37 dX9_writeFloor_36 rfl rfl ?_
    obtain ⟨a5, h5, hq⟩ := z_b hq
    refine z_callV1 (as := [zi v1]) (S := [zr 140]) (kc := 0) (ks := 0) 40 dX9_writeFloor_37 rfl (Q_qH_creakOn zH_1 h5) kX2_creakOn ⟨_, _, rfl⟩ ar_1 l_RX9_210 rfl rfl rfl rfl rfl rfl rfl ?_
    obtain ⟨m6, h6, hq⟩ := z_b hq
    refine z_callV0 (as := [zi a5]) (S := []) (kc := 0) (ks := 0) 43 dX9_writeFloor_40 rfl (Q_qX_appendNumber zTx_140 h6) kX8_appendNumber ⟨_, _, rfl⟩ ar_140 l_RX9_279 rfl rfl rfl rfl rfl rfl rfl ?_
    refine z_iconst 44 dX9_writeFloor_43 rfl (by decide) ?_
    refine z_istore_n (L' := [some (zr 0), some (zi v1), some (zi 0)]) 45 dX9_writeFloor_44 rfl rfl rfl rfl ?_
    obtain ⟨m8, h8, hq⟩ := z_b hq
    refine Z.sub (zle_s (zle_s (zle_s zle_nil))) (L_qT_writeFloor_l45  (R := m8) (fun _ e => ?_) _ _ _ h8)
    cases e
    refine z_aload_n 81 dX9_writeFloor_80 rfl rfl ?_
    refine z_getR (e := 140) (r := 140) 84 dX9_writeFloor_81 rfl f_RX9_57 ar_0 rfl ar_140.1 ?_
    refine z_getI (x := (m8 140 1)) 87 dX9_writeFloor_84 rfl f_RX9_289 ar_140 rfl ?_
    cases hq
    exact z_ireturn rfl dX9_writeFloor_87
  · exact z_callSX (e := ex1) (as := [zi v1]) (S := []) (kc := 0) (ks := 0) dX9_writeFloor_1 (Q_qT_requireFloor  h1) kX9_requireFloor l_RX9_207 rfl rfl rfl rfl rfl rfl rfl
set_option maxRecDepth 100000 in
set_option maxHeartbeats 4000000 in
theorem J_qT_writePlan_j45 {g : yG} {a : Nat → Nat} {μ ν : zM} {o : zO} {kc ks : Nat} {v2 : Int} {rec : zM → Int → Option (zM)} {R : zM}   (he : ∀ (m : zM), R = m → Z g a mX9_writePlan 5 kc ks 105 [some (zr 0), some (zr 128), none] [] m o ν) (hrec : ∀ (μ : zM) (v2 : Int), rec μ v2 = some R → Z g a mX9_writePlan 5 kc ks 21 [some (zr 0), some (zr 128), some (zi v2)] [] μ o ν) (hq : qT_writePlan_j45 rec μ v2 = some R) : Z g a mX9_writePlan 5 kc ks 45 [some (zr 0), some (zr 128), some (zi v2)] [] μ o ν := by
  unfold qT_writePlan_j45 at hq
  refine z_aload_n 46 dX9_writePlan_45 rfl rfl ?_
  refine z_getR (e := 140) (r := 140) 49 dX9_writePlan_46 rfl f_RX9_57 ar_0 rfl ar_140.1 ?_
  refine z_aload_n 50 dX9_writePlan_49 rfl rfl ?_
  refine z_getR (e := 1) (r := 1) 53 dX9_writePlan_50 rfl f_RX9_12 ar_0 rfl ar_1.1 ?_
  refine z_getR (e := 3) (r := 4) 56 dX9_writePlan_53 rfl f_RX9_168 ar_1 rfl ar_4.1 ?_
  refine z_iload_n 57 dX9_writePlan_56 rfl rfl ?_
  obtain ⟨hg57, hq⟩ := z_g hq
  refine z_iaload (x := (μ 4 v2)) 58 dX9_writePlan_57 rfl ar_4 hg57 rfl ?_
  obtain ⟨m3, h3, hq⟩ := z_b hq
  refine z_callV0 (as := [zi (μ 4 v2)]) (S := []) 61 dX9_writePlan_58 rfl (Q_qX_appendNumber zTx_140 h3) kX8_appendNumber ⟨_, _, rfl⟩ ar_140 l_RX9_279 rfl rfl rfl rfl rfl rfl rfl ?_
  refine z_aload_n 62 dX9_writePlan_61 rfl rfl ?_
  refine z_getR (e := 140) (r := 140) 65 dX9_writePlan_62 rfl f_RX9_57 ar_0 rfl ar_140.1 ?_
  refine z_bipush 67 dX9_writePlan_65 rfl (by decide) (by decide) ?_
  obtain ⟨m4, h4, hq⟩ := z_b hq
  refine z_callV0 (as := [zi 62]) (S := []) 70 dX9_writePlan_67 rfl (Q_qX_append zTx_140 h4) kX8_append ⟨_, _, rfl⟩ ar_140 l_RX9_282 rfl rfl rfl rfl rfl rfl rfl ?_
  refine z_aload_n 71 dX9_writePlan_70 rfl rfl ?_
  refine z_iload_n 72 dX9_writePlan_71 rfl rfl ?_
  obtain ⟨hg72, hq⟩ := z_g hq
  refine z_iaload (x := (m4 128 v2)) 73 dX9_writePlan_72 rfl ar_128 hg72 rfl ?_
  refine z_iconst 74 dX9_writePlan_73 rfl (by decide) ?_
  refine z_icmp_ne 89 77 dX9_writePlan_74 rfl rfl (fun hc => ?_) (fun hc => ?_)
  · replace hq := z_in hq hc
    refine z_aload_n 90 dX9_writePlan_89 rfl rfl ?_
    refine z_getR (e := 140) (r := 140) 93 dX9_writePlan_90 rfl f_RX9_57 ar_0 rfl ar_140.1 ?_
    refine z_aload_n 94 dX9_writePlan_93 rfl rfl ?_
    refine z_iload_n 95 dX9_writePlan_94 rfl rfl ?_
    obtain ⟨hg95, hq⟩ := z_g hq
    refine z_iaload (x := (m4 128 v2)) 96 dX9_writePlan_95 rfl ar_128 hg95 rfl ?_
    obtain ⟨m5, h5, hq⟩ := z_b hq
    refine z_callV0 (as := [zi (m4 128 v2)]) (S := []) 99 dX9_writePlan_96 rfl (Q_qX_appendNumber zTx_140 h5) kX8_appendNumber ⟨_, _, rfl⟩ ar_140 l_RX9_279 rfl rfl rfl rfl rfl rfl rfl ?_
    refine z_iinc (r := (wr (v2 + 1))) (L' := [some (zr 0), some (zr 128), some (zi (wr (v2 + 1)))]) 102 dX9_writePlan_99 rfl rfl rfl rfl rfl rfl ?_
    refine z_goto 21 dX9_writePlan_102 rfl ?_
    exact Z.sub (zle_s (zle_s (zle_s zle_nil))) (hrec _ _ hq)
  · replace hq := z_ip hq hc
    refine z_aload_n 78 dX9_writePlan_77 rfl rfl ?_
    refine z_getR (e := 140) (r := 140) 81 dX9_writePlan_78 rfl f_RX9_57 ar_0 rfl ar_140.1 ?_
    refine z_bipush 83 dX9_writePlan_81 rfl (by decide) (by decide) ?_
    obtain ⟨m6, h6, hq⟩ := z_b hq
    refine z_callV0 (as := [zi 45]) (S := []) 86 dX9_writePlan_83 rfl (Q_qX_append zTx_140 h6) kX8_append ⟨_, _, rfl⟩ ar_140 l_RX9_282 rfl rfl rfl rfl rfl rfl rfl ?_
    refine z_goto 99 dX9_writePlan_86 rfl ?_
    refine z_iinc (r := (wr (v2 + 1))) (L' := [some (zr 0), some (zr 128), some (zi (wr (v2 + 1)))]) 102 dX9_writePlan_99 rfl rfl rfl rfl rfl rfl ?_
    refine z_goto 21 dX9_writePlan_102 rfl ?_
    exact Z.sub (zle_s (zle_s (zle_s zle_nil))) (hrec _ _ hq)
set_option maxRecDepth 100000 in
set_option maxHeartbeats 4000000 in
theorem L_qT_writePlan_l21 {g : yG} {a : Nat → Nat} {ν : zM} {o : zO} {kc ks : Nat}  {R : zM}   (he : ∀ (m : zM), R = m → Z g a mX9_writePlan 5 kc ks 105 [some (zr 0), some (zr 128), none] [] m o ν) : ∀ (n : Nat) (μ : zM) (v2 : Int), qT_writePlan_l21 n μ v2 = some R → Z g a mX9_writePlan 5 kc ks 21 [some (zr 0), some (zr 128), some (zi v2)] [] μ o ν := by
  intro n
  induction n with
  | zero => intro μ v2 hq; cases hq
  | succ n ih =>
    intro μ v2 hq
    rw [qT_writePlan_l21] at hq
    refine z_iload_n 22 dX9_writePlan_21 rfl rfl ?_
    refine z_aload_n 23 dX9_writePlan_22 rfl rfl ?_
    refine z_getR (e := 1) (r := 1) 26 dX9_writePlan_23 rfl f_RX9_12 ar_0 rfl ar_1.1 ?_
    refine z_getI (x := (μ 1 3)) 29 dX9_writePlan_26 rfl f_RX9_175 ar_1 rfl ?_
    refine z_icmp_ge 105 32 dX9_writePlan_29 rfl rfl (fun hc => ?_) (fun hc => ?_)
    · replace hq := z_in hq (Int.not_lt.mpr hc)
      exact Z.sub (zle_s (zle_s (zle_n zle_nil))) (he _ (Option.some.inj hq).symm)
    · replace hq := z_ip hq hc
      refine z_iload_n 33 dX9_writePlan_32 rfl rfl ?_
      refine z_if_le 45 36 dX9_writePlan_33 rfl rfl (fun hc => ?_) (fun hc => ?_)
      · replace hq := z_in hq (Int.not_lt.mpr hc)
        exact Z.sub (zle_s (zle_s (zle_s zle_nil))) (J_qT_writePlan_j45 he ih hq)
      · replace hq := z_ip hq hc
        refine z_aload_n 37 dX9_writePlan_36 rfl rfl ?_
        refine z_getR (e := 140) (r := 140) 40 dX9_writePlan_37 rfl f_RX9_57 ar_0 rfl ar_140.1 ?_
        refine z_bipush 42 dX9_writePlan_40 rfl (by decide) (by decide) ?_
        obtain ⟨m7, h7, hq⟩ := z_b hq
        refine z_callV0 (as := [zi 32]) (S := []) 45 dX9_writePlan_42 rfl (Q_qX_append zTx_140 h7) kX8_append ⟨_, _, rfl⟩ ar_140 l_RX9_282 rfl rfl rfl rfl rfl rfl rfl ?_
        exact Z.sub (zle_s (zle_s (zle_s zle_nil))) (J_qT_writePlan_j45 he ih hq)
set_option maxRecDepth 100000 in
set_option maxHeartbeats 4000000 in
theorem Q_qT_writePlan {g : yG} {a : Nat → Nat} {μ : zM}  {r : Int} {ν : zM}  (hq : qT_writePlan μ = some (r, ν)) : zC g a mX9_writePlan 5 0 0 [zr 0] μ (.inl (some (zi r))) ν := by
  unfold qT_writePlan at hq
  refine z_of (L := [some (zr 0), none, none]) pl_RX9 rfl (zc_of rfl) rfl rfl ?_
  refine z_aload_n 1 dX9_writePlan_0 rfl rfl ?_
  refine z_getR (e := 113) (r := 113) 4 dX9_writePlan_1 rfl f_RX9_32 ar_0 rfl ar_113.1 ?_
  refine z_aload_n 5 dX9_writePlan_4 rfl rfl ?_
  refine z_getR (e := 1) (r := 1) 8 dX9_writePlan_5 rfl f_RX9_12 ar_0 rfl ar_1.1 ?_
  obtain ⟨m1, h1, hq⟩ := z_b hq
  refine z_callV1 (as := [zr 1]) (S := []) 11 dX9_writePlan_8 rfl (Q_qP_planByAsking zH_1 h1) kX5_planByAsking ⟨_, _, rfl⟩ ar_113 l_RX9_130 rfl rfl rfl rfl rfl rfl rfl ?_
  refine z_astore_n (L' := [some (zr 0), some (zr 128), none]) 12 dX9_writePlan_11 rfl rfl rfl rfl ?_
  refine z_aload_n 13 dX9_writePlan_12 rfl rfl ?_
  refine z_getR (e := 140) (r := 140) 16 dX9_writePlan_13 rfl f_RX9_57 ar_0 rfl ar_140.1 ?_
  obtain ⟨m2, h2, hq⟩ := z_b hq
  refine z_callV0 (as := []) (S := []) 19 dX9_writePlan_16 rfl (Q_qX_clear zTx_140 h2) kX8_clear ⟨_, _, rfl⟩ ar_140 l_RX9_276 rfl rfl rfl rfl rfl rfl rfl ?_
  refine z_iconst 20 dX9_writePlan_19 rfl (by decide) ?_
  refine z_istore_n (L' := [some (zr 0), some (zr 128), some (zi 0)]) 21 dX9_writePlan_20 rfl rfl rfl rfl ?_
  obtain ⟨m8, h8, hq⟩ := z_b hq
  refine Z.sub (zle_s (zle_s (zle_s zle_nil))) (L_qT_writePlan_l21  (R := m8) (fun _ e => ?_) _ _ _ h8)
  cases e
  refine z_aload_n 106 dX9_writePlan_105 rfl rfl ?_
  refine z_getR (e := 140) (r := 140) 109 dX9_writePlan_106 rfl f_RX9_57 ar_0 rfl ar_140.1 ?_
  refine z_getI (x := (m8 140 1)) 112 dX9_writePlan_109 rfl f_RX9_289 ar_140 rfl ?_
  cases hq
  exact z_ireturn rfl dX9_writePlan_112
set_option maxRecDepth 100000 in
set_option maxHeartbeats 4000000 in
theorem J_qT_charAt_j15 {g : yG} {a : Nat → Nat} {μ : zM} {r : Int ⊕ Nat} {ν : zM}   (hq : qT_charAt_j15 μ = some (r, ν)) : Z g a mX9_charAt 0 1 6 15 [none, none] [] μ (zri r) ν := by
  unfold qT_charAt_j15 at hq
  cases hq
  exact z_throwSW (cls := "java/lang/IndexOutOfBoundsException") (text := "no such character") (names := ["java/lang/RuntimeException", "java/lang/Exception"]) (e := 1) tf_1 (yb 710 (by decide +kernel) rfl) (yb 108 (by decide +kernel) rfl) ts_294 (by decide +kernel) t_RX9_296 rfl rfl dX9_charAt_15 dX9_charAt_18 dX9_charAt_19 dX9_charAt_22 dX9_charAt_25 rfl rfl rfl
set_option maxRecDepth 100000 in
set_option maxHeartbeats 4000000 in
theorem Q_qT_charAt {g : yG} {a : Nat → Nat} {μ : zM} {v1 : Int} {r : Int ⊕ Nat} {ν : zM}  (hq : qT_charAt μ v1 = some (r, ν)) : zC g a mX9_charAt 0 1 6 [zr 0, zi v1] μ (zri r) ν := by
  unfold qT_charAt at hq
  refine z_of (L := [some (zr 0), some (zi v1)]) pl_RX9 rfl (zc_of rfl) rfl rfl ?_
  refine z_iload_n 1 dX9_charAt_0 rfl rfl ?_
  refine z_if_lt 15 4 dX9_charAt_1 rfl rfl (fun hc => ?_) (fun hc => ?_)
  · replace hq := z_ip hq hc
    exact Z.sub (zle_n (zle_n zle_nil)) (J_qT_charAt_j15 hq)
  · replace hq := z_in hq (Int.not_lt.mpr hc)
    refine z_iload_n 5 dX9_charAt_4 rfl rfl ?_
    refine z_aload_n 6 dX9_charAt_5 rfl rfl ?_
    refine z_getR (e := 140) (r := 140) 9 dX9_charAt_6 rfl f_RX9_57 ar_0 rfl ar_140.1 ?_
    refine z_getI (x := (μ 140 1)) 12 dX9_charAt_9 rfl f_RX9_289 ar_140 rfl ?_
    refine z_icmp_lt 26 15 dX9_charAt_12 rfl rfl (fun hc => ?_) (fun hc => ?_)
    · replace hq := z_ip hq hc
      refine z_aload_n 27 dX9_charAt_26 rfl rfl ?_
      refine z_getR (e := 140) (r := 140) 30 dX9_charAt_27 rfl f_RX9_57 ar_0 rfl ar_140.1 ?_
      refine z_getR (e := 1) (r := 141) 33 dX9_charAt_30 rfl f_RX9_297 ar_140 rfl ar_141.1 ?_
      refine z_iload_n 34 dX9_charAt_33 rfl rfl ?_
      obtain ⟨hg34, hq⟩ := z_g hq
      refine z_caload (x := (μ 141 v1)) 35 dX9_charAt_34 rfl ar_141 hg34 rfl ?_
      obtain ⟨hgr, hq⟩ := z_g hq
      cases hq
      exact z_creturn rfl dX9_charAt_35 hgr
    · replace hq := z_in hq (Int.not_lt.mpr hc)
      exact Z.sub (zle_n (zle_n zle_nil)) (J_qT_charAt_j15 hq)
set_option maxRecDepth 100000 in
set_option maxHeartbeats 4000000 in
theorem Q_qT_type {g : yG} {a : Nat → Nat} {μ : zM} {v1 : Int} {r : Int ⊕ Nat} {ν : zM}  (hq : qT_type μ v1 = some (r, ν)) : zC g a mX9_type 1 1 6 [zr 0, zi v1] μ (zri r) ν := by
  unfold qT_type at hq
  refine z_of (L := [some (zr 0), some (zi v1)]) pl_RX9 rfl (zc_of rfl) rfl rfl ?_
  refine z_aload_n 1 dX9_type_0 rfl rfl ?_
  refine z_getR (e := 138) (r := 138) 4 dX9_type_1 rfl f_RX9_53 ar_0 rfl ar_138.1 ?_
  refine z_getI (x := (μ 138 1)) 7 dX9_type_4 rfl f_RX9_289 ar_138 rfl ?_
  refine z_bipush 9 dX9_type_7 rfl (by decide) (by decide) ?_
  refine z_icmp_lt 23 12 dX9_type_9 rfl rfl (fun hc => ?_) (fun hc => ?_)
  · replace hq := z_ip hq hc
    refine z_aload_n 24 dX9_type_23 rfl rfl ?_
    refine z_getR (e := 138) (r := 138) 27 dX9_type_24 rfl f_RX9_53 ar_0 rfl ar_138.1 ?_
    refine z_iload_n 28 dX9_type_27 rfl rfl ?_
    obtain ⟨m1, h1, hq⟩ := z_b hq
    refine z_callV0 (as := [zi v1]) (S := []) (kc := 1) (ks := 6) 31 dX9_type_28 rfl (Q_qX_append zTx_138 h1) kX8_append ⟨_, _, rfl⟩ ar_138 l_RX9_282 rfl rfl rfl rfl rfl rfl rfl ?_
    refine z_aload_n 32 dX9_type_31 rfl rfl ?_
    refine z_getR (e := 138) (r := 138) 35 dX9_type_32 rfl f_RX9_53 ar_0 rfl ar_138.1 ?_
    refine z_getI (x := (m1 138 1)) 38 dX9_type_35 rfl f_RX9_289 ar_138 rfl ?_
    cases hq
    exact z_ireturn rfl dX9_type_38
  · replace hq := z_in hq (Int.not_lt.mpr hc)
    cases hq
    exact z_throwSW (cls := "java/lang/IllegalStateException") (text := "the program buffer is full") (names := ["java/lang/RuntimeException", "java/lang/Exception"]) (e := 3) tf_3 (yb 742 (by decide +kernel) rfl) (yb 110 (by decide +kernel) rfl) ts_303 (by decide +kernel) t_RX9_305 rfl rfl dX9_type_12 dX9_type_15 dX9_type_16 dX9_type_19 dX9_type_22 rfl rfl rfl
set_option maxRecDepth 100000 in
set_option maxHeartbeats 4000000 in
theorem Q_qR_rewind {g : yG} {a : Nat → Nat} {μ : zM}  {ν : zM}  (hq : qR_rewind μ = some ν) : zC g a mX4_rewind 0 0 0 [zr 136] μ (.inl none) ν := by
  unfold qR_rewind at hq
  refine z_of (L := [some (zr 136)]) pl_RX4 rfl (zc_of rfl) rfl rfl ?_
  refine z_aload_n 1 dX4_rewind_0 rfl rfl ?_
  refine z_iconst 2 dX4_rewind_1 rfl (by decide) ?_
  obtain ⟨m1, em1, hq⟩ := z_m hq
  refine z_putI 5 dX4_rewind_2 rfl p_RX4_9 ar_136 em1 ?_
  refine z_aload_n 6 dX4_rewind_5 rfl rfl ?_
  refine z_iconst 7 dX4_rewind_6 rfl (by decide) ?_
  obtain ⟨m2, em2, hq⟩ := z_m hq
  refine z_putZ 10 dX4_rewind_7 rfl p_RX4_31 ar_136 (by decide) em2 ?_
  cases hq
  exact z_return rfl dX4_rewind_10
set_option maxRecDepth 100000 in
set_option maxHeartbeats 4000000 in
theorem Q_qX_hasAt {g : yG} {a : Nat → Nat} {μ : zM} {t : Nat} {v1 : Int} {v2 : Int} {r : Int} (A_t : zTx t) (hq : qX_hasAt μ t v1 v2 = some r) : zC g a mX8_hasAt 0 0 0 [zr t, zi v1, zi v2] μ (.inl (some (zi r))) μ := by
  unfold qX_hasAt at hq
  refine z_of (L := [some (zr t), some (zi v1), some (zi v2)]) pl_RX8 rfl (zc_of rfl) rfl rfl ?_
  refine z_iload_n 1 dX8_hasAt_0 rfl rfl ?_
  refine z_if_lt 26 4 dX8_hasAt_1 rfl rfl (fun hc => ?_) (fun hc => ?_)
  · replace hq := z_ip hq hc
    refine z_iconst 27 dX8_hasAt_26 rfl (by decide) ?_
    cases hq
    exact z_zreturn rfl dX8_hasAt_27 (by decide)
  · replace hq := z_in hq (Int.not_lt.mpr hc)
    refine z_iload_n 5 dX8_hasAt_4 rfl rfl ?_
    refine z_aload_n 6 dX8_hasAt_5 rfl rfl ?_
    refine z_getI (x := (μ t 1)) 9 dX8_hasAt_6 rfl f_RX8_15 A_t.1 rfl ?_
    refine z_icmp_ge 26 12 dX8_hasAt_9 rfl rfl (fun hc => ?_) (fun hc => ?_)
    · replace hq := z_in hq (Int.not_lt.mpr hc)
      refine z_iconst 27 dX8_hasAt_26 rfl (by decide) ?_
      cases hq
      exact z_zreturn rfl dX8_hasAt_27 (by decide)
    · replace hq := z_ip hq hc
      refine z_aload_n 13 dX8_hasAt_12 rfl rfl ?_
      refine z_getR (e := 1) (r := (t + 1)) 16 dX8_hasAt_13 rfl f_RX8_9 A_t.1 rfl A_t.2.1 ?_
      refine z_iload_n 17 dX8_hasAt_16 rfl rfl ?_
      obtain ⟨hg17, hq⟩ := z_g hq
      refine z_caload (x := (μ (t + 1) v1)) 18 dX8_hasAt_17 rfl A_t.2 hg17 rfl ?_
      refine z_iload_n 19 dX8_hasAt_18 rfl rfl ?_
      refine z_icmp_ne 26 22 dX8_hasAt_19 rfl rfl (fun hc => ?_) (fun hc => ?_)
      · replace hq := z_in hq hc
        refine z_iconst 27 dX8_hasAt_26 rfl (by decide) ?_
        cases hq
        exact z_zreturn rfl dX8_hasAt_27 (by decide)
      · replace hq := z_ip hq hc
        refine z_iconst 23 dX8_hasAt_22 rfl (by decide) ?_
        refine z_goto 27 dX8_hasAt_23 rfl ?_
        cases hq
        exact z_zreturn rfl dX8_hasAt_27 (by decide)
set_option maxRecDepth 100000 in
set_option maxHeartbeats 4000000 in
theorem Q_qR_readSign {g : yG} {a : Nat → Nat} {μ : zM} {v2 : Int} {ν : zM}  (hq : qR_readSign μ v2 = some ν) : zC g a mX4_readSign 1 0 0 [zr 136, zr 138, zi v2] μ (.inl none) ν := by
  unfold qR_readSign at hq
  refine z_of (L := [some (zr 136), some (zr 138), some (zi v2)]) pl_RX4 rfl (zc_of rfl) rfl rfl ?_
  refine z_aload_n 1 dX4_readSign_0 rfl rfl ?_
  refine z_aload_n 2 dX4_readSign_1 rfl rfl ?_
  refine z_getI (x := (μ 136 0)) 5 dX4_readSign_2 rfl f_RX4_9 ar_136 rfl ?_
  refine z_iload_n 6 dX4_readSign_5 rfl rfl ?_
  obtain ⟨a1, h1, hq⟩ := z_b hq
  refine z_callV1 (as := [zi (μ 136 0), zi v2]) (S := []) 9 dX4_readSign_6 rfl (Q_qX_hasAt zTx_138 h1) kX8_hasAt ⟨_, _, rfl⟩ ar_138 l_RX4_81 rfl rfl rfl rfl rfl rfl rfl ?_
  refine z_if_eq 25 12 dX4_readSign_9 rfl rfl (fun hc => ?_) (fun hc => ?_)
  · replace hq := z_ip hq hc
    refine z_aload_n 26 dX4_readSign_25 rfl rfl ?_
    refine z_iconst 27 dX4_readSign_26 rfl (by decide) ?_
    obtain ⟨m2, em2, hq⟩ := z_m hq
    refine z_putZ 30 dX4_readSign_27 rfl p_RX4_31 ar_136 (by decide) em2 ?_
    cases hq
    exact z_return rfl dX4_readSign_30
  · replace hq := z_in hq hc
    refine z_aload_n 13 dX4_readSign_12 rfl rfl ?_
    refine z_dup 14 dX4_readSign_13 rfl rfl ?_
    refine z_getI (x := (μ 136 0)) 17 dX4_readSign_14 rfl f_RX4_9 ar_136 rfl ?_
    refine z_iconst 18 dX4_readSign_17 rfl (by decide) ?_
    refine z_iadd (r := (wr ((μ 136 0) + 1))) 19 dX4_readSign_18 rfl rfl ?_
    obtain ⟨m3, em3, hq⟩ := z_m hq
    refine z_putI 22 dX4_readSign_19 rfl p_RX4_9 ar_136 em3 ?_
    refine z_goto 30 dX4_readSign_22 rfl ?_
    cases hq
    exact z_return rfl dX4_readSign_30
set_option maxRecDepth 100000 in
set_option maxHeartbeats 4000000 in
theorem L_qR_chooseKind_l2 {g : yG} {a : Nat → Nat} {ν : zM} {o : zO} {kc ks : Nat}  {R : (Int ⊕ Unit) × zM}   (hr : ∀ (x : Int) (m : zM), R = (.inl x, m) → o = .inl none ∧ ν = m) (he : ∀ (tz : Unit) (m : zM), R = (.inr tz, m) → Z g a mX4_chooseKind 4 kc ks 49 [some (zr 136), some (zr 138), none] [] m o ν) : ∀ (n : Nat) (μ : zM) (v2 : Int), qR_chooseKind_l2 n μ v2 = some R → Z g a mX4_chooseKind 4 kc ks 2 [some (zr 136), some (zr 138), some (zi v2)] [] μ o ν := by
  intro n
  induction n with
  | zero => intro μ v2 hq; cases hq
  | succ n ih =>
    intro μ v2 hq
    rw [qR_chooseKind_l2] at hq
    refine z_iload_n 3 dX4_chooseKind_2 rfl rfl ?_
    refine z_kinds 6 dX4_chooseKind_3 rfl rfl ?_
    refine z_klen 7 dX4_chooseKind_6 rfl ?_
    refine z_icmp_ge 49 10 dX4_chooseKind_7 rfl rfl (fun hc => ?_) (fun hc => ?_)
    · replace hq := z_in hq (Int.not_lt.mpr hc)
      exact Z.sub (zle_s (zle_s (zle_n zle_nil))) (he _ _ (Option.some.inj hq).symm)
    · replace hq := z_ip hq hc
      refine z_aload_n 11 dX4_chooseKind_10 rfl rfl ?_
      refine z_aload_n 12 dX4_chooseKind_11 rfl rfl ?_
      refine z_getI (x := (μ 136 0)) 15 dX4_chooseKind_12 rfl f_RX4_9 ar_136 rfl ?_
      refine z_kinds 18 dX4_chooseKind_15 rfl rfl ?_
      refine z_iload_n 19 dX4_chooseKind_18 rfl rfl ?_
      obtain ⟨hg19, hq⟩ := z_g hq
      refine z_kald 20 dX4_chooseKind_19 rfl hg19 ?_
      obtain ⟨hg20, hq⟩ := z_g hq
      refine z_form 23 dX4_chooseKind_20 rfl hg20 (yb 1865 (by decide +kernel) rfl) ?_
      refine z_iconst 24 dX4_chooseKind_23 rfl (by decide) ?_
      obtain ⟨hg24, hq⟩ := z_g hq
      refine z_strat 27 dX4_chooseKind_24 rfl hg24 (yb 1178 (by decide +kernel) rfl) rfl rfl rfl ?_
      obtain ⟨a1, h1, hq⟩ := z_b hq
      refine z_callV1 (as := [zi (μ 136 0), zi (formAt v2 0)]) (S := []) 30 dX4_chooseKind_27 rfl (Q_qX_hasAt zTx_138 h1) kX8_hasAt ⟨_, _, rfl⟩ ar_138 l_RX4_81 rfl rfl rfl rfl rfl rfl rfl ?_
      refine z_if_eq 43 33 dX4_chooseKind_30 rfl rfl (fun hc => ?_) (fun hc => ?_)
      · replace hq := z_ip hq hc
        refine z_iinc (r := (wr (v2 + 1))) (L' := [some (zr 136), some (zr 138), some (zi (wr (v2 + 1)))]) 46 dX4_chooseKind_43 rfl rfl rfl rfl rfl rfl ?_
        refine z_goto 2 dX4_chooseKind_46 rfl ?_
        exact Z.sub (zle_s (zle_s (zle_s zle_nil))) (ih _ _ hq)
      · replace hq := z_in hq hc
        refine z_aload_n 34 dX4_chooseKind_33 rfl rfl ?_
        refine z_kinds 37 dX4_chooseKind_34 rfl rfl ?_
        refine z_iload_n 38 dX4_chooseKind_37 rfl rfl ?_
        obtain ⟨hg38, hq⟩ := z_g hq
        refine z_kald 39 dX4_chooseKind_38 rfl hg38 ?_
        obtain ⟨hg39, hq⟩ := z_g hq
        obtain ⟨m2, em2, hq⟩ := z_m hq
        refine z_putE 42 dX4_chooseKind_39 rfl p_RX4_21 ar_136 em2 ?_
        obtain ⟨ho, hv⟩ := hr _ _ (Option.some.inj hq).symm
        exact z_conv ho hv (z_return rfl dX4_chooseKind_42)
set_option maxRecDepth 100000 in
set_option maxHeartbeats 4000000 in
theorem Q_qR_chooseKind {g : yG} {a : Nat → Nat} {μ : zM}  {ν : zM}  (hq : qR_chooseKind μ = some ν) : zC g a mX4_chooseKind 4 0 0 [zr 136, zr 138] μ (.inl none) ν := by
  unfold qR_chooseKind at hq
  refine z_of (L := [some (zr 136), some (zr 138), none]) pl_RX4 rfl (zc_of rfl) rfl rfl ?_
  refine z_iconst 1 dX4_chooseKind_0 rfl (by decide) ?_
  refine z_istore_n (L' := [some (zr 136), some (zr 138), some (zi 0)]) 2 dX4_chooseKind_1 rfl rfl rfl rfl ?_
  rcases bndS2_some hq with ⟨x3, m3, h3, hq⟩ | ⟨t3, m3, h3, hq⟩
  · exact Z.sub (zle_s (zle_s (zle_s zle_nil))) (L_qR_chooseKind_l2  (R := (.inl x3, m3)) (fun _ _ e => by cases e; cases hq; exact ⟨rfl, rfl⟩) (fun _ _ e => by cases e) _ _ _ h3)
  · refine Z.sub (zle_s (zle_s (zle_s zle_nil))) (L_qR_chooseKind_l2  (R := (.inr t3, m3)) (fun _ _ e => by cases e) (fun _ _ e => ?_) _ _ _ h3)
    cases e
    refine z_aload_n 50 dX4_chooseKind_49 rfl rfl ?_
    refine z_iconst 51 dX4_chooseKind_50 rfl (by decide) ?_
    obtain ⟨m4, em4, hq⟩ := z_m hq
    refine z_putZ 54 dX4_chooseKind_51 rfl p_RX4_31 ar_136 (by decide) em4 ?_
    cases hq
    exact z_return rfl dX4_chooseKind_54
set_option maxRecDepth 100000 in
set_option maxHeartbeats 4000000 in
theorem Q_qX_digitAt {g : yG} {a : Nat → Nat} {μ : zM} {t : Nat} {v1 : Int} {r : Int} (A_t : zTx t) (hq : qX_digitAt μ t v1 = some r) : zC g a mX8_digitAt 0 0 0 [zr t, zi v1] μ (.inl (some (zi r))) μ := by
  unfold qX_digitAt at hq
  refine z_of (L := [some (zr t), some (zi v1)]) pl_RX8 rfl (zc_of rfl) rfl rfl ?_
  refine z_iload_n 1 dX8_digitAt_0 rfl rfl ?_
  refine z_if_lt 34 4 dX8_digitAt_1 rfl rfl (fun hc => ?_) (fun hc => ?_)
  · replace hq := z_ip hq hc
    refine z_iconst 35 dX8_digitAt_34 rfl (by decide) ?_
    cases hq
    exact z_ireturn rfl dX8_digitAt_35
  · replace hq := z_in hq (Int.not_lt.mpr hc)
    refine z_iload_n 5 dX8_digitAt_4 rfl rfl ?_
    refine z_aload_n 6 dX8_digitAt_5 rfl rfl ?_
    refine z_getI (x := (μ t 1)) 9 dX8_digitAt_6 rfl f_RX8_15 A_t.1 rfl ?_
    refine z_icmp_ge 34 12 dX8_digitAt_9 rfl rfl (fun hc => ?_) (fun hc => ?_)
    · replace hq := z_in hq (Int.not_lt.mpr hc)
      refine z_iconst 35 dX8_digitAt_34 rfl (by decide) ?_
      cases hq
      exact z_ireturn rfl dX8_digitAt_35
    · replace hq := z_ip hq hc
      refine z_aload_n 13 dX8_digitAt_12 rfl rfl ?_
      refine z_getR (e := 1) (r := (t + 1)) 16 dX8_digitAt_13 rfl f_RX8_9 A_t.1 rfl A_t.2.1 ?_
      refine z_iload_n 17 dX8_digitAt_16 rfl rfl ?_
      obtain ⟨hg17, hq⟩ := z_g hq
      refine z_caload (x := (μ (t + 1) v1)) 18 dX8_digitAt_17 rfl A_t.2 hg17 rfl ?_
      refine z_bipush 20 dX8_digitAt_18 rfl (by decide) (by decide) ?_
      refine z_icmp_lt 34 23 dX8_digitAt_20 rfl rfl (fun hc => ?_) (fun hc => ?_)
      · replace hq := z_ip hq hc
        refine z_iconst 35 dX8_digitAt_34 rfl (by decide) ?_
        cases hq
        exact z_ireturn rfl dX8_digitAt_35
      · replace hq := z_in hq (Int.not_lt.mpr hc)
        refine z_aload_n 24 dX8_digitAt_23 rfl rfl ?_
        refine z_getR (e := 1) (r := (t + 1)) 27 dX8_digitAt_24 rfl f_RX8_9 A_t.1 rfl A_t.2.1 ?_
        refine z_iload_n 28 dX8_digitAt_27 rfl rfl ?_
        obtain ⟨hg28, hq⟩ := z_g hq
        refine z_caload (x := (μ (t + 1) v1)) 29 dX8_digitAt_28 rfl A_t.2 hg28 rfl ?_
        refine z_bipush 31 dX8_digitAt_29 rfl (by decide) (by decide) ?_
        refine z_icmp_le 36 34 dX8_digitAt_31 rfl rfl (fun hc => ?_) (fun hc => ?_)
        · replace hq := z_in hq (Int.not_lt.mpr hc)
          refine z_aload_n 37 dX8_digitAt_36 rfl rfl ?_
          refine z_getR (e := 1) (r := (t + 1)) 40 dX8_digitAt_37 rfl f_RX8_9 A_t.1 rfl A_t.2.1 ?_
          refine z_iload_n 41 dX8_digitAt_40 rfl rfl ?_
          obtain ⟨hg41, hq⟩ := z_g hq
          refine z_caload (x := (μ (t + 1) v1)) 42 dX8_digitAt_41 rfl A_t.2 hg41 rfl ?_
          refine z_bipush 44 dX8_digitAt_42 rfl (by decide) (by decide) ?_
          refine z_isub (r := (wr ((μ (t + 1) v1) - 48))) 45 dX8_digitAt_44 rfl rfl ?_
          cases hq
          exact z_ireturn rfl dX8_digitAt_45
        · replace hq := z_ip hq hc
          refine z_iconst 35 dX8_digitAt_34 rfl (by decide) ?_
          cases hq
          exact z_ireturn rfl dX8_digitAt_35
set_option maxRecDepth 100000 in
set_option maxHeartbeats 4000000 in
theorem Q_qR_keepValue {g : yG} {a : Nat → Nat} {μ : zM} {v1 : Int} {ν : zM}  (hq : qR_keepValue μ v1 = some ν) : zC g a mX4_keepValue 0 0 0 [zr 136, zi v1] μ (.inl none) ν := by
  unfold qR_keepValue at hq
  refine z_of (L := [some (zr 136), some (zi v1)]) pl_RX4 rfl (zc_of rfl) rfl rfl ?_
  refine z_aload_n 1 dX4_keepValue_0 rfl rfl ?_
  refine z_getI (x := (μ 136 3)) 4 dX4_keepValue_1 rfl f_RX4_28 ar_136 rfl ?_
  refine z_aload_n 5 dX4_keepValue_4 rfl rfl ?_
  refine z_getR (e := 1) (r := 137) 8 dX4_keepValue_5 rfl f_RX4_24 ar_136 rfl ar_137.1 ?_
  refine z_alen (x := 4) 9 dX4_keepValue_8 rfl ar_137 rfl ?_
  refine z_icmp_ge 32 12 dX4_keepValue_9 rfl rfl (fun hc => ?_) (fun hc => ?_)
  · replace hq := z_in hq (Int.not_lt.mpr hc)
    cases hq
    exact z_return rfl dX4_keepValue_32
  · replace hq := z_ip hq hc
    refine z_aload_n 13 dX4_keepValue_12 rfl rfl ?_
    refine z_getR (e := 1) (r := 137) 16 dX4_keepValue_13 rfl f_RX4_24 ar_136 rfl ar_137.1 ?_
    refine z_aload_n 17 dX4_keepValue_16 rfl rfl ?_
    refine z_getI (x := (μ 136 3)) 20 dX4_keepValue_17 rfl f_RX4_28 ar_136 rfl ?_
    refine z_iload_n 21 dX4_keepValue_20 rfl rfl ?_
    obtain ⟨hg21, hq⟩ := z_g hq
    obtain ⟨m1, em1, hq⟩ := z_m hq
    refine z_iastore 22 dX4_keepValue_21 rfl ar_137 hg21 em1 ?_
    refine z_aload_n 23 dX4_keepValue_22 rfl rfl ?_
    refine z_dup 24 dX4_keepValue_23 rfl rfl ?_
    refine z_getI (x := (m1 136 3)) 27 dX4_keepValue_24 rfl f_RX4_28 ar_136 rfl ?_
    refine z_iconst 28 dX4_keepValue_27 rfl (by decide) ?_
    refine z_iadd (r := (wr ((m1 136 3) + 1))) 29 dX4_keepValue_28 rfl rfl ?_
    obtain ⟨m2, em2, hq⟩ := z_m hq
    refine z_putI 32 dX4_keepValue_29 rfl p_RX4_28 ar_136 em2 ?_
    cases hq
    exact z_return rfl dX4_keepValue_32
set_option maxRecDepth 100000 in
set_option maxHeartbeats 4000000 in
theorem Q_qR_readDigit {g : yG} {a : Nat → Nat} {μ : zM}  {ν : zM}  (hq : qR_readDigit μ = some ν) : zC g a mX4_readDigit 1 0 0 [zr 136, zr 138] μ (.inl none) ν := by
  unfold qR_readDigit at hq
  refine z_of (L := [some (zr 136), some (zr 138), none]) pl_RX4 rfl (zc_of rfl) rfl rfl ?_
  refine z_aload_n 1 dX4_readDigit_0 rfl rfl ?_
  refine z_aload_n 2 dX4_readDigit_1 rfl rfl ?_
  refine z_getI (x := (μ 136 0)) 5 dX4_readDigit_2 rfl f_RX4_9 ar_136 rfl ?_
  obtain ⟨a1, h1, hq⟩ := z_b hq
  refine z_callV1 (as := [zi (μ 136 0)]) (S := []) 8 dX4_readDigit_5 rfl (Q_qX_digitAt zTx_138 h1) kX8_digitAt ⟨_, _, rfl⟩ ar_138 l_RX4_95 rfl rfl rfl rfl rfl rfl rfl ?_
  refine z_istore_n (L' := [some (zr 136), some (zr 138), some (zi a1)]) 9 dX4_readDigit_8 rfl rfl rfl rfl ?_
  refine z_iload_n 10 dX4_readDigit_9 rfl rfl ?_
  refine z_iconst 11 dX4_readDigit_10 rfl (by decide) ?_
  refine z_icmp_ne 22 14 dX4_readDigit_11 rfl rfl (fun hc => ?_) (fun hc => ?_)
  · replace hq := z_in hq hc
    refine z_aload_n 23 dX4_readDigit_22 rfl rfl ?_
    refine z_dup 24 dX4_readDigit_23 rfl rfl ?_
    refine z_getI (x := (μ 136 0)) 27 dX4_readDigit_24 rfl f_RX4_9 ar_136 rfl ?_
    refine z_iconst 28 dX4_readDigit_27 rfl (by decide) ?_
    refine z_iadd (r := (wr ((μ 136 0) + 1))) 29 dX4_readDigit_28 rfl rfl ?_
    obtain ⟨m2, em2, hq⟩ := z_m hq
    refine z_putI 32 dX4_readDigit_29 rfl p_RX4_9 ar_136 em2 ?_
    refine z_aload_n 33 dX4_readDigit_32 rfl rfl ?_
    refine z_iload_n 34 dX4_readDigit_33 rfl rfl ?_
    obtain ⟨m3, h3, hq⟩ := z_b hq
    refine z_callV0 (as := [zi a1]) (S := []) 37 dX4_readDigit_34 rfl (Q_qR_keepValue  h3) kX4_keepValue ⟨_, _, rfl⟩ ar_136 l_RX4_91 rfl rfl rfl rfl rfl rfl rfl ?_
    cases hq
    exact z_return rfl dX4_readDigit_37
  · replace hq := z_ip hq hc
    refine z_aload_n 15 dX4_readDigit_14 rfl rfl ?_
    refine z_iconst 16 dX4_readDigit_15 rfl (by decide) ?_
    obtain ⟨m4, em4, hq⟩ := z_m hq
    refine z_putZ 19 dX4_readDigit_16 rfl p_RX4_31 ar_136 (by decide) em4 ?_
    refine z_goto 37 dX4_readDigit_19 rfl ?_
    cases hq
    exact z_return rfl dX4_readDigit_37
set_option maxRecDepth 100000 in
set_option maxHeartbeats 4000000 in
theorem J_qR_readNumber_j30 {g : yG} {a : Nat → Nat} {μ : zM} {kc ks : Nat} {ν : zM}   (hq : qR_readNumber_j30 μ = some ν) : Z g a mX4_readNumber 2 kc ks 30 [some (zr 136), some (zr 138), none, none] [] μ (.inl none) ν := by
  unfold qR_readNumber_j30 at hq
  refine z_aload_n 31 dX4_readNumber_30 rfl rfl ?_
  refine z_aload_n 32 dX4_readNumber_31 rfl rfl ?_
  obtain ⟨m3, h3, hq⟩ := z_b hq
  refine z_callV0 (as := [zr 138]) (S := []) 35 dX4_readNumber_32 rfl (Q_qR_readDigit  h3) kX4_readDigit ⟨_, _, rfl⟩ ar_136 l_RX4_85 rfl rfl rfl rfl rfl rfl rfl ?_
  refine z_goto 58 dX4_readNumber_35 rfl ?_
  cases hq
  exact z_return rfl dX4_readNumber_58
set_option maxRecDepth 100000 in
set_option maxHeartbeats 4000000 in
theorem Q_qR_readNumber {g : yG} {a : Nat → Nat} {μ : zM}  {ν : zM}  (hq : qR_readNumber μ = some ν) : zC g a mX4_readNumber 2 0 0 [zr 136, zr 138] μ (.inl none) ν := by
  unfold qR_readNumber at hq
  refine z_of (L := [some (zr 136), some (zr 138), none, none]) pl_RX4 rfl (zc_of rfl) rfl rfl ?_
  refine z_aload_n 1 dX4_readNumber_0 rfl rfl ?_
  refine z_aload_n 2 dX4_readNumber_1 rfl rfl ?_
  refine z_getI (x := (μ 136 0)) 5 dX4_readNumber_2 rfl f_RX4_9 ar_136 rfl ?_
  obtain ⟨a1, h1, hq⟩ := z_b hq
  refine z_callV1 (as := [zi (μ 136 0)]) (S := []) 8 dX4_readNumber_5 rfl (Q_qX_digitAt zTx_138 h1) kX8_digitAt ⟨_, _, rfl⟩ ar_138 l_RX4_95 rfl rfl rfl rfl rfl rfl rfl ?_
  refine z_istore_n (L' := [some (zr 136), some (zr 138), some (zi a1), none]) 9 dX4_readNumber_8 rfl rfl rfl rfl ?_
  refine z_aload_n 10 dX4_readNumber_9 rfl rfl ?_
  refine z_aload_n 11 dX4_readNumber_10 rfl rfl ?_
  refine z_getI (x := (μ 136 0)) 14 dX4_readNumber_11 rfl f_RX4_9 ar_136 rfl ?_
  refine z_iconst 15 dX4_readNumber_14 rfl (by decide) ?_
  refine z_iadd (r := (wr ((μ 136 0) + 1))) 16 dX4_readNumber_15 rfl rfl ?_
  obtain ⟨a2, h2, hq⟩ := z_b hq
  refine z_callV1 (as := [zi (wr ((μ 136 0) + 1))]) (S := []) 19 dX4_readNumber_16 rfl (Q_qX_digitAt zTx_138 h2) kX8_digitAt ⟨_, _, rfl⟩ ar_138 l_RX4_95 rfl rfl rfl rfl rfl rfl rfl ?_
  refine z_istore_n (L' := [some (zr 136), some (zr 138), some (zi a1), some (zi a2)]) 20 dX4_readNumber_19 rfl rfl rfl rfl ?_
  refine z_iload_n 21 dX4_readNumber_20 rfl rfl ?_
  refine z_iconst 22 dX4_readNumber_21 rfl (by decide) ?_
  refine z_icmp_eq 30 25 dX4_readNumber_22 rfl rfl (fun hc => ?_) (fun hc => ?_)
  · replace hq := z_ip hq hc
    exact Z.sub (zle_s (zle_s (zle_n (zle_n zle_nil)))) (J_qR_readNumber_j30 hq)
  · replace hq := z_in hq hc
    refine z_iload_n 26 dX4_readNumber_25 rfl rfl ?_
    refine z_iconst 27 dX4_readNumber_26 rfl (by decide) ?_
    refine z_icmp_ne 38 30 dX4_readNumber_27 rfl rfl (fun hc => ?_) (fun hc => ?_)
    · replace hq := z_in hq hc
      refine z_aload_n 39 dX4_readNumber_38 rfl rfl ?_
      refine z_dup 40 dX4_readNumber_39 rfl rfl ?_
      refine z_getI (x := (μ 136 0)) 43 dX4_readNumber_40 rfl f_RX4_9 ar_136 rfl ?_
      refine z_iconst 44 dX4_readNumber_43 rfl (by decide) ?_
      refine z_iadd (r := (wr ((μ 136 0) + 2))) 45 dX4_readNumber_44 rfl rfl ?_
      obtain ⟨m4, em4, hq⟩ := z_m hq
      refine z_putI 48 dX4_readNumber_45 rfl p_RX4_9 ar_136 em4 ?_
      refine z_aload_n 49 dX4_readNumber_48 rfl rfl ?_
      refine z_bipush 51 dX4_readNumber_49 rfl (by decide) (by decide) ?_
      refine z_iload_n 52 dX4_readNumber_51 rfl rfl ?_
      refine z_imul (r := (wr (10 * a1))) 53 dX4_readNumber_52 rfl rfl ?_
      refine z_iload_n 54 dX4_readNumber_53 rfl rfl ?_
      refine z_iadd (r := (wr ((wr (10 * a1)) + a2))) 55 dX4_readNumber_54 rfl rfl ?_
      obtain ⟨m5, h5, hq⟩ := z_b hq
      refine z_callV0 (as := [zi (wr ((wr (10 * a1)) + a2))]) (S := []) 58 dX4_readNumber_55 rfl (Q_qR_keepValue  h5) kX4_keepValue ⟨_, _, rfl⟩ ar_136 l_RX4_91 rfl rfl rfl rfl rfl rfl rfl ?_
      cases hq
      exact z_return rfl dX4_readNumber_58
    · replace hq := z_ip hq hc
      exact Z.sub (zle_s (zle_s (zle_n (zle_n zle_nil)))) (J_qR_readNumber_j30 hq)
set_option maxRecDepth 100000 in
set_option maxHeartbeats 4000000 in
theorem Q_qR_readPart {g : yG} {a : Nat → Nat} {μ : zM} {v2 : Int} {ν : zM}  (hq : qR_readPart μ v2 = some ν) : zC g a mX4_readPart 3 0 0 [zr 136, zr 138, zi v2] μ (.inl none) ν := by
  unfold qR_readPart at hq
  refine z_of (L := [some (zr 136), some (zr 138), some (zi v2)]) pl_RX4 rfl (zc_of rfl) rfl rfl ?_
  refine z_iload_n 1 dX4_readPart_0 rfl rfl ?_
  refine z_bipush 3 dX4_readPart_1 rfl (by decide) (by decide) ?_
  refine z_icmp_ne 14 6 dX4_readPart_3 rfl rfl (fun hc => ?_) (fun hc => ?_)
  · replace hq := z_in hq hc
    refine z_iload_n 15 dX4_readPart_14 rfl rfl ?_
    refine z_bipush 17 dX4_readPart_15 rfl (by decide) (by decide) ?_
    refine z_icmp_ne 28 20 dX4_readPart_17 rfl rfl (fun hc => ?_) (fun hc => ?_)
    · replace hq := z_in hq hc
      refine z_aload_n 29 dX4_readPart_28 rfl rfl ?_
      refine z_aload_n 30 dX4_readPart_29 rfl rfl ?_
      refine z_iload_n 31 dX4_readPart_30 rfl rfl ?_
      obtain ⟨m1, h1, hq⟩ := z_b hq
      refine z_callV0 (as := [zr 138, zi v2]) (S := []) 34 dX4_readPart_31 rfl (Q_qR_readSign  h1) kX4_readSign ⟨_, _, rfl⟩ ar_136 l_RX4_47 rfl rfl rfl rfl rfl rfl rfl ?_
      cases hq
      exact z_return rfl dX4_readPart_34
    · replace hq := z_ip hq hc
      refine z_aload_n 21 dX4_readPart_20 rfl rfl ?_
      refine z_aload_n 22 dX4_readPart_21 rfl rfl ?_
      obtain ⟨m2, h2, hq⟩ := z_b hq
      refine z_callV0 (as := [zr 138]) (S := []) 25 dX4_readPart_22 rfl (Q_qR_readNumber  h2) kX4_readNumber ⟨_, _, rfl⟩ ar_136 l_RX4_88 rfl rfl rfl rfl rfl rfl rfl ?_
      refine z_goto 34 dX4_readPart_25 rfl ?_
      cases hq
      exact z_return rfl dX4_readPart_34
  · replace hq := z_ip hq hc
    refine z_aload_n 7 dX4_readPart_6 rfl rfl ?_
    refine z_aload_n 8 dX4_readPart_7 rfl rfl ?_
    obtain ⟨m3, h3, hq⟩ := z_b hq
    refine z_callV0 (as := [zr 138]) (S := []) 11 dX4_readPart_8 rfl (Q_qR_readDigit  h3) kX4_readDigit ⟨_, _, rfl⟩ ar_136 l_RX4_85 rfl rfl rfl rfl rfl rfl rfl ?_
    refine z_goto 34 dX4_readPart_11 rfl ?_
    cases hq
    exact z_return rfl dX4_readPart_34
set_option maxRecDepth 100000 in
set_option maxHeartbeats 4000000 in
theorem Q_qR_readMonths {g : yG} {a : Nat → Nat} {μ : zM}  {ν : zM}  (hq : qR_readMonths μ = some ν) : zC g a mX4_readMonths 3 0 0 [zr 136, zr 138] μ (.inl none) ν := by
  unfold qR_readMonths at hq
  refine z_of (L := [some (zr 136), some (zr 138)]) pl_RX4 rfl (zc_of rfl) rfl rfl ?_
  refine z_aload_n 1 dX4_readMonths_0 rfl rfl ?_
  refine z_aload_n 2 dX4_readMonths_1 rfl rfl ?_
  refine z_getI (x := (μ 136 0)) 5 dX4_readMonths_2 rfl f_RX4_9 ar_136 rfl ?_
  refine z_bipush 7 dX4_readMonths_5 rfl (by decide) (by decide) ?_
  obtain ⟨a1, h1, hq⟩ := z_b hq
  refine z_callV1 (as := [zi (μ 136 0), zi 32]) (S := []) 10 dX4_readMonths_7 rfl (Q_qX_hasAt zTx_138 h1) kX8_hasAt ⟨_, _, rfl⟩ ar_138 l_RX4_81 rfl rfl rfl rfl rfl rfl rfl ?_
  refine z_if_eq 31 13 dX4_readMonths_10 rfl rfl (fun hc => ?_) (fun hc => ?_)
  · replace hq := z_ip hq hc
    refine z_aload_n 32 dX4_readMonths_31 rfl rfl ?_
    refine z_iconst 33 dX4_readMonths_32 rfl (by decide) ?_
    obtain ⟨m2, h2, hq⟩ := z_b hq
    refine z_callV0 (as := [zi 1]) (S := []) 36 dX4_readMonths_33 rfl (Q_qR_keepValue  h2) kX4_keepValue ⟨_, _, rfl⟩ ar_136 l_RX4_91 rfl rfl rfl rfl rfl rfl rfl ?_
    cases hq
    exact z_return rfl dX4_readMonths_36
  · replace hq := z_in hq hc
    refine z_aload_n 14 dX4_readMonths_13 rfl rfl ?_
    refine z_dup 15 dX4_readMonths_14 rfl rfl ?_
    refine z_getI (x := (μ 136 0)) 18 dX4_readMonths_15 rfl f_RX4_9 ar_136 rfl ?_
    refine z_iconst 19 dX4_readMonths_18 rfl (by decide) ?_
    refine z_iadd (r := (wr ((μ 136 0) + 1))) 20 dX4_readMonths_19 rfl rfl ?_
    obtain ⟨m3, em3, hq⟩ := z_m hq
    refine z_putI 23 dX4_readMonths_20 rfl p_RX4_9 ar_136 em3 ?_
    refine z_aload_n 24 dX4_readMonths_23 rfl rfl ?_
    refine z_aload_n 25 dX4_readMonths_24 rfl rfl ?_
    obtain ⟨m4, h4, hq⟩ := z_b hq
    refine z_callV0 (as := [zr 138]) (S := []) 28 dX4_readMonths_25 rfl (Q_qR_readNumber  h4) kX4_readNumber ⟨_, _, rfl⟩ ar_136 l_RX4_88 rfl rfl rfl rfl rfl rfl rfl ?_
    refine z_goto 36 dX4_readMonths_28 rfl ?_
    cases hq
    exact z_return rfl dX4_readMonths_36
set_option maxRecDepth 100000 in
set_option maxHeartbeats 4000000 in
theorem L_qR_readCommand_l39 {g : yG} {a : Nat → Nat} {ν : zM} {o : zO} {kc ks : Nat} {v3 : Int} {R : zM}   (he : ∀ (m : zM), R = m → Z g a mX4_readCommand 5 kc ks 72 [some (zr 136), some (zr 138), none, some (zsg v3), none] [] m o ν) : ∀ (n : Nat) (μ : zM) (v4 : Int), qR_readCommand_l39 v3 n μ v4 = some R → Z g a mX4_readCommand 5 kc ks 39 [some (zr 136), some (zr 138), none, some (zsg v3), some (zi v4)] [] μ o ν := by
  intro n
  induction n with
  | zero => intro μ v4 hq; cases hq
  | succ n ih =>
    intro μ v4 hq
    rw [qR_readCommand_l39] at hq
    refine z_iload 41 dX4_readCommand_39 rfl rfl ?_
    refine z_aload_n 42 dX4_readCommand_41 rfl rfl ?_
    obtain ⟨hg42, hq⟩ := z_g hq
    refine z_strlen 45 dX4_readCommand_42 rfl hg42 (yb 1218 (by decide +kernel) rfl) rfl rfl rfl ?_
    refine z_icmp_ge 72 48 dX4_readCommand_45 rfl rfl (fun hc => ?_) (fun hc => ?_)
    · replace hq := z_in hq (Int.not_lt.mpr hc)
      exact Z.sub (zle_s (zle_s (zle_n (zle_s (zle_n zle_nil))))) (he _ (Option.some.inj hq).symm)
    · replace hq := z_ip hq hc
      refine z_aload_n 49 dX4_readCommand_48 rfl rfl ?_
      refine z_getI (x := (μ 136 4)) 52 dX4_readCommand_49 rfl f_RX4_31 ar_136 rfl ?_
      refine z_if_ne 72 55 dX4_readCommand_52 rfl rfl (fun hc => ?_) (fun hc => ?_)
      · replace hq := z_in hq hc
        exact Z.sub (zle_s (zle_s (zle_n (zle_s (zle_n zle_nil))))) (he _ (Option.some.inj hq).symm)
      · replace hq := z_ip hq hc
        refine z_aload_n 56 dX4_readCommand_55 rfl rfl ?_
        refine z_aload_n 57 dX4_readCommand_56 rfl rfl ?_
        refine z_aload_n 58 dX4_readCommand_57 rfl rfl ?_
        refine z_iload 60 dX4_readCommand_58 rfl rfl ?_
        obtain ⟨hg60, hq⟩ := z_g hq
        refine z_strat 63 dX4_readCommand_60 rfl hg60 (yb 1178 (by decide +kernel) rfl) rfl rfl rfl ?_
        obtain ⟨m2, h2, hq⟩ := z_b hq
        refine z_callV0 (as := [zr 138, zi (formAt v3 v4)]) (S := []) 66 dX4_readCommand_63 rfl (Q_qR_readPart  h2) kX4_readPart ⟨_, _, rfl⟩ ar_136 l_RX4_68 rfl rfl rfl rfl rfl rfl rfl ?_
        refine z_iinc (r := (wr (v4 + 1))) (L' := [some (zr 136), some (zr 138), none, some (zsg v3), some (zi (wr (v4 + 1)))]) 69 dX4_readCommand_66 rfl rfl rfl rfl rfl rfl ?_
        refine z_goto 39 dX4_readCommand_69 rfl ?_
        exact Z.sub (zle_s (zle_s (zle_n (zle_s (zle_s zle_nil))))) (ih _ _ hq)
set_option maxRecDepth 100000 in
set_option maxHeartbeats 4000000 in
theorem J_qR_readCommand_j11 {g : yG} {a : Nat → Nat} {μ : zM} {kc ks : Nat} {ν : zM}   (hq : qR_readCommand_j11 μ = some ν) : Z g a mX4_readCommand 5 kc ks 11 [some (zr 136), some (zr 138), none, none, none] [] μ (.inl none) ν := by
  unfold qR_readCommand_j11 at hq
  refine z_aload_n 12 dX4_readCommand_11 rfl rfl ?_
  refine z_getI (x := (μ 136 4)) 15 dX4_readCommand_12 rfl f_RX4_31 ar_136 rfl ?_
  refine z_if_ne 23 18 dX4_readCommand_15 rfl rfl (fun hc => ?_) (fun hc => ?_)
  · replace hq := z_in hq hc
    refine z_aload_n 24 dX4_readCommand_23 rfl rfl ?_
    refine z_iconst 25 dX4_readCommand_24 rfl (by decide) ?_
    obtain ⟨m1, em1, hq⟩ := z_m hq
    refine z_putI 28 dX4_readCommand_25 rfl p_RX4_28 ar_136 em1 ?_
    refine z_aload_n 29 dX4_readCommand_28 rfl rfl ?_
    refine z_getE (x := (m1 136 1)) 32 dX4_readCommand_29 rfl f_RX4_21 ar_136 rfl ?_
    obtain ⟨hg32, hq⟩ := z_g hq
    refine z_form 35 dX4_readCommand_32 rfl hg32 (yb 1865 (by decide +kernel) rfl) ?_
    refine z_astore_n (L' := [some (zr 136), some (zr 138), none, some (zsg (m1 136 1)), none]) 36 dX4_readCommand_35 rfl rfl rfl rfl ?_
    refine z_iconst 37 dX4_readCommand_36 rfl (by decide) ?_
    refine z_istore (L' := [some (zr 136), some (zr 138), none, some (zsg (m1 136 1)), some (zi 0)]) 39 dX4_readCommand_37 rfl rfl rfl rfl ?_
    obtain ⟨m3, h3, hq⟩ := z_b hq
    refine Z.sub (zle_s (zle_s (zle_n (zle_s (zle_s zle_nil))))) (L_qR_readCommand_l39  (R := m3) (fun _ e => ?_) _ _ _ h3)
    cases e
    refine z_aload_n 73 dX4_readCommand_72 rfl rfl ?_
    refine z_getE (x := (m3 136 1)) 76 dX4_readCommand_73 rfl f_RX4_21 ar_136 rfl ?_
    refine z_enumK (x := 7) 79 dX4_readCommand_76 rfl (by decide) (yb 1246 (by decide +kernel) rfl) ?_
    obtain ⟨hg79, hq⟩ := z_g hq
    refine z_acmpK 94 82 dX4_readCommand_79 rfl rfl hg79 (by decide) (fun hc => ?_) (fun hc => ?_)
    · replace hq := z_in hq hc
      cases hq
      exact z_return rfl dX4_readCommand_94
    · replace hq := z_ip hq hc
      refine z_aload_n 83 dX4_readCommand_82 rfl rfl ?_
      refine z_getI (x := (m3 136 4)) 86 dX4_readCommand_83 rfl f_RX4_31 ar_136 rfl ?_
      refine z_if_ne 94 89 dX4_readCommand_86 rfl rfl (fun hc => ?_) (fun hc => ?_)
      · replace hq := z_in hq hc
        cases hq
        exact z_return rfl dX4_readCommand_94
      · replace hq := z_ip hq hc
        refine z_aload_n 90 dX4_readCommand_89 rfl rfl ?_
        refine z_aload_n 91 dX4_readCommand_90 rfl rfl ?_
        obtain ⟨m4, h4, hq⟩ := z_b hq
        refine z_callV0 (as := [zr 138]) (S := []) 94 dX4_readCommand_91 rfl (Q_qR_readMonths  h4) kX4_readMonths ⟨_, _, rfl⟩ ar_136 l_RX4_74 rfl rfl rfl rfl rfl rfl rfl ?_
        cases hq
        exact z_return rfl dX4_readCommand_94
  · replace hq := z_ip hq hc
    refine z_aload_n 19 dX4_readCommand_18 rfl rfl ?_
    refine z_aload_n 20 dX4_readCommand_19 rfl rfl ?_
    obtain ⟨m5, h5, hq⟩ := z_b hq
    refine z_callV0 (as := [zr 138]) (S := []) 23 dX4_readCommand_20 rfl (Q_qR_chooseKind  h5) kX4_chooseKind ⟨_, _, rfl⟩ ar_136 l_RX4_51 rfl rfl rfl rfl rfl rfl rfl ?_
    refine z_aload_n 24 dX4_readCommand_23 rfl rfl ?_
    refine z_iconst 25 dX4_readCommand_24 rfl (by decide) ?_
    obtain ⟨m6, em6, hq⟩ := z_m hq
    refine z_putI 28 dX4_readCommand_25 rfl p_RX4_28 ar_136 em6 ?_
    refine z_aload_n 29 dX4_readCommand_28 rfl rfl ?_
    refine z_getE (x := (m6 136 1)) 32 dX4_readCommand_29 rfl f_RX4_21 ar_136 rfl ?_
    obtain ⟨hg32, hq⟩ := z_g hq
    refine z_form 35 dX4_readCommand_32 rfl hg32 (yb 1865 (by decide +kernel) rfl) ?_
    refine z_astore_n (L' := [some (zr 136), some (zr 138), none, some (zsg (m6 136 1)), none]) 36 dX4_readCommand_35 rfl rfl rfl rfl ?_
    refine z_iconst 37 dX4_readCommand_36 rfl (by decide) ?_
    refine z_istore (L' := [some (zr 136), some (zr 138), none, some (zsg (m6 136 1)), some (zi 0)]) 39 dX4_readCommand_37 rfl rfl rfl rfl ?_
    obtain ⟨m7, h7, hq⟩ := z_b hq
    refine Z.sub (zle_s (zle_s (zle_n (zle_s (zle_s zle_nil))))) (L_qR_readCommand_l39  (R := m7) (fun _ e => ?_) _ _ _ h7)
    cases e
    refine z_aload_n 73 dX4_readCommand_72 rfl rfl ?_
    refine z_getE (x := (m7 136 1)) 76 dX4_readCommand_73 rfl f_RX4_21 ar_136 rfl ?_
    refine z_enumK (x := 7) 79 dX4_readCommand_76 rfl (by decide) (yb 1246 (by decide +kernel) rfl) ?_
    obtain ⟨hg79, hq⟩ := z_g hq
    refine z_acmpK 94 82 dX4_readCommand_79 rfl rfl hg79 (by decide) (fun hc => ?_) (fun hc => ?_)
    · replace hq := z_in hq hc
      cases hq
      exact z_return rfl dX4_readCommand_94
    · replace hq := z_ip hq hc
      refine z_aload_n 83 dX4_readCommand_82 rfl rfl ?_
      refine z_getI (x := (m7 136 4)) 86 dX4_readCommand_83 rfl f_RX4_31 ar_136 rfl ?_
      refine z_if_ne 94 89 dX4_readCommand_86 rfl rfl (fun hc => ?_) (fun hc => ?_)
      · replace hq := z_in hq hc
        cases hq
        exact z_return rfl dX4_readCommand_94
      · replace hq := z_ip hq hc
        refine z_aload_n 90 dX4_readCommand_89 rfl rfl ?_
        refine z_aload_n 91 dX4_readCommand_90 rfl rfl ?_
        obtain ⟨m8, h8, hq⟩ := z_b hq
        refine z_callV0 (as := [zr 138]) (S := []) 94 dX4_readCommand_91 rfl (Q_qR_readMonths  h8) kX4_readMonths ⟨_, _, rfl⟩ ar_136 l_RX4_74 rfl rfl rfl rfl rfl rfl rfl ?_
        cases hq
        exact z_return rfl dX4_readCommand_94
set_option maxRecDepth 100000 in
set_option maxHeartbeats 4000000 in
theorem Q_qR_readCommand {g : yG} {a : Nat → Nat} {μ : zM} {v2 : Int} {ν : zM}  (hq : qR_readCommand μ v2 = some ν) : zC g a mX4_readCommand 5 0 0 [zr 136, zr 138, zi v2] μ (.inl none) ν := by
  unfold qR_readCommand at hq
  refine z_of (L := [some (zr 136), some (zr 138), some (zi v2), none, none]) pl_RX4 rfl (zc_of rfl) rfl rfl ?_
  refine z_iload_n 1 dX4_readCommand_0 rfl rfl ?_
  refine z_if_le 11 4 dX4_readCommand_1 rfl rfl (fun hc => ?_) (fun hc => ?_)
  · replace hq := z_in hq (Int.not_lt.mpr hc)
    exact Z.sub (zle_s (zle_s (zle_n (zle_n (zle_n zle_nil))))) (J_qR_readCommand_j11 hq)
  · replace hq := z_ip hq hc
    refine z_aload_n 5 dX4_readCommand_4 rfl rfl ?_
    refine z_aload_n 6 dX4_readCommand_5 rfl rfl ?_
    refine z_bipush 8 dX4_readCommand_6 rfl (by decide) (by decide) ?_
    obtain ⟨m9, h9, hq⟩ := z_b hq
    refine z_callV0 (as := [zr 138, zi 59]) (S := []) 11 dX4_readCommand_8 rfl (Q_qR_readSign  h9) kX4_readSign ⟨_, _, rfl⟩ ar_136 l_RX4_47 rfl rfl rfl rfl rfl rfl rfl ?_
    exact Z.sub (zle_s (zle_s (zle_n (zle_n (zle_n zle_nil))))) (J_qR_readCommand_j11 hq)
set_option maxRecDepth 100000 in
set_option maxHeartbeats 4000000 in
theorem L_qR_countCommands_l6 {g : yG} {a : Nat → Nat} {ν : zM} {o : zO} {kc ks : Nat}  {R : (Int) × zM}   (he : ∀ (tz : Int) (m : zM), R = (tz, m) → Z g a mX4_countCommands 6 kc ks 40 [some (zr 136), some (zr 138), some (zi tz)] [] m o ν) : ∀ (n : Nat) (μ : zM) (v2 : Int), qR_countCommands_l6 n μ v2 = some R → Z g a mX4_countCommands 6 kc ks 6 [some (zr 136), some (zr 138), some (zi v2)] [] μ o ν := by
  intro n
  induction n with
  | zero => intro μ v2 hq; cases hq
  | succ n ih =>
    intro μ v2 hq
    rw [qR_countCommands_l6] at hq
    refine z_aload_n 7 dX4_countCommands_6 rfl rfl ?_
    refine z_aload_n 8 dX4_countCommands_7 rfl rfl ?_
    refine z_iload_n 9 dX4_countCommands_8 rfl rfl ?_
    obtain ⟨m2, h2, hq⟩ := z_b hq
    refine z_callV0 (as := [zr 138, zi v2]) (S := []) 12 dX4_countCommands_9 rfl (Q_qR_readCommand  h2) kX4_readCommand ⟨_, _, rfl⟩ ar_136 l_RX4_38 rfl rfl rfl rfl rfl rfl rfl ?_
    refine z_iinc (r := (wr (v2 + 1))) (L' := [some (zr 136), some (zr 138), some (zi (wr (v2 + 1)))]) 15 dX4_countCommands_12 rfl rfl rfl rfl rfl rfl ?_
    refine z_aload_n 16 dX4_countCommands_15 rfl rfl ?_
    refine z_getI (x := (m2 136 4)) 19 dX4_countCommands_16 rfl f_RX4_31 ar_136 rfl ?_
    refine z_if_ne 40 22 dX4_countCommands_19 rfl rfl (fun hc => ?_) (fun hc => ?_)
    · replace hq := z_in hq hc
      exact Z.sub (zle_s (zle_s (zle_s zle_nil))) (he _ _ (Option.some.inj hq).symm)
    · replace hq := z_ip hq hc
      refine z_aload_n 23 dX4_countCommands_22 rfl rfl ?_
      refine z_getI (x := (m2 136 0)) 26 dX4_countCommands_23 rfl f_RX4_9 ar_136 rfl ?_
      refine z_aload_n 27 dX4_countCommands_26 rfl rfl ?_
      refine z_getI (x := (m2 138 1)) 30 dX4_countCommands_27 rfl f_RX4_42 ar_138 rfl ?_
      refine z_icmp_ge 40 33 dX4_countCommands_30 rfl rfl (fun hc => ?_) (fun hc => ?_)
      · replace hq := z_in hq (Int.not_lt.mpr hc)
        exact Z.sub (zle_s (zle_s (zle_s zle_nil))) (he _ _ (Option.some.inj hq).symm)
      · replace hq := z_ip hq hc
        refine z_iload_n 34 dX4_countCommands_33 rfl rfl ?_
        refine z_sipush 37 dX4_countCommands_34 rfl (by decide) (by decide) ?_
        refine z_icmp_le 6 40 dX4_countCommands_37 rfl rfl (fun hc => ?_) (fun hc => ?_)
        · replace hq := z_in hq (Int.not_lt.mpr hc)
          exact Z.sub (zle_s (zle_s (zle_s zle_nil))) (ih _ _ hq)
        · replace hq := z_ip hq hc
          exact Z.sub (zle_s (zle_s (zle_s zle_nil))) (he _ _ (Option.some.inj hq).symm)
set_option maxRecDepth 100000 in
set_option maxHeartbeats 4000000 in
theorem Q_qR_countCommands {g : yG} {a : Nat → Nat} {μ : zM}  {r : Int} {ν : zM}  (hq : qR_countCommands μ = some (r, ν)) : zC g a mX4_countCommands 6 0 0 [zr 136, zr 138] μ (.inl (some (zi r))) ν := by
  unfold qR_countCommands at hq
  refine z_of (L := [some (zr 136), some (zr 138), none]) pl_RX4 rfl (zc_of rfl) rfl rfl ?_
  refine z_aload_n 1 dX4_countCommands_0 rfl rfl ?_
  obtain ⟨m1, h1, hq⟩ := z_b hq
  refine z_callV0 (as := []) (S := []) 4 dX4_countCommands_1 rfl (Q_qR_rewind  h1) kX4_rewind ⟨_, _, rfl⟩ ar_136 l_RX4_35 rfl rfl rfl rfl rfl rfl rfl ?_
  refine z_iconst 5 dX4_countCommands_4 rfl (by decide) ?_
  refine z_istore_n (L' := [some (zr 136), some (zr 138), some (zi 0)]) 6 dX4_countCommands_5 rfl rfl rfl rfl ?_
  obtain ⟨t3, m3, h3, hq⟩ := bnd2_some hq
  refine Z.sub (zle_s (zle_s (zle_s zle_nil))) (L_qR_countCommands_l6  (R := (t3, m3)) (fun _ _ e => ?_) _ _ _ h3)
  cases e
  refine z_aload_n 41 dX4_countCommands_40 rfl rfl ?_
  refine z_getI (x := (m3 136 4)) 44 dX4_countCommands_41 rfl f_RX4_31 ar_136 rfl ?_
  refine z_if_eq 51 47 dX4_countCommands_44 rfl rfl (fun hc => ?_) (fun hc => ?_)
  · replace hq := z_ip hq hc
    refine z_iload_n 52 dX4_countCommands_51 rfl rfl ?_
    cases hq
    exact z_ireturn rfl dX4_countCommands_52
  · replace hq := z_in hq hc
    refine z_iconst 48 dX4_countCommands_47 rfl (by decide) ?_
    refine z_goto 52 dX4_countCommands_48 rfl ?_
    cases hq
    exact z_ireturn rfl dX4_countCommands_52
set_option maxRecDepth 100000 in
set_option maxHeartbeats 4000000 in
theorem J_qT_refusalOfCommand_j56 {g : yG} {a : Nat → Nat} {μ : zM} {kc ks : Nat} {r : Int}   (hq : qT_refusalOfCommand_j56 μ = some r) : Z g a mX9_refusalOfCommand 2 kc ks 56 [some (zr 0), some (zr 137)] [] μ (.inl (some (zre r))) μ := by
  unfold qT_refusalOfCommand_j56 at hq
  refine z_aload_n 57 dX9_refusalOfCommand_56 rfl rfl ?_
  refine z_getR (e := 1) (r := 1) 60 dX9_refusalOfCommand_57 rfl f_RX9_12 ar_0 rfl ar_1.1 ?_
  refine z_aload_n 61 dX9_refusalOfCommand_60 rfl rfl ?_
  refine z_iconst 62 dX9_refusalOfCommand_61 rfl (by decide) ?_
  refine z_iaload (x := (μ 137 0)) 63 dX9_refusalOfCommand_62 rfl ar_137 ⟨by decide, by decide⟩ rfl ?_
  refine z_aload_n 64 dX9_refusalOfCommand_63 rfl rfl ?_
  refine z_iconst 65 dX9_refusalOfCommand_64 rfl (by decide) ?_
  refine z_iaload (x := (μ 137 1)) 66 dX9_refusalOfCommand_65 rfl ar_137 ⟨by decide, by decide⟩ rfl ?_
  obtain ⟨a1, h1, hq⟩ := z_b hq
  refine z_callV1 (as := [zi (μ 137 0), zi (μ 137 1)]) (S := []) 69 dX9_refusalOfCommand_66 rfl (Q_qH_refusalOfFlat zH_1 h1) kX2_refusalOfFlat ⟨_, _, rfl⟩ ar_1 l_RX9_71 rfl rfl rfl rfl rfl rfl rfl ?_
  cases hq
  exact z_areturn rfl (Or.inl ⟨_, rfl⟩) dX9_refusalOfCommand_69
set_option maxRecDepth 100000 in
set_option maxHeartbeats 4000000 in
theorem J_qT_refusalOfCommand_j70 {g : yG} {a : Nat → Nat} {μ : zM} {kc ks : Nat} {r : Int}   (hq : qT_refusalOfCommand_j70 μ = some r) : Z g a mX9_refusalOfCommand 2 kc ks 70 [some (zr 0), some (zr 137)] [] μ (.inl (some (zre r))) μ := by
  unfold qT_refusalOfCommand_j70 at hq
  refine z_aload_n 71 dX9_refusalOfCommand_70 rfl rfl ?_
  refine z_getR (e := 1) (r := 1) 74 dX9_refusalOfCommand_71 rfl f_RX9_12 ar_0 rfl ar_1.1 ?_
  refine z_aload_n 75 dX9_refusalOfCommand_74 rfl rfl ?_
  refine z_iconst 76 dX9_refusalOfCommand_75 rfl (by decide) ?_
  refine z_iaload (x := (μ 137 0)) 77 dX9_refusalOfCommand_76 rfl ar_137 ⟨by decide, by decide⟩ rfl ?_
  refine z_aload_n 78 dX9_refusalOfCommand_77 rfl rfl ?_
  refine z_iconst 79 dX9_refusalOfCommand_78 rfl (by decide) ?_
  refine z_iaload (x := (μ 137 1)) 80 dX9_refusalOfCommand_79 rfl ar_137 ⟨by decide, by decide⟩ rfl ?_
  refine z_aload_n 81 dX9_refusalOfCommand_80 rfl rfl ?_
  refine z_iconst 82 dX9_refusalOfCommand_81 rfl (by decide) ?_
  refine z_iaload (x := (μ 137 2)) 83 dX9_refusalOfCommand_82 rfl ar_137 ⟨by decide, by decide⟩ rfl ?_
  refine z_aload_n 84 dX9_refusalOfCommand_83 rfl rfl ?_
  refine z_iconst 85 dX9_refusalOfCommand_84 rfl (by decide) ?_
  refine z_iaload (x := (μ 137 3)) 86 dX9_refusalOfCommand_85 rfl ar_137 ⟨by decide, by decide⟩ rfl ?_
  obtain ⟨a2, h2, hq⟩ := z_b hq
  refine z_callV1 (as := [zi (μ 137 0), zi (μ 137 1), zi (μ 137 2), zi (μ 137 3)]) (S := []) 89 dX9_refusalOfCommand_86 rfl (Q_qH_refusalOfTenant zH_1 h2) kX2_refusalOfTenant ⟨_, _, rfl⟩ ar_1 l_RX9_87 rfl rfl rfl rfl rfl rfl rfl ?_
  cases hq
  exact z_areturn rfl (Or.inl ⟨_, rfl⟩) dX9_refusalOfCommand_89
set_option maxRecDepth 100000 in
set_option maxHeartbeats 4000000 in
theorem J_qT_refusalOfCommand_j90 {g : yG} {a : Nat → Nat} {μ : zM} {kc ks : Nat} {r : Int}   (hq : qT_refusalOfCommand_j90 μ = some r) : Z g a mX9_refusalOfCommand 2 kc ks 90 [some (zr 0), some (zr 137)] [] μ (.inl (some (zre r))) μ := by
  unfold qT_refusalOfCommand_j90 at hq
  refine z_aload_n 91 dX9_refusalOfCommand_90 rfl rfl ?_
  refine z_getR (e := 1) (r := 1) 94 dX9_refusalOfCommand_91 rfl f_RX9_12 ar_0 rfl ar_1.1 ?_
  refine z_aload_n 95 dX9_refusalOfCommand_94 rfl rfl ?_
  refine z_iconst 96 dX9_refusalOfCommand_95 rfl (by decide) ?_
  refine z_iaload (x := (μ 137 0)) 97 dX9_refusalOfCommand_96 rfl ar_137 ⟨by decide, by decide⟩ rfl ?_
  refine z_aload_n 98 dX9_refusalOfCommand_97 rfl rfl ?_
  refine z_iconst 99 dX9_refusalOfCommand_98 rfl (by decide) ?_
  refine z_iaload (x := (μ 137 1)) 100 dX9_refusalOfCommand_99 rfl ar_137 ⟨by decide, by decide⟩ rfl ?_
  obtain ⟨a3, h3, hq⟩ := z_b hq
  refine z_callV1 (as := [zi (μ 137 0), zi (μ 137 1)]) (S := []) 103 dX9_refusalOfCommand_100 rfl (Q_qH_refusalOfMovingIn zH_1 h3) kX2_refusalOfMovingIn ⟨_, _, rfl⟩ ar_1 l_RX9_106 rfl rfl rfl rfl rfl rfl rfl ?_
  cases hq
  exact z_areturn rfl (Or.inl ⟨_, rfl⟩) dX9_refusalOfCommand_103
set_option maxRecDepth 100000 in
set_option maxHeartbeats 4000000 in
theorem J_qT_refusalOfCommand_j104 {g : yG} {a : Nat → Nat} {μ : zM} {kc ks : Nat} {r : Int}   (hq : qT_refusalOfCommand_j104 μ = some r) : Z g a mX9_refusalOfCommand 2 kc ks 104 [some (zr 0), some (zr 137)] [] μ (.inl (some (zre r))) μ := by
  unfold qT_refusalOfCommand_j104 at hq
  refine z_aload_n 105 dX9_refusalOfCommand_104 rfl rfl ?_
  refine z_getR (e := 1) (r := 1) 108 dX9_refusalOfCommand_105 rfl f_RX9_12 ar_0 rfl ar_1.1 ?_
  refine z_aload_n 109 dX9_refusalOfCommand_108 rfl rfl ?_
  refine z_iconst 110 dX9_refusalOfCommand_109 rfl (by decide) ?_
  refine z_iaload (x := (μ 137 0)) 111 dX9_refusalOfCommand_110 rfl ar_137 ⟨by decide, by decide⟩ rfl ?_
  obtain ⟨a4, h4, hq⟩ := z_b hq
  refine z_callV1 (as := [zi (μ 137 0)]) (S := []) 114 dX9_refusalOfCommand_111 rfl (Q_qH_refusalOfMovingOut zH_1 h4) kX2_refusalOfMovingOut ⟨_, _, rfl⟩ ar_1 l_RX9_112 rfl rfl rfl rfl rfl rfl rfl ?_
  cases hq
  exact z_areturn rfl (Or.inl ⟨_, rfl⟩) dX9_refusalOfCommand_114
set_option maxRecDepth 100000 in
set_option maxHeartbeats 4000000 in
theorem J_qT_refusalOfCommand_j115 {g : yG} {a : Nat → Nat} {μ : zM} {kc ks : Nat} {r : Int}   (hq : qT_refusalOfCommand_j115 μ = some r) : Z g a mX9_refusalOfCommand 2 kc ks 115 [some (zr 0), some (zr 137)] [] μ (.inl (some (zre r))) μ := by
  unfold qT_refusalOfCommand_j115 at hq
  refine z_aload_n 116 dX9_refusalOfCommand_115 rfl rfl ?_
  refine z_getR (e := 1) (r := 1) 119 dX9_refusalOfCommand_116 rfl f_RX9_12 ar_0 rfl ar_1.1 ?_
  refine z_aload_n 120 dX9_refusalOfCommand_119 rfl rfl ?_
  refine z_iconst 121 dX9_refusalOfCommand_120 rfl (by decide) ?_
  refine z_iaload (x := (μ 137 0)) 122 dX9_refusalOfCommand_121 rfl ar_137 ⟨by decide, by decide⟩ rfl ?_
  refine z_aload_n 123 dX9_refusalOfCommand_122 rfl rfl ?_
  refine z_iconst 124 dX9_refusalOfCommand_123 rfl (by decide) ?_
  refine z_iaload (x := (μ 137 1)) 125 dX9_refusalOfCommand_124 rfl ar_137 ⟨by decide, by decide⟩ rfl ?_
  obtain ⟨a5, h5, hq⟩ := z_b hq
  refine z_callV1 (as := [zi (μ 137 0), zi (μ 137 1)]) (S := []) 128 dX9_refusalOfCommand_125 rfl (Q_qH_refusalOfRent zH_1 h5) kX2_refusalOfRent ⟨_, _, rfl⟩ ar_1 l_RX9_118 rfl rfl rfl rfl rfl rfl rfl ?_
  cases hq
  exact z_areturn rfl (Or.inl ⟨_, rfl⟩) dX9_refusalOfCommand_128
set_option maxRecDepth 100000 in
set_option maxHeartbeats 4000000 in
theorem J_qT_refusalOfCommand_j129 {g : yG} {a : Nat → Nat} {μ : zM} {kc ks : Nat} {r : Int}   (hq : qT_refusalOfCommand_j129 μ = some r) : Z g a mX9_refusalOfCommand 2 kc ks 129 [some (zr 0), some (zr 137)] [] μ (.inl (some (zre r))) μ := by
  unfold qT_refusalOfCommand_j129 at hq
  refine z_aload_n 130 dX9_refusalOfCommand_129 rfl rfl ?_
  refine z_getR (e := 1) (r := 1) 133 dX9_refusalOfCommand_130 rfl f_RX9_12 ar_0 rfl ar_1.1 ?_
  refine z_aload_n 134 dX9_refusalOfCommand_133 rfl rfl ?_
  refine z_iconst 135 dX9_refusalOfCommand_134 rfl (by decide) ?_
  refine z_iaload (x := (μ 137 0)) 136 dX9_refusalOfCommand_135 rfl ar_137 ⟨by decide, by decide⟩ rfl ?_
  refine z_aload_n 137 dX9_refusalOfCommand_136 rfl rfl ?_
  refine z_iconst 138 dX9_refusalOfCommand_137 rfl (by decide) ?_
  refine z_iaload (x := (μ 137 1)) 139 dX9_refusalOfCommand_138 rfl ar_137 ⟨by decide, by decide⟩ rfl ?_
  obtain ⟨a6, h6, hq⟩ := z_b hq
  refine z_callV1 (as := [zi (μ 137 0), zi (μ 137 1)]) (S := []) 142 dX9_refusalOfCommand_139 rfl (Q_qH_refusalOfGift zH_1 h6) kX2_refusalOfGift ⟨_, _, rfl⟩ ar_1 l_RX9_124 rfl rfl rfl rfl rfl rfl rfl ?_
  cases hq
  exact z_areturn rfl (Or.inl ⟨_, rfl⟩) dX9_refusalOfCommand_142
set_option maxRecDepth 100000 in
set_option maxHeartbeats 4000000 in
theorem J_qT_refusalOfCommand_j143 {g : yG} {a : Nat → Nat} {μ : zM} {kc ks : Nat} {r : Int}   (hq : qT_refusalOfCommand_j143 μ = some r) : Z g a mX9_refusalOfCommand 2 kc ks 143 [some (zr 0), some (zr 137)] [] μ (.inl (some (zre r))) μ := by
  unfold qT_refusalOfCommand_j143 at hq
  refine z_aload_n 144 dX9_refusalOfCommand_143 rfl rfl ?_
  refine z_getR (e := 1) (r := 1) 147 dX9_refusalOfCommand_144 rfl f_RX9_12 ar_0 rfl ar_1.1 ?_
  refine z_aload_n 148 dX9_refusalOfCommand_147 rfl rfl ?_
  refine z_iconst 149 dX9_refusalOfCommand_148 rfl (by decide) ?_
  refine z_iaload (x := (μ 137 0)) 150 dX9_refusalOfCommand_149 rfl ar_137 ⟨by decide, by decide⟩ rfl ?_
  obtain ⟨a7, h7, hq⟩ := z_b hq
  refine z_callV1 (as := [zi (μ 137 0)]) (S := []) 153 dX9_refusalOfCommand_150 rfl (Q_qH_refusalOfMonths zH_1 h7) kX2_refusalOfMonths ⟨_, _, rfl⟩ ar_1 l_RX9_138 rfl rfl rfl rfl rfl rfl rfl ?_
  cases hq
  exact z_areturn rfl (Or.inl ⟨_, rfl⟩) dX9_refusalOfCommand_153
set_option maxRecDepth 100000 in
set_option maxHeartbeats 4000000 in
theorem Q_qT_refusalOfCommand {g : yG} {a : Nat → Nat} {μ : zM}  {r : Int}  (hq : qT_refusalOfCommand μ = some r) : zC g a mX9_refusalOfCommand 2 0 0 [zr 0, zr 137] μ (.inl (some (zre r))) μ := by
  unfold qT_refusalOfCommand at hq
  refine z_of (L := [some (zr 0), some (zr 137)]) pl_RX9 rfl (zc_of rfl) rfl rfl ?_
  refine z_swK 3 dX9_refusalOfCommand_0 rfl (yb 1263 (by decide +kernel) rfl) ?_
  refine z_aload_n 4 dX9_refusalOfCommand_3 rfl rfl ?_
  refine z_getR (e := 136) (r := 136) 7 dX9_refusalOfCommand_4 rfl f_RX9_46 ar_0 rfl ar_136.1 ?_
  refine z_getE (x := (μ 136 1)) 10 dX9_refusalOfCommand_7 rfl f_RX9_401 ar_136 rfl ?_
  obtain ⟨hg10, hq⟩ := z_g hq
  refine z_ordK 13 dX9_refusalOfCommand_10 rfl hg10 o_RX9_405 rfl rfl rfl ?_
  obtain ⟨hg13, hq⟩ := z_g hq
  refine z_ldK 14 dX9_refusalOfCommand_13 rfl hg13 ?_
  by_cases hs0 : (swKind (μ 136 1)) = 1
  · replace hq := z_ip hq hs0
    refine z_swIn 56 dX9_refusalOfCommand_14 hs0 rfl rfl rfl ?_
    exact Z.sub (zle_s (zle_s zle_nil)) (J_qT_refusalOfCommand_j56 hq)
  · replace hq := z_in hq hs0
    by_cases hs1 : (swKind (μ 136 1)) = 2
    · replace hq := z_ip hq hs1
      refine z_swIn 70 dX9_refusalOfCommand_14 hs1 rfl rfl rfl ?_
      exact Z.sub (zle_s (zle_s zle_nil)) (J_qT_refusalOfCommand_j70 hq)
    · replace hq := z_in hq hs1
      by_cases hs2 : (swKind (μ 136 1)) = 3
      · replace hq := z_ip hq hs2
        refine z_swIn 90 dX9_refusalOfCommand_14 hs2 rfl rfl rfl ?_
        exact Z.sub (zle_s (zle_s zle_nil)) (J_qT_refusalOfCommand_j90 hq)
      · replace hq := z_in hq hs2
        by_cases hs3 : (swKind (μ 136 1)) = 4
        · replace hq := z_ip hq hs3
          refine z_swIn 104 dX9_refusalOfCommand_14 hs3 rfl rfl rfl ?_
          exact Z.sub (zle_s (zle_s zle_nil)) (J_qT_refusalOfCommand_j104 hq)
        · replace hq := z_in hq hs3
          by_cases hs4 : (swKind (μ 136 1)) = 5
          · replace hq := z_ip hq hs4
            refine z_swIn 115 dX9_refusalOfCommand_14 hs4 rfl rfl rfl ?_
            exact Z.sub (zle_s (zle_s zle_nil)) (J_qT_refusalOfCommand_j115 hq)
          · replace hq := z_in hq hs4
            by_cases hs5 : (swKind (μ 136 1)) = 6
            · replace hq := z_ip hq hs5
              refine z_swIn 129 dX9_refusalOfCommand_14 hs5 rfl rfl rfl ?_
              exact Z.sub (zle_s (zle_s zle_nil)) (J_qT_refusalOfCommand_j129 hq)
            · replace hq := z_in hq hs5
              by_cases hs6 : (swKind (μ 136 1)) = 7
              · replace hq := z_ip hq hs6
                refine z_swIn 143 dX9_refusalOfCommand_14 hs6 rfl rfl rfl ?_
                exact Z.sub (zle_s (zle_s zle_nil)) (J_qT_refusalOfCommand_j143 hq)
              · replace hq := z_in hq hs6
                refine z_swOut 154 dX9_refusalOfCommand_14 (by omega) rfl ?_
                refine z_enumR (x := 0) 157 dX9_refusalOfCommand_154 rfl (by decide) (yb 1268 (by decide +kernel) rfl) ?_
                cases hq
                exact z_areturn rfl (Or.inl ⟨_, rfl⟩) dX9_refusalOfCommand_157
set_option maxRecDepth 100000 in
set_option maxHeartbeats 4000000 in
theorem Q_qT_isNextAllowed {g : yG} {a : Nat → Nat} {μ : zM} {v1 : Int} {r : Int} {ν : zM}  (hq : qT_isNextAllowed μ v1 = some (r, ν)) : zC g a mX9_isNextAllowed 6 0 0 [zr 0, zi v1] μ (.inl (some (zi r))) ν := by
  unfold qT_isNextAllowed at hq
  refine z_of (L := [some (zr 0), some (zi v1)]) pl_RX9 rfl (zc_of rfl) rfl rfl ?_
  refine z_aload_n 1 dX9_isNextAllowed_0 rfl rfl ?_
  refine z_getR (e := 136) (r := 136) 4 dX9_isNextAllowed_1 rfl f_RX9_46 ar_0 rfl ar_136.1 ?_
  refine z_aload_n 5 dX9_isNextAllowed_4 rfl rfl ?_
  refine z_getR (e := 138) (r := 138) 8 dX9_isNextAllowed_5 rfl f_RX9_53 ar_0 rfl ar_138.1 ?_
  refine z_iload_n 9 dX9_isNextAllowed_8 rfl rfl ?_
  obtain ⟨m1, h1, hq⟩ := z_b hq
  refine z_callV0 (as := [zr 138, zi v1]) (S := []) 12 dX9_isNextAllowed_9 rfl (Q_qR_readCommand  h1) kX4_readCommand ⟨_, _, rfl⟩ ar_136 l_RX9_383 rfl rfl rfl rfl rfl rfl rfl ?_
  refine z_aload_n 13 dX9_isNextAllowed_12 rfl rfl ?_
  refine z_aload_n 14 dX9_isNextAllowed_13 rfl rfl ?_
  refine z_getR (e := 136) (r := 136) 17 dX9_isNextAllowed_14 rfl f_RX9_46 ar_0 rfl ar_136.1 ?_
  refine z_getR (e := 1) (r := 137) 20 dX9_isNextAllowed_17 rfl f_RX9_387 ar_136 rfl ar_137.1 ?_
  obtain ⟨a2, h2, hq⟩ := z_b hq
  refine z_callV1 (as := [zr 137]) (S := []) 23 dX9_isNextAllowed_20 rfl (Q_qT_refusalOfCommand  h2) kX9_refusalOfCommand ⟨_, _, rfl⟩ ar_0 l_RX9_390 rfl rfl rfl rfl rfl rfl rfl ?_
  refine z_enumR (x := 0) 26 dX9_isNextAllowed_23 rfl (by decide) (yb 1268 (by decide +kernel) rfl) ?_
  obtain ⟨hg26, hq⟩ := z_g hq
  refine z_acmpR 33 29 dX9_isNextAllowed_26 rfl rfl hg26 (by decide) (fun hc => ?_) (fun hc => ?_)
  · replace hq := z_in hq hc
    refine z_iconst 34 dX9_isNextAllowed_33 rfl (by decide) ?_
    cases hq
    exact z_zreturn rfl dX9_isNextAllowed_34 (by decide)
  · replace hq := z_ip hq hc
    refine z_iconst 30 dX9_isNextAllowed_29 rfl (by decide) ?_
    refine z_goto 34 dX9_isNextAllowed_30 rfl ?_
    cases hq
    exact z_zreturn rfl dX9_isNextAllowed_34 (by decide)
set_option maxRecDepth 100000 in
set_option maxHeartbeats 4000000 in
theorem J_qT_perform_j68 {g : yG} {a : Nat → Nat} {μ : zM} {kc ks : Nat} {ν : zM}   (hq : qT_perform_j68 μ = some ν) : Z g a mX9_perform 6 kc ks 68 [some (zr 0), some (zr 137)] [] μ (.inl none) ν := by
  unfold qT_perform_j68 at hq
  refine z_aload_n 69 dX9_perform_68 rfl rfl ?_
  refine z_getR (e := 1) (r := 1) 72 dX9_perform_69 rfl f_RX9_12 ar_0 rfl ar_1.1 ?_
  refine z_aload_n 73 dX9_perform_72 rfl rfl ?_
  refine z_iconst 74 dX9_perform_73 rfl (by decide) ?_
  refine z_iaload (x := (μ 137 0)) 75 dX9_perform_74 rfl ar_137 ⟨by decide, by decide⟩ rfl ?_
  refine z_aload_n 76 dX9_perform_75 rfl rfl ?_
  refine z_iconst 77 dX9_perform_76 rfl (by decide) ?_
  refine z_iaload (x := (μ 137 1)) 78 dX9_perform_77 rfl ar_137 ⟨by decide, by decide⟩ rfl ?_
  obtain ⟨a1, m1, h1, hq⟩ := bnd2_some hq
  refine z_callV1 (as := [zi (μ 137 0), zi (μ 137 1)]) (S := []) 81 dX9_perform_78 rfl (Q_qH_buildFlat zH_1 h1) kX2_buildFlat ⟨_, _, rfl⟩ ar_1 l_RX9_83 rfl rfl rfl rfl rfl rfl rfl ?_
  refine z_pop 82 dX9_perform_81 rfl rfl ?_
  refine z_goto 230 dX9_perform_82 rfl ?_
  cases hq
  exact z_return rfl dX9_perform_230
set_option maxRecDepth 100000 in
set_option maxHeartbeats 4000000 in
theorem J_qT_perform_j85 {g : yG} {a : Nat → Nat} {μ : zM} {kc ks : Nat} {ν : zM}   (hq : qT_perform_j85 μ = some ν) : Z g a mX9_perform 6 kc ks 85 [some (zr 0), some (zr 137)] [] μ (.inl none) ν := by
  unfold qT_perform_j85 at hq
  refine z_aload_n 86 dX9_perform_85 rfl rfl ?_
  refine z_getR (e := 1) (r := 1) 89 dX9_perform_86 rfl f_RX9_12 ar_0 rfl ar_1.1 ?_
  refine z_aload_n 90 dX9_perform_89 rfl rfl ?_
  refine z_iconst 91 dX9_perform_90 rfl (by decide) ?_
  refine z_iaload (x := (μ 137 0)) 92 dX9_perform_91 rfl ar_137 ⟨by decide, by decide⟩ rfl ?_
  refine z_aload_n 93 dX9_perform_92 rfl rfl ?_
  refine z_iconst 94 dX9_perform_93 rfl (by decide) ?_
  refine z_iaload (x := (μ 137 1)) 95 dX9_perform_94 rfl ar_137 ⟨by decide, by decide⟩ rfl ?_
  refine z_aload_n 96 dX9_perform_95 rfl rfl ?_
  refine z_iconst 97 dX9_perform_96 rfl (by decide) ?_
  refine z_iaload (x := (μ 137 2)) 98 dX9_perform_97 rfl ar_137 ⟨by decide, by decide⟩ rfl ?_
  refine z_aload_n 99 dX9_perform_98 rfl rfl ?_
  refine z_iconst 100 dX9_perform_99 rfl (by decide) ?_
  refine z_iaload (x := (μ 137 3)) 101 dX9_perform_100 rfl ar_137 ⟨by decide, by decide⟩ rfl ?_
  obtain ⟨a2, m2, h2, hq⟩ := bnd2_some hq
  refine z_callV1 (as := [zi (μ 137 0), zi (μ 137 1), zi (μ 137 2), zi (μ 137 3)]) (S := []) 104 dX9_perform_101 rfl (Q_qH_welcome zH_1 h2) kX2_welcome ⟨_, _, rfl⟩ ar_1 l_RX9_91 rfl rfl rfl rfl rfl rfl rfl ?_
  refine z_pop 105 dX9_perform_104 rfl rfl ?_
  refine z_goto 230 dX9_perform_105 rfl ?_
  cases hq
  exact z_return rfl dX9_perform_230
set_option maxRecDepth 100000 in
set_option maxHeartbeats 4000000 in
theorem J_qT_perform_j108 {g : yG} {a : Nat → Nat} {μ : zM} {kc ks : Nat} {ν : zM}   (hq : qT_perform_j108 μ = some ν) : Z g a mX9_perform 6 kc ks 108 [some (zr 0), some (zr 137)] [] μ (.inl none) ν := by
  unfold qT_perform_j108 at hq
  refine z_aload_n 109 dX9_perform_108 rfl rfl ?_
  refine z_getR (e := 1) (r := 1) 112 dX9_perform_109 rfl f_RX9_12 ar_0 rfl ar_1.1 ?_
  refine z_aload_n 113 dX9_perform_112 rfl rfl ?_
  refine z_getR (e := 1) (r := 1) 116 dX9_perform_113 rfl f_RX9_12 ar_0 rfl ar_1.1 ?_
  refine z_aload_n 117 dX9_perform_116 rfl rfl ?_
  refine z_iconst 118 dX9_perform_117 rfl (by decide) ?_
  refine z_iaload (x := (μ 137 0)) 119 dX9_perform_118 rfl ar_137 ⟨by decide, by decide⟩ rfl ?_
  obtain ⟨a3, h3, hq⟩ := z_b hq
  refine z_callV1 (as := [zi (μ 137 0)]) (S := [zr 1]) 122 dX9_perform_119 rfl (Q_qH_slotOf zH_1 h3) kX2_slotOf ⟨_, _, rfl⟩ ar_1 l_RX9_99 rfl rfl rfl rfl rfl rfl rfl ?_
  refine z_aload_n 123 dX9_perform_122 rfl rfl ?_
  refine z_iconst 124 dX9_perform_123 rfl (by decide) ?_
  refine z_iaload (x := (μ 137 1)) 125 dX9_perform_124 rfl ar_137 ⟨by decide, by decide⟩ rfl ?_
  obtain ⟨a4, m4, h4, hq⟩ := bnd2_some hq
  refine z_callV1 (as := [zi a3, zi (μ 137 1)]) (S := []) 128 dX9_perform_125 rfl (Q_qH_lodge zH_1 h4) kX2_lodge ⟨_, _, rfl⟩ ar_1 l_RX9_109 rfl rfl rfl rfl rfl rfl rfl ?_
  refine z_pop 129 dX9_perform_128 rfl rfl ?_
  refine z_goto 230 dX9_perform_129 rfl ?_
  cases hq
  exact z_return rfl dX9_perform_230
set_option maxRecDepth 100000 in
set_option maxHeartbeats 4000000 in
theorem J_qT_perform_j132 {g : yG} {a : Nat → Nat} {μ : zM} {kc ks : Nat} {ν : zM}   (hq : qT_perform_j132 μ = some ν) : Z g a mX9_perform 6 kc ks 132 [some (zr 0), some (zr 137)] [] μ (.inl none) ν := by
  unfold qT_perform_j132 at hq
  refine z_aload_n 133 dX9_perform_132 rfl rfl ?_
  refine z_getR (e := 1) (r := 1) 136 dX9_perform_133 rfl f_RX9_12 ar_0 rfl ar_1.1 ?_
  refine z_aload_n 137 dX9_perform_136 rfl rfl ?_
  refine z_getR (e := 1) (r := 1) 140 dX9_perform_137 rfl f_RX9_12 ar_0 rfl ar_1.1 ?_
  refine z_aload_n 141 dX9_perform_140 rfl rfl ?_
  refine z_iconst 142 dX9_perform_141 rfl (by decide) ?_
  refine z_iaload (x := (μ 137 0)) 143 dX9_perform_142 rfl ar_137 ⟨by decide, by decide⟩ rfl ?_
  obtain ⟨a5, h5, hq⟩ := z_b hq
  refine z_callV1 (as := [zi (μ 137 0)]) (S := [zr 1]) 146 dX9_perform_143 rfl (Q_qH_slotOf zH_1 h5) kX2_slotOf ⟨_, _, rfl⟩ ar_1 l_RX9_99 rfl rfl rfl rfl rfl rfl rfl ?_
  obtain ⟨a6, m6, h6, hq⟩ := bnd2_some hq
  refine z_callV1 (as := [zi a5]) (S := []) 149 dX9_perform_146 rfl (Q_qH_leaveHome zH_1 h6) kX2_leaveHome ⟨_, _, rfl⟩ ar_1 l_RX9_115 rfl rfl rfl rfl rfl rfl rfl ?_
  refine z_pop 150 dX9_perform_149 rfl rfl ?_
  refine z_goto 230 dX9_perform_150 rfl ?_
  cases hq
  exact z_return rfl dX9_perform_230
set_option maxRecDepth 100000 in
set_option maxHeartbeats 4000000 in
theorem J_qT_perform_j153 {g : yG} {a : Nat → Nat} {μ : zM} {kc ks : Nat} {ν : zM}   (hq : qT_perform_j153 μ = some ν) : Z g a mX9_perform 6 kc ks 153 [some (zr 0), some (zr 137)] [] μ (.inl none) ν := by
  unfold qT_perform_j153 at hq
  refine z_aload_n 154 dX9_perform_153 rfl rfl ?_
  refine z_getR (e := 1) (r := 1) 157 dX9_perform_154 rfl f_RX9_12 ar_0 rfl ar_1.1 ?_
  refine z_aload_n 158 dX9_perform_157 rfl rfl ?_
  refine z_iconst 159 dX9_perform_158 rfl (by decide) ?_
  refine z_iaload (x := (μ 137 0)) 160 dX9_perform_159 rfl ar_137 ⟨by decide, by decide⟩ rfl ?_
  refine z_aload_n 161 dX9_perform_160 rfl rfl ?_
  refine z_iconst 162 dX9_perform_161 rfl (by decide) ?_
  refine z_iaload (x := (μ 137 1)) 163 dX9_perform_162 rfl ar_137 ⟨by decide, by decide⟩ rfl ?_
  obtain ⟨a7, m7, h7, hq⟩ := bnd2_some hq
  refine z_callV1 (as := [zi (μ 137 0), zi (μ 137 1)]) (S := []) 166 dX9_perform_163 rfl (Q_qH_changeRent zH_1 h7) kX2_changeRent ⟨_, _, rfl⟩ ar_1 l_RX9_121 rfl rfl rfl rfl rfl rfl rfl ?_
  refine z_pop 167 dX9_perform_166 rfl rfl ?_
  refine z_goto 230 dX9_perform_167 rfl ?_
  cases hq
  exact z_return rfl dX9_perform_230
set_option maxRecDepth 100000 in
set_option maxHeartbeats 4000000 in
theorem J_qT_perform_j170 {g : yG} {a : Nat → Nat} {μ : zM} {kc ks : Nat} {ν : zM}   (hq : qT_perform_j170 μ = some ν) : Z g a mX9_perform 6 kc ks 170 [some (zr 0), some (zr 137)] [] μ (.inl none) ν := by
  unfold qT_perform_j170 at hq
  refine z_aload_n 171 dX9_perform_170 rfl rfl ?_
  refine z_getR (e := 1) (r := 1) 174 dX9_perform_171 rfl f_RX9_12 ar_0 rfl ar_1.1 ?_
  refine z_aload_n 175 dX9_perform_174 rfl rfl ?_
  refine z_getR (e := 1) (r := 1) 178 dX9_perform_175 rfl f_RX9_12 ar_0 rfl ar_1.1 ?_
  refine z_aload_n 179 dX9_perform_178 rfl rfl ?_
  refine z_iconst 180 dX9_perform_179 rfl (by decide) ?_
  refine z_iaload (x := (μ 137 0)) 181 dX9_perform_180 rfl ar_137 ⟨by decide, by decide⟩ rfl ?_
  obtain ⟨a8, h8, hq⟩ := z_b hq
  refine z_callV1 (as := [zi (μ 137 0)]) (S := [zr 1]) 184 dX9_perform_181 rfl (Q_qH_slotOf zH_1 h8) kX2_slotOf ⟨_, _, rfl⟩ ar_1 l_RX9_99 rfl rfl rfl rfl rfl rfl rfl ?_
  refine z_aload_n 185 dX9_perform_184 rfl rfl ?_
  refine z_iconst 186 dX9_perform_185 rfl (by decide) ?_
  refine z_iaload (x := (μ 137 1)) 187 dX9_perform_186 rfl ar_137 ⟨by decide, by decide⟩ rfl ?_
  obtain ⟨a9, m9, h9, hq⟩ := bnd2_some hq
  refine z_callV1 (as := [zi a8, zi (μ 137 1)]) (S := []) 190 dX9_perform_187 rfl (Q_qH_receive zH_1 h9) kX2_receive ⟨_, _, rfl⟩ ar_1 l_RX9_127 rfl rfl rfl rfl rfl rfl rfl ?_
  refine z_pop 191 dX9_perform_190 rfl rfl ?_
  refine z_goto 230 dX9_perform_191 rfl ?_
  cases hq
  exact z_return rfl dX9_perform_230
set_option maxRecDepth 100000 in
set_option maxHeartbeats 4000000 in
theorem J_qT_perform_j216 {g : yG} {a : Nat → Nat} {μ : zM} {kc ks : Nat} {ν : zM}   (hq : qT_perform_j216 μ = some ν) : Z g a mX9_perform 6 kc ks 216 [some (zr 0), some (zr 137)] [] μ (.inl none) ν := by
  unfold qT_perform_j216 at hq
  refine z_aload_n 217 dX9_perform_216 rfl rfl ?_
  refine z_getR (e := 1) (r := 1) 220 dX9_perform_217 rfl f_RX9_12 ar_0 rfl ar_1.1 ?_
  refine z_aload_n 221 dX9_perform_220 rfl rfl ?_
  refine z_iconst 222 dX9_perform_221 rfl (by decide) ?_
  refine z_iaload (x := (μ 137 0)) 223 dX9_perform_222 rfl ar_137 ⟨by decide, by decide⟩ rfl ?_
  obtain ⟨a10, m10, h10, hq⟩ := bnd2_some hq
  refine z_callV1 (as := [zi (μ 137 0)]) (S := []) 226 dX9_perform_223 rfl (Q_qH_letMonthsPass zH_1 h10) kX2_letMonthsPass ⟨_, _, rfl⟩ ar_1 l_RX9_141 rfl rfl rfl rfl rfl rfl rfl ?_
  refine z_pop 227 dX9_perform_226 rfl rfl ?_
  refine z_goto 230 dX9_perform_227 rfl ?_
  cases hq
  exact z_return rfl dX9_perform_230
set_option maxRecDepth 100000 in
set_option maxHeartbeats 4000000 in
theorem J_qT_perform_j194 {g : yG} {a : Nat → Nat} {μ : zM} {kc ks : Nat} {ν : zM}   (hq : qT_perform_j194 μ = some ν) : Z g a mX9_perform 6 kc ks 194 [some (zr 0), none] [] μ (.inl none) ν := by
  unfold qT_perform_j194 at hq
  refine z_aload_n 195 dX9_perform_194 rfl rfl ?_
  refine z_getR (e := 1) (r := 1) 198 dX9_perform_195 rfl f_RX9_12 ar_0 rfl ar_1.1 ?_
  refine z_aload_n 199 dX9_perform_198 rfl rfl ?_
  refine z_getR (e := 113) (r := 113) 202 dX9_perform_199 rfl f_RX9_32 ar_0 rfl ar_113.1 ?_
  refine z_aload_n 203 dX9_perform_202 rfl rfl ?_
  refine z_getR (e := 1) (r := 1) 206 dX9_perform_203 rfl f_RX9_12 ar_0 rfl ar_1.1 ?_
  obtain ⟨m11, h11, hq⟩ := z_b hq
  refine z_callV1 (as := [zr 1]) (S := [zr 1]) 209 dX9_perform_206 rfl (Q_qP_planByAsking zH_1 h11) kX5_planByAsking ⟨_, _, rfl⟩ ar_113 l_RX9_130 rfl rfl rfl rfl rfl rfl rfl ?_
  obtain ⟨a12, m12, h12, hq⟩ := bnd2_some hq
  refine z_callV1 (as := [zr 128]) (S := []) 212 dX9_perform_209 rfl (Q_qH_liveBy zH_1 h12) kX2_liveBy ⟨_, _, rfl⟩ ar_1 l_RX9_134 rfl rfl rfl rfl rfl rfl rfl ?_
  refine z_pop 213 dX9_perform_212 rfl rfl ?_
  refine z_goto 230 dX9_perform_213 rfl ?_
  cases hq
  exact z_return rfl dX9_perform_230
set_option maxRecDepth 100000 in
set_option maxHeartbeats 4000000 in
theorem Q_qT_perform {g : yG} {a : Nat → Nat} {μ : zM}  {ν : zM}  (hq : qT_perform μ = some ν) : zC g a mX9_perform 6 0 0 [zr 0] μ (.inl none) ν := by
  unfold qT_perform at hq
  refine z_of (L := [some (zr 0), none]) pl_RX9 rfl (zc_of rfl) rfl rfl ?_
  refine z_aload_n 1 dX9_perform_0 rfl rfl ?_
  refine z_getR (e := 136) (r := 136) 4 dX9_perform_1 rfl f_RX9_46 ar_0 rfl ar_136.1 ?_
  refine z_getR (e := 1) (r := 137) 7 dX9_perform_4 rfl f_RX9_387 ar_136 rfl ar_137.1 ?_
  refine z_astore_n (L' := [some (zr 0), some (zr 137)]) 8 dX9_perform_7 rfl rfl rfl rfl ?_
  refine z_swK 11 dX9_perform_8 rfl (yb 1263 (by decide +kernel) rfl) ?_
  refine z_aload_n 12 dX9_perform_11 rfl rfl ?_
  refine z_getR (e := 136) (r := 136) 15 dX9_perform_12 rfl f_RX9_46 ar_0 rfl ar_136.1 ?_
  refine z_getE (x := (μ 136 1)) 18 dX9_perform_15 rfl f_RX9_401 ar_136 rfl ?_
  obtain ⟨hg18, hq⟩ := z_g hq
  refine z_ordK 21 dX9_perform_18 rfl hg18 o_RX9_405 rfl rfl rfl ?_
  obtain ⟨hg21, hq⟩ := z_g hq
  refine z_ldK 22 dX9_perform_21 rfl hg21 ?_
  by_cases hs0 : (swKind (μ 136 1)) = 1
  · replace hq := z_ip hq hs0
    refine z_swIn 68 dX9_perform_22 hs0 rfl rfl rfl ?_
    exact Z.sub (zle_s (zle_s zle_nil)) (J_qT_perform_j68 hq)
  · replace hq := z_in hq hs0
    by_cases hs1 : (swKind (μ 136 1)) = 2
    · replace hq := z_ip hq hs1
      refine z_swIn 85 dX9_perform_22 hs1 rfl rfl rfl ?_
      exact Z.sub (zle_s (zle_s zle_nil)) (J_qT_perform_j85 hq)
    · replace hq := z_in hq hs1
      by_cases hs2 : (swKind (μ 136 1)) = 3
      · replace hq := z_ip hq hs2
        refine z_swIn 108 dX9_perform_22 hs2 rfl rfl rfl ?_
        exact Z.sub (zle_s (zle_s zle_nil)) (J_qT_perform_j108 hq)
      · replace hq := z_in hq hs2
        by_cases hs3 : (swKind (μ 136 1)) = 4
        · replace hq := z_ip hq hs3
          refine z_swIn 132 dX9_perform_22 hs3 rfl rfl rfl ?_
          exact Z.sub (zle_s (zle_s zle_nil)) (J_qT_perform_j132 hq)
        · replace hq := z_in hq hs3
          by_cases hs4 : (swKind (μ 136 1)) = 5
          · replace hq := z_ip hq hs4
            refine z_swIn 153 dX9_perform_22 hs4 rfl rfl rfl ?_
            exact Z.sub (zle_s (zle_s zle_nil)) (J_qT_perform_j153 hq)
          · replace hq := z_in hq hs4
            by_cases hs5 : (swKind (μ 136 1)) = 6
            · replace hq := z_ip hq hs5
              refine z_swIn 170 dX9_perform_22 hs5 rfl rfl rfl ?_
              exact Z.sub (zle_s (zle_s zle_nil)) (J_qT_perform_j170 hq)
            · replace hq := z_in hq hs5
              by_cases hs6 : (swKind (μ 136 1)) = 7
              · replace hq := z_ip hq hs6
                refine z_swIn 216 dX9_perform_22 hs6 rfl rfl rfl ?_
                exact Z.sub (zle_s (zle_s zle_nil)) (J_qT_perform_j216 hq)
              · replace hq := z_in hq hs6
                by_cases hs7 : (swKind (μ 136 1)) = 8
                · replace hq := z_ip hq hs7
                  refine z_swIn 194 dX9_perform_22 hs7 rfl rfl rfl ?_
                  exact Z.sub (zle_s (zle_n zle_nil)) (J_qT_perform_j194 hq)
                · replace hq := z_in hq hs7
                  refine z_swOut 230 dX9_perform_22 (by omega) rfl ?_
                  cases hq
                  exact z_return rfl dX9_perform_230
set_option maxRecDepth 100000 in
set_option maxHeartbeats 4000000 in
theorem L_qT_run_l66 {g : yG} {a : Nat → Nat} {ν : zM} {o : zO} {kc ks : Nat} {v1 : Int} {R : (Int) × zM}   (he : ∀ (tz : Int) (m : zM), R = (tz, m) → Z g a mX9_run 7 kc ks 89 [some (zr 0), some (zi v1), some (zi tz)] [] m o ν) : ∀ (n : Nat) (μ : zM) (v2 : Int), qT_run_l66 v1 n μ v2 = some R → Z g a mX9_run 7 kc ks 66 [some (zr 0), some (zi v1), some (zi v2)] [] μ o ν := by
  intro n
  induction n with
  | zero => intro μ v2 hq; cases hq
  | succ n ih =>
    intro μ v2 hq
    rw [qT_run_l66] at hq
    refine z_iload_n 67 dX9_run_66 rfl rfl ?_
    refine z_iload_n 68 dX9_run_67 rfl rfl ?_
    refine z_icmp_ge 89 71 dX9_run_68 rfl rfl (fun hc => ?_) (fun hc => ?_)
    · replace hq := z_in hq (Int.not_lt.mpr hc)
      exact Z.sub (zle_s (zle_s (zle_s zle_nil))) (he _ _ (Option.some.inj hq).symm)
    · replace hq := z_ip hq hc
      refine z_aload_n 72 dX9_run_71 rfl rfl ?_
      refine z_iload_n 73 dX9_run_72 rfl rfl ?_
      obtain ⟨a4, m4, h4, hq⟩ := bnd2_some hq
      refine z_callV1 (as := [zi v2]) (S := []) 76 dX9_run_73 rfl (Q_qT_isNextAllowed  h4) kX9_isNextAllowed ⟨_, _, rfl⟩ ar_0 l_RX9_321 rfl rfl rfl rfl rfl rfl rfl ?_
      refine z_if_eq 89 79 dX9_run_76 rfl rfl (fun hc => ?_) (fun hc => ?_)
      · replace hq := z_ip hq hc
        exact Z.sub (zle_s (zle_s (zle_s zle_nil))) (he _ _ (Option.some.inj hq).symm)
      · replace hq := z_in hq hc
        refine z_aload_n 80 dX9_run_79 rfl rfl ?_
        obtain ⟨m5, h5, hq⟩ := z_b hq
        refine z_callV0 (as := []) (S := []) 83 dX9_run_80 rfl (Q_qT_perform  h5) kX9_perform ⟨_, _, rfl⟩ ar_0 l_RX9_325 rfl rfl rfl rfl rfl rfl rfl ?_
        refine z_iinc (r := (wr (v2 + 1))) (L' := [some (zr 0), some (zi v1), some (zi (wr (v2 + 1)))]) 86 dX9_run_83 rfl rfl rfl rfl rfl rfl ?_
        refine z_goto 66 dX9_run_86 rfl ?_
        exact Z.sub (zle_s (zle_s (zle_s zle_nil))) (ih _ _ hq)
set_option maxRecDepth 100000 in
set_option maxHeartbeats 4000000 in
theorem Q_qT_run {g : yG} {a : Nat → Nat} {μ : zM}  {r : Int ⊕ Nat} {ν : zM}  (hq : qT_run μ = some (r, ν)) : zC g a mX9_run 7 1 6 [zr 0] μ (zri r) ν := by
  unfold qT_run at hq
  refine z_of (L := [some (zr 0), none, none]) pl_RX9 rfl (zc_of rfl) rfl rfl ?_
  refine z_aload_n 1 dX9_run_0 rfl rfl ?_
  refine z_getR (e := 136) (r := 136) 4 dX9_run_1 rfl f_RX9_46 ar_0 rfl ar_136.1 ?_
  refine z_aload_n 5 dX9_run_4 rfl rfl ?_
  refine z_getR (e := 138) (r := 138) 8 dX9_run_5 rfl f_RX9_53 ar_0 rfl ar_138.1 ?_
  obtain ⟨a1, m1, h1, hq⟩ := bnd2_some hq
  refine z_callV1 (as := [zr 138]) (S := []) (kc := 1) (ks := 6) 11 dX9_run_8 rfl (Q_qR_countCommands  h1) kX4_countCommands ⟨_, _, rfl⟩ ar_136 l_RX9_306 rfl rfl rfl rfl rfl rfl rfl ?_
  refine z_istore_n (L' := [some (zr 0), some (zi a1), none]) 12 dX9_run_11 rfl rfl rfl rfl ?_
  refine z_iload_n 13 dX9_run_12 rfl rfl ?_
  refine z_iconst 14 dX9_run_13 rfl (by decide) ?_
  refine z_icmp_ne 46 17 dX9_run_14 rfl rfl (fun hc => ?_) (fun hc => ?_)
  · replace hq := z_in hq hc
    refine z_aload_n 47 dX9_run_46 rfl rfl ?_
    refine z_getR (e := 11) (r := 11) 50 dX9_run_47 rfl f_RX9_16 ar_0 rfl ar_11.1 ?_
    refine z_aload_n 51 dX9_run_50 rfl rfl ?_
    refine z_getR (e := 1) (r := 1) 54 dX9_run_51 rfl f_RX9_12 ar_0 rfl ar_1.1 ?_
    obtain ⟨m2, h2, hq⟩ := z_b hq
    refine z_callV0 (as := [zr 1]) (S := []) (kc := 1) (ks := 6) 57 dX9_run_54 rfl (Q_qH_copyFrom zH_11 zH_1 h2) kX2_copyFrom ⟨_, _, rfl⟩ ar_11 l_RX9_237 rfl rfl rfl rfl rfl rfl rfl ?_
    refine z_aload_n 58 dX9_run_57 rfl rfl ?_
    refine z_getR (e := 136) (r := 136) 61 dX9_run_58 rfl f_RX9_46 ar_0 rfl ar_136.1 ?_
    obtain ⟨m3, h3, hq⟩ := z_b hq
    refine z_callV0 (as := []) (S := []) (kc := 1) (ks := 6) 64 dX9_run_61 rfl (Q_qR_rewind  h3) kX4_rewind ⟨_, _, rfl⟩ ar_136 l_RX9_318 rfl rfl rfl rfl rfl rfl rfl ?_
    refine z_iconst 65 dX9_run_64 rfl (by decide) ?_
    refine z_istore_n (L' := [some (zr 0), some (zi a1), some (zi 0)]) 66 dX9_run_65 rfl rfl rfl rfl ?_
    obtain ⟨t6, m6, h6, hq⟩ := bnd2_some hq
    refine Z.sub (zle_s (zle_s (zle_s zle_nil))) (L_qT_run_l66  (R := (t6, m6)) (fun _ _ e => ?_) _ _ _ h6)
    cases e
    refine z_aload_n 90 dX9_run_89 rfl rfl ?_
    refine z_getR (e := 138) (r := 138) 93 dX9_run_90 rfl f_RX9_53 ar_0 rfl ar_138.1 ?_
    obtain ⟨m7, h7, hq⟩ := z_b hq
    refine z_callV0 (as := []) (S := []) (kc := 1) (ks := 6) 96 dX9_run_93 rfl (Q_qX_clear zTx_138 h7) kX8_clear ⟨_, _, rfl⟩ ar_138 l_RX9_276 rfl rfl rfl rfl rfl rfl rfl ?_
    refine z_iload_n 97 dX9_run_96 rfl rfl ?_
    refine z_iload_n 98 dX9_run_97 rfl rfl ?_
    refine z_icmp_ge 128 101 dX9_run_98 rfl rfl (fun hc => ?_) (fun hc => ?_)
    · replace hq := z_in hq (Int.not_lt.mpr hc)
      refine z_aload_n 129 dX9_run_128 rfl rfl ?_
      refine z_getR (e := 31) (r := 31) 132 dX9_run_129 rfl f_RX9_25 ar_0 rfl ar_31.1 ?_
      refine z_aload_n 133 dX9_run_132 rfl rfl ?_
      refine z_getR (e := 11) (r := 11) 136 dX9_run_133 rfl f_RX9_16 ar_0 rfl ar_11.1 ?_
      obtain ⟨m8, h8, hq⟩ := z_b hq
      refine z_callV0 (as := [zr 11]) (S := []) (kc := 1) (ks := 6) 139 dX9_run_136 rfl (Q_qY_push zH_11 h8) kX1_push ⟨_, _, rfl⟩ ar_31 l_RX9_79 rfl rfl rfl rfl rfl rfl rfl ?_
      refine z_iload_n 140 dX9_run_139 rfl rfl ?_
      cases hq
      exact z_ireturn rfl dX9_run_140
    · replace hq := z_ip hq hc
      refine z_aload_n 102 dX9_run_101 rfl rfl ?_
      refine z_getR (e := 1) (r := 1) 105 dX9_run_102 rfl f_RX9_12 ar_0 rfl ar_1.1 ?_
      refine z_aload_n 106 dX9_run_105 rfl rfl ?_
      refine z_getR (e := 11) (r := 11) 109 dX9_run_106 rfl f_RX9_16 ar_0 rfl ar_11.1 ?_
      obtain ⟨m9, h9, hq⟩ := z_b hq
      refine z_callV0 (as := [zr 11]) (S := []) (kc := 1) (ks := 6) 112 dX9_run_109 rfl (Q_qH_copyFrom zH_1 zH_11 h9) kX2_copyFrom ⟨_, _, rfl⟩ ar_1 l_RX9_237 rfl rfl rfl rfl rfl rfl rfl ?_
      refine z_aload_n 113 dX9_run_112 rfl rfl ?_
      refine z_iload_n 114 dX9_run_113 rfl rfl ?_
      obtain ⟨m10, em10, hq⟩ := z_m hq
      refine z_putI 117 dX9_run_114 rfl p_RX9_68 ar_0 em10 ?_
      cases hq
      exact z_throwSW (cls := "java/lang/UnsupportedOperationException") (text := "a command fails") (names := ["java/lang/RuntimeException", "java/lang/Exception"]) (e := 4) tf_4 (yb 758 (by decide +kernel) rfl) (yb 111 (by decide +kernel) rfl) ts_330 (by decide +kernel) t_RX9_332 rfl rfl dX9_run_117 dX9_run_120 dX9_run_121 dX9_run_124 dX9_run_127 rfl rfl rfl
  · replace hq := z_ip hq hc
    refine z_aload_n 18 dX9_run_17 rfl rfl ?_
    refine z_aload_n 19 dX9_run_18 rfl rfl ?_
    refine z_getR (e := 136) (r := 136) 22 dX9_run_19 rfl f_RX9_46 ar_0 rfl ar_136.1 ?_
    refine z_getI (x := (m1 136 0)) 25 dX9_run_22 rfl f_RX9_310 ar_136 rfl ?_
    obtain ⟨m11, em11, hq⟩ := z_m hq
    refine z_putI 28 dX9_run_25 rfl p_RX9_64 ar_0 em11 ?_
    refine z_aload_n 29 dX9_run_28 rfl rfl ?_
    refine z_getR (e := 138) (r := 138) 32 dX9_run_29 rfl f_RX9_53 ar_0 rfl ar_138.1 ?_
    obtain ⟨m12, h12, hq⟩ := z_b hq
    refine z_callV0 (as := []) (S := []) (kc := 1) (ks := 6) 35 dX9_run_32 rfl (Q_qX_clear zTx_138 h12) kX8_clear ⟨_, _, rfl⟩ ar_138 l_RX9_276 rfl rfl rfl rfl rfl rfl rfl ?_
    cases hq
    exact z_throwSW (cls := "java/lang/IllegalArgumentException") (text := "the text is not a program") (names := ["java/lang/RuntimeException", "java/lang/Exception"]) (e := 2) tf_2 (yb 726 (by decide +kernel) rfl) (yb 109 (by decide +kernel) rfl) ts_315 (by decide +kernel) t_RX9_317 rfl rfl dX9_run_35 dX9_run_38 dX9_run_39 dX9_run_42 dX9_run_45 rfl rfl rfl
set_option maxRecDepth 100000 in
set_option maxHeartbeats 4000000 in
theorem Q_qT_errorPosition {g : yG} {a : Nat → Nat} {μ : zM}  {r : Int ⊕ Nat} {ν : zM}  (hq : qT_errorPosition μ = some (r, ν)) : zC g a mX9_errorPosition 0 1 6 [zr 0] μ (zri r) ν := by
  unfold qT_errorPosition at hq
  refine z_of (L := [some (zr 0)]) pl_RX9 rfl (zc_of rfl) rfl rfl ?_
  refine z_aload_n 1 dX9_errorPosition_0 rfl rfl ?_
  refine z_getI (x := (μ 0 10)) 4 dX9_errorPosition_1 rfl f_RX9_64 ar_0 rfl ?_
  refine z_iconst 5 dX9_errorPosition_4 rfl (by decide) ?_
  refine z_icmp_ne 19 8 dX9_errorPosition_5 rfl rfl (fun hc => ?_) (fun hc => ?_)
  · replace hq := z_in hq hc
    refine z_aload_n 20 dX9_errorPosition_19 rfl rfl ?_
    refine z_getI (x := (μ 0 10)) 23 dX9_errorPosition_20 rfl f_RX9_64 ar_0 rfl ?_
    cases hq
    exact z_ireturn rfl dX9_errorPosition_23
  · replace hq := z_ip hq hc
    cases hq
    exact z_throwNW (cls := "java/util/NoSuchElementException") (text := "every text was a program") (names := ["java/lang/Exception"]) (e := 0) tf_0 (yb 638 (by decide +kernel) rfl) (yb 107 (by decide +kernel) rfl) ts_333 (by decide +kernel) t_RX9_165 rfl rfl dX9_errorPosition_8 dX9_errorPosition_11 dX9_errorPosition_12 dX9_errorPosition_15 dX9_errorPosition_18 rfl rfl rfl
set_option maxRecDepth 100000 in
set_option maxHeartbeats 4000000 in
theorem Q_qT_failedCommand {g : yG} {a : Nat → Nat} {μ : zM}  {r : Int ⊕ Nat} {ν : zM}  (hq : qT_failedCommand μ = some (r, ν)) : zC g a mX9_failedCommand 0 1 6 [zr 0] μ (zri r) ν := by
  unfold qT_failedCommand at hq
  refine z_of (L := [some (zr 0)]) pl_RX9 rfl (zc_of rfl) rfl rfl ?_
  refine z_aload_n 1 dX9_failedCommand_0 rfl rfl ?_
  refine z_getI (x := (μ 0 11)) 4 dX9_failedCommand_1 rfl f_RX9_68 ar_0 rfl ?_
  refine z_iconst 5 dX9_failedCommand_4 rfl (by decide) ?_
  refine z_icmp_ne 19 8 dX9_failedCommand_5 rfl rfl (fun hc => ?_) (fun hc => ?_)
  · replace hq := z_in hq hc
    refine z_aload_n 20 dX9_failedCommand_19 rfl rfl ?_
    refine z_getI (x := (μ 0 11)) 23 dX9_failedCommand_20 rfl f_RX9_68 ar_0 rfl ?_
    cases hq
    exact z_ireturn rfl dX9_failedCommand_23
  · replace hq := z_ip hq hc
    cases hq
    exact z_throwNW (cls := "java/util/NoSuchElementException") (text := "no command failed") (names := ["java/lang/Exception"]) (e := 0) tf_0 (yb 638 (by decide +kernel) rfl) (yb 107 (by decide +kernel) rfl) ts_335 (by decide +kernel) t_RX9_165 rfl rfl dX9_failedCommand_8 dX9_failedCommand_11 dX9_failedCommand_12 dX9_failedCommand_15 dX9_failedCommand_18 rfl rfl rfl
set_option maxRecDepth 100000 in
set_option maxHeartbeats 4000000 in
theorem Q_qY_popInto {g : yG} {a : Nat → Nat} {μ : zM} {v1 : Nat} {ν : zM} (A_v1 : zH v1) (hq : qY_popInto μ v1 = some ν) : zC g a mX1_popInto 2 0 0 [zr 31, zr v1] μ (.inl none) ν := by
  unfold qY_popInto at hq
  refine z_of (L := [some (zr 31), some (zr v1)]) pl_RX1 rfl (zc_of rfl) rfl rfl ?_
  refine z_aload_n 1 dX1_popInto_0 rfl rfl ?_
  refine z_getI (x := (μ 31 2)) 4 dX1_popInto_1 rfl f_RX1_21 ar_31 rfl ?_
  refine z_if_le 38 7 dX1_popInto_4 rfl rfl (fun hc => ?_) (fun hc => ?_)
  · replace hq := z_in hq (Int.not_lt.mpr hc)
    cases hq
    exact z_return rfl dX1_popInto_38
  · replace hq := z_ip hq hc
    refine z_aload_n 8 dX1_popInto_7 rfl rfl ?_
    refine z_dup 9 dX1_popInto_8 rfl rfl ?_
    refine z_getI (x := (μ 31 2)) 12 dX1_popInto_9 rfl f_RX1_21 ar_31 rfl ?_
    refine z_iconst 13 dX1_popInto_12 rfl (by decide) ?_
    refine z_isub (r := (wr ((μ 31 2) - 1))) 14 dX1_popInto_13 rfl rfl ?_
    obtain ⟨m1, em1, hq⟩ := z_m hq
    refine z_putI 17 dX1_popInto_14 rfl p_RX1_21 ar_31 em1 ?_
    refine z_aload_n 18 dX1_popInto_17 rfl rfl ?_
    refine z_aload_n 19 dX1_popInto_18 rfl rfl ?_
    refine z_getR (e := 1) (r := 32) 22 dX1_popInto_19 rfl f_RX1_11 ar_31 rfl ar_32.1 ?_
    refine z_aload_n 23 dX1_popInto_22 rfl rfl ?_
    refine z_getI (x := (m1 31 1)) 26 dX1_popInto_23 rfl f_RX1_17 ar_31 rfl ?_
    refine z_aload_n 27 dX1_popInto_26 rfl rfl ?_
    refine z_getI (x := (m1 31 2)) 30 dX1_popInto_27 rfl f_RX1_21 ar_31 rfl ?_
    refine z_iadd (r := (wr ((m1 31 1) + (m1 31 2)))) 31 dX1_popInto_30 rfl rfl ?_
    refine z_bipush 33 dX1_popInto_31 rfl (by decide) (by decide) ?_
    refine z_irem 34 dX1_popInto_33 rfl (by decide) ?_
    obtain ⟨hg34, hq⟩ := z_g hq
    refine z_aald4 35 dX1_popInto_34 rfl ar_32 hg34 (zH_ring hg34).a0.1 ?_
    obtain ⟨m2, h2, hq⟩ := z_b hq
    refine z_callV0 (as := [zr (33 + 10 * Int.toNat (Int.tmod (wr ((m1 31 1) + (m1 31 2))) 8))]) (S := []) 38 dX1_popInto_35 rfl (Q_qH_copyFrom A_v1 (zH_ring hg34) h2) kX2_copyFrom ⟨_, _, rfl⟩ A_v1.a0 l_RX1_25 rfl rfl rfl rfl rfl rfl rfl ?_
    cases hq
    exact z_return rfl dX1_popInto_38
set_option maxRecDepth 100000 in
set_option maxHeartbeats 4000000 in
theorem Q_qT_undo {g : yG} {a : Nat → Nat} {μ : zM}  {r : Int ⊕ Nat} {ν : zM}  (hq : qT_undo μ = some (r, ν)) : zC g a mX9_undo 3 1 6 [zr 0] μ (zri r) ν := by
  unfold qT_undo at hq
  refine z_of (L := [some (zr 0)]) pl_RX9 rfl (zc_of rfl) rfl rfl ?_
  refine z_aload_n 1 dX9_undo_0 rfl rfl ?_
  refine z_getR (e := 31) (r := 31) 4 dX9_undo_1 rfl f_RX9_25 ar_0 rfl ar_31.1 ?_
  refine z_getI (x := (μ 31 2)) 7 dX9_undo_4 rfl f_RX9_337 ar_31 rfl ?_
  refine z_if_ne 21 10 dX9_undo_7 rfl rfl (fun hc => ?_) (fun hc => ?_)
  · replace hq := z_in hq hc
    refine z_aload_n 22 dX9_undo_21 rfl rfl ?_
    refine z_getR (e := 31) (r := 31) 25 dX9_undo_22 rfl f_RX9_25 ar_0 rfl ar_31.1 ?_
    refine z_aload_n 26 dX9_undo_25 rfl rfl ?_
    refine z_getR (e := 1) (r := 1) 29 dX9_undo_26 rfl f_RX9_12 ar_0 rfl ar_1.1 ?_
    obtain ⟨m1, h1, hq⟩ := z_b hq
    refine z_callV0 (as := [zr 1]) (S := []) (kc := 1) (ks := 6) 32 dX9_undo_29 rfl (Q_qY_popInto zH_1 h1) kX1_popInto ⟨_, _, rfl⟩ ar_31 l_RX9_342 rfl rfl rfl rfl rfl rfl rfl ?_
    refine z_aload_n 33 dX9_undo_32 rfl rfl ?_
    refine z_getR (e := 31) (r := 31) 36 dX9_undo_33 rfl f_RX9_25 ar_0 rfl ar_31.1 ?_
    refine z_getI (x := (m1 31 2)) 39 dX9_undo_36 rfl f_RX9_337 ar_31 rfl ?_
    cases hq
    exact z_ireturn rfl dX9_undo_39
  · replace hq := z_ip hq hc
    cases hq
    exact z_throwSW (cls := "java/lang/IllegalStateException") (text := "no change can be undone") (names := ["java/lang/RuntimeException", "java/lang/Exception"]) (e := 3) tf_3 (yb 742 (by decide +kernel) rfl) (yb 110 (by decide +kernel) rfl) ts_340 (by decide +kernel) t_RX9_305 rfl rfl dX9_undo_10 dX9_undo_13 dX9_undo_14 dX9_undo_17 dX9_undo_20 rfl rfl rfl
set_option maxRecDepth 100000 in
set_option maxHeartbeats 4000000 in
theorem Q_qT_save {g : yG} {a : Nat → Nat} {μ : zM}  {r : Int} {ν : zM}  (hq : qT_save μ = some (r, ν)) : zC g a mX9_save 2 0 0 [zr 0] μ (.inl (some (zi r))) ν := by
  unfold qT_save at hq
  refine z_of (L := [some (zr 0)]) pl_RX9 rfl (zc_of rfl) rfl rfl ?_
  refine z_aload_n 1 dX9_save_0 rfl rfl ?_
  refine z_getR (e := 21) (r := 21) 4 dX9_save_1 rfl f_RX9_19 ar_0 rfl ar_21.1 ?_
  refine z_aload_n 5 dX9_save_4 rfl rfl ?_
  refine z_getR (e := 1) (r := 1) 8 dX9_save_5 rfl f_RX9_12 ar_0 rfl ar_1.1 ?_
  obtain ⟨m1, h1, hq⟩ := z_b hq
  refine z_callV0 (as := [zr 1]) (S := []) 11 dX9_save_8 rfl (Q_qH_copyFrom zH_21 zH_1 h1) kX2_copyFrom ⟨_, _, rfl⟩ ar_21 l_RX9_237 rfl rfl rfl rfl rfl rfl rfl ?_
  refine z_aload_n 12 dX9_save_11 rfl rfl ?_
  refine z_iconst 13 dX9_save_12 rfl (by decide) ?_
  obtain ⟨m2, em2, hq⟩ := z_m hq
  refine z_putZ 16 dX9_save_13 rfl p_RX9_60 ar_0 (by decide) em2 ?_
  refine z_aload_n 17 dX9_save_16 rfl rfl ?_
  refine z_getR (e := 21) (r := 21) 20 dX9_save_17 rfl f_RX9_19 ar_0 rfl ar_21.1 ?_
  refine z_getI (x := (m2 21 3)) 23 dX9_save_20 rfl f_RX9_175 ar_21 rfl ?_
  cases hq
  exact z_ireturn rfl dX9_save_23
