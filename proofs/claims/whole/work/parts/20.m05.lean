/-! ===== the methods do what the mirror says (laid by wip/whole/tools/proofs.py) ===== -/
set_option maxRecDepth 100000 in
set_option maxHeartbeats 4000000 in
theorem Q_qM_notGive {g : yG} {a : Nat → Nat} {μ : zM} {v1 : Int} {v2 : Int} {r : Int}  (hq : qM_notGive μ v1 v2 = some r) : zC g a mX10_notGive 2 0 0 [zr 142, zi v1, zi v2] μ (.inl (some (zi r))) μ := by
  unfold qM_notGive at hq
  refine z_of (L := [some (zr 142), some (zi v1), some (zi v2)]) pl_RX10 rfl (zc_of rfl) rfl rfl ?_
  refine z_aload_n 1 dX10_notGive_0 rfl rfl ?_
  refine z_iload_n 2 dX10_notGive_1 rfl rfl ?_
  obtain ⟨a1, h1, hq⟩ := z_b hq
  refine z_callV1 (as := [zi v1]) (S := []) 5 dX10_notGive_2 rfl (Q_qM_place  h1) kX10_place ⟨_, _, rfl⟩ ar_142 l_RX10_110 rfl rfl rfl rfl rfl rfl rfl ?_
  refine z_if_ge 10 8 dX10_notGive_5 rfl rfl (fun hc => ?_) (fun hc => ?_)
  · replace hq := z_in hq (Int.not_lt.mpr hc)
    refine z_iload_n 11 dX10_notGive_10 rfl rfl ?_
    refine z_iconst 12 dX10_notGive_11 rfl (by decide) ?_
    refine z_bipush 14 dX10_notGive_12 rfl (by decide) (by decide) ?_
    obtain ⟨a2, h2, hq⟩ := z_b hq
    refine z_callS1 (as := [zi v2, zi 1, zi 99]) (S := []) 17 dX10_notGive_14 rfl (Q_qM_isBetween  h2) kX10_isBetween l_RX10_72 rfl rfl rfl rfl rfl rfl rfl ?_
    refine z_if_eq 24 20 dX10_notGive_17 rfl rfl (fun hc => ?_) (fun hc => ?_)
    · replace hq := z_ip hq hc
      refine z_iconst 25 dX10_notGive_24 rfl (by decide) ?_
      cases hq
      exact z_ireturn rfl dX10_notGive_25
    · replace hq := z_in hq hc
      refine z_iconst 21 dX10_notGive_20 rfl (by decide) ?_
      refine z_goto 25 dX10_notGive_21 rfl ?_
      cases hq
      exact z_ireturn rfl dX10_notGive_25
  · replace hq := z_ip hq hc
    refine z_iconst 9 dX10_notGive_8 rfl (by decide) ?_
    cases hq
    exact z_ireturn rfl dX10_notGive_9
set_option maxRecDepth 100000 in
set_option maxHeartbeats 4000000 in
theorem Q_qM_gives {g : yG} {a : Nat → Nat} {μ : zM} {v1 : Int} {v2 : Int} {r : Int} {ν : zM}  (hq : qM_gives μ v1 v2 = some (r, ν)) : zC g a mX10_gives 2 0 0 [zr 142, zi v1, zi v2] μ (.inl (some (zi r))) ν := by
  unfold qM_gives at hq
  refine z_of (L := [some (zr 142), some (zi v1), some (zi v2), none]) pl_RX10 rfl (zc_of rfl) rfl rfl ?_
  refine z_aload_n 1 dX10_gives_0 rfl rfl ?_
  refine z_iload_n 2 dX10_gives_1 rfl rfl ?_
  obtain ⟨a1, h1, hq⟩ := z_b hq
  refine z_callV1 (as := [zi v1]) (S := []) 5 dX10_gives_2 rfl (Q_qM_place  h1) kX10_place ⟨_, _, rfl⟩ ar_142 l_RX10_110 rfl rfl rfl rfl rfl rfl rfl ?_
  refine z_istore_n (L' := [some (zr 142), some (zi v1), some (zi v2), some (zi a1)]) 6 dX10_gives_5 rfl rfl rfl rfl ?_
  refine z_aload_n 7 dX10_gives_6 rfl rfl ?_
  refine z_iload_n 8 dX10_gives_7 rfl rfl ?_
  refine z_iconst 9 dX10_gives_8 rfl (by decide) ?_
  refine z_aload_n 10 dX10_gives_9 rfl rfl ?_
  refine z_iload_n 11 dX10_gives_10 rfl rfl ?_
  refine z_iconst 12 dX10_gives_11 rfl (by decide) ?_
  obtain ⟨a2, h2, hq⟩ := z_b hq
  refine z_callV1 (as := [zi a1, zi 4]) (S := [zi 4, zi a1, zr 142]) 15 dX10_gives_12 rfl (Q_qM_of  h2) kX10_of ⟨_, _, rfl⟩ ar_142 l_RX10_76 rfl rfl rfl rfl rfl rfl rfl ?_
  refine z_iload_n 16 dX10_gives_15 rfl rfl ?_
  refine z_iadd (r := (wr (a2 + v2))) 17 dX10_gives_16 rfl rfl ?_
  obtain ⟨m3, h3, hq⟩ := z_b hq
  refine z_callV0 (as := [zi a1, zi 4, zi (wr (a2 + v2))]) (S := []) 20 dX10_gives_17 rfl (Q_qM_puts  h3) kX10_puts ⟨_, _, rfl⟩ ar_142 l_RX10_99 rfl rfl rfl rfl rfl rfl rfl ?_
  refine z_aload_n 21 dX10_gives_20 rfl rfl ?_
  refine z_getR (e := 1) (r := 143) 24 dX10_gives_21 rfl f_RX10_7 ar_142 rfl ar_143.1 ?_
  refine z_bipush 26 dX10_gives_24 rfl (by decide) (by decide) ?_
  refine z_dup2 27 dX10_gives_26 rfl rfl rfl ?_
  refine z_iaload (x := (m3 143 7)) 28 dX10_gives_27 rfl ar_143 ⟨by decide, by decide⟩ rfl ?_
  refine z_iload_n 29 dX10_gives_28 rfl rfl ?_
  refine z_iadd (r := (wr ((m3 143 7) + v2))) 30 dX10_gives_29 rfl rfl ?_
  obtain ⟨m4, em4, hq⟩ := z_m hq
  refine z_iastore 31 dX10_gives_30 rfl ar_143 ⟨by decide, by decide⟩ em4 ?_
  refine z_aload_n 32 dX10_gives_31 rfl rfl ?_
  refine z_iload_n 33 dX10_gives_32 rfl rfl ?_
  refine z_iconst 34 dX10_gives_33 rfl (by decide) ?_
  obtain ⟨a5, h5, hq⟩ := z_b hq
  refine z_callV1 (as := [zi a1, zi 4]) (S := []) 37 dX10_gives_34 rfl (Q_qM_of  h5) kX10_of ⟨_, _, rfl⟩ ar_142 l_RX10_76 rfl rfl rfl rfl rfl rfl rfl ?_
  cases hq
  exact z_ireturn rfl dX10_gives_37
set_option maxRecDepth 100000 in
set_option maxHeartbeats 4000000 in
theorem Q_qM_give {g : yG} {a : Nat → Nat} {μ : zM} {v1 : Int} {v2 : Int} {r : Int} {ν : zM}  (hq : qM_give μ v1 v2 = some (r, ν)) : zC g a mX10_give 3 0 0 [zr 142, zi v1, zi v2] μ (.inl (some (zi r))) ν := by
  unfold qM_give at hq
  refine z_of (L := [some (zr 142), some (zi v1), some (zi v2), none]) pl_RX10 rfl (zc_of rfl) rfl rfl ?_
  refine z_aload_n 1 dX10_give_0 rfl rfl ?_
  refine z_iconst 2 dX10_give_1 rfl (by decide) ?_
  obtain ⟨m1, em1, hq⟩ := z_m hq
  refine z_putI 5 dX10_give_2 rfl p_RX10_57 ar_142 em1 ?_
  refine z_aload_n 6 dX10_give_5 rfl rfl ?_
  refine z_iload_n 7 dX10_give_6 rfl rfl ?_
  refine z_iload_n 8 dX10_give_7 rfl rfl ?_
  obtain ⟨a2, h2, hq⟩ := z_b hq
  refine z_callV1 (as := [zi v1, zi v2]) (S := []) 11 dX10_give_8 rfl (Q_qM_notGive  h2) kX10_notGive ⟨_, _, rfl⟩ ar_142 l_RX10_151 rfl rfl rfl rfl rfl rfl rfl ?_
  refine z_istore_n (L' := [some (zr 142), some (zi v1), some (zi v2), some (zi a2)]) 12 dX10_give_11 rfl rfl rfl rfl ?_
  refine z_iload_n 13 dX10_give_12 rfl rfl ?_
  refine z_if_eq 22 16 dX10_give_13 rfl rfl (fun hc => ?_) (fun hc => ?_)
  · replace hq := z_ip hq hc
    refine z_aload_n 23 dX10_give_22 rfl rfl ?_
    obtain ⟨m3, h3, hq⟩ := z_b hq
    refine z_callV0 (as := []) (S := []) 26 dX10_give_23 rfl (Q_qM_remembers  h3) kX10_remembers ⟨_, _, rfl⟩ ar_142 l_RX10_93 rfl rfl rfl rfl rfl rfl rfl ?_
    refine z_aload_n 27 dX10_give_26 rfl rfl ?_
    refine z_iload_n 28 dX10_give_27 rfl rfl ?_
    refine z_iload_n 29 dX10_give_28 rfl rfl ?_
    obtain ⟨a4, m4, h4, hq⟩ := bnd2_some hq
    refine z_callV1 (as := [zi v1, zi v2]) (S := []) 32 dX10_give_29 rfl (Q_qM_gives  h4) kX10_gives ⟨_, _, rfl⟩ ar_142 l_RX10_154 rfl rfl rfl rfl rfl rfl rfl ?_
    cases hq
    exact z_ireturn rfl dX10_give_32
  · replace hq := z_in hq hc
    refine z_aload_n 17 dX10_give_16 rfl rfl ?_
    refine z_iload_n 18 dX10_give_17 rfl rfl ?_
    obtain ⟨a5, m5, h5, hq⟩ := bnd2_some hq
    refine z_callV1 (as := [zi a2]) (S := []) 21 dX10_give_18 rfl (Q_qM_fails  h5) kX10_fails ⟨_, _, rfl⟩ ar_142 l_RX10_89 rfl rfl rfl rfl rfl rfl rfl ?_
    cases hq
    exact z_ireturn rfl dX10_give_21
set_option maxRecDepth 100000 in
set_option maxHeartbeats 4000000 in
theorem L_qM_flatAt_l18 {g : yG} {a : Nat → Nat} {μ ν : zM} {o : zO} {kc ks : Nat} {v1 : Int} {v2 : Int} {v3 : Int} {R : Int}   (he : ∀ (tz : Int), R = tz → Z g a mX10_flatAt 3 kc ks 62 [some (zr 142), some (zi v1), some (zi v2), some (zi v3), some (zi tz), none] [] μ o ν) : ∀ (n : Nat) (v4 : Int) (v5 : Int), qM_flatAt_l18 μ v1 v2 v3 n v4 v5 = some R → Z g a mX10_flatAt 3 kc ks 18 [some (zr 142), some (zi v1), some (zi v2), some (zi v3), some (zi v4), some (zi v5)] [] μ o ν := by
  intro n
  induction n with
  | zero => intro v4 v5 hq; cases hq
  | succ n ih =>
    intro v4 v5 hq
    rw [qM_flatAt_l18] at hq
    refine z_iload 20 dX10_flatAt_18 rfl rfl ?_
    refine z_aload_n 21 dX10_flatAt_20 rfl rfl ?_
    refine z_getR (e := 1) (r := 143) 24 dX10_flatAt_21 rfl f_RX10_7 ar_142 rfl ar_143.1 ?_
    refine z_iconst 25 dX10_flatAt_24 rfl (by decide) ?_
    refine z_iaload (x := (μ 143 0)) 26 dX10_flatAt_25 rfl ar_143 ⟨by decide, by decide⟩ rfl ?_
    refine z_icmp_ge 62 29 dX10_flatAt_26 rfl rfl (fun hc => ?_) (fun hc => ?_)
    · replace hq := z_in hq (Int.not_lt.mpr hc)
      exact Z.sub (zle_s (zle_s (zle_s (zle_s (zle_s (zle_n zle_nil)))))) (he _ (Option.some.inj hq).symm)
    · replace hq := z_ip hq hc
      refine z_iload 31 dX10_flatAt_29 rfl rfl ?_
      refine z_iload 33 dX10_flatAt_31 rfl rfl ?_
      refine z_iload_n 34 dX10_flatAt_33 rfl rfl ?_
      refine z_icmp_eq 52 37 dX10_flatAt_34 rfl rfl (fun hc => ?_) (fun hc => ?_)
      · replace hq := z_ip hq hc
        refine z_iconst 53 dX10_flatAt_52 rfl (by decide) ?_
        refine z_iadd (r := (wr (v4 + 0))) 54 dX10_flatAt_53 rfl rfl ?_
        refine z_istore (L' := [some (zr 142), some (zi v1), some (zi v2), some (zi v3), some (zi (wr (v4 + 0))), some (zi v5)]) 56 dX10_flatAt_54 rfl rfl rfl rfl ?_
        refine z_iinc (r := (wr (v5 + 1))) (L' := [some (zr 142), some (zi v1), some (zi v2), some (zi v3), some (zi (wr (v4 + 0))), some (zi (wr (v5 + 1)))]) 59 dX10_flatAt_56 rfl rfl rfl rfl rfl rfl ?_
        refine z_goto 18 dX10_flatAt_59 rfl ?_
        exact Z.sub (zle_s (zle_s (zle_s (zle_s (zle_s (zle_s zle_nil)))))) (ih _ _ hq)
      · replace hq := z_in hq hc
        refine z_aload_n 38 dX10_flatAt_37 rfl rfl ?_
        refine z_iload_n 39 dX10_flatAt_38 rfl rfl ?_
        refine z_iload 41 dX10_flatAt_39 rfl rfl ?_
        refine z_iload_n 42 dX10_flatAt_41 rfl rfl ?_
        obtain ⟨a1, h1, hq⟩ := z_b hq
        refine z_callV1 (as := [zi v1, zi v5, zi v3]) (S := [zi v4]) 45 dX10_flatAt_42 rfl (Q_qM_prefers  h1) kX10_prefers ⟨_, _, rfl⟩ ar_142 l_RX10_130 rfl rfl rfl rfl rfl rfl rfl ?_
        refine z_if_eq 52 48 dX10_flatAt_45 rfl rfl (fun hc => ?_) (fun hc => ?_)
        · replace hq := z_ip hq hc
          refine z_iconst 53 dX10_flatAt_52 rfl (by decide) ?_
          refine z_iadd (r := (wr (v4 + 0))) 54 dX10_flatAt_53 rfl rfl ?_
          refine z_istore (L' := [some (zr 142), some (zi v1), some (zi v2), some (zi v3), some (zi (wr (v4 + 0))), some (zi v5)]) 56 dX10_flatAt_54 rfl rfl rfl rfl ?_
          refine z_iinc (r := (wr (v5 + 1))) (L' := [some (zr 142), some (zi v1), some (zi v2), some (zi v3), some (zi (wr (v4 + 0))), some (zi (wr (v5 + 1)))]) 59 dX10_flatAt_56 rfl rfl rfl rfl rfl rfl ?_
          refine z_goto 18 dX10_flatAt_59 rfl ?_
          exact Z.sub (zle_s (zle_s (zle_s (zle_s (zle_s (zle_s zle_nil)))))) (ih _ _ hq)
        · replace hq := z_in hq hc
          refine z_iconst 49 dX10_flatAt_48 rfl (by decide) ?_
          refine z_goto 53 dX10_flatAt_49 rfl ?_
          refine z_iadd (r := (wr (v4 + 1))) 54 dX10_flatAt_53 rfl rfl ?_
          refine z_istore (L' := [some (zr 142), some (zi v1), some (zi v2), some (zi v3), some (zi (wr (v4 + 1))), some (zi v5)]) 56 dX10_flatAt_54 rfl rfl rfl rfl ?_
          refine z_iinc (r := (wr (v5 + 1))) (L' := [some (zr 142), some (zi v1), some (zi v2), some (zi v3), some (zi (wr (v4 + 1))), some (zi (wr (v5 + 1)))]) 59 dX10_flatAt_56 rfl rfl rfl rfl rfl rfl ?_
          refine z_goto 18 dX10_flatAt_59 rfl ?_
          exact Z.sub (zle_s (zle_s (zle_s (zle_s (zle_s (zle_s zle_nil)))))) (ih _ _ hq)
set_option maxRecDepth 100000 in
set_option maxHeartbeats 4000000 in
theorem L_qM_flatAt_l2 {g : yG} {a : Nat → Nat} {μ ν : zM} {o : zO} {kc ks : Nat} {v1 : Int} {v2 : Int} {R : Int ⊕ Unit}   (hr : ∀ (x : Int), R = .inl x → o = .inl (some (zi x)) ∧ ν = μ) (he : ∀ (tz : Unit), R = .inr tz → Z g a mX10_flatAt 3 kc ks 76 [some (zr 142), some (zi v1), some (zi v2), none, none, none] [] μ o ν) : ∀ (n : Nat) (v3 : Int), qM_flatAt_l2 μ v1 v2 n v3 = some R → Z g a mX10_flatAt 3 kc ks 2 [some (zr 142), some (zi v1), some (zi v2), some (zi v3), none, none] [] μ o ν := by
  intro n
  induction n with
  | zero => intro v3 hq; cases hq
  | succ n ih =>
    intro v3 hq
    rw [qM_flatAt_l2] at hq
    refine z_iload_n 3 dX10_flatAt_2 rfl rfl ?_
    refine z_aload_n 4 dX10_flatAt_3 rfl rfl ?_
    refine z_getR (e := 1) (r := 143) 7 dX10_flatAt_4 rfl f_RX10_7 ar_142 rfl ar_143.1 ?_
    refine z_iconst 8 dX10_flatAt_7 rfl (by decide) ?_
    refine z_iaload (x := (μ 143 0)) 9 dX10_flatAt_8 rfl ar_143 ⟨by decide, by decide⟩ rfl ?_
    refine z_icmp_ge 76 12 dX10_flatAt_9 rfl rfl (fun hc => ?_) (fun hc => ?_)
    · replace hq := z_in hq (Int.not_lt.mpr hc)
      exact Z.sub (zle_s (zle_s (zle_s (zle_n (zle_n (zle_n zle_nil)))))) (he _ (Option.some.inj hq).symm)
    · replace hq := z_ip hq hc
      refine z_iconst 13 dX10_flatAt_12 rfl (by decide) ?_
      refine z_istore (L' := [some (zr 142), some (zi v1), some (zi v2), some (zi v3), some (zi 0), none]) 15 dX10_flatAt_13 rfl rfl rfl rfl ?_
      refine z_iconst 16 dX10_flatAt_15 rfl (by decide) ?_
      refine z_istore (L' := [some (zr 142), some (zi v1), some (zi v2), some (zi v3), some (zi 0), some (zi 0)]) 18 dX10_flatAt_16 rfl rfl rfl rfl ?_
      obtain ⟨t2, h2, hq⟩ := z_b hq
      refine Z.sub (zle_s (zle_s (zle_s (zle_s (zle_s (zle_s zle_nil)))))) (L_qM_flatAt_l18  (R := t2) (fun _ e => ?_) _ _ _ h2)
      cases e
      refine z_iload 64 dX10_flatAt_62 rfl rfl ?_
      refine z_iload_n 65 dX10_flatAt_64 rfl rfl ?_
      refine z_icmp_ne 70 68 dX10_flatAt_65 rfl rfl (fun hc => ?_) (fun hc => ?_)
      · replace hq := z_in hq hc
        refine z_iinc (r := (wr (v3 + 1))) (L' := [some (zr 142), some (zi v1), some (zi v2), some (zi (wr (v3 + 1))), some (zi t2), none]) 73 dX10_flatAt_70 rfl rfl rfl rfl rfl rfl ?_
        refine z_goto 2 dX10_flatAt_73 rfl ?_
        exact Z.sub (zle_s (zle_s (zle_s (zle_s (zle_n (zle_n zle_nil)))))) (ih _ hq)
      · replace hq := z_ip hq hc
        refine z_iload_n 69 dX10_flatAt_68 rfl rfl ?_
        obtain ⟨ho, hv⟩ := hr _ (Option.some.inj hq).symm
        exact z_conv ho hv (z_ireturn rfl dX10_flatAt_69)
set_option maxRecDepth 100000 in
set_option maxHeartbeats 4000000 in
theorem Q_qM_flatAt {g : yG} {a : Nat → Nat} {μ : zM} {v1 : Int} {v2 : Int} {r : Int}  (hq : qM_flatAt μ v1 v2 = some r) : zC g a mX10_flatAt 3 0 0 [zr 142, zi v1, zi v2] μ (.inl (some (zi r))) μ := by
  unfold qM_flatAt at hq
  refine z_of (L := [some (zr 142), some (zi v1), some (zi v2), none, none, none]) pl_RX10 rfl (zc_of rfl) rfl rfl ?_
  refine z_iconst 1 dX10_flatAt_0 rfl (by decide) ?_
  refine z_istore_n (L' := [some (zr 142), some (zi v1), some (zi v2), some (zi 0), none, none]) 2 dX10_flatAt_1 rfl rfl rfl rfl ?_
  rcases bndS_some hq with ⟨x3, h3, hq⟩ | ⟨t3, h3, hq⟩
  · exact Z.sub (zle_s (zle_s (zle_s (zle_s (zle_n (zle_n zle_nil)))))) (L_qM_flatAt_l2  (R := .inl x3) (fun _ e => by cases e; cases hq; exact ⟨rfl, rfl⟩) (fun _ e => by cases e) _ _ h3)
  · refine Z.sub (zle_s (zle_s (zle_s (zle_s (zle_n (zle_n zle_nil)))))) (L_qM_flatAt_l2  (R := .inr t3) (fun _ e => by cases e) (fun _ e => ?_) _ _ h3)
    cases e
    refine z_iconst 77 dX10_flatAt_76 rfl (by decide) ?_
    cases hq
    exact z_ireturn rfl dX10_flatAt_77
set_option maxRecDepth 100000 in
set_option maxHeartbeats 4000000 in
theorem L_qM_plannedIn_l2 {g : yG} {a : Nat → Nat} {μ ν : zM} {o : zO} {kc ks : Nat} {v1 : Int} {R : Int ⊕ Unit}   (hr : ∀ (x : Int), R = .inl x → o = .inl (some (zi x)) ∧ ν = μ) (he : ∀ (tz : Unit), R = .inr tz → Z g a mX10_plannedIn 0 kc ks 30 [some (zr 142), some (zi v1), none] [] μ o ν) : ∀ (n : Nat) (v2 : Int), qM_plannedIn_l2 μ v1 n v2 = some R → Z g a mX10_plannedIn 0 kc ks 2 [some (zr 142), some (zi v1), some (zi v2)] [] μ o ν := by
  intro n
  induction n with
  | zero => intro v2 hq; cases hq
  | succ n ih =>
    intro v2 hq
    rw [qM_plannedIn_l2] at hq
    refine z_iload_n 3 dX10_plannedIn_2 rfl rfl ?_
    refine z_aload_n 4 dX10_plannedIn_3 rfl rfl ?_
    refine z_getR (e := 1) (r := 143) 7 dX10_plannedIn_4 rfl f_RX10_7 ar_142 rfl ar_143.1 ?_
    refine z_iconst 8 dX10_plannedIn_7 rfl (by decide) ?_
    refine z_iaload (x := (μ 143 1)) 9 dX10_plannedIn_8 rfl ar_143 ⟨by decide, by decide⟩ rfl ?_
    refine z_icmp_ge 30 12 dX10_plannedIn_9 rfl rfl (fun hc => ?_) (fun hc => ?_)
    · replace hq := z_in hq (Int.not_lt.mpr hc)
      exact Z.sub (zle_s (zle_s (zle_n zle_nil))) (he _ (Option.some.inj hq).symm)
    · replace hq := z_ip hq hc
      refine z_aload_n 13 dX10_plannedIn_12 rfl rfl ?_
      refine z_getR (e := 6) (r := 148) 16 dX10_plannedIn_13 rfl f_RX10_25 ar_142 rfl ar_148.1 ?_
      refine z_iload_n 17 dX10_plannedIn_16 rfl rfl ?_
      obtain ⟨hg17, hq⟩ := z_g hq
      refine z_iaload (x := (μ 148 v2)) 18 dX10_plannedIn_17 rfl ar_148 hg17 rfl ?_
      refine z_iload_n 19 dX10_plannedIn_18 rfl rfl ?_
      refine z_icmp_ne 24 22 dX10_plannedIn_19 rfl rfl (fun hc => ?_) (fun hc => ?_)
      · replace hq := z_in hq hc
        refine z_iinc (r := (wr (v2 + 1))) (L' := [some (zr 142), some (zi v1), some (zi (wr (v2 + 1)))]) 27 dX10_plannedIn_24 rfl rfl rfl rfl rfl rfl ?_
        refine z_goto 2 dX10_plannedIn_27 rfl ?_
        exact Z.sub (zle_s (zle_s (zle_s zle_nil))) (ih _ hq)
      · replace hq := z_ip hq hc
        refine z_iload_n 23 dX10_plannedIn_22 rfl rfl ?_
        obtain ⟨ho, hv⟩ := hr _ (Option.some.inj hq).symm
        exact z_conv ho hv (z_ireturn rfl dX10_plannedIn_23)
set_option maxRecDepth 100000 in
set_option maxHeartbeats 4000000 in
theorem Q_qM_plannedIn {g : yG} {a : Nat → Nat} {μ : zM} {v1 : Int} {r : Int}  (hq : qM_plannedIn μ v1 = some r) : zC g a mX10_plannedIn 0 0 0 [zr 142, zi v1] μ (.inl (some (zi r))) μ := by
  unfold qM_plannedIn at hq
  refine z_of (L := [some (zr 142), some (zi v1), none]) pl_RX10 rfl (zc_of rfl) rfl rfl ?_
  refine z_iconst 1 dX10_plannedIn_0 rfl (by decide) ?_
  refine z_istore_n (L' := [some (zr 142), some (zi v1), some (zi 0)]) 2 dX10_plannedIn_1 rfl rfl rfl rfl ?_
  rcases bndS_some hq with ⟨x1, h1, hq⟩ | ⟨t1, h1, hq⟩
  · exact Z.sub (zle_s (zle_s (zle_s zle_nil))) (L_qM_plannedIn_l2  (R := .inl x1) (fun _ e => by cases e; cases hq; exact ⟨rfl, rfl⟩) (fun _ e => by cases e) _ _ h1)
  · refine Z.sub (zle_s (zle_s (zle_s zle_nil))) (L_qM_plannedIn_l2  (R := .inr t1) (fun _ e => by cases e) (fun _ e => ?_) _ _ h1)
    cases e
    refine z_iconst 31 dX10_plannedIn_30 rfl (by decide) ?_
    cases hq
    exact z_ireturn rfl dX10_plannedIn_31
set_option maxRecDepth 100000 in
set_option maxHeartbeats 4000000 in
theorem J_qM_asks_j91 {g : yG} {a : Nat → Nat} {μ : zM} {kc ks : Nat} {v1 : Int} {v2 : Int} {r : Int} {ν : zM}   (hq : qM_asks_j91 μ v1 v2 = some (r, ν)) : Z g a mX10_asks 4 kc ks 91 [some (zr 142), some (zi v1), some (zi v2), none] [] μ (.inl (some (zi r))) ν := by
  unfold qM_asks_j91 at hq
  refine z_aload_n 92 dX10_asks_91 rfl rfl ?_
  refine z_getR (e := 6) (r := 148) 95 dX10_asks_92 rfl f_RX10_25 ar_142 rfl ar_148.1 ?_
  refine z_iload_n 96 dX10_asks_95 rfl rfl ?_
  refine z_iload_n 97 dX10_asks_96 rfl rfl ?_
  obtain ⟨hg97, hq⟩ := z_g hq
  obtain ⟨m5, em5, hq⟩ := z_m hq
  refine z_iastore 98 dX10_asks_97 rfl ar_148 hg97 em5 ?_
  refine z_iconst 99 dX10_asks_98 rfl (by decide) ?_
  cases hq
  exact z_zreturn rfl dX10_asks_99 (by decide)
set_option maxRecDepth 100000 in
set_option maxHeartbeats 4000000 in
theorem J_qM_asks_j80 {g : yG} {a : Nat → Nat} {μ : zM} {kc ks : Nat} {v1 : Int} {v2 : Int} {v3 : Int} {r : Int} {ν : zM}   (hq : qM_asks_j80 μ v1 v2 v3 = some (r, ν)) : Z g a mX10_asks 4 kc ks 80 [some (zr 142), some (zi v1), some (zi v2), some (zi v3)] [] μ (.inl (some (zi r))) ν := by
  unfold qM_asks_j80 at hq
  refine z_iload_n 81 dX10_asks_80 rfl rfl ?_
  refine z_if_lt 91 84 dX10_asks_81 rfl rfl (fun hc => ?_) (fun hc => ?_)
  · replace hq := z_ip hq hc
    exact Z.sub (zle_s (zle_s (zle_s (zle_n zle_nil)))) (J_qM_asks_j91 hq)
  · replace hq := z_in hq (Int.not_lt.mpr hc)
    refine z_aload_n 85 dX10_asks_84 rfl rfl ?_
    refine z_getR (e := 6) (r := 148) 88 dX10_asks_85 rfl f_RX10_25 ar_142 rfl ar_148.1 ?_
    refine z_iload_n 89 dX10_asks_88 rfl rfl ?_
    refine z_iconst 90 dX10_asks_89 rfl (by decide) ?_
    obtain ⟨hg90, hq⟩ := z_g hq
    obtain ⟨m6, em6, hq⟩ := z_m hq
    refine z_iastore 91 dX10_asks_90 rfl ar_148 hg90 em6 ?_
    exact Z.sub (zle_s (zle_s (zle_s (zle_n zle_nil)))) (J_qM_asks_j91 hq)
set_option maxRecDepth 100000 in
set_option maxHeartbeats 4000000 in
theorem Q_qM_asks {g : yG} {a : Nat → Nat} {μ : zM} {v1 : Int} {r : Int} {ν : zM}  (hq : qM_asks μ v1 = some (r, ν)) : zC g a mX10_asks 4 0 0 [zr 142, zi v1] μ (.inl (some (zi r))) ν := by
  unfold qM_asks at hq
  refine z_of (L := [some (zr 142), some (zi v1), none, none]) pl_RX10 rfl (zc_of rfl) rfl rfl ?_
  refine z_aload_n 1 dX10_asks_0 rfl rfl ?_
  refine z_getR (e := 6) (r := 148) 4 dX10_asks_1 rfl f_RX10_25 ar_142 rfl ar_148.1 ?_
  refine z_iload_n 5 dX10_asks_4 rfl rfl ?_
  obtain ⟨hg5, hq⟩ := z_g hq
  refine z_iaload (x := (μ 148 v1)) 6 dX10_asks_5 rfl ar_148 hg5 rfl ?_
  refine z_if_ge 24 9 dX10_asks_6 rfl rfl (fun hc => ?_) (fun hc => ?_)
  · replace hq := z_in hq (Int.not_lt.mpr hc)
    refine z_iconst 25 dX10_asks_24 rfl (by decide) ?_
    cases hq
    exact z_zreturn rfl dX10_asks_25 (by decide)
  · replace hq := z_ip hq hc
    refine z_aload_n 10 dX10_asks_9 rfl rfl ?_
    refine z_getR (e := 7) (r := 149) 13 dX10_asks_10 rfl f_RX10_28 ar_142 rfl ar_149.1 ?_
    refine z_iload_n 14 dX10_asks_13 rfl rfl ?_
    obtain ⟨hg14, hq⟩ := z_g hq
    refine z_iaload (x := (μ 149 v1)) 15 dX10_asks_14 rfl ar_149 hg14 rfl ?_
    refine z_aload_n 16 dX10_asks_15 rfl rfl ?_
    refine z_getR (e := 1) (r := 143) 19 dX10_asks_16 rfl f_RX10_7 ar_142 rfl ar_143.1 ?_
    refine z_iconst 20 dX10_asks_19 rfl (by decide) ?_
    refine z_iaload (x := (μ 143 0)) 21 dX10_asks_20 rfl ar_143 ⟨by decide, by decide⟩ rfl ?_
    refine z_icmp_ne 26 24 dX10_asks_21 rfl rfl (fun hc => ?_) (fun hc => ?_)
    · replace hq := z_in hq hc
      refine z_aload_n 27 dX10_asks_26 rfl rfl ?_
      refine z_iload_n 28 dX10_asks_27 rfl rfl ?_
      refine z_aload_n 29 dX10_asks_28 rfl rfl ?_
      refine z_getR (e := 7) (r := 149) 32 dX10_asks_29 rfl f_RX10_28 ar_142 rfl ar_149.1 ?_
      refine z_iload_n 33 dX10_asks_32 rfl rfl ?_
      obtain ⟨hg33, hq⟩ := z_g hq
      refine z_iaload (x := (μ 149 v1)) 34 dX10_asks_33 rfl ar_149 hg33 rfl ?_
      obtain ⟨a1, h1, hq⟩ := z_b hq
      refine z_callV1 (as := [zi v1, zi (μ 149 v1)]) (S := []) 37 dX10_asks_34 rfl (Q_qM_flatAt  h1) kX10_flatAt ⟨_, _, rfl⟩ ar_142 l_RX10_157 rfl rfl rfl rfl rfl rfl rfl ?_
      refine z_istore_n (L' := [some (zr 142), some (zi v1), some (zi a1), none]) 38 dX10_asks_37 rfl rfl rfl rfl ?_
      refine z_aload_n 39 dX10_asks_38 rfl rfl ?_
      refine z_getR (e := 7) (r := 149) 42 dX10_asks_39 rfl f_RX10_28 ar_142 rfl ar_149.1 ?_
      refine z_iload_n 43 dX10_asks_42 rfl rfl ?_
      refine z_dup2 44 dX10_asks_43 rfl rfl rfl ?_
      obtain ⟨hg44, hq⟩ := z_g hq
      refine z_iaload (x := (μ 149 v1)) 45 dX10_asks_44 rfl ar_149 hg44 rfl ?_
      refine z_iconst 46 dX10_asks_45 rfl (by decide) ?_
      refine z_iadd (r := (wr ((μ 149 v1) + 1))) 47 dX10_asks_46 rfl rfl ?_
      obtain ⟨hg47, hq⟩ := z_g hq
      obtain ⟨m2, em2, hq⟩ := z_m hq
      refine z_iastore 48 dX10_asks_47 rfl ar_149 hg47 em2 ?_
      refine z_aload_n 49 dX10_asks_48 rfl rfl ?_
      refine z_iload_n 50 dX10_asks_49 rfl rfl ?_
      refine z_iload_n 51 dX10_asks_50 rfl rfl ?_
      obtain ⟨a3, h3, hq⟩ := z_b hq
      refine z_callV1 (as := [zi v1, zi a1]) (S := []) 54 dX10_asks_51 rfl (Q_qM_affords  h3) kX10_affords ⟨_, _, rfl⟩ ar_142 l_RX10_120 rfl rfl rfl rfl rfl rfl rfl ?_
      refine z_if_ne 59 57 dX10_asks_54 rfl rfl (fun hc => ?_) (fun hc => ?_)
      · replace hq := z_in hq hc
        refine z_aload_n 60 dX10_asks_59 rfl rfl ?_
        refine z_iload_n 61 dX10_asks_60 rfl rfl ?_
        obtain ⟨a4, h4, hq⟩ := z_b hq
        refine z_callV1 (as := [zi a1]) (S := []) 64 dX10_asks_61 rfl (Q_qM_plannedIn  h4) kX10_plannedIn ⟨_, _, rfl⟩ ar_142 l_RX10_160 rfl rfl rfl rfl rfl rfl rfl ?_
        refine z_istore_n (L' := [some (zr 142), some (zi v1), some (zi a1), some (zi a4)]) 65 dX10_asks_64 rfl rfl rfl rfl ?_
        refine z_iload_n 66 dX10_asks_65 rfl rfl ?_
        refine z_if_lt 80 69 dX10_asks_66 rfl rfl (fun hc => ?_) (fun hc => ?_)
        · replace hq := z_ip hq hc
          exact Z.sub (zle_s (zle_s (zle_s (zle_s zle_nil)))) (J_qM_asks_j80 hq)
        · replace hq := z_in hq (Int.not_lt.mpr hc)
          refine z_aload_n 70 dX10_asks_69 rfl rfl ?_
          refine z_iload_n 71 dX10_asks_70 rfl rfl ?_
          refine z_iload_n 72 dX10_asks_71 rfl rfl ?_
          obtain ⟨a7, h7, hq⟩ := z_b hq
          refine z_callV1 (as := [zi a4, zi v1]) (S := []) 75 dX10_asks_72 rfl (Q_qM_isPreferred  h7) kX10_isPreferred ⟨_, _, rfl⟩ ar_142 l_RX10_133 rfl rfl rfl rfl rfl rfl rfl ?_
          refine z_if_eq 80 78 dX10_asks_75 rfl rfl (fun hc => ?_) (fun hc => ?_)
          · replace hq := z_ip hq hc
            exact Z.sub (zle_s (zle_s (zle_s (zle_s zle_nil)))) (J_qM_asks_j80 hq)
          · replace hq := z_in hq hc
            refine z_iconst 79 dX10_asks_78 rfl (by decide) ?_
            cases hq
            exact z_zreturn rfl dX10_asks_79 (by decide)
      · replace hq := z_ip hq hc
        refine z_iconst 58 dX10_asks_57 rfl (by decide) ?_
        cases hq
        exact z_zreturn rfl dX10_asks_58 (by decide)
    · replace hq := z_ip hq hc
      refine z_iconst 25 dX10_asks_24 rfl (by decide) ?_
      cases hq
      exact z_zreturn rfl dX10_asks_25 (by decide)
set_option maxRecDepth 100000 in
set_option maxHeartbeats 4000000 in
theorem L_qM_findsPlan_l2 {g : yG} {a : Nat → Nat} {ν : zM} {o : zO} {kc ks : Nat}  {R : zM}   (he : ∀ (m : zM), R = m → Z g a mX10_findsPlan 5 kc ks 28 [some (zr 142), none, none] [] m o ν) : ∀ (n : Nat) (μ : zM) (v1 : Int), qM_findsPlan_l2 n μ v1 = some R → Z g a mX10_findsPlan 5 kc ks 2 [some (zr 142), some (zi v1), none] [] μ o ν := by
  intro n
  induction n with
  | zero => intro μ v1 hq; cases hq
  | succ n ih =>
    intro μ v1 hq
    rw [qM_findsPlan_l2] at hq
    refine z_iload_n 3 dX10_findsPlan_2 rfl rfl ?_
    refine z_bipush 5 dX10_findsPlan_3 rfl (by decide) (by decide) ?_
    refine z_icmp_ge 28 8 dX10_findsPlan_5 rfl rfl (fun hc => ?_) (fun hc => ?_)
    · replace hq := z_in hq (Int.not_lt.mpr hc)
      exact Z.sub (zle_s (zle_n (zle_n zle_nil))) (he _ (Option.some.inj hq).symm)
    · replace hq := z_ip hq hc
      refine z_aload_n 9 dX10_findsPlan_8 rfl rfl ?_
      refine z_getR (e := 6) (r := 148) 12 dX10_findsPlan_9 rfl f_RX10_25 ar_142 rfl ar_148.1 ?_
      refine z_iload_n 13 dX10_findsPlan_12 rfl rfl ?_
      refine z_iconst 14 dX10_findsPlan_13 rfl (by decide) ?_
      obtain ⟨hg14, hq⟩ := z_g hq
      obtain ⟨m1, em1, hq⟩ := z_m hq
      refine z_iastore 15 dX10_findsPlan_14 rfl ar_148 hg14 em1 ?_
      refine z_aload_n 16 dX10_findsPlan_15 rfl rfl ?_
      refine z_getR (e := 7) (r := 149) 19 dX10_findsPlan_16 rfl f_RX10_28 ar_142 rfl ar_149.1 ?_
      refine z_iload_n 20 dX10_findsPlan_19 rfl rfl ?_
      refine z_iconst 21 dX10_findsPlan_20 rfl (by decide) ?_
      obtain ⟨hg21, hq⟩ := z_g hq
      obtain ⟨m2, em2, hq⟩ := z_m hq
      refine z_iastore 22 dX10_findsPlan_21 rfl ar_149 hg21 em2 ?_
      refine z_iinc (r := (wr (v1 + 1))) (L' := [some (zr 142), some (zi (wr (v1 + 1))), none]) 25 dX10_findsPlan_22 rfl rfl rfl rfl rfl rfl ?_
      refine z_goto 2 dX10_findsPlan_25 rfl ?_
      exact Z.sub (zle_s (zle_s (zle_n zle_nil))) (ih _ _ hq)
set_option maxRecDepth 100000 in
set_option maxHeartbeats 4000000 in
theorem L_qM_findsPlan_l38 {g : yG} {a : Nat → Nat} {ν : zM} {o : zO} {kc ks : Nat}  {R : (Int) × zM}   (he : ∀ (tz : Int) (m : zM), R = (tz, m) → Z g a mX10_findsPlan 5 kc ks 72 [some (zr 142), some (zi tz), none] [] m o ν) : ∀ (n : Nat) (μ : zM) (v1 : Int) (v2 : Int), qM_findsPlan_l38 n μ v1 v2 = some R → Z g a mX10_findsPlan 5 kc ks 38 [some (zr 142), some (zi v1), some (zi v2)] [] μ o ν := by
  intro n
  induction n with
  | zero => intro μ v1 v2 hq; cases hq
  | succ n ih =>
    intro μ v1 v2 hq
    rw [qM_findsPlan_l38] at hq
    refine z_iload_n 39 dX10_findsPlan_38 rfl rfl ?_
    refine z_aload_n 40 dX10_findsPlan_39 rfl rfl ?_
    refine z_getR (e := 1) (r := 143) 43 dX10_findsPlan_40 rfl f_RX10_7 ar_142 rfl ar_143.1 ?_
    refine z_iconst 44 dX10_findsPlan_43 rfl (by decide) ?_
    refine z_iaload (x := (μ 143 1)) 45 dX10_findsPlan_44 rfl ar_143 ⟨by decide, by decide⟩ rfl ?_
    refine z_icmp_ge 72 48 dX10_findsPlan_45 rfl rfl (fun hc => ?_) (fun hc => ?_)
    · replace hq := z_in hq (Int.not_lt.mpr hc)
      exact Z.sub (zle_s (zle_s (zle_n zle_nil))) (he _ _ (Option.some.inj hq).symm)
    · replace hq := z_ip hq hc
      refine z_aload_n 49 dX10_findsPlan_48 rfl rfl ?_
      refine z_iload_n 50 dX10_findsPlan_49 rfl rfl ?_
      obtain ⟨a4, m4, h4, hq⟩ := bnd2_some hq
      refine z_callV1 (as := [zi v2]) (S := []) 53 dX10_findsPlan_50 rfl (Q_qM_asks  h4) kX10_asks ⟨_, _, rfl⟩ ar_142 l_RX10_163 rfl rfl rfl rfl rfl rfl rfl ?_
      refine z_if_ne 60 56 dX10_findsPlan_53 rfl rfl (fun hc => ?_) (fun hc => ?_)
      · replace hq := z_in hq hc
        refine z_iconst 61 dX10_findsPlan_60 rfl (by decide) ?_
        refine z_goto 65 dX10_findsPlan_61 rfl ?_
        refine z_istore_n (L' := [some (zr 142), some (zi 1), some (zi v2)]) 66 dX10_findsPlan_65 rfl rfl rfl rfl ?_
        refine z_iinc (r := (wr (v2 + 1))) (L' := [some (zr 142), some (zi 1), some (zi (wr (v2 + 1)))]) 69 dX10_findsPlan_66 rfl rfl rfl rfl rfl rfl ?_
        refine z_goto 38 dX10_findsPlan_69 rfl ?_
        exact Z.sub (zle_s (zle_s (zle_s zle_nil))) (ih _ _ _ hq)
      · replace hq := z_ip hq hc
        refine z_iload_n 57 dX10_findsPlan_56 rfl rfl ?_
        refine z_if_eq 64 60 dX10_findsPlan_57 rfl rfl (fun hc => ?_) (fun hc => ?_)
        · replace hq := z_ip hq hc
          refine z_iconst 65 dX10_findsPlan_64 rfl (by decide) ?_
          refine z_istore_n (L' := [some (zr 142), some (zi 0), some (zi v2)]) 66 dX10_findsPlan_65 rfl rfl rfl rfl ?_
          refine z_iinc (r := (wr (v2 + 1))) (L' := [some (zr 142), some (zi 0), some (zi (wr (v2 + 1)))]) 69 dX10_findsPlan_66 rfl rfl rfl rfl rfl rfl ?_
          refine z_goto 38 dX10_findsPlan_69 rfl ?_
          exact Z.sub (zle_s (zle_s (zle_s zle_nil))) (ih _ _ _ hq)
        · replace hq := z_in hq hc
          refine z_iconst 61 dX10_findsPlan_60 rfl (by decide) ?_
          refine z_goto 65 dX10_findsPlan_61 rfl ?_
          refine z_istore_n (L' := [some (zr 142), some (zi 1), some (zi v2)]) 66 dX10_findsPlan_65 rfl rfl rfl rfl ?_
          refine z_iinc (r := (wr (v2 + 1))) (L' := [some (zr 142), some (zi 1), some (zi (wr (v2 + 1)))]) 69 dX10_findsPlan_66 rfl rfl rfl rfl rfl rfl ?_
          refine z_goto 38 dX10_findsPlan_69 rfl ?_
          exact Z.sub (zle_s (zle_s (zle_s zle_nil))) (ih _ _ _ hq)
set_option maxRecDepth 100000 in
set_option maxHeartbeats 4000000 in
theorem L_qM_findsPlan_l30 {g : yG} {a : Nat → Nat} {ν : zM} {o : zO} {kc ks : Nat}  {R : zM}   (he : ∀ (m : zM), R = m → Z g a mX10_findsPlan 5 kc ks 75 [some (zr 142), none, none] [] m o ν) : ∀ (n : Nat) (μ : zM) (v1 : Int), qM_findsPlan_l30 n μ v1 = some R → Z g a mX10_findsPlan 5 kc ks 30 [some (zr 142), some (zi v1), none] [] μ o ν := by
  intro n
  induction n with
  | zero => intro μ v1 hq; cases hq
  | succ n ih =>
    intro μ v1 hq
    rw [qM_findsPlan_l30] at hq
    refine z_iload_n 31 dX10_findsPlan_30 rfl rfl ?_
    refine z_if_eq 75 34 dX10_findsPlan_31 rfl rfl (fun hc => ?_) (fun hc => ?_)
    · replace hq := z_ip hq hc
      exact Z.sub (zle_s (zle_n (zle_n zle_nil))) (he _ (Option.some.inj hq).symm)
    · replace hq := z_in hq hc
      refine z_iconst 35 dX10_findsPlan_34 rfl (by decide) ?_
      refine z_istore_n (L' := [some (zr 142), some (zi 0), none]) 36 dX10_findsPlan_35 rfl rfl rfl rfl ?_
      refine z_iconst 37 dX10_findsPlan_36 rfl (by decide) ?_
      refine z_istore_n (L' := [some (zr 142), some (zi 0), some (zi 0)]) 38 dX10_findsPlan_37 rfl rfl rfl rfl ?_
      obtain ⟨t5, m5, h5, hq⟩ := bnd2_some hq
      refine Z.sub (zle_s (zle_s (zle_s zle_nil))) (L_qM_findsPlan_l38  (R := (t5, m5)) (fun _ _ e => ?_) _ _ _ _ h5)
      cases e
      refine z_goto 30 dX10_findsPlan_72 rfl ?_
      exact Z.sub (zle_s (zle_s (zle_n zle_nil))) (ih _ _ hq)
set_option maxRecDepth 100000 in
set_option maxHeartbeats 4000000 in
theorem Q_qM_findsPlan {g : yG} {a : Nat → Nat} {μ : zM}  {ν : zM}  (hq : qM_findsPlan μ = some ν) : zC g a mX10_findsPlan 5 0 0 [zr 142] μ (.inl none) ν := by
  unfold qM_findsPlan at hq
  refine z_of (L := [some (zr 142), none, none]) pl_RX10 rfl (zc_of rfl) rfl rfl ?_
  refine z_iconst 1 dX10_findsPlan_0 rfl (by decide) ?_
  refine z_istore_n (L' := [some (zr 142), some (zi 0), none]) 2 dX10_findsPlan_1 rfl rfl rfl rfl ?_
  obtain ⟨m3, h3, hq⟩ := z_b hq
  refine Z.sub (zle_s (zle_s (zle_n zle_nil))) (L_qM_findsPlan_l2  (R := m3) (fun _ e => ?_) _ _ _ h3)
  cases e
  refine z_iconst 29 dX10_findsPlan_28 rfl (by decide) ?_
  refine z_istore_n (L' := [some (zr 142), some (zi 1), none]) 30 dX10_findsPlan_29 rfl rfl rfl rfl ?_
  obtain ⟨m6, h6, hq⟩ := z_b hq
  refine Z.sub (zle_s (zle_s (zle_n zle_nil))) (L_qM_findsPlan_l30  (R := m6) (fun _ e => ?_) _ _ _ h6)
  cases e
  cases hq
  exact z_return rfl dX10_findsPlan_75
set_option maxRecDepth 100000 in
set_option maxHeartbeats 4000000 in
theorem L_qM_isPlan_l2 {g : yG} {a : Nat → Nat} {μ ν : zM} {o : zO} {kc ks : Nat}  {R : Int ⊕ Unit}   (hr : ∀ (x : Int), R = .inl x → o = .inl (some (zi x)) ∧ ν = μ) (he : ∀ (tz : Unit), R = .inr tz → Z g a mX10_isPlan 2 kc ks 75 [some (zr 142), none] [] μ o ν) : ∀ (n : Nat) (v1 : Int), qM_isPlan_l2 μ n v1 = some R → Z g a mX10_isPlan 2 kc ks 2 [some (zr 142), some (zi v1)] [] μ o ν := by
  intro n
  induction n with
  | zero => intro v1 hq; cases hq
  | succ n ih =>
    intro v1 hq
    rw [qM_isPlan_l2] at hq
    refine z_iload_n 3 dX10_isPlan_2 rfl rfl ?_
    refine z_aload_n 4 dX10_isPlan_3 rfl rfl ?_
    refine z_getR (e := 1) (r := 143) 7 dX10_isPlan_4 rfl f_RX10_7 ar_142 rfl ar_143.1 ?_
    refine z_iconst 8 dX10_isPlan_7 rfl (by decide) ?_
    refine z_iaload (x := (μ 143 1)) 9 dX10_isPlan_8 rfl ar_143 ⟨by decide, by decide⟩ rfl ?_
    refine z_icmp_ge 75 12 dX10_isPlan_9 rfl rfl (fun hc => ?_) (fun hc => ?_)
    · replace hq := z_in hq (Int.not_lt.mpr hc)
      exact Z.sub (zle_s (zle_n zle_nil)) (he _ (Option.some.inj hq).symm)
    · replace hq := z_ip hq hc
      refine z_aload_n 13 dX10_isPlan_12 rfl rfl ?_
      refine z_getR (e := 6) (r := 148) 16 dX10_isPlan_13 rfl f_RX10_25 ar_142 rfl ar_148.1 ?_
      refine z_iload_n 17 dX10_isPlan_16 rfl rfl ?_
      obtain ⟨hg17, hq⟩ := z_g hq
      refine z_iaload (x := (μ 148 v1)) 18 dX10_isPlan_17 rfl ar_148 hg17 rfl ?_
      refine z_if_ge 24 21 dX10_isPlan_18 rfl rfl (fun hc => ?_) (fun hc => ?_)
      · replace hq := z_in hq (Int.not_lt.mpr hc)
        refine z_aload_n 25 dX10_isPlan_24 rfl rfl ?_
        refine z_getR (e := 6) (r := 148) 28 dX10_isPlan_25 rfl f_RX10_25 ar_142 rfl ar_148.1 ?_
        refine z_iload_n 29 dX10_isPlan_28 rfl rfl ?_
        obtain ⟨hg29, hq⟩ := z_g hq
        refine z_iaload (x := (μ 148 v1)) 30 dX10_isPlan_29 rfl ar_148 hg29 rfl ?_
        refine z_aload_n 31 dX10_isPlan_30 rfl rfl ?_
        refine z_getR (e := 1) (r := 143) 34 dX10_isPlan_31 rfl f_RX10_7 ar_142 rfl ar_143.1 ?_
        refine z_iconst 35 dX10_isPlan_34 rfl (by decide) ?_
        refine z_iaload (x := (μ 143 0)) 36 dX10_isPlan_35 rfl ar_143 ⟨by decide, by decide⟩ rfl ?_
        refine z_icmp_ge 67 39 dX10_isPlan_36 rfl rfl (fun hc => ?_) (fun hc => ?_)
        · replace hq := z_in hq (Int.not_lt.mpr hc)
          refine z_iconst 68 dX10_isPlan_67 rfl (by decide) ?_
          obtain ⟨ho, hv⟩ := hr _ (Option.some.inj hq).symm
          exact z_conv ho hv (z_zreturn rfl dX10_isPlan_68 (by decide))
        · replace hq := z_ip hq hc
          refine z_aload_n 40 dX10_isPlan_39 rfl rfl ?_
          refine z_iload_n 41 dX10_isPlan_40 rfl rfl ?_
          refine z_aload_n 42 dX10_isPlan_41 rfl rfl ?_
          refine z_getR (e := 6) (r := 148) 45 dX10_isPlan_42 rfl f_RX10_25 ar_142 rfl ar_148.1 ?_
          refine z_iload_n 46 dX10_isPlan_45 rfl rfl ?_
          obtain ⟨hg46, hq⟩ := z_g hq
          refine z_iaload (x := (μ 148 v1)) 47 dX10_isPlan_46 rfl ar_148 hg46 rfl ?_
          obtain ⟨a1, h1, hq⟩ := z_b hq
          refine z_callV1 (as := [zi v1, zi (μ 148 v1)]) (S := []) 50 dX10_isPlan_47 rfl (Q_qM_affords  h1) kX10_affords ⟨_, _, rfl⟩ ar_142 l_RX10_120 rfl rfl rfl rfl rfl rfl rfl ?_
          refine z_if_eq 67 53 dX10_isPlan_50 rfl rfl (fun hc => ?_) (fun hc => ?_)
          · replace hq := z_ip hq hc
            refine z_iconst 68 dX10_isPlan_67 rfl (by decide) ?_
            obtain ⟨ho, hv⟩ := hr _ (Option.some.inj hq).symm
            exact z_conv ho hv (z_zreturn rfl dX10_isPlan_68 (by decide))
          · replace hq := z_in hq hc
            refine z_aload_n 54 dX10_isPlan_53 rfl rfl ?_
            refine z_aload_n 55 dX10_isPlan_54 rfl rfl ?_
            refine z_getR (e := 6) (r := 148) 58 dX10_isPlan_55 rfl f_RX10_25 ar_142 rfl ar_148.1 ?_
            refine z_iload_n 59 dX10_isPlan_58 rfl rfl ?_
            obtain ⟨hg59, hq⟩ := z_g hq
            refine z_iaload (x := (μ 148 v1)) 60 dX10_isPlan_59 rfl ar_148 hg59 rfl ?_
            obtain ⟨a2, h2, hq⟩ := z_b hq
            refine z_callV1 (as := [zi (μ 148 v1)]) (S := []) 63 dX10_isPlan_60 rfl (Q_qM_plannedIn  h2) kX10_plannedIn ⟨_, _, rfl⟩ ar_142 l_RX10_160 rfl rfl rfl rfl rfl rfl rfl ?_
            refine z_iload_n 64 dX10_isPlan_63 rfl rfl ?_
            refine z_icmp_eq 69 67 dX10_isPlan_64 rfl rfl (fun hc => ?_) (fun hc => ?_)
            · replace hq := z_ip hq hc
              refine z_iinc (r := (wr (v1 + 1))) (L' := [some (zr 142), some (zi (wr (v1 + 1)))]) 72 dX10_isPlan_69 rfl rfl rfl rfl rfl rfl ?_
              refine z_goto 2 dX10_isPlan_72 rfl ?_
              exact Z.sub (zle_s (zle_s zle_nil)) (ih _ hq)
            · replace hq := z_in hq hc
              refine z_iconst 68 dX10_isPlan_67 rfl (by decide) ?_
              obtain ⟨ho, hv⟩ := hr _ (Option.some.inj hq).symm
              exact z_conv ho hv (z_zreturn rfl dX10_isPlan_68 (by decide))
      · replace hq := z_ip hq hc
        refine z_goto 69 dX10_isPlan_21 rfl ?_
        refine z_iinc (r := (wr (v1 + 1))) (L' := [some (zr 142), some (zi (wr (v1 + 1)))]) 72 dX10_isPlan_69 rfl rfl rfl rfl rfl rfl ?_
        refine z_goto 2 dX10_isPlan_72 rfl ?_
        exact Z.sub (zle_s (zle_s zle_nil)) (ih _ hq)
set_option maxRecDepth 100000 in
set_option maxHeartbeats 4000000 in
theorem Q_qM_isPlan {g : yG} {a : Nat → Nat} {μ : zM}  {r : Int}  (hq : qM_isPlan μ = some r) : zC g a mX10_isPlan 2 0 0 [zr 142] μ (.inl (some (zi r))) μ := by
  unfold qM_isPlan at hq
  refine z_of (L := [some (zr 142), none]) pl_RX10 rfl (zc_of rfl) rfl rfl ?_
  refine z_iconst 1 dX10_isPlan_0 rfl (by decide) ?_
  refine z_istore_n (L' := [some (zr 142), some (zi 0)]) 2 dX10_isPlan_1 rfl rfl rfl rfl ?_
  rcases bndS_some hq with ⟨x3, h3, hq⟩ | ⟨t3, h3, hq⟩
  · exact Z.sub (zle_s (zle_s zle_nil)) (L_qM_isPlan_l2  (R := .inl x3) (fun _ e => by cases e; cases hq; exact ⟨rfl, rfl⟩) (fun _ e => by cases e) _ _ h3)
  · refine Z.sub (zle_s (zle_s zle_nil)) (L_qM_isPlan_l2  (R := .inr t3) (fun _ e => by cases e) (fun _ e => ?_) _ _ h3)
    cases e
    refine z_iconst 76 dX10_isPlan_75 rfl (by decide) ?_
    cases hq
    exact z_zreturn rfl dX10_isPlan_76 (by decide)
set_option maxRecDepth 100000 in
set_option maxHeartbeats 4000000 in
theorem L_qM_isStablePlan_l23 {g : yG} {a : Nat → Nat} {μ ν : zM} {o : zO} {kc ks : Nat} {v1 : Int} {R : Int ⊕ Unit}   (hr : ∀ (x : Int), R = .inl x → o = .inl (some (zi x)) ∧ ν = μ) (he : ∀ (tz : Unit), R = .inr tz → Z g a mX10_isStablePlan 3 kc ks 97 [some (zr 142), some (zi v1), none, none] [] μ o ν) : ∀ (n : Nat) (v2 : Int), qM_isStablePlan_l23 μ v1 n v2 = some R → Z g a mX10_isStablePlan 3 kc ks 23 [some (zr 142), some (zi v1), some (zi v2), none] [] μ o ν := by
  intro n
  induction n with
  | zero => intro v2 hq; cases hq
  | succ n ih =>
    intro v2 hq
    rw [qM_isStablePlan_l23] at hq
    refine z_iload_n 24 dX10_isStablePlan_23 rfl rfl ?_
    refine z_aload_n 25 dX10_isStablePlan_24 rfl rfl ?_
    refine z_getR (e := 1) (r := 143) 28 dX10_isStablePlan_25 rfl f_RX10_7 ar_142 rfl ar_143.1 ?_
    refine z_iconst 29 dX10_isStablePlan_28 rfl (by decide) ?_
    refine z_iaload (x := (μ 143 0)) 30 dX10_isStablePlan_29 rfl ar_143 ⟨by decide, by decide⟩ rfl ?_
    refine z_icmp_ge 97 33 dX10_isStablePlan_30 rfl rfl (fun hc => ?_) (fun hc => ?_)
    · replace hq := z_in hq (Int.not_lt.mpr hc)
      exact Z.sub (zle_s (zle_s (zle_n (zle_n zle_nil)))) (he _ (Option.some.inj hq).symm)
    · replace hq := z_ip hq hc
      refine z_iload_n 34 dX10_isStablePlan_33 rfl rfl ?_
      refine z_aload_n 35 dX10_isStablePlan_34 rfl rfl ?_
      refine z_getR (e := 6) (r := 148) 38 dX10_isStablePlan_35 rfl f_RX10_25 ar_142 rfl ar_148.1 ?_
      refine z_iload_n 39 dX10_isStablePlan_38 rfl rfl ?_
      obtain ⟨hg39, hq⟩ := z_g hq
      refine z_iaload (x := (μ 148 v1)) 40 dX10_isStablePlan_39 rfl ar_148 hg39 rfl ?_
      refine z_icmp_eq 91 43 dX10_isStablePlan_40 rfl rfl (fun hc => ?_) (fun hc => ?_)
      · replace hq := z_ip hq hc
        refine z_iinc (r := (wr (v2 + 1))) (L' := [some (zr 142), some (zi v1), some (zi (wr (v2 + 1))), none]) 94 dX10_isStablePlan_91 rfl rfl rfl rfl rfl rfl ?_
        refine z_goto 23 dX10_isStablePlan_94 rfl ?_
        exact Z.sub (zle_s (zle_s (zle_s (zle_n zle_nil)))) (ih _ hq)
      · replace hq := z_in hq hc
        refine z_aload_n 44 dX10_isStablePlan_43 rfl rfl ?_
        refine z_iload_n 45 dX10_isStablePlan_44 rfl rfl ?_
        refine z_iload_n 46 dX10_isStablePlan_45 rfl rfl ?_
        obtain ⟨a2, h2, hq⟩ := z_b hq
        refine z_callV1 (as := [zi v1, zi v2]) (S := []) 49 dX10_isStablePlan_46 rfl (Q_qM_affords  h2) kX10_affords ⟨_, _, rfl⟩ ar_142 l_RX10_120 rfl rfl rfl rfl rfl rfl rfl ?_
        refine z_if_eq 91 52 dX10_isStablePlan_49 rfl rfl (fun hc => ?_) (fun hc => ?_)
        · replace hq := z_ip hq hc
          refine z_iinc (r := (wr (v2 + 1))) (L' := [some (zr 142), some (zi v1), some (zi (wr (v2 + 1))), none]) 94 dX10_isStablePlan_91 rfl rfl rfl rfl rfl rfl ?_
          refine z_goto 23 dX10_isStablePlan_94 rfl ?_
          exact Z.sub (zle_s (zle_s (zle_s (zle_n zle_nil)))) (ih _ hq)
        · replace hq := z_in hq hc
          refine z_aload_n 53 dX10_isStablePlan_52 rfl rfl ?_
          refine z_iload_n 54 dX10_isStablePlan_53 rfl rfl ?_
          refine z_iload_n 55 dX10_isStablePlan_54 rfl rfl ?_
          refine z_aload_n 56 dX10_isStablePlan_55 rfl rfl ?_
          refine z_getR (e := 6) (r := 148) 59 dX10_isStablePlan_56 rfl f_RX10_25 ar_142 rfl ar_148.1 ?_
          refine z_iload_n 60 dX10_isStablePlan_59 rfl rfl ?_
          obtain ⟨hg60, hq⟩ := z_g hq
          refine z_iaload (x := (μ 148 v1)) 61 dX10_isStablePlan_60 rfl ar_148 hg60 rfl ?_
          obtain ⟨a3, h3, hq⟩ := z_b hq
          refine z_callV1 (as := [zi v1, zi v2, zi (μ 148 v1)]) (S := []) 64 dX10_isStablePlan_61 rfl (Q_qM_prefers  h3) kX10_prefers ⟨_, _, rfl⟩ ar_142 l_RX10_130 rfl rfl rfl rfl rfl rfl rfl ?_
          refine z_if_ne 70 67 dX10_isStablePlan_64 rfl rfl (fun hc => ?_) (fun hc => ?_)
          · replace hq := z_in hq hc
            refine z_aload_n 71 dX10_isStablePlan_70 rfl rfl ?_
            refine z_iload_n 72 dX10_isStablePlan_71 rfl rfl ?_
            obtain ⟨a4, h4, hq⟩ := z_b hq
            refine z_callV1 (as := [zi v2]) (S := []) 75 dX10_isStablePlan_72 rfl (Q_qM_plannedIn  h4) kX10_plannedIn ⟨_, _, rfl⟩ ar_142 l_RX10_160 rfl rfl rfl rfl rfl rfl rfl ?_
            refine z_istore_n (L' := [some (zr 142), some (zi v1), some (zi v2), some (zi a4)]) 76 dX10_isStablePlan_75 rfl rfl rfl rfl ?_
            refine z_iload_n 77 dX10_isStablePlan_76 rfl rfl ?_
            refine z_if_lt 89 80 dX10_isStablePlan_77 rfl rfl (fun hc => ?_) (fun hc => ?_)
            · replace hq := z_ip hq hc
              refine z_iconst 90 dX10_isStablePlan_89 rfl (by decide) ?_
              obtain ⟨ho, hv⟩ := hr _ (Option.some.inj hq).symm
              exact z_conv ho hv (z_zreturn rfl dX10_isStablePlan_90 (by decide))
            · replace hq := z_in hq (Int.not_lt.mpr hc)
              refine z_aload_n 81 dX10_isStablePlan_80 rfl rfl ?_
              refine z_iload_n 82 dX10_isStablePlan_81 rfl rfl ?_
              refine z_iload_n 83 dX10_isStablePlan_82 rfl rfl ?_
              obtain ⟨a5, h5, hq⟩ := z_b hq
              refine z_callV1 (as := [zi v1, zi a4]) (S := []) 86 dX10_isStablePlan_83 rfl (Q_qM_isPreferred  h5) kX10_isPreferred ⟨_, _, rfl⟩ ar_142 l_RX10_133 rfl rfl rfl rfl rfl rfl rfl ?_
              refine z_if_eq 91 89 dX10_isStablePlan_86 rfl rfl (fun hc => ?_) (fun hc => ?_)
              · replace hq := z_ip hq hc
                refine z_iinc (r := (wr (v2 + 1))) (L' := [some (zr 142), some (zi v1), some (zi (wr (v2 + 1))), some (zi a4)]) 94 dX10_isStablePlan_91 rfl rfl rfl rfl rfl rfl ?_
                refine z_goto 23 dX10_isStablePlan_94 rfl ?_
                exact Z.sub (zle_s (zle_s (zle_s (zle_n zle_nil)))) (ih _ hq)
              · replace hq := z_in hq hc
                refine z_iconst 90 dX10_isStablePlan_89 rfl (by decide) ?_
                obtain ⟨ho, hv⟩ := hr _ (Option.some.inj hq).symm
                exact z_conv ho hv (z_zreturn rfl dX10_isStablePlan_90 (by decide))
          · replace hq := z_ip hq hc
            refine z_goto 91 dX10_isStablePlan_67 rfl ?_
            refine z_iinc (r := (wr (v2 + 1))) (L' := [some (zr 142), some (zi v1), some (zi (wr (v2 + 1))), none]) 94 dX10_isStablePlan_91 rfl rfl rfl rfl rfl rfl ?_
            refine z_goto 23 dX10_isStablePlan_94 rfl ?_
            exact Z.sub (zle_s (zle_s (zle_s (zle_n zle_nil)))) (ih _ hq)
set_option maxRecDepth 100000 in
set_option maxHeartbeats 4000000 in
theorem L_qM_isStablePlan_l11 {g : yG} {a : Nat → Nat} {μ ν : zM} {o : zO} {kc ks : Nat}  {R : Int ⊕ Unit}   (hr : ∀ (x : Int), R = .inl x → o = .inl (some (zi x)) ∧ ν = μ) (he : ∀ (tz : Unit), R = .inr tz → Z g a mX10_isStablePlan 3 kc ks 103 [some (zr 142), none, none, none] [] μ o ν) : ∀ (n : Nat) (v1 : Int), qM_isStablePlan_l11 μ n v1 = some R → Z g a mX10_isStablePlan 3 kc ks 11 [some (zr 142), some (zi v1), none, none] [] μ o ν := by
  intro n
  induction n with
  | zero => intro v1 hq; cases hq
  | succ n ih =>
    intro v1 hq
    rw [qM_isStablePlan_l11] at hq
    refine z_iload_n 12 dX10_isStablePlan_11 rfl rfl ?_
    refine z_aload_n 13 dX10_isStablePlan_12 rfl rfl ?_
    refine z_getR (e := 1) (r := 143) 16 dX10_isStablePlan_13 rfl f_RX10_7 ar_142 rfl ar_143.1 ?_
    refine z_iconst 17 dX10_isStablePlan_16 rfl (by decide) ?_
    refine z_iaload (x := (μ 143 1)) 18 dX10_isStablePlan_17 rfl ar_143 ⟨by decide, by decide⟩ rfl ?_
    refine z_icmp_ge 103 21 dX10_isStablePlan_18 rfl rfl (fun hc => ?_) (fun hc => ?_)
    · replace hq := z_in hq (Int.not_lt.mpr hc)
      exact Z.sub (zle_s (zle_n (zle_n (zle_n zle_nil)))) (he _ (Option.some.inj hq).symm)
    · replace hq := z_ip hq hc
      refine z_iconst 22 dX10_isStablePlan_21 rfl (by decide) ?_
      refine z_istore_n (L' := [some (zr 142), some (zi v1), some (zi 0), none]) 23 dX10_isStablePlan_22 rfl rfl rfl rfl ?_
      rcases bndS_some hq with ⟨x6, h6, hq⟩ | ⟨t6, h6, hq⟩
      · exact Z.sub (zle_s (zle_s (zle_s (zle_n zle_nil)))) (L_qM_isStablePlan_l23  (R := .inl x6) (fun _ e => by cases e; exact hr _ (Option.some.inj hq).symm) (fun _ e => by cases e) _ _ h6)
      · refine Z.sub (zle_s (zle_s (zle_s (zle_n zle_nil)))) (L_qM_isStablePlan_l23  (R := .inr t6) (fun _ e => by cases e) (fun _ e => ?_) _ _ h6)
        cases e
        refine z_iinc (r := (wr (v1 + 1))) (L' := [some (zr 142), some (zi (wr (v1 + 1))), none, none]) 100 dX10_isStablePlan_97 rfl rfl rfl rfl rfl rfl ?_
        refine z_goto 11 dX10_isStablePlan_100 rfl ?_
        exact Z.sub (zle_s (zle_s (zle_n (zle_n zle_nil)))) (ih _ hq)
set_option maxRecDepth 100000 in
set_option maxHeartbeats 4000000 in
theorem Q_qM_isStablePlan {g : yG} {a : Nat → Nat} {μ : zM}  {r : Int}  (hq : qM_isStablePlan μ = some r) : zC g a mX10_isStablePlan 3 0 0 [zr 142] μ (.inl (some (zi r))) μ := by
  unfold qM_isStablePlan at hq
  refine z_of (L := [some (zr 142), none, none, none]) pl_RX10 rfl (zc_of rfl) rfl rfl ?_
  refine z_aload_n 1 dX10_isStablePlan_0 rfl rfl ?_
  obtain ⟨a1, h1, hq⟩ := z_b hq
  refine z_callV1 (as := []) (S := []) 4 dX10_isStablePlan_1 rfl (Q_qM_isPlan  h1) kX10_isPlan ⟨_, _, rfl⟩ ar_142 l_RX10_166 rfl rfl rfl rfl rfl rfl rfl ?_
  refine z_if_ne 9 7 dX10_isStablePlan_4 rfl rfl (fun hc => ?_) (fun hc => ?_)
  · replace hq := z_in hq hc
    refine z_iconst 10 dX10_isStablePlan_9 rfl (by decide) ?_
    refine z_istore_n (L' := [some (zr 142), some (zi 0), none, none]) 11 dX10_isStablePlan_10 rfl rfl rfl rfl ?_
    rcases bndS_some hq with ⟨x7, h7, hq⟩ | ⟨t7, h7, hq⟩
    · exact Z.sub (zle_s (zle_s (zle_n (zle_n zle_nil)))) (L_qM_isStablePlan_l11  (R := .inl x7) (fun _ e => by cases e; cases hq; exact ⟨rfl, rfl⟩) (fun _ e => by cases e) _ _ h7)
    · refine Z.sub (zle_s (zle_s (zle_n (zle_n zle_nil)))) (L_qM_isStablePlan_l11  (R := .inr t7) (fun _ e => by cases e) (fun _ e => ?_) _ _ h7)
      cases e
      refine z_iconst 104 dX10_isStablePlan_103 rfl (by decide) ?_
      cases hq
      exact z_zreturn rfl dX10_isStablePlan_104 (by decide)
  · replace hq := z_ip hq hc
    refine z_iconst 8 dX10_isStablePlan_7 rfl (by decide) ?_
    cases hq
    exact z_zreturn rfl dX10_isStablePlan_8 (by decide)
set_option maxRecDepth 100000 in
set_option maxHeartbeats 4000000 in
theorem J_qM_settles_j42 {g : yG} {a : Nat → Nat} {μ ν : zM} {o : zO} {kc ks : Nat} {v2 : Int} {s0 : Int} {s1 : Int} {rec : zM → Int → Int → Option ((Int) × zM)} {R : (Int) × zM}   (he : ∀ (tz : Int) (m : zM), R = (tz, m) → Z g a mX10_settles 6 kc ks 65 [some (zr 142), some (zi tz), none] [] m o ν) (hrec : ∀ (μ : zM) (v1 : Int) (v2 : Int), rec μ v1 v2 = some R → Z g a mX10_settles 6 kc ks 8 [some (zr 142), some (zi v1), some (zi v2)] [] μ o ν) (hq : qM_settles_j42 rec μ v2 s0 s1 = some R) : Z g a mX10_settles 6 kc ks 42 [some (zr 142), none, some (zi v2)] [zi s1, zi s0] μ o ν := by
  unfold qM_settles_j42 at hq
  refine z_iadd (r := (wr (s0 + s1))) 43 dX10_settles_42 rfl rfl ?_
  refine z_istore_n (L' := [some (zr 142), some (zi (wr (s0 + s1))), some (zi v2)]) 44 dX10_settles_43 rfl rfl rfl rfl ?_
  refine z_aload_n 45 dX10_settles_44 rfl rfl ?_
  refine z_iload_n 46 dX10_settles_45 rfl rfl ?_
  refine z_bipush 48 dX10_settles_46 rfl (by decide) (by decide) ?_
  refine z_aload_n 49 dX10_settles_48 rfl rfl ?_
  refine z_getR (e := 6) (r := 148) 52 dX10_settles_49 rfl f_RX10_25 ar_142 rfl ar_148.1 ?_
  refine z_iload_n 53 dX10_settles_52 rfl rfl ?_
  obtain ⟨hg53, hq⟩ := z_g hq
  refine z_iaload (x := (μ 148 v2)) 54 dX10_settles_53 rfl ar_148 hg53 rfl ?_
  refine z_iconst 55 dX10_settles_54 rfl (by decide) ?_
  refine z_iadd (r := (wr ((μ 148 v2) + 1))) 56 dX10_settles_55 rfl rfl ?_
  obtain ⟨m3, h3, hq⟩ := z_b hq
  refine z_callV0 (as := [zi v2, zi 6, zi (wr ((μ 148 v2) + 1))]) (S := []) 59 dX10_settles_56 rfl (Q_qM_puts  h3) kX10_puts ⟨_, _, rfl⟩ ar_142 l_RX10_99 rfl rfl rfl rfl rfl rfl rfl ?_
  refine z_iinc (r := (wr (v2 + 1))) (L' := [some (zr 142), some (zi (wr (s0 + s1))), some (zi (wr (v2 + 1)))]) 62 dX10_settles_59 rfl rfl rfl rfl rfl rfl ?_
  refine z_goto 8 dX10_settles_62 rfl ?_
  exact Z.sub (zle_s (zle_s (zle_s zle_nil))) (hrec _ _ _ hq)
set_option maxRecDepth 100000 in
set_option maxHeartbeats 4000000 in
theorem L_qM_settles_l8 {g : yG} {a : Nat → Nat} {ν : zM} {o : zO} {kc ks : Nat}  {R : (Int) × zM}   (he : ∀ (tz : Int) (m : zM), R = (tz, m) → Z g a mX10_settles 6 kc ks 65 [some (zr 142), some (zi tz), none] [] m o ν) : ∀ (n : Nat) (μ : zM) (v1 : Int) (v2 : Int), qM_settles_l8 n μ v1 v2 = some R → Z g a mX10_settles 6 kc ks 8 [some (zr 142), some (zi v1), some (zi v2)] [] μ o ν := by
  intro n
  induction n with
  | zero => intro μ v1 v2 hq; cases hq
  | succ n ih =>
    intro μ v1 v2 hq
    rw [qM_settles_l8] at hq
    refine z_iload_n 9 dX10_settles_8 rfl rfl ?_
    refine z_aload_n 10 dX10_settles_9 rfl rfl ?_
    refine z_getR (e := 1) (r := 143) 13 dX10_settles_10 rfl f_RX10_7 ar_142 rfl ar_143.1 ?_
    refine z_iconst 14 dX10_settles_13 rfl (by decide) ?_
    refine z_iaload (x := (μ 143 1)) 15 dX10_settles_14 rfl ar_143 ⟨by decide, by decide⟩ rfl ?_
    refine z_icmp_ge 65 18 dX10_settles_15 rfl rfl (fun hc => ?_) (fun hc => ?_)
    · replace hq := z_in hq (Int.not_lt.mpr hc)
      exact Z.sub (zle_s (zle_s (zle_n zle_nil))) (he _ _ (Option.some.inj hq).symm)
    · replace hq := z_ip hq hc
      refine z_iload_n 19 dX10_settles_18 rfl rfl ?_
      refine z_aload_n 20 dX10_settles_19 rfl rfl ?_
      refine z_iload_n 21 dX10_settles_20 rfl rfl ?_
      refine z_bipush 23 dX10_settles_21 rfl (by decide) (by decide) ?_
      obtain ⟨a2, h2, hq⟩ := z_b hq
      refine z_callV1 (as := [zi v2, zi 6]) (S := [zi v1]) 26 dX10_settles_23 rfl (Q_qM_of  h2) kX10_of ⟨_, _, rfl⟩ ar_142 l_RX10_76 rfl rfl rfl rfl rfl rfl rfl ?_
      refine z_aload_n 27 dX10_settles_26 rfl rfl ?_
      refine z_getR (e := 6) (r := 148) 30 dX10_settles_27 rfl f_RX10_25 ar_142 rfl ar_148.1 ?_
      refine z_iload_n 31 dX10_settles_30 rfl rfl ?_
      obtain ⟨hg31, hq⟩ := z_g hq
      refine z_iaload (x := (μ 148 v2)) 32 dX10_settles_31 rfl ar_148 hg31 rfl ?_
      refine z_iconst 33 dX10_settles_32 rfl (by decide) ?_
      refine z_iadd (r := (wr ((μ 148 v2) + 1))) 34 dX10_settles_33 rfl rfl ?_
      refine z_icmp_eq 41 37 dX10_settles_34 rfl rfl (fun hc => ?_) (fun hc => ?_)
      · replace hq := z_ip hq hc
        refine z_iconst 42 dX10_settles_41 rfl (by decide) ?_
        exact Z.sub (zle_s (zle_n (zle_s zle_nil))) (J_qM_settles_j42 he ih hq)
      · replace hq := z_in hq hc
        refine z_iconst 38 dX10_settles_37 rfl (by decide) ?_
        refine z_goto 42 dX10_settles_38 rfl ?_
        exact Z.sub (zle_s (zle_n (zle_s zle_nil))) (J_qM_settles_j42 he ih hq)
set_option maxRecDepth 100000 in
set_option maxHeartbeats 4000000 in
theorem Q_qM_settles {g : yG} {a : Nat → Nat} {μ : zM}  {r : Int} {ν : zM}  (hq : qM_settles μ = some (r, ν)) : zC g a mX10_settles 6 0 0 [zr 142] μ (.inl (some (zi r))) ν := by
  unfold qM_settles at hq
  refine z_of (L := [some (zr 142), none, none]) pl_RX10 rfl (zc_of rfl) rfl rfl ?_
  refine z_aload_n 1 dX10_settles_0 rfl rfl ?_
  obtain ⟨m1, h1, hq⟩ := z_b hq
  refine z_callV0 (as := []) (S := []) 4 dX10_settles_1 rfl (Q_qM_findsPlan  h1) kX10_findsPlan ⟨_, _, rfl⟩ ar_142 l_RX10_170 rfl rfl rfl rfl rfl rfl rfl ?_
  refine z_iconst 5 dX10_settles_4 rfl (by decide) ?_
  refine z_istore_n (L' := [some (zr 142), some (zi 0), none]) 6 dX10_settles_5 rfl rfl rfl rfl ?_
  refine z_iconst 7 dX10_settles_6 rfl (by decide) ?_
  refine z_istore_n (L' := [some (zr 142), some (zi 0), some (zi 0)]) 8 dX10_settles_7 rfl rfl rfl rfl ?_
  obtain ⟨t4, m4, h4, hq⟩ := bnd2_some hq
  refine Z.sub (zle_s (zle_s (zle_s zle_nil))) (L_qM_settles_l8  (R := (t4, m4)) (fun _ _ e => ?_) _ _ _ _ h4)
  cases e
  refine z_iload_n 66 dX10_settles_65 rfl rfl ?_
  cases hq
  exact z_ireturn rfl dX10_settles_66
set_option maxRecDepth 100000 in
set_option maxHeartbeats 4000000 in
theorem Q_qM_settle {g : yG} {a : Nat → Nat} {μ : zM}  {r : Int} {ν : zM}  (hq : qM_settle μ = some (r, ν)) : zC g a mX10_settle 7 0 0 [zr 142] μ (.inl (some (zi r))) ν := by
  unfold qM_settle at hq
  refine z_of (L := [some (zr 142)]) pl_RX10 rfl (zc_of rfl) rfl rfl ?_
  refine z_aload_n 1 dX10_settle_0 rfl rfl ?_
  refine z_iconst 2 dX10_settle_1 rfl (by decide) ?_
  obtain ⟨m1, em1, hq⟩ := z_m hq
  refine z_putI 5 dX10_settle_2 rfl p_RX10_57 ar_142 em1 ?_
  refine z_aload_n 6 dX10_settle_5 rfl rfl ?_
  obtain ⟨m2, h2, hq⟩ := z_b hq
  refine z_callV0 (as := []) (S := []) 9 dX10_settle_6 rfl (Q_qM_remembers  h2) kX10_remembers ⟨_, _, rfl⟩ ar_142 l_RX10_93 rfl rfl rfl rfl rfl rfl rfl ?_
  refine z_aload_n 10 dX10_settle_9 rfl rfl ?_
  obtain ⟨a3, m3, h3, hq⟩ := bnd2_some hq
  refine z_callV1 (as := []) (S := []) 13 dX10_settle_10 rfl (Q_qM_settles  h3) kX10_settles ⟨_, _, rfl⟩ ar_142 l_RX10_173 rfl rfl rfl rfl rfl rfl rfl ?_
  cases hq
  exact z_ireturn rfl dX10_settle_13
set_option maxRecDepth 100000 in
set_option maxHeartbeats 4000000 in
theorem Q_qM_goes {g : yG} {a : Nat → Nat} {μ : zM} {v1 : Int} {r : Int} {ν : zM}  (hq : qM_goes μ v1 = some (r, ν)) : zC g a mX10_goes 5 0 0 [zr 142, zi v1] μ (.inl (some (zi r))) ν := by
  unfold qM_goes at hq
  refine z_of (L := [some (zr 142), some (zi v1), none, none]) pl_RX10 rfl (zc_of rfl) rfl rfl ?_
  refine z_aload_n 1 dX10_goes_0 rfl rfl ?_
  refine z_iload_n 2 dX10_goes_1 rfl rfl ?_
  refine z_iconst 3 dX10_goes_2 rfl (by decide) ?_
  refine z_aload_n 4 dX10_goes_3 rfl rfl ?_
  refine z_iload_n 5 dX10_goes_4 rfl rfl ?_
  refine z_iconst 6 dX10_goes_5 rfl (by decide) ?_
  obtain ⟨a1, h1, hq⟩ := z_b hq
  refine z_callV1 (as := [zi v1, zi 4]) (S := [zi 4, zi v1, zr 142]) 9 dX10_goes_6 rfl (Q_qM_of  h1) kX10_of ⟨_, _, rfl⟩ ar_142 l_RX10_76 rfl rfl rfl rfl rfl rfl rfl ?_
  refine z_aload_n 10 dX10_goes_9 rfl rfl ?_
  refine z_iload_n 11 dX10_goes_10 rfl rfl ?_
  refine z_iconst 12 dX10_goes_11 rfl (by decide) ?_
  obtain ⟨a2, h2, hq⟩ := z_b hq
  refine z_callV1 (as := [zi v1, zi 3]) (S := [zi a1, zi 4, zi v1, zr 142]) 15 dX10_goes_12 rfl (Q_qM_of  h2) kX10_of ⟨_, _, rfl⟩ ar_142 l_RX10_76 rfl rfl rfl rfl rfl rfl rfl ?_
  refine z_iadd (r := (wr (a1 + a2))) 16 dX10_goes_15 rfl rfl ?_
  obtain ⟨m3, h3, hq⟩ := z_b hq
  refine z_callV0 (as := [zi v1, zi 4, zi (wr (a1 + a2))]) (S := []) 19 dX10_goes_16 rfl (Q_qM_puts  h3) kX10_puts ⟨_, _, rfl⟩ ar_142 l_RX10_99 rfl rfl rfl rfl rfl rfl rfl ?_
  refine z_aload_n 20 dX10_goes_19 rfl rfl ?_
  refine z_getR (e := 1) (r := 143) 23 dX10_goes_20 rfl f_RX10_7 ar_142 rfl ar_143.1 ?_
  refine z_bipush 25 dX10_goes_23 rfl (by decide) (by decide) ?_
  refine z_dup2 26 dX10_goes_25 rfl rfl rfl ?_
  refine z_iaload (x := (m3 143 7)) 27 dX10_goes_26 rfl ar_143 ⟨by decide, by decide⟩ rfl ?_
  refine z_aload_n 28 dX10_goes_27 rfl rfl ?_
  refine z_iload_n 29 dX10_goes_28 rfl rfl ?_
  refine z_iconst 30 dX10_goes_29 rfl (by decide) ?_
  obtain ⟨a4, h4, hq⟩ := z_b hq
  refine z_callV1 (as := [zi v1, zi 3]) (S := [zi (m3 143 7), zi 7, zr 143]) 33 dX10_goes_30 rfl (Q_qM_of  h4) kX10_of ⟨_, _, rfl⟩ ar_142 l_RX10_76 rfl rfl rfl rfl rfl rfl rfl ?_
  refine z_iadd (r := (wr ((m3 143 7) + a4))) 34 dX10_goes_33 rfl rfl ?_
  obtain ⟨m5, em5, hq⟩ := z_m hq
  refine z_iastore 35 dX10_goes_34 rfl ar_143 ⟨by decide, by decide⟩ em5 ?_
  refine z_aload_n 36 dX10_goes_35 rfl rfl ?_
  refine z_iload_n 37 dX10_goes_36 rfl rfl ?_
  refine z_bipush 39 dX10_goes_37 rfl (by decide) (by decide) ?_
  obtain ⟨a6, h6, hq⟩ := z_b hq
  refine z_callV1 (as := [zi v1, zi 6]) (S := []) 42 dX10_goes_39 rfl (Q_qM_of  h6) kX10_of ⟨_, _, rfl⟩ ar_142 l_RX10_76 rfl rfl rfl rfl rfl rfl rfl ?_
  refine z_if_ne 47 45 dX10_goes_42 rfl rfl (fun hc => ?_) (fun hc => ?_)
  · replace hq := z_in hq hc
    refine z_aload_n 48 dX10_goes_47 rfl rfl ?_
    refine z_aload_n 49 dX10_goes_48 rfl rfl ?_
    refine z_iload_n 50 dX10_goes_49 rfl rfl ?_
    refine z_bipush 52 dX10_goes_50 rfl (by decide) (by decide) ?_
    obtain ⟨a7, h7, hq⟩ := z_b hq
    refine z_callV1 (as := [zi v1, zi 6]) (S := [zr 142]) 55 dX10_goes_52 rfl (Q_qM_of  h7) kX10_of ⟨_, _, rfl⟩ ar_142 l_RX10_76 rfl rfl rfl rfl rfl rfl rfl ?_
    refine z_iconst 56 dX10_goes_55 rfl (by decide) ?_
    refine z_isub (r := (wr (a7 - 1))) 57 dX10_goes_56 rfl rfl ?_
    refine z_iconst 58 dX10_goes_57 rfl (by decide) ?_
    obtain ⟨a8, h8, hq⟩ := z_b hq
    refine z_callV1 (as := [zi (wr (a7 - 1)), zi 1]) (S := []) 61 dX10_goes_58 rfl (Q_qM_flat  h8) kX10_flat ⟨_, _, rfl⟩ ar_142 l_RX10_80 rfl rfl rfl rfl rfl rfl rfl ?_
    refine z_istore_n (L' := [some (zr 142), some (zi v1), some (zi a8), none]) 62 dX10_goes_61 rfl rfl rfl rfl ?_
    refine z_iload_n 63 dX10_goes_62 rfl rfl ?_
    refine z_aload_n 64 dX10_goes_63 rfl rfl ?_
    refine z_iload_n 65 dX10_goes_64 rfl rfl ?_
    refine z_iconst 66 dX10_goes_65 rfl (by decide) ?_
    obtain ⟨a9, h9, hq⟩ := z_b hq
    refine z_callV1 (as := [zi v1, zi 4]) (S := [zi a8]) 69 dX10_goes_66 rfl (Q_qM_of  h9) kX10_of ⟨_, _, rfl⟩ ar_142 l_RX10_76 rfl rfl rfl rfl rfl rfl rfl ?_
    refine z_icmp_gt 105 72 dX10_goes_69 rfl rfl (fun hc => ?_) (fun hc => ?_)
    · replace hq := z_ip hq hc
      refine z_aload_n 106 dX10_goes_105 rfl rfl ?_
      refine z_iload_n 107 dX10_goes_106 rfl rfl ?_
      refine z_iconst 108 dX10_goes_107 rfl (by decide) ?_
      refine z_aload_n 109 dX10_goes_108 rfl rfl ?_
      refine z_iload_n 110 dX10_goes_109 rfl rfl ?_
      refine z_iconst 111 dX10_goes_110 rfl (by decide) ?_
      obtain ⟨a10, h10, hq⟩ := z_b hq
      refine z_callV1 (as := [zi v1, zi 5]) (S := [zi 5, zi v1, zr 142]) 114 dX10_goes_111 rfl (Q_qM_of  h10) kX10_of ⟨_, _, rfl⟩ ar_142 l_RX10_76 rfl rfl rfl rfl rfl rfl rfl ?_
      refine z_iconst 115 dX10_goes_114 rfl (by decide) ?_
      refine z_iadd (r := (wr (a10 + 1))) 116 dX10_goes_115 rfl rfl ?_
      obtain ⟨m11, h11, hq⟩ := z_b hq
      refine z_callV0 (as := [zi v1, zi 5, zi (wr (a10 + 1))]) (S := []) 119 dX10_goes_116 rfl (Q_qM_puts  h11) kX10_puts ⟨_, _, rfl⟩ ar_142 l_RX10_99 rfl rfl rfl rfl rfl rfl rfl ?_
      refine z_aload_n 120 dX10_goes_119 rfl rfl ?_
      refine z_iload_n 121 dX10_goes_120 rfl rfl ?_
      refine z_iconst 122 dX10_goes_121 rfl (by decide) ?_
      obtain ⟨a12, h12, hq⟩ := z_b hq
      refine z_callV1 (as := [zi v1, zi 5]) (S := []) 125 dX10_goes_122 rfl (Q_qM_of  h12) kX10_of ⟨_, _, rfl⟩ ar_142 l_RX10_76 rfl rfl rfl rfl rfl rfl rfl ?_
      refine z_iconst 126 dX10_goes_125 rfl (by decide) ?_
      refine z_icmp_ge 131 129 dX10_goes_126 rfl rfl (fun hc => ?_) (fun hc => ?_)
      · replace hq := z_in hq (Int.not_lt.mpr hc)
        refine z_aload_n 132 dX10_goes_131 rfl rfl ?_
        refine z_iload_n 133 dX10_goes_132 rfl rfl ?_
        obtain ⟨a13, m13, h13, hq⟩ := bnd2_some hq
        refine z_callV1 (as := [zi v1]) (S := []) 136 dX10_goes_133 rfl (Q_qM_leaves  h13) kX10_leaves ⟨_, _, rfl⟩ ar_142 l_RX10_142 rfl rfl rfl rfl rfl rfl rfl ?_
        refine z_istore_n (L' := [some (zr 142), some (zi v1), some (zi a8), some (zi a13)]) 137 dX10_goes_136 rfl rfl rfl rfl ?_
        refine z_aload_n 138 dX10_goes_137 rfl rfl ?_
        refine z_getR (e := 1) (r := 143) 141 dX10_goes_138 rfl f_RX10_7 ar_142 rfl ar_143.1 ?_
        refine z_iconst 142 dX10_goes_141 rfl (by decide) ?_
        refine z_dup2 143 dX10_goes_142 rfl rfl rfl ?_
        refine z_iaload (x := (m13 143 4)) 144 dX10_goes_143 rfl ar_143 ⟨by decide, by decide⟩ rfl ?_
        refine z_iconst 145 dX10_goes_144 rfl (by decide) ?_
        refine z_iadd (r := (wr ((m13 143 4) + 1))) 146 dX10_goes_145 rfl rfl ?_
        obtain ⟨m14, em14, hq⟩ := z_m hq
        refine z_iastore 147 dX10_goes_146 rfl ar_143 ⟨by decide, by decide⟩ em14 ?_
        refine z_iload_n 148 dX10_goes_147 rfl rfl ?_
        refine z_if_lt 155 151 dX10_goes_148 rfl rfl (fun hc => ?_) (fun hc => ?_)
        · replace hq := z_ip hq hc
          refine z_iconst 156 dX10_goes_155 rfl (by decide) ?_
          cases hq
          exact z_zreturn rfl dX10_goes_156 (by decide)
        · replace hq := z_in hq (Int.not_lt.mpr hc)
          refine z_iconst 152 dX10_goes_151 rfl (by decide) ?_
          refine z_goto 156 dX10_goes_152 rfl ?_
          cases hq
          exact z_zreturn rfl dX10_goes_156 (by decide)
      · replace hq := z_ip hq hc
        refine z_iconst 130 dX10_goes_129 rfl (by decide) ?_
        cases hq
        exact z_zreturn rfl dX10_goes_130 (by decide)
    · replace hq := z_in hq (Int.not_lt.mpr hc)
      refine z_aload_n 73 dX10_goes_72 rfl rfl ?_
      refine z_iload_n 74 dX10_goes_73 rfl rfl ?_
      refine z_iconst 75 dX10_goes_74 rfl (by decide) ?_
      refine z_aload_n 76 dX10_goes_75 rfl rfl ?_
      refine z_iload_n 77 dX10_goes_76 rfl rfl ?_
      refine z_iconst 78 dX10_goes_77 rfl (by decide) ?_
      obtain ⟨a15, h15, hq⟩ := z_b hq
      refine z_callV1 (as := [zi v1, zi 4]) (S := [zi 4, zi v1, zr 142]) 81 dX10_goes_78 rfl (Q_qM_of  h15) kX10_of ⟨_, _, rfl⟩ ar_142 l_RX10_76 rfl rfl rfl rfl rfl rfl rfl ?_
      refine z_iload_n 82 dX10_goes_81 rfl rfl ?_
      refine z_isub (r := (wr (a15 - a8))) 83 dX10_goes_82 rfl rfl ?_
      obtain ⟨m16, h16, hq⟩ := z_b hq
      refine z_callV0 (as := [zi v1, zi 4, zi (wr (a15 - a8))]) (S := []) 86 dX10_goes_83 rfl (Q_qM_puts  h16) kX10_puts ⟨_, _, rfl⟩ ar_142 l_RX10_99 rfl rfl rfl rfl rfl rfl rfl ?_
      refine z_aload_n 87 dX10_goes_86 rfl rfl ?_
      refine z_getR (e := 1) (r := 143) 90 dX10_goes_87 rfl f_RX10_7 ar_142 rfl ar_143.1 ?_
      refine z_iconst 91 dX10_goes_90 rfl (by decide) ?_
      refine z_dup2 92 dX10_goes_91 rfl rfl rfl ?_
      refine z_iaload (x := (m16 143 5)) 93 dX10_goes_92 rfl ar_143 ⟨by decide, by decide⟩ rfl ?_
      refine z_iload_n 94 dX10_goes_93 rfl rfl ?_
      refine z_iadd (r := (wr ((m16 143 5) + a8))) 95 dX10_goes_94 rfl rfl ?_
      obtain ⟨m17, em17, hq⟩ := z_m hq
      refine z_iastore 96 dX10_goes_95 rfl ar_143 ⟨by decide, by decide⟩ em17 ?_
      refine z_aload_n 97 dX10_goes_96 rfl rfl ?_
      refine z_iload_n 98 dX10_goes_97 rfl rfl ?_
      refine z_iconst 99 dX10_goes_98 rfl (by decide) ?_
      refine z_iconst 100 dX10_goes_99 rfl (by decide) ?_
      obtain ⟨m18, h18, hq⟩ := z_b hq
      refine z_callV0 (as := [zi v1, zi 5, zi 0]) (S := []) 103 dX10_goes_100 rfl (Q_qM_puts  h18) kX10_puts ⟨_, _, rfl⟩ ar_142 l_RX10_99 rfl rfl rfl rfl rfl rfl rfl ?_
      refine z_iconst 104 dX10_goes_103 rfl (by decide) ?_
      cases hq
      exact z_zreturn rfl dX10_goes_104 (by decide)
  · replace hq := z_ip hq hc
    refine z_iconst 46 dX10_goes_45 rfl (by decide) ?_
    cases hq
    exact z_zreturn rfl dX10_goes_46 (by decide)
set_option maxRecDepth 100000 in
set_option maxHeartbeats 4000000 in
theorem L_qM_passes_l22 {g : yG} {a : Nat → Nat} {ν : zM} {o : zO} {kc ks : Nat} {v1 : Int} {v3 : Int} {R : (Int) × zM}   (he : ∀ (tz : Int) (m : zM), R = (tz, m) → Z g a mX10_passes 6 kc ks 56 [some (zr 142), some (zi v1), some (zi tz), some (zi v3), none] [] m o ν) : ∀ (n : Nat) (μ : zM) (v2 : Int) (v4 : Int), qM_passes_l22 v1 v3 n μ v2 v4 = some R → Z g a mX10_passes 6 kc ks 22 [some (zr 142), some (zi v1), some (zi v2), some (zi v3), some (zi v4)] [] μ o ν := by
  intro n
  induction n with
  | zero => intro μ v2 v4 hq; cases hq
  | succ n ih =>
    intro μ v2 v4 hq
    rw [qM_passes_l22] at hq
    refine z_iload 24 dX10_passes_22 rfl rfl ?_
    refine z_aload_n 25 dX10_passes_24 rfl rfl ?_
    refine z_getR (e := 1) (r := 143) 28 dX10_passes_25 rfl f_RX10_7 ar_142 rfl ar_143.1 ?_
    refine z_iconst 29 dX10_passes_28 rfl (by decide) ?_
    refine z_iaload (x := (μ 143 1)) 30 dX10_passes_29 rfl ar_143 ⟨by decide, by decide⟩ rfl ?_
    refine z_icmp_ge 56 33 dX10_passes_30 rfl rfl (fun hc => ?_) (fun hc => ?_)
    · replace hq := z_in hq (Int.not_lt.mpr hc)
      exact Z.sub (zle_s (zle_s (zle_s (zle_s (zle_n zle_nil))))) (he _ _ (Option.some.inj hq).symm)
    · replace hq := z_ip hq hc
      refine z_iload_n 34 dX10_passes_33 rfl rfl ?_
      refine z_aload_n 35 dX10_passes_34 rfl rfl ?_
      refine z_iload 37 dX10_passes_35 rfl rfl ?_
      obtain ⟨a2, m2, h2, hq⟩ := bnd2_some hq
      refine z_callV1 (as := [zi v4]) (S := [zi v2]) 40 dX10_passes_37 rfl (Q_qM_goes  h2) kX10_goes ⟨_, _, rfl⟩ ar_142 l_RX10_177 rfl rfl rfl rfl rfl rfl rfl ?_
      refine z_if_eq 47 43 dX10_passes_40 rfl rfl (fun hc => ?_) (fun hc => ?_)
      · replace hq := z_ip hq hc
        refine z_iconst 48 dX10_passes_47 rfl (by decide) ?_
        refine z_iadd (r := (wr (v2 + 0))) 49 dX10_passes_48 rfl rfl ?_
        refine z_istore_n (L' := [some (zr 142), some (zi v1), some (zi (wr (v2 + 0))), some (zi v3), some (zi v4)]) 50 dX10_passes_49 rfl rfl rfl rfl ?_
        refine z_iinc (r := (wr (v4 + 1))) (L' := [some (zr 142), some (zi v1), some (zi (wr (v2 + 0))), some (zi v3), some (zi (wr (v4 + 1)))]) 53 dX10_passes_50 rfl rfl rfl rfl rfl rfl ?_
        refine z_goto 22 dX10_passes_53 rfl ?_
        exact Z.sub (zle_s (zle_s (zle_s (zle_s (zle_s zle_nil))))) (ih _ _ _ hq)
      · replace hq := z_in hq hc
        refine z_iconst 44 dX10_passes_43 rfl (by decide) ?_
        refine z_goto 48 dX10_passes_44 rfl ?_
        refine z_iadd (r := (wr (v2 + 1))) 49 dX10_passes_48 rfl rfl ?_
        refine z_istore_n (L' := [some (zr 142), some (zi v1), some (zi (wr (v2 + 1))), some (zi v3), some (zi v4)]) 50 dX10_passes_49 rfl rfl rfl rfl ?_
        refine z_iinc (r := (wr (v4 + 1))) (L' := [some (zr 142), some (zi v1), some (zi (wr (v2 + 1))), some (zi v3), some (zi (wr (v4 + 1)))]) 53 dX10_passes_50 rfl rfl rfl rfl rfl rfl ?_
        refine z_goto 22 dX10_passes_53 rfl ?_
        exact Z.sub (zle_s (zle_s (zle_s (zle_s (zle_s zle_nil))))) (ih _ _ _ hq)
set_option maxRecDepth 100000 in
set_option maxHeartbeats 4000000 in
theorem L_qM_passes_l4 {g : yG} {a : Nat → Nat} {ν : zM} {o : zO} {kc ks : Nat} {v1 : Int} {R : (Int) × zM}   (he : ∀ (tz : Int) (m : zM), R = (tz, m) → Z g a mX10_passes 6 kc ks 62 [some (zr 142), some (zi v1), some (zi tz), none, none] [] m o ν) : ∀ (n : Nat) (μ : zM) (v2 : Int) (v3 : Int), qM_passes_l4 v1 n μ v2 v3 = some R → Z g a mX10_passes 6 kc ks 4 [some (zr 142), some (zi v1), some (zi v2), some (zi v3), none] [] μ o ν := by
  intro n
  induction n with
  | zero => intro μ v2 v3 hq; cases hq
  | succ n ih =>
    intro μ v2 v3 hq
    rw [qM_passes_l4] at hq
    refine z_iload_n 5 dX10_passes_4 rfl rfl ?_
    refine z_iload_n 6 dX10_passes_5 rfl rfl ?_
    refine z_icmp_ge 62 9 dX10_passes_6 rfl rfl (fun hc => ?_) (fun hc => ?_)
    · replace hq := z_in hq (Int.not_lt.mpr hc)
      exact Z.sub (zle_s (zle_s (zle_s (zle_n (zle_n zle_nil))))) (he _ _ (Option.some.inj hq).symm)
    · replace hq := z_ip hq hc
      refine z_aload_n 10 dX10_passes_9 rfl rfl ?_
      refine z_getR (e := 1) (r := 143) 13 dX10_passes_10 rfl f_RX10_7 ar_142 rfl ar_143.1 ?_
      refine z_iconst 14 dX10_passes_13 rfl (by decide) ?_
      refine z_dup2 15 dX10_passes_14 rfl rfl rfl ?_
      refine z_iaload (x := (μ 143 3)) 16 dX10_passes_15 rfl ar_143 ⟨by decide, by decide⟩ rfl ?_
      refine z_iconst 17 dX10_passes_16 rfl (by decide) ?_
      refine z_iadd (r := (wr ((μ 143 3) + 1))) 18 dX10_passes_17 rfl rfl ?_
      obtain ⟨m1, em1, hq⟩ := z_m hq
      refine z_iastore 19 dX10_passes_18 rfl ar_143 ⟨by decide, by decide⟩ em1 ?_
      refine z_iconst 20 dX10_passes_19 rfl (by decide) ?_
      refine z_istore (L' := [some (zr 142), some (zi v1), some (zi v2), some (zi v3), some (zi 0)]) 22 dX10_passes_20 rfl rfl rfl rfl ?_
      obtain ⟨t3, m3, h3, hq⟩ := bnd2_some hq
      refine Z.sub (zle_s (zle_s (zle_s (zle_s (zle_s zle_nil))))) (L_qM_passes_l22  (R := (t3, m3)) (fun _ _ e => ?_) _ _ _ _ h3)
      cases e
      refine z_iinc (r := (wr (v3 + 1))) (L' := [some (zr 142), some (zi v1), some (zi t3), some (zi (wr (v3 + 1))), none]) 59 dX10_passes_56 rfl rfl rfl rfl rfl rfl ?_
      refine z_goto 4 dX10_passes_59 rfl ?_
      exact Z.sub (zle_s (zle_s (zle_s (zle_s (zle_n zle_nil))))) (ih _ _ _ hq)
set_option maxRecDepth 100000 in
set_option maxHeartbeats 4000000 in
theorem Q_qM_passes {g : yG} {a : Nat → Nat} {μ : zM} {v1 : Int} {r : Int} {ν : zM}  (hq : qM_passes μ v1 = some (r, ν)) : zC g a mX10_passes 6 0 0 [zr 142, zi v1] μ (.inl (some (zi r))) ν := by
  unfold qM_passes at hq
  refine z_of (L := [some (zr 142), some (zi v1), none, none, none]) pl_RX10 rfl (zc_of rfl) rfl rfl ?_
  refine z_iconst 1 dX10_passes_0 rfl (by decide) ?_
  refine z_istore_n (L' := [some (zr 142), some (zi v1), some (zi 0), none, none]) 2 dX10_passes_1 rfl rfl rfl rfl ?_
  refine z_iconst 3 dX10_passes_2 rfl (by decide) ?_
  refine z_istore_n (L' := [some (zr 142), some (zi v1), some (zi 0), some (zi 0), none]) 4 dX10_passes_3 rfl rfl rfl rfl ?_
  obtain ⟨t4, m4, h4, hq⟩ := bnd2_some hq
  refine Z.sub (zle_s (zle_s (zle_s (zle_s (zle_n zle_nil))))) (L_qM_passes_l4  (R := (t4, m4)) (fun _ _ e => ?_) _ _ _ _ h4)
  cases e
  refine z_iload_n 63 dX10_passes_62 rfl rfl ?_
  cases hq
  exact z_ireturn rfl dX10_passes_63
set_option maxRecDepth 100000 in
set_option maxHeartbeats 4000000 in
theorem Q_qM_notPass {g : yG} {a : Nat → Nat} {μ : zM} {v0 : Int} {r : Int}  (hq : qM_notPass μ v0 = some r) : zC g a mX10_notPass 1 0 0 [zi v0] μ (.inl (some (zi r))) μ := by
  unfold qM_notPass at hq
  refine z_of (L := [some (zi v0)]) pl_RX10 rfl (zc_of rfl) rfl rfl ?_
  refine z_iload_n 1 dX10_notPass_0 rfl rfl ?_
  refine z_iconst 2 dX10_notPass_1 rfl (by decide) ?_
  refine z_bipush 4 dX10_notPass_2 rfl (by decide) (by decide) ?_
  obtain ⟨a1, h1, hq⟩ := z_b hq
  refine z_callS1 (as := [zi v0, zi 1, zi 24]) (S := []) 7 dX10_notPass_4 rfl (Q_qM_isBetween  h1) kX10_isBetween l_RX10_72 rfl rfl rfl rfl rfl rfl rfl ?_
  refine z_if_eq 14 10 dX10_notPass_7 rfl rfl (fun hc => ?_) (fun hc => ?_)
  · replace hq := z_ip hq hc
    refine z_iconst 15 dX10_notPass_14 rfl (by decide) ?_
    cases hq
    exact z_ireturn rfl dX10_notPass_15
  · replace hq := z_in hq hc
    refine z_iconst 11 dX10_notPass_10 rfl (by decide) ?_
    refine z_goto 15 dX10_notPass_11 rfl ?_
    cases hq
    exact z_ireturn rfl dX10_notPass_15
set_option maxRecDepth 100000 in
set_option maxHeartbeats 4000000 in
theorem Q_qM_pass {g : yG} {a : Nat → Nat} {μ : zM} {v1 : Int} {r : Int} {ν : zM}  (hq : qM_pass μ v1 = some (r, ν)) : zC g a mX10_pass 7 0 0 [zr 142, zi v1] μ (.inl (some (zi r))) ν := by
  unfold qM_pass at hq
  refine z_of (L := [some (zr 142), some (zi v1)]) pl_RX10 rfl (zc_of rfl) rfl rfl ?_
  refine z_aload_n 1 dX10_pass_0 rfl rfl ?_
  refine z_iconst 2 dX10_pass_1 rfl (by decide) ?_
  obtain ⟨m1, em1, hq⟩ := z_m hq
  refine z_putI 5 dX10_pass_2 rfl p_RX10_57 ar_142 em1 ?_
  refine z_iload_n 6 dX10_pass_5 rfl rfl ?_
  obtain ⟨a2, h2, hq⟩ := z_b hq
  refine z_callS1 (as := [zi v1]) (S := []) 9 dX10_pass_6 rfl (Q_qM_notPass  h2) kX10_notPass l_RX10_180 rfl rfl rfl rfl rfl rfl rfl ?_
  refine z_if_eq 18 12 dX10_pass_9 rfl rfl (fun hc => ?_) (fun hc => ?_)
  · replace hq := z_ip hq hc
    refine z_aload_n 19 dX10_pass_18 rfl rfl ?_
    obtain ⟨m3, h3, hq⟩ := z_b hq
    refine z_callV0 (as := []) (S := []) 22 dX10_pass_19 rfl (Q_qM_remembers  h3) kX10_remembers ⟨_, _, rfl⟩ ar_142 l_RX10_93 rfl rfl rfl rfl rfl rfl rfl ?_
    refine z_aload_n 23 dX10_pass_22 rfl rfl ?_
    refine z_iload_n 24 dX10_pass_23 rfl rfl ?_
    obtain ⟨a4, m4, h4, hq⟩ := bnd2_some hq
    refine z_callV1 (as := [zi v1]) (S := []) 27 dX10_pass_24 rfl (Q_qM_passes  h4) kX10_passes ⟨_, _, rfl⟩ ar_142 l_RX10_183 rfl rfl rfl rfl rfl rfl rfl ?_
    cases hq
    exact z_ireturn rfl dX10_pass_27
  · replace hq := z_in hq hc
    refine z_aload_n 13 dX10_pass_12 rfl rfl ?_
    refine z_iconst 14 dX10_pass_13 rfl (by decide) ?_
    obtain ⟨a5, m5, h5, hq⟩ := bnd2_some hq
    refine z_callV1 (as := [zi 1]) (S := []) 17 dX10_pass_14 rfl (Q_qM_fails  h5) kX10_fails ⟨_, _, rfl⟩ ar_142 l_RX10_89 rfl rfl rfl rfl rfl rfl rfl ?_
    cases hq
    exact z_ireturn rfl dX10_pass_17
set_option maxRecDepth 100000 in
set_option maxHeartbeats 4000000 in
theorem Q_qM_told {g : yG} {a : Nat → Nat} {μ : zM} {v1 : Int} {r : Int} {ν : zM}  (hq : qM_told μ v1 = some (r, ν)) : zC g a mX10_told 0 0 0 [zr 142, zi v1] μ (.inl (some (zi r))) ν := by
  unfold qM_told at hq
  refine z_of (L := [some (zr 142), some (zi v1)]) pl_RX10 rfl (zc_of rfl) rfl rfl ?_
  refine z_aload_n 1 dX10_told_0 rfl rfl ?_
  refine z_iconst 2 dX10_told_1 rfl (by decide) ?_
  obtain ⟨m1, em1, hq⟩ := z_m hq
  refine z_putI 5 dX10_told_2 rfl p_RX10_57 ar_142 em1 ?_
  refine z_aload_n 6 dX10_told_5 rfl rfl ?_
  refine z_getR (e := 1) (r := 143) 9 dX10_told_6 rfl f_RX10_7 ar_142 rfl ar_143.1 ?_
  refine z_iload_n 10 dX10_told_9 rfl rfl ?_
  obtain ⟨hg10, hq⟩ := z_g hq
  refine z_iaload (x := (m1 143 v1)) 11 dX10_told_10 rfl ar_143 hg10 rfl ?_
  cases hq
  exact z_ireturn rfl dX10_told_11
set_option maxRecDepth 100000 in
set_option maxHeartbeats 4000000 in
theorem Q_qM_flats {g : yG} {a : Nat → Nat} {μ : zM}  {r : Int} {ν : zM}  (hq : qM_flats μ = some (r, ν)) : zC g a mX10_flats 1 0 0 [zr 142] μ (.inl (some (zi r))) ν := by
  unfold qM_flats at hq
  refine z_of (L := [some (zr 142)]) pl_RX10 rfl (zc_of rfl) rfl rfl ?_
  refine z_aload_n 1 dX10_flats_0 rfl rfl ?_
  refine z_iconst 2 dX10_flats_1 rfl (by decide) ?_
  obtain ⟨a1, m1, h1, hq⟩ := bnd2_some hq
  refine z_callV1 (as := [zi 0]) (S := []) 5 dX10_flats_2 rfl (Q_qM_told  h1) kX10_told ⟨_, _, rfl⟩ ar_142 l_RX10_186 rfl rfl rfl rfl rfl rfl rfl ?_
  cases hq
  exact z_ireturn rfl dX10_flats_5
set_option maxRecDepth 100000 in
set_option maxHeartbeats 4000000 in
theorem Q_qM_floorOf {g : yG} {a : Nat → Nat} {μ : zM} {v1 : Int} {r : Int} {ν : zM}  (hq : qM_floorOf μ v1 = some (r, ν)) : zC g a mX10_floorOf 2 0 0 [zr 142, zi v1] μ (.inl (some (zi r))) ν := by
  unfold qM_floorOf at hq
  refine z_of (L := [some (zr 142), some (zi v1)]) pl_RX10 rfl (zc_of rfl) rfl rfl ?_
  refine z_aload_n 1 dX10_floorOf_0 rfl rfl ?_
  refine z_iconst 2 dX10_floorOf_1 rfl (by decide) ?_
  obtain ⟨m1, em1, hq⟩ := z_m hq
  refine z_putI 5 dX10_floorOf_2 rfl p_RX10_57 ar_142 em1 ?_
  refine z_aload_n 6 dX10_floorOf_5 rfl rfl ?_
  refine z_iload_n 7 dX10_floorOf_6 rfl rfl ?_
  obtain ⟨a2, h2, hq⟩ := z_b hq
  refine z_callV1 (as := [zi v1]) (S := []) 10 dX10_floorOf_7 rfl (Q_qM_isFlat  h2) kX10_isFlat ⟨_, _, rfl⟩ ar_142 l_RX10_113 rfl rfl rfl rfl rfl rfl rfl ?_
  refine z_if_eq 22 13 dX10_floorOf_10 rfl rfl (fun hc => ?_) (fun hc => ?_)
  · replace hq := z_ip hq hc
    refine z_aload_n 23 dX10_floorOf_22 rfl rfl ?_
    refine z_iconst 24 dX10_floorOf_23 rfl (by decide) ?_
    obtain ⟨a3, m3, h3, hq⟩ := bnd2_some hq
    refine z_callV1 (as := [zi 1]) (S := []) 27 dX10_floorOf_24 rfl (Q_qM_fails  h3) kX10_fails ⟨_, _, rfl⟩ ar_142 l_RX10_89 rfl rfl rfl rfl rfl rfl rfl ?_
    cases hq
    exact z_ireturn rfl dX10_floorOf_27
  · replace hq := z_in hq hc
    refine z_aload_n 14 dX10_floorOf_13 rfl rfl ?_
    refine z_iload_n 15 dX10_floorOf_14 rfl rfl ?_
    refine z_iconst 16 dX10_floorOf_15 rfl (by decide) ?_
    obtain ⟨a4, h4, hq⟩ := z_b hq
    refine z_callV1 (as := [zi v1, zi 0]) (S := []) 19 dX10_floorOf_16 rfl (Q_qM_flat  h4) kX10_flat ⟨_, _, rfl⟩ ar_142 l_RX10_80 rfl rfl rfl rfl rfl rfl rfl ?_
    refine z_goto 27 dX10_floorOf_19 rfl ?_
    cases hq
    exact z_ireturn rfl dX10_floorOf_27
set_option maxRecDepth 100000 in
set_option maxHeartbeats 4000000 in
theorem Q_qM_rentOf {g : yG} {a : Nat → Nat} {μ : zM} {v1 : Int} {r : Int} {ν : zM}  (hq : qM_rentOf μ v1 = some (r, ν)) : zC g a mX10_rentOf 2 0 0 [zr 142, zi v1] μ (.inl (some (zi r))) ν := by
  unfold qM_rentOf at hq
  refine z_of (L := [some (zr 142), some (zi v1)]) pl_RX10 rfl (zc_of rfl) rfl rfl ?_
  refine z_aload_n 1 dX10_rentOf_0 rfl rfl ?_
  refine z_iconst 2 dX10_rentOf_1 rfl (by decide) ?_
  obtain ⟨m1, em1, hq⟩ := z_m hq
  refine z_putI 5 dX10_rentOf_2 rfl p_RX10_57 ar_142 em1 ?_
  refine z_aload_n 6 dX10_rentOf_5 rfl rfl ?_
  refine z_iload_n 7 dX10_rentOf_6 rfl rfl ?_
  obtain ⟨a2, h2, hq⟩ := z_b hq
  refine z_callV1 (as := [zi v1]) (S := []) 10 dX10_rentOf_7 rfl (Q_qM_isFlat  h2) kX10_isFlat ⟨_, _, rfl⟩ ar_142 l_RX10_113 rfl rfl rfl rfl rfl rfl rfl ?_
  refine z_if_eq 22 13 dX10_rentOf_10 rfl rfl (fun hc => ?_) (fun hc => ?_)
  · replace hq := z_ip hq hc
    refine z_aload_n 23 dX10_rentOf_22 rfl rfl ?_
    refine z_iconst 24 dX10_rentOf_23 rfl (by decide) ?_
    obtain ⟨a3, m3, h3, hq⟩ := bnd2_some hq
    refine z_callV1 (as := [zi 1]) (S := []) 27 dX10_rentOf_24 rfl (Q_qM_fails  h3) kX10_fails ⟨_, _, rfl⟩ ar_142 l_RX10_89 rfl rfl rfl rfl rfl rfl rfl ?_
    cases hq
    exact z_ireturn rfl dX10_rentOf_27
  · replace hq := z_in hq hc
    refine z_aload_n 14 dX10_rentOf_13 rfl rfl ?_
    refine z_iload_n 15 dX10_rentOf_14 rfl rfl ?_
    refine z_iconst 16 dX10_rentOf_15 rfl (by decide) ?_
    obtain ⟨a4, h4, hq⟩ := z_b hq
    refine z_callV1 (as := [zi v1, zi 1]) (S := []) 19 dX10_rentOf_16 rfl (Q_qM_flat  h4) kX10_flat ⟨_, _, rfl⟩ ar_142 l_RX10_80 rfl rfl rfl rfl rfl rfl rfl ?_
    refine z_goto 27 dX10_rentOf_19 rfl ?_
    cases hq
    exact z_ireturn rfl dX10_rentOf_27
set_option maxRecDepth 100000 in
set_option maxHeartbeats 4000000 in
theorem Q_qM_tenantIn {g : yG} {a : Nat → Nat} {μ : zM} {v1 : Int} {r : Int} {ν : zM}  (hq : qM_tenantIn μ v1 = some (r, ν)) : zC g a mX10_tenantIn 2 0 0 [zr 142, zi v1] μ (.inl (some (zi r))) ν := by
  unfold qM_tenantIn at hq
  refine z_of (L := [some (zr 142), some (zi v1)]) pl_RX10 rfl (zc_of rfl) rfl rfl ?_
  refine z_aload_n 1 dX10_tenantIn_0 rfl rfl ?_
  refine z_iconst 2 dX10_tenantIn_1 rfl (by decide) ?_
  obtain ⟨m1, em1, hq⟩ := z_m hq
  refine z_putI 5 dX10_tenantIn_2 rfl p_RX10_57 ar_142 em1 ?_
  refine z_aload_n 6 dX10_tenantIn_5 rfl rfl ?_
  refine z_iload_n 7 dX10_tenantIn_6 rfl rfl ?_
  obtain ⟨a2, h2, hq⟩ := z_b hq
  refine z_callV1 (as := [zi v1]) (S := []) 10 dX10_tenantIn_7 rfl (Q_qM_isFlat  h2) kX10_isFlat ⟨_, _, rfl⟩ ar_142 l_RX10_113 rfl rfl rfl rfl rfl rfl rfl ?_
  refine z_if_ne 19 13 dX10_tenantIn_10 rfl rfl (fun hc => ?_) (fun hc => ?_)
  · replace hq := z_in hq hc
    refine z_aload_n 20 dX10_tenantIn_19 rfl rfl ?_
    refine z_iload_n 21 dX10_tenantIn_20 rfl rfl ?_
    obtain ⟨a3, h3, hq⟩ := z_b hq
    refine z_callV1 (as := [zi v1]) (S := []) 24 dX10_tenantIn_21 rfl (Q_qM_occupant  h3) kX10_occupant ⟨_, _, rfl⟩ ar_142 l_RX10_117 rfl rfl rfl rfl rfl rfl rfl ?_
    refine z_if_ge 35 27 dX10_tenantIn_24 rfl rfl (fun hc => ?_) (fun hc => ?_)
    · replace hq := z_in hq (Int.not_lt.mpr hc)
      refine z_aload_n 36 dX10_tenantIn_35 rfl rfl ?_
      refine z_aload_n 37 dX10_tenantIn_36 rfl rfl ?_
      refine z_iload_n 38 dX10_tenantIn_37 rfl rfl ?_
      obtain ⟨a4, h4, hq⟩ := z_b hq
      refine z_callV1 (as := [zi v1]) (S := [zr 142]) 41 dX10_tenantIn_38 rfl (Q_qM_occupant  h4) kX10_occupant ⟨_, _, rfl⟩ ar_142 l_RX10_117 rfl rfl rfl rfl rfl rfl rfl ?_
      refine z_iconst 42 dX10_tenantIn_41 rfl (by decide) ?_
      obtain ⟨a5, h5, hq⟩ := z_b hq
      refine z_callV1 (as := [zi a4, zi 0]) (S := []) 45 dX10_tenantIn_42 rfl (Q_qM_of  h5) kX10_of ⟨_, _, rfl⟩ ar_142 l_RX10_76 rfl rfl rfl rfl rfl rfl rfl ?_
      cases hq
      exact z_ireturn rfl dX10_tenantIn_45
    · replace hq := z_ip hq hc
      refine z_aload_n 28 dX10_tenantIn_27 rfl rfl ?_
      refine z_iconst 29 dX10_tenantIn_28 rfl (by decide) ?_
      obtain ⟨a6, m6, h6, hq⟩ := bnd2_some hq
      refine z_callV1 (as := [zi 2]) (S := []) 32 dX10_tenantIn_29 rfl (Q_qM_fails  h6) kX10_fails ⟨_, _, rfl⟩ ar_142 l_RX10_89 rfl rfl rfl rfl rfl rfl rfl ?_
      refine z_goto 45 dX10_tenantIn_32 rfl ?_
      cases hq
      exact z_ireturn rfl dX10_tenantIn_45
  · replace hq := z_ip hq hc
    refine z_aload_n 14 dX10_tenantIn_13 rfl rfl ?_
    refine z_iconst 15 dX10_tenantIn_14 rfl (by decide) ?_
    obtain ⟨a7, m7, h7, hq⟩ := bnd2_some hq
    refine z_callV1 (as := [zi 1]) (S := []) 18 dX10_tenantIn_15 rfl (Q_qM_fails  h7) kX10_fails ⟨_, _, rfl⟩ ar_142 l_RX10_89 rfl rfl rfl rfl rfl rfl rfl ?_
    cases hq
    exact z_ireturn rfl dX10_tenantIn_18
set_option maxRecDepth 100000 in
set_option maxHeartbeats 4000000 in
theorem L_qM_vacantFlats_l9 {g : yG} {a : Nat → Nat} {μ ν : zM} {o : zO} {kc ks : Nat}  {R : Int}   (he : ∀ (tz : Int), R = tz → Z g a mX10_vacantFlats 2 kc ks 41 [some (zr 142), some (zi tz), none] [] μ o ν) : ∀ (n : Nat) (v1 : Int) (v2 : Int), qM_vacantFlats_l9 μ n v1 v2 = some R → Z g a mX10_vacantFlats 2 kc ks 9 [some (zr 142), some (zi v1), some (zi v2)] [] μ o ν := by
  intro n
  induction n with
  | zero => intro v1 v2 hq; cases hq
  | succ n ih =>
    intro v1 v2 hq
    rw [qM_vacantFlats_l9] at hq
    refine z_iload_n 10 dX10_vacantFlats_9 rfl rfl ?_
    refine z_aload_n 11 dX10_vacantFlats_10 rfl rfl ?_
    refine z_getR (e := 1) (r := 143) 14 dX10_vacantFlats_11 rfl f_RX10_7 ar_142 rfl ar_143.1 ?_
    refine z_iconst 15 dX10_vacantFlats_14 rfl (by decide) ?_
    refine z_iaload (x := (μ 143 0)) 16 dX10_vacantFlats_15 rfl ar_143 ⟨by decide, by decide⟩ rfl ?_
    refine z_icmp_ge 41 19 dX10_vacantFlats_16 rfl rfl (fun hc => ?_) (fun hc => ?_)
    · replace hq := z_in hq (Int.not_lt.mpr hc)
      exact Z.sub (zle_s (zle_s (zle_n zle_nil))) (he _ (Option.some.inj hq).symm)
    · replace hq := z_ip hq hc
      refine z_iload_n 20 dX10_vacantFlats_19 rfl rfl ?_
      refine z_aload_n 21 dX10_vacantFlats_20 rfl rfl ?_
      refine z_iload_n 22 dX10_vacantFlats_21 rfl rfl ?_
      obtain ⟨a2, h2, hq⟩ := z_b hq
      refine z_callV1 (as := [zi v2]) (S := [zi v1]) 25 dX10_vacantFlats_22 rfl (Q_qM_occupant  h2) kX10_occupant ⟨_, _, rfl⟩ ar_142 l_RX10_117 rfl rfl rfl rfl rfl rfl rfl ?_
      refine z_if_ge 32 28 dX10_vacantFlats_25 rfl rfl (fun hc => ?_) (fun hc => ?_)
      · replace hq := z_in hq (Int.not_lt.mpr hc)
        refine z_iconst 33 dX10_vacantFlats_32 rfl (by decide) ?_
        refine z_iadd (r := (wr (v1 + 0))) 34 dX10_vacantFlats_33 rfl rfl ?_
        refine z_istore_n (L' := [some (zr 142), some (zi (wr (v1 + 0))), some (zi v2)]) 35 dX10_vacantFlats_34 rfl rfl rfl rfl ?_
        refine z_iinc (r := (wr (v2 + 1))) (L' := [some (zr 142), some (zi (wr (v1 + 0))), some (zi (wr (v2 + 1)))]) 38 dX10_vacantFlats_35 rfl rfl rfl rfl rfl rfl ?_
        refine z_goto 9 dX10_vacantFlats_38 rfl ?_
        exact Z.sub (zle_s (zle_s (zle_s zle_nil))) (ih _ _ hq)
      · replace hq := z_ip hq hc
        refine z_iconst 29 dX10_vacantFlats_28 rfl (by decide) ?_
        refine z_goto 33 dX10_vacantFlats_29 rfl ?_
        refine z_iadd (r := (wr (v1 + 1))) 34 dX10_vacantFlats_33 rfl rfl ?_
        refine z_istore_n (L' := [some (zr 142), some (zi (wr (v1 + 1))), some (zi v2)]) 35 dX10_vacantFlats_34 rfl rfl rfl rfl ?_
        refine z_iinc (r := (wr (v2 + 1))) (L' := [some (zr 142), some (zi (wr (v1 + 1))), some (zi (wr (v2 + 1)))]) 38 dX10_vacantFlats_35 rfl rfl rfl rfl rfl rfl ?_
        refine z_goto 9 dX10_vacantFlats_38 rfl ?_
        exact Z.sub (zle_s (zle_s (zle_s zle_nil))) (ih _ _ hq)
set_option maxRecDepth 100000 in
set_option maxHeartbeats 4000000 in
theorem Q_qM_vacantFlats {g : yG} {a : Nat → Nat} {μ : zM}  {r : Int} {ν : zM}  (hq : qM_vacantFlats μ = some (r, ν)) : zC g a mX10_vacantFlats 2 0 0 [zr 142] μ (.inl (some (zi r))) ν := by
  unfold qM_vacantFlats at hq
  refine z_of (L := [some (zr 142), none, none]) pl_RX10 rfl (zc_of rfl) rfl rfl ?_
  refine z_aload_n 1 dX10_vacantFlats_0 rfl rfl ?_
  refine z_iconst 2 dX10_vacantFlats_1 rfl (by decide) ?_
  obtain ⟨m1, em1, hq⟩ := z_m hq
  refine z_putI 5 dX10_vacantFlats_2 rfl p_RX10_57 ar_142 em1 ?_
  refine z_iconst 6 dX10_vacantFlats_5 rfl (by decide) ?_
  refine z_istore_n (L' := [some (zr 142), some (zi 0), none]) 7 dX10_vacantFlats_6 rfl rfl rfl rfl ?_
  refine z_iconst 8 dX10_vacantFlats_7 rfl (by decide) ?_
  refine z_istore_n (L' := [some (zr 142), some (zi 0), some (zi 0)]) 9 dX10_vacantFlats_8 rfl rfl rfl rfl ?_
  obtain ⟨t3, h3, hq⟩ := z_b hq
  refine Z.sub (zle_s (zle_s (zle_s zle_nil))) (L_qM_vacantFlats_l9  (R := t3) (fun _ e => ?_) _ _ _ h3)
  cases e
  refine z_iload_n 42 dX10_vacantFlats_41 rfl rfl ?_
  cases hq
  exact z_ireturn rfl dX10_vacantFlats_42
set_option maxRecDepth 100000 in
set_option maxHeartbeats 4000000 in
theorem Q_qM_tenants {g : yG} {a : Nat → Nat} {μ : zM}  {r : Int} {ν : zM}  (hq : qM_tenants μ = some (r, ν)) : zC g a mX10_tenants 1 0 0 [zr 142] μ (.inl (some (zi r))) ν := by
  unfold qM_tenants at hq
  refine z_of (L := [some (zr 142)]) pl_RX10 rfl (zc_of rfl) rfl rfl ?_
  refine z_aload_n 1 dX10_tenants_0 rfl rfl ?_
  refine z_iconst 2 dX10_tenants_1 rfl (by decide) ?_
  obtain ⟨a1, m1, h1, hq⟩ := bnd2_some hq
  refine z_callV1 (as := [zi 1]) (S := []) 5 dX10_tenants_2 rfl (Q_qM_told  h1) kX10_told ⟨_, _, rfl⟩ ar_142 l_RX10_186 rfl rfl rfl rfl rfl rfl rfl ?_
  cases hq
  exact z_ireturn rfl dX10_tenants_5
set_option maxRecDepth 100000 in
set_option maxHeartbeats 4000000 in
theorem Q_qM_isPresent {g : yG} {a : Nat → Nat} {μ : zM} {v1 : Int} {r : Int} {ν : zM}  (hq : qM_isPresent μ v1 = some (r, ν)) : zC g a mX10_isPresent 2 0 0 [zr 142, zi v1] μ (.inl (some (zi r))) ν := by
  unfold qM_isPresent at hq
  refine z_of (L := [some (zr 142), some (zi v1)]) pl_RX10 rfl (zc_of rfl) rfl rfl ?_
  refine z_aload_n 1 dX10_isPresent_0 rfl rfl ?_
  refine z_iconst 2 dX10_isPresent_1 rfl (by decide) ?_
  obtain ⟨m1, em1, hq⟩ := z_m hq
  refine z_putI 5 dX10_isPresent_2 rfl p_RX10_57 ar_142 em1 ?_
  refine z_aload_n 6 dX10_isPresent_5 rfl rfl ?_
  refine z_iload_n 7 dX10_isPresent_6 rfl rfl ?_
  obtain ⟨a2, h2, hq⟩ := z_b hq
  refine z_callV1 (as := [zi v1]) (S := []) 10 dX10_isPresent_7 rfl (Q_qM_place  h2) kX10_place ⟨_, _, rfl⟩ ar_142 l_RX10_110 rfl rfl rfl rfl rfl rfl rfl ?_
  refine z_if_lt 17 13 dX10_isPresent_10 rfl rfl (fun hc => ?_) (fun hc => ?_)
  · replace hq := z_ip hq hc
    refine z_iconst 18 dX10_isPresent_17 rfl (by decide) ?_
    cases hq
    exact z_zreturn rfl dX10_isPresent_18 (by decide)
  · replace hq := z_in hq (Int.not_lt.mpr hc)
    refine z_iconst 14 dX10_isPresent_13 rfl (by decide) ?_
    refine z_goto 18 dX10_isPresent_14 rfl ?_
    cases hq
    exact z_zreturn rfl dX10_isPresent_18 (by decide)
set_option maxRecDepth 100000 in
set_option maxHeartbeats 4000000 in
theorem Q_qM_tells {g : yG} {a : Nat → Nat} {μ : zM} {v1 : Int} {v2 : Int} {r : Int} {ν : zM}  (hq : qM_tells μ v1 v2 = some (r, ν)) : zC g a mX10_tells 2 0 0 [zr 142, zi v1, zi v2] μ (.inl (some (zi r))) ν := by
  unfold qM_tells at hq
  refine z_of (L := [some (zr 142), some (zi v1), some (zi v2)]) pl_RX10 rfl (zc_of rfl) rfl rfl ?_
  refine z_aload_n 1 dX10_tells_0 rfl rfl ?_
  refine z_iconst 2 dX10_tells_1 rfl (by decide) ?_
  obtain ⟨m1, em1, hq⟩ := z_m hq
  refine z_putI 5 dX10_tells_2 rfl p_RX10_57 ar_142 em1 ?_
  refine z_aload_n 6 dX10_tells_5 rfl rfl ?_
  refine z_iload_n 7 dX10_tells_6 rfl rfl ?_
  obtain ⟨a2, h2, hq⟩ := z_b hq
  refine z_callV1 (as := [zi v1]) (S := []) 10 dX10_tells_7 rfl (Q_qM_place  h2) kX10_place ⟨_, _, rfl⟩ ar_142 l_RX10_110 rfl rfl rfl rfl rfl rfl rfl ?_
  refine z_if_ge 21 13 dX10_tells_10 rfl rfl (fun hc => ?_) (fun hc => ?_)
  · replace hq := z_in hq (Int.not_lt.mpr hc)
    refine z_aload_n 22 dX10_tells_21 rfl rfl ?_
    refine z_aload_n 23 dX10_tells_22 rfl rfl ?_
    refine z_iload_n 24 dX10_tells_23 rfl rfl ?_
    obtain ⟨a3, h3, hq⟩ := z_b hq
    refine z_callV1 (as := [zi v1]) (S := [zr 142]) 27 dX10_tells_24 rfl (Q_qM_place  h3) kX10_place ⟨_, _, rfl⟩ ar_142 l_RX10_110 rfl rfl rfl rfl rfl rfl rfl ?_
    refine z_iload_n 28 dX10_tells_27 rfl rfl ?_
    obtain ⟨a4, h4, hq⟩ := z_b hq
    refine z_callV1 (as := [zi a3, zi v2]) (S := []) 31 dX10_tells_28 rfl (Q_qM_of  h4) kX10_of ⟨_, _, rfl⟩ ar_142 l_RX10_76 rfl rfl rfl rfl rfl rfl rfl ?_
    cases hq
    exact z_ireturn rfl dX10_tells_31
  · replace hq := z_ip hq hc
    refine z_aload_n 14 dX10_tells_13 rfl rfl ?_
    refine z_iconst 15 dX10_tells_14 rfl (by decide) ?_
    obtain ⟨a5, m5, h5, hq⟩ := bnd2_some hq
    refine z_callV1 (as := [zi 1]) (S := []) 18 dX10_tells_15 rfl (Q_qM_fails  h5) kX10_fails ⟨_, _, rfl⟩ ar_142 l_RX10_89 rfl rfl rfl rfl rfl rfl rfl ?_
    refine z_goto 31 dX10_tells_18 rfl ?_
    cases hq
    exact z_ireturn rfl dX10_tells_31
set_option maxRecDepth 100000 in
set_option maxHeartbeats 4000000 in
theorem Q_qM_weightOf {g : yG} {a : Nat → Nat} {μ : zM} {v1 : Int} {r : Int} {ν : zM}  (hq : qM_weightOf μ v1 = some (r, ν)) : zC g a mX10_weightOf 3 0 0 [zr 142, zi v1] μ (.inl (some (zi r))) ν := by
  unfold qM_weightOf at hq
  refine z_of (L := [some (zr 142), some (zi v1)]) pl_RX10 rfl (zc_of rfl) rfl rfl ?_
  refine z_aload_n 1 dX10_weightOf_0 rfl rfl ?_
  refine z_iload_n 2 dX10_weightOf_1 rfl rfl ?_
  refine z_iconst 3 dX10_weightOf_2 rfl (by decide) ?_
  obtain ⟨a1, m1, h1, hq⟩ := bnd2_some hq
  refine z_callV1 (as := [zi v1, zi 1]) (S := []) 6 dX10_weightOf_3 rfl (Q_qM_tells  h1) kX10_tells ⟨_, _, rfl⟩ ar_142 l_RX10_189 rfl rfl rfl rfl rfl rfl rfl ?_
  cases hq
  exact z_ireturn rfl dX10_weightOf_6
set_option maxRecDepth 100000 in
set_option maxHeartbeats 4000000 in
theorem Q_qM_purseOf {g : yG} {a : Nat → Nat} {μ : zM} {v1 : Int} {r : Int} {ν : zM}  (hq : qM_purseOf μ v1 = some (r, ν)) : zC g a mX10_purseOf 3 0 0 [zr 142, zi v1] μ (.inl (some (zi r))) ν := by
  unfold qM_purseOf at hq
  refine z_of (L := [some (zr 142), some (zi v1)]) pl_RX10 rfl (zc_of rfl) rfl rfl ?_
  refine z_aload_n 1 dX10_purseOf_0 rfl rfl ?_
  refine z_iload_n 2 dX10_purseOf_1 rfl rfl ?_
  refine z_iconst 3 dX10_purseOf_2 rfl (by decide) ?_
  obtain ⟨a1, m1, h1, hq⟩ := bnd2_some hq
  refine z_callV1 (as := [zi v1, zi 4]) (S := []) 6 dX10_purseOf_3 rfl (Q_qM_tells  h1) kX10_tells ⟨_, _, rfl⟩ ar_142 l_RX10_189 rfl rfl rfl rfl rfl rfl rfl ?_
  cases hq
  exact z_ireturn rfl dX10_purseOf_6
set_option maxRecDepth 100000 in
set_option maxHeartbeats 4000000 in
theorem Q_qM_noticesOf {g : yG} {a : Nat → Nat} {μ : zM} {v1 : Int} {r : Int} {ν : zM}  (hq : qM_noticesOf μ v1 = some (r, ν)) : zC g a mX10_noticesOf 3 0 0 [zr 142, zi v1] μ (.inl (some (zi r))) ν := by
  unfold qM_noticesOf at hq
  refine z_of (L := [some (zr 142), some (zi v1)]) pl_RX10 rfl (zc_of rfl) rfl rfl ?_
  refine z_aload_n 1 dX10_noticesOf_0 rfl rfl ?_
  refine z_iload_n 2 dX10_noticesOf_1 rfl rfl ?_
  refine z_iconst 3 dX10_noticesOf_2 rfl (by decide) ?_
  obtain ⟨a1, m1, h1, hq⟩ := bnd2_some hq
  refine z_callV1 (as := [zi v1, zi 5]) (S := []) 6 dX10_noticesOf_3 rfl (Q_qM_tells  h1) kX10_tells ⟨_, _, rfl⟩ ar_142 l_RX10_189 rfl rfl rfl rfl rfl rfl rfl ?_
  cases hq
  exact z_ireturn rfl dX10_noticesOf_6
set_option maxRecDepth 100000 in
set_option maxHeartbeats 4000000 in
theorem Q_qM_flatOf {g : yG} {a : Nat → Nat} {μ : zM} {v1 : Int} {r : Int} {ν : zM}  (hq : qM_flatOf μ v1 = some (r, ν)) : zC g a mX10_flatOf 3 0 0 [zr 142, zi v1] μ (.inl (some (zi r))) ν := by
  unfold qM_flatOf at hq
  refine z_of (L := [some (zr 142), some (zi v1), none]) pl_RX10 rfl (zc_of rfl) rfl rfl ?_
  refine z_aload_n 1 dX10_flatOf_0 rfl rfl ?_
  refine z_iload_n 2 dX10_flatOf_1 rfl rfl ?_
  refine z_bipush 4 dX10_flatOf_2 rfl (by decide) (by decide) ?_
  obtain ⟨a1, m1, h1, hq⟩ := bnd2_some hq
  refine z_callV1 (as := [zi v1, zi 6]) (S := []) 7 dX10_flatOf_4 rfl (Q_qM_tells  h1) kX10_tells ⟨_, _, rfl⟩ ar_142 l_RX10_189 rfl rfl rfl rfl rfl rfl rfl ?_
  refine z_istore_n (L' := [some (zr 142), some (zi v1), some (zi a1)]) 8 dX10_flatOf_7 rfl rfl rfl rfl ?_
  refine z_iload_n 9 dX10_flatOf_8 rfl rfl ?_
  refine z_if_ne 20 12 dX10_flatOf_9 rfl rfl (fun hc => ?_) (fun hc => ?_)
  · replace hq := z_in hq hc
    refine z_iload_n 21 dX10_flatOf_20 rfl rfl ?_
    refine z_iconst 22 dX10_flatOf_21 rfl (by decide) ?_
    refine z_isub (r := (wr (a1 - 1))) 23 dX10_flatOf_22 rfl rfl ?_
    cases hq
    exact z_ireturn rfl dX10_flatOf_23
  · replace hq := z_ip hq hc
    refine z_aload_n 13 dX10_flatOf_12 rfl rfl ?_
    refine z_iconst 14 dX10_flatOf_13 rfl (by decide) ?_
    obtain ⟨a2, m2, h2, hq⟩ := bnd2_some hq
    refine z_callV1 (as := [zi 1]) (S := []) 17 dX10_flatOf_14 rfl (Q_qM_fails  h2) kX10_fails ⟨_, _, rfl⟩ ar_142 l_RX10_89 rfl rfl rfl rfl rfl rfl rfl ?_
    refine z_goto 23 dX10_flatOf_17 rfl ?_
    cases hq
    exact z_ireturn rfl dX10_flatOf_23
set_option maxRecDepth 100000 in
set_option maxHeartbeats 4000000 in
theorem Q_qM_burden {g : yG} {a : Nat → Nat} {μ : zM} {v1 : Int} {v2 : Int} {r : Int} {ν : zM}  (hq : qM_burden μ v1 v2 = some (r, ν)) : zC g a mX10_burden 2 0 0 [zr 142, zi v1, zi v2] μ (.inl (some (zi r))) ν := by
  unfold qM_burden at hq
  refine z_of (L := [some (zr 142), some (zi v1), some (zi v2)]) pl_RX10 rfl (zc_of rfl) rfl rfl ?_
  refine z_aload_n 1 dX10_burden_0 rfl rfl ?_
  refine z_iconst 2 dX10_burden_1 rfl (by decide) ?_
  obtain ⟨m1, em1, hq⟩ := z_m hq
  refine z_putI 5 dX10_burden_2 rfl p_RX10_57 ar_142 em1 ?_
  refine z_aload_n 6 dX10_burden_5 rfl rfl ?_
  refine z_iload_n 7 dX10_burden_6 rfl rfl ?_
  obtain ⟨a2, h2, hq⟩ := z_b hq
  refine z_callV1 (as := [zi v1]) (S := []) 10 dX10_burden_7 rfl (Q_qM_place  h2) kX10_place ⟨_, _, rfl⟩ ar_142 l_RX10_110 rfl rfl rfl rfl rfl rfl rfl ?_
  refine z_if_ge 19 13 dX10_burden_10 rfl rfl (fun hc => ?_) (fun hc => ?_)
  · replace hq := z_in hq (Int.not_lt.mpr hc)
    refine z_aload_n 20 dX10_burden_19 rfl rfl ?_
    refine z_iload_n 21 dX10_burden_20 rfl rfl ?_
    obtain ⟨a3, h3, hq⟩ := z_b hq
    refine z_callV1 (as := [zi v2]) (S := []) 24 dX10_burden_21 rfl (Q_qM_isFlat  h3) kX10_isFlat ⟨_, _, rfl⟩ ar_142 l_RX10_113 rfl rfl rfl rfl rfl rfl rfl ?_
    refine z_if_eq 40 27 dX10_burden_24 rfl rfl (fun hc => ?_) (fun hc => ?_)
    · replace hq := z_ip hq hc
      refine z_aload_n 41 dX10_burden_40 rfl rfl ?_
      refine z_iconst 42 dX10_burden_41 rfl (by decide) ?_
      obtain ⟨a4, m4, h4, hq⟩ := bnd2_some hq
      refine z_callV1 (as := [zi 2]) (S := []) 45 dX10_burden_42 rfl (Q_qM_fails  h4) kX10_fails ⟨_, _, rfl⟩ ar_142 l_RX10_89 rfl rfl rfl rfl rfl rfl rfl ?_
      cases hq
      exact z_ireturn rfl dX10_burden_45
    · replace hq := z_in hq hc
      refine z_aload_n 28 dX10_burden_27 rfl rfl ?_
      refine z_aload_n 29 dX10_burden_28 rfl rfl ?_
      refine z_iload_n 30 dX10_burden_29 rfl rfl ?_
      obtain ⟨a5, h5, hq⟩ := z_b hq
      refine z_callV1 (as := [zi v1]) (S := [zr 142]) 33 dX10_burden_30 rfl (Q_qM_place  h5) kX10_place ⟨_, _, rfl⟩ ar_142 l_RX10_110 rfl rfl rfl rfl rfl rfl rfl ?_
      refine z_iload_n 34 dX10_burden_33 rfl rfl ?_
      obtain ⟨a6, h6, hq⟩ := z_b hq
      refine z_callV1 (as := [zi a5, zi v2]) (S := []) 37 dX10_burden_34 rfl (Q_qM_burdenOf  h6) kX10_burdenOf ⟨_, _, rfl⟩ ar_142 l_RX10_83 rfl rfl rfl rfl rfl rfl rfl ?_
      refine z_goto 45 dX10_burden_37 rfl ?_
      cases hq
      exact z_ireturn rfl dX10_burden_45
  · replace hq := z_ip hq hc
    refine z_aload_n 14 dX10_burden_13 rfl rfl ?_
    refine z_iconst 15 dX10_burden_14 rfl (by decide) ?_
    obtain ⟨a7, m7, h7, hq⟩ := bnd2_some hq
    refine z_callV1 (as := [zi 1]) (S := []) 18 dX10_burden_15 rfl (Q_qM_fails  h7) kX10_fails ⟨_, _, rfl⟩ ar_142 l_RX10_89 rfl rfl rfl rfl rfl rfl rfl ?_
    cases hq
    exact z_ireturn rfl dX10_burden_18
set_option maxRecDepth 100000 in
set_option maxHeartbeats 4000000 in
theorem J_qM_flatByRank_j26 {g : yG} {a : Nat → Nat} {μ : zM} {kc ks : Nat} {r : Int} {ν : zM}   (hq : qM_flatByRank_j26 μ = some (r, ν)) : Z g a mX10_flatByRank 4 kc ks 26 [some (zr 142), none, none] [] μ (.inl (some (zi r))) ν := by
  unfold qM_flatByRank_j26 at hq
  refine z_aload_n 27 dX10_flatByRank_26 rfl rfl ?_
  refine z_iconst 28 dX10_flatByRank_27 rfl (by decide) ?_
  obtain ⟨a3, m3, h3, hq⟩ := bnd2_some hq
  refine z_callV1 (as := [zi 1]) (S := []) 31 dX10_flatByRank_28 rfl (Q_qM_fails  h3) kX10_fails ⟨_, _, rfl⟩ ar_142 l_RX10_89 rfl rfl rfl rfl rfl rfl rfl ?_
  cases hq
  exact z_ireturn rfl dX10_flatByRank_31
set_option maxRecDepth 100000 in
set_option maxHeartbeats 4000000 in
theorem Q_qM_flatByRank {g : yG} {a : Nat → Nat} {μ : zM} {v1 : Int} {v2 : Int} {r : Int} {ν : zM}  (hq : qM_flatByRank μ v1 v2 = some (r, ν)) : zC g a mX10_flatByRank 4 0 0 [zr 142, zi v1, zi v2] μ (.inl (some (zi r))) ν := by
  unfold qM_flatByRank at hq
  refine z_of (L := [some (zr 142), some (zi v1), some (zi v2)]) pl_RX10 rfl (zc_of rfl) rfl rfl ?_
  refine z_aload_n 1 dX10_flatByRank_0 rfl rfl ?_
  refine z_iconst 2 dX10_flatByRank_1 rfl (by decide) ?_
  obtain ⟨m1, em1, hq⟩ := z_m hq
  refine z_putI 5 dX10_flatByRank_2 rfl p_RX10_57 ar_142 em1 ?_
  refine z_aload_n 6 dX10_flatByRank_5 rfl rfl ?_
  refine z_iload_n 7 dX10_flatByRank_6 rfl rfl ?_
  obtain ⟨a2, h2, hq⟩ := z_b hq
  refine z_callV1 (as := [zi v1]) (S := []) 10 dX10_flatByRank_7 rfl (Q_qM_place  h2) kX10_place ⟨_, _, rfl⟩ ar_142 l_RX10_110 rfl rfl rfl rfl rfl rfl rfl ?_
  refine z_if_lt 26 13 dX10_flatByRank_10 rfl rfl (fun hc => ?_) (fun hc => ?_)
  · replace hq := z_ip hq hc
    exact Z.sub (zle_s (zle_n (zle_n zle_nil))) (J_qM_flatByRank_j26 hq)
  · replace hq := z_in hq (Int.not_lt.mpr hc)
    refine z_aload_n 14 dX10_flatByRank_13 rfl rfl ?_
    refine z_aload_n 15 dX10_flatByRank_14 rfl rfl ?_
    refine z_iload_n 16 dX10_flatByRank_15 rfl rfl ?_
    obtain ⟨a4, h4, hq⟩ := z_b hq
    refine z_callV1 (as := [zi v1]) (S := [zr 142]) 19 dX10_flatByRank_16 rfl (Q_qM_place  h4) kX10_place ⟨_, _, rfl⟩ ar_142 l_RX10_110 rfl rfl rfl rfl rfl rfl rfl ?_
    refine z_iload_n 20 dX10_flatByRank_19 rfl rfl ?_
    obtain ⟨a5, h5, hq⟩ := z_b hq
    refine z_callV1 (as := [zi a4, zi v2]) (S := []) 23 dX10_flatByRank_20 rfl (Q_qM_flatAt  h5) kX10_flatAt ⟨_, _, rfl⟩ ar_142 l_RX10_157 rfl rfl rfl rfl rfl rfl rfl ?_
    refine z_if_ge 32 26 dX10_flatByRank_23 rfl rfl (fun hc => ?_) (fun hc => ?_)
    · replace hq := z_in hq (Int.not_lt.mpr hc)
      refine z_aload_n 33 dX10_flatByRank_32 rfl rfl ?_
      refine z_aload_n 34 dX10_flatByRank_33 rfl rfl ?_
      refine z_iload_n 35 dX10_flatByRank_34 rfl rfl ?_
      obtain ⟨a6, h6, hq⟩ := z_b hq
      refine z_callV1 (as := [zi v1]) (S := [zr 142]) 38 dX10_flatByRank_35 rfl (Q_qM_place  h6) kX10_place ⟨_, _, rfl⟩ ar_142 l_RX10_110 rfl rfl rfl rfl rfl rfl rfl ?_
      refine z_iload_n 39 dX10_flatByRank_38 rfl rfl ?_
      obtain ⟨a7, h7, hq⟩ := z_b hq
      refine z_callV1 (as := [zi a6, zi v2]) (S := []) 42 dX10_flatByRank_39 rfl (Q_qM_flatAt  h7) kX10_flatAt ⟨_, _, rfl⟩ ar_142 l_RX10_157 rfl rfl rfl rfl rfl rfl rfl ?_
      cases hq
      exact z_ireturn rfl dX10_flatByRank_42
    · replace hq := z_ip hq hc
      exact Z.sub (zle_s (zle_n (zle_n zle_nil))) (J_qM_flatByRank_j26 hq)
set_option maxRecDepth 100000 in
set_option maxHeartbeats 4000000 in
theorem L_qM_tenantByPurse_l22 {g : yG} {a : Nat → Nat} {μ ν : zM} {o : zO} {kc ks : Nat} {v1 : Int} {v2 : Int} {R : Int}   (he : ∀ (tz : Int), R = tz → Z g a mX10_tenantByPurse 1 kc ks 85 [some (zr 142), some (zi v1), some (zi v2), some (zi tz), none] [] μ o ν) : ∀ (n : Nat) (v3 : Int) (v4 : Int), qM_tenantByPurse_l22 μ v1 v2 n v3 v4 = some R → Z g a mX10_tenantByPurse 1 kc ks 22 [some (zr 142), some (zi v1), some (zi v2), some (zi v3), some (zi v4)] [] μ o ν := by
  intro n
  induction n with
  | zero => intro v3 v4 hq; cases hq
  | succ n ih =>
    intro v3 v4 hq
    rw [qM_tenantByPurse_l22] at hq
    refine z_iload 24 dX10_tenantByPurse_22 rfl rfl ?_
    refine z_aload_n 25 dX10_tenantByPurse_24 rfl rfl ?_
    refine z_getR (e := 1) (r := 143) 28 dX10_tenantByPurse_25 rfl f_RX10_7 ar_142 rfl ar_143.1 ?_
    refine z_iconst 29 dX10_tenantByPurse_28 rfl (by decide) ?_
    refine z_iaload (x := (μ 143 1)) 30 dX10_tenantByPurse_29 rfl ar_143 ⟨by decide, by decide⟩ rfl ?_
    refine z_icmp_ge 85 33 dX10_tenantByPurse_30 rfl rfl (fun hc => ?_) (fun hc => ?_)
    · replace hq := z_in hq (Int.not_lt.mpr hc)
      exact Z.sub (zle_s (zle_s (zle_s (zle_s (zle_n zle_nil))))) (he _ (Option.some.inj hq).symm)
    · replace hq := z_ip hq hc
      refine z_iload_n 34 dX10_tenantByPurse_33 rfl rfl ?_
      refine z_aload_n 35 dX10_tenantByPurse_34 rfl rfl ?_
      refine z_iload 37 dX10_tenantByPurse_35 rfl rfl ?_
      refine z_iconst 38 dX10_tenantByPurse_37 rfl (by decide) ?_
      obtain ⟨a2, h2, hq⟩ := z_b hq
      refine z_callV1 (as := [zi v4, zi 4]) (S := [zi v3]) 41 dX10_tenantByPurse_38 rfl (Q_qM_of  h2) kX10_of ⟨_, _, rfl⟩ ar_142 l_RX10_76 rfl rfl rfl rfl rfl rfl rfl ?_
      refine z_aload_n 42 dX10_tenantByPurse_41 rfl rfl ?_
      refine z_iload_n 43 dX10_tenantByPurse_42 rfl rfl ?_
      refine z_iconst 44 dX10_tenantByPurse_43 rfl (by decide) ?_
      obtain ⟨a3, h3, hq⟩ := z_b hq
      refine z_callV1 (as := [zi v2, zi 4]) (S := [zi a2, zi v3]) 47 dX10_tenantByPurse_44 rfl (Q_qM_of  h3) kX10_of ⟨_, _, rfl⟩ ar_142 l_RX10_76 rfl rfl rfl rfl rfl rfl rfl ?_
      refine z_icmp_gt 72 50 dX10_tenantByPurse_47 rfl rfl (fun hc => ?_) (fun hc => ?_)
      · replace hq := z_ip hq hc
        refine z_iconst 73 dX10_tenantByPurse_72 rfl (by decide) ?_
        refine z_goto 77 dX10_tenantByPurse_73 rfl ?_
        refine z_iadd (r := (wr (v3 + 1))) 78 dX10_tenantByPurse_77 rfl rfl ?_
        refine z_istore_n (L' := [some (zr 142), some (zi v1), some (zi v2), some (zi (wr (v3 + 1))), some (zi v4)]) 79 dX10_tenantByPurse_78 rfl rfl rfl rfl ?_
        refine z_iinc (r := (wr (v4 + 1))) (L' := [some (zr 142), some (zi v1), some (zi v2), some (zi (wr (v3 + 1))), some (zi (wr (v4 + 1)))]) 82 dX10_tenantByPurse_79 rfl rfl rfl rfl rfl rfl ?_
        refine z_goto 22 dX10_tenantByPurse_82 rfl ?_
        exact Z.sub (zle_s (zle_s (zle_s (zle_s (zle_s zle_nil))))) (ih _ _ hq)
      · replace hq := z_in hq (Int.not_lt.mpr hc)
        refine z_aload_n 51 dX10_tenantByPurse_50 rfl rfl ?_
        refine z_iload 53 dX10_tenantByPurse_51 rfl rfl ?_
        refine z_iconst 54 dX10_tenantByPurse_53 rfl (by decide) ?_
        obtain ⟨a4, h4, hq⟩ := z_b hq
        refine z_callV1 (as := [zi v4, zi 4]) (S := [zi v3]) 57 dX10_tenantByPurse_54 rfl (Q_qM_of  h4) kX10_of ⟨_, _, rfl⟩ ar_142 l_RX10_76 rfl rfl rfl rfl rfl rfl rfl ?_
        refine z_aload_n 58 dX10_tenantByPurse_57 rfl rfl ?_
        refine z_iload_n 59 dX10_tenantByPurse_58 rfl rfl ?_
        refine z_iconst 60 dX10_tenantByPurse_59 rfl (by decide) ?_
        obtain ⟨a5, h5, hq⟩ := z_b hq
        refine z_callV1 (as := [zi v2, zi 4]) (S := [zi a4, zi v3]) 63 dX10_tenantByPurse_60 rfl (Q_qM_of  h5) kX10_of ⟨_, _, rfl⟩ ar_142 l_RX10_76 rfl rfl rfl rfl rfl rfl rfl ?_
        refine z_icmp_ne 76 66 dX10_tenantByPurse_63 rfl rfl (fun hc => ?_) (fun hc => ?_)
        · replace hq := z_in hq hc
          refine z_iconst 77 dX10_tenantByPurse_76 rfl (by decide) ?_
          refine z_iadd (r := (wr (v3 + 0))) 78 dX10_tenantByPurse_77 rfl rfl ?_
          refine z_istore_n (L' := [some (zr 142), some (zi v1), some (zi v2), some (zi (wr (v3 + 0))), some (zi v4)]) 79 dX10_tenantByPurse_78 rfl rfl rfl rfl ?_
          refine z_iinc (r := (wr (v4 + 1))) (L' := [some (zr 142), some (zi v1), some (zi v2), some (zi (wr (v3 + 0))), some (zi (wr (v4 + 1)))]) 82 dX10_tenantByPurse_79 rfl rfl rfl rfl rfl rfl ?_
          refine z_goto 22 dX10_tenantByPurse_82 rfl ?_
          exact Z.sub (zle_s (zle_s (zle_s (zle_s (zle_s zle_nil))))) (ih _ _ hq)
        · replace hq := z_ip hq hc
          refine z_iload 68 dX10_tenantByPurse_66 rfl rfl ?_
          refine z_iload_n 69 dX10_tenantByPurse_68 rfl rfl ?_
          refine z_icmp_ge 76 72 dX10_tenantByPurse_69 rfl rfl (fun hc => ?_) (fun hc => ?_)
          · replace hq := z_in hq (Int.not_lt.mpr hc)
            refine z_iconst 77 dX10_tenantByPurse_76 rfl (by decide) ?_
            refine z_iadd (r := (wr (v3 + 0))) 78 dX10_tenantByPurse_77 rfl rfl ?_
            refine z_istore_n (L' := [some (zr 142), some (zi v1), some (zi v2), some (zi (wr (v3 + 0))), some (zi v4)]) 79 dX10_tenantByPurse_78 rfl rfl rfl rfl ?_
            refine z_iinc (r := (wr (v4 + 1))) (L' := [some (zr 142), some (zi v1), some (zi v2), some (zi (wr (v3 + 0))), some (zi (wr (v4 + 1)))]) 82 dX10_tenantByPurse_79 rfl rfl rfl rfl rfl rfl ?_
            refine z_goto 22 dX10_tenantByPurse_82 rfl ?_
            exact Z.sub (zle_s (zle_s (zle_s (zle_s (zle_s zle_nil))))) (ih _ _ hq)
          · replace hq := z_ip hq hc
            refine z_iconst 73 dX10_tenantByPurse_72 rfl (by decide) ?_
            refine z_goto 77 dX10_tenantByPurse_73 rfl ?_
            refine z_iadd (r := (wr (v3 + 1))) 78 dX10_tenantByPurse_77 rfl rfl ?_
            refine z_istore_n (L' := [some (zr 142), some (zi v1), some (zi v2), some (zi (wr (v3 + 1))), some (zi v4)]) 79 dX10_tenantByPurse_78 rfl rfl rfl rfl ?_
            refine z_iinc (r := (wr (v4 + 1))) (L' := [some (zr 142), some (zi v1), some (zi v2), some (zi (wr (v3 + 1))), some (zi (wr (v4 + 1)))]) 82 dX10_tenantByPurse_79 rfl rfl rfl rfl rfl rfl ?_
            refine z_goto 22 dX10_tenantByPurse_82 rfl ?_
            exact Z.sub (zle_s (zle_s (zle_s (zle_s (zle_s zle_nil))))) (ih _ _ hq)
set_option maxRecDepth 100000 in
set_option maxHeartbeats 4000000 in
theorem L_qM_tenantByPurse_l7 {g : yG} {a : Nat → Nat} {μ ν : zM} {o : zO} {kc ks : Nat} {v1 : Int} {R : Int ⊕ Unit}   (hr : ∀ (x : Int), R = .inl x → o = .inl (some (zi x)) ∧ ν = μ) (he : ∀ (tz : Unit), R = .inr tz → Z g a mX10_tenantByPurse 1 kc ks 103 [some (zr 142), some (zi v1), none, none, none] [] μ o ν) : ∀ (n : Nat) (v2 : Int), qM_tenantByPurse_l7 μ v1 n v2 = some R → Z g a mX10_tenantByPurse 1 kc ks 7 [some (zr 142), some (zi v1), some (zi v2), none, none] [] μ o ν := by
  intro n
  induction n with
  | zero => intro v2 hq; cases hq
  | succ n ih =>
    intro v2 hq
    rw [qM_tenantByPurse_l7] at hq
    refine z_iload_n 8 dX10_tenantByPurse_7 rfl rfl ?_
    refine z_aload_n 9 dX10_tenantByPurse_8 rfl rfl ?_
    refine z_getR (e := 1) (r := 143) 12 dX10_tenantByPurse_9 rfl f_RX10_7 ar_142 rfl ar_143.1 ?_
    refine z_iconst 13 dX10_tenantByPurse_12 rfl (by decide) ?_
    refine z_iaload (x := (μ 143 1)) 14 dX10_tenantByPurse_13 rfl ar_143 ⟨by decide, by decide⟩ rfl ?_
    refine z_icmp_ge 103 17 dX10_tenantByPurse_14 rfl rfl (fun hc => ?_) (fun hc => ?_)
    · replace hq := z_in hq (Int.not_lt.mpr hc)
      exact Z.sub (zle_s (zle_s (zle_n (zle_n (zle_n zle_nil))))) (he _ (Option.some.inj hq).symm)
    · replace hq := z_ip hq hc
      refine z_iconst 18 dX10_tenantByPurse_17 rfl (by decide) ?_
      refine z_istore_n (L' := [some (zr 142), some (zi v1), some (zi v2), some (zi 0), none]) 19 dX10_tenantByPurse_18 rfl rfl rfl rfl ?_
      refine z_iconst 20 dX10_tenantByPurse_19 rfl (by decide) ?_
      refine z_istore (L' := [some (zr 142), some (zi v1), some (zi v2), some (zi 0), some (zi 0)]) 22 dX10_tenantByPurse_20 rfl rfl rfl rfl ?_
      obtain ⟨t6, h6, hq⟩ := z_b hq
      refine Z.sub (zle_s (zle_s (zle_s (zle_s (zle_s zle_nil))))) (L_qM_tenantByPurse_l22  (R := t6) (fun _ e => ?_) _ _ _ h6)
      cases e
      refine z_iload_n 86 dX10_tenantByPurse_85 rfl rfl ?_
      refine z_iload_n 87 dX10_tenantByPurse_86 rfl rfl ?_
      refine z_icmp_ne 97 90 dX10_tenantByPurse_87 rfl rfl (fun hc => ?_) (fun hc => ?_)
      · replace hq := z_in hq hc
        refine z_iinc (r := (wr (v2 + 1))) (L' := [some (zr 142), some (zi v1), some (zi (wr (v2 + 1))), some (zi t6), none]) 100 dX10_tenantByPurse_97 rfl rfl rfl rfl rfl rfl ?_
        refine z_goto 7 dX10_tenantByPurse_100 rfl ?_
        exact Z.sub (zle_s (zle_s (zle_s (zle_n (zle_n zle_nil))))) (ih _ hq)
      · replace hq := z_ip hq hc
        refine z_aload_n 91 dX10_tenantByPurse_90 rfl rfl ?_
        refine z_iload_n 92 dX10_tenantByPurse_91 rfl rfl ?_
        refine z_iconst 93 dX10_tenantByPurse_92 rfl (by decide) ?_
        obtain ⟨a7, h7, hq⟩ := z_b hq
        refine z_callV1 (as := [zi v2, zi 0]) (S := []) 96 dX10_tenantByPurse_93 rfl (Q_qM_of  h7) kX10_of ⟨_, _, rfl⟩ ar_142 l_RX10_76 rfl rfl rfl rfl rfl rfl rfl ?_
        obtain ⟨ho, hv⟩ := hr _ (Option.some.inj hq).symm
        exact z_conv ho hv (z_ireturn rfl dX10_tenantByPurse_96)
set_option maxRecDepth 100000 in
set_option maxHeartbeats 4000000 in
theorem Q_qM_tenantByPurse {g : yG} {a : Nat → Nat} {μ : zM} {v1 : Int} {r : Int} {ν : zM}  (hq : qM_tenantByPurse μ v1 = some (r, ν)) : zC g a mX10_tenantByPurse 1 0 0 [zr 142, zi v1] μ (.inl (some (zi r))) ν := by
  unfold qM_tenantByPurse at hq
  refine z_of (L := [some (zr 142), some (zi v1), none, none, none]) pl_RX10 rfl (zc_of rfl) rfl rfl ?_
  refine z_aload_n 1 dX10_tenantByPurse_0 rfl rfl ?_
  refine z_iconst 2 dX10_tenantByPurse_1 rfl (by decide) ?_
  obtain ⟨m1, em1, hq⟩ := z_m hq
  refine z_putI 5 dX10_tenantByPurse_2 rfl p_RX10_57 ar_142 em1 ?_
  refine z_iconst 6 dX10_tenantByPurse_5 rfl (by decide) ?_
  refine z_istore_n (L' := [some (zr 142), some (zi v1), some (zi 0), none, none]) 7 dX10_tenantByPurse_6 rfl rfl rfl rfl ?_
  rcases bndS_some hq with ⟨x8, h8, hq⟩ | ⟨t8, h8, hq⟩
  · exact Z.sub (zle_s (zle_s (zle_s (zle_n (zle_n zle_nil))))) (L_qM_tenantByPurse_l7  (R := .inl x8) (fun _ e => by cases e; cases hq; exact ⟨rfl, rfl⟩) (fun _ e => by cases e) _ _ h8)
  · refine Z.sub (zle_s (zle_s (zle_s (zle_n (zle_n zle_nil))))) (L_qM_tenantByPurse_l7  (R := .inr t8) (fun _ e => by cases e) (fun _ e => ?_) _ _ h8)
    cases e
    refine z_aload_n 104 dX10_tenantByPurse_103 rfl rfl ?_
    refine z_iconst 105 dX10_tenantByPurse_104 rfl (by decide) ?_
    obtain ⟨a9, m9, h9, hq⟩ := bnd2_some hq
    refine z_callV1 (as := [zi 1]) (S := []) 108 dX10_tenantByPurse_105 rfl (Q_qM_fails  h9) kX10_fails ⟨_, _, rfl⟩ ar_142 l_RX10_89 rfl rfl rfl rfl rfl rfl rfl ?_
    cases hq
    exact z_ireturn rfl dX10_tenantByPurse_108
