/-! ===== what the bytecode does, as functions: laid by wip/whole/tools/gen.py ===== -/
def qT_isWithin (μ : zM) (v0 : Int) (v1 : Int) (v2 : Int) : Option Int :=
  if v0 < v1 then
    some 0
  else
    if v2 < v0 then
      some 0
    else
      some 1
def qH_refusalOfFlat (μ : zM) (h : Nat) (v1 : Int) (v2 : Int) : Option Int :=
  Option.bind (qT_isWithin μ v1 0 5) fun a1 =>
  if a1 = 0 then
    some 3
  else
    Option.bind (qT_isWithin μ v2 1 99) fun a2 =>
    if a2 = 0 then
      some 3
    else
      if (μ h 0) < 6 then
        some 0
      else
        some 4
def qT_refuse (μ : zM) (v0 : Int) : Option ((Int ⊕ Nat) × zM) :=
  if 0 ≤ v0 ∧ v0 < 6 then
  if 0 ≤ v0 ∧ v0 < 6 then
  if (swRefusal v0) = 1 then
    some (.inr 0, μ)
  else
  if (swRefusal v0) = 2 then
    some (.inr 1, μ)
  else
  if (swRefusal v0) = 3 then
    some (.inr 2, μ)
  else
  if (swRefusal v0) = 4 then
    some (.inr 3, μ)
  else
  if (swRefusal v0) = 5 then
    some (.inr 4, μ)
  else
    some (.inl 0, μ)
  else none
  else none
def qH_copyRow (μ : zM) (v0 : Nat) (v1 : Nat) : Option zM :=
  Option.bind (some (cpy μ v0 v1 6)) fun m1 =>
  some m1
def qH_copyFrom (μ : zM) (h : Nat) (v1 : Nat) : Option zM :=
  Option.bind (some (st μ h 0 (μ v1 0))) fun m1 =>
  Option.bind (qH_copyRow m1 (v1 + 1) (h + 1)) fun m2 =>
  Option.bind (qH_copyRow m2 (v1 + 2) (h + 2)) fun m3 =>
  Option.bind (some (st m3 h 3 (m3 v1 3))) fun m4 =>
  Option.bind (some (st m4 h 4 (m4 v1 4))) fun m5 =>
  Option.bind (qH_copyRow m5 (v1 + 3) (h + 3)) fun m6 =>
  Option.bind (qH_copyRow m6 (v1 + 4) (h + 4)) fun m7 =>
  Option.bind (qH_copyRow m7 (v1 + 5) (h + 5)) fun m8 =>
  Option.bind (qH_copyRow m8 (v1 + 6) (h + 6)) fun m9 =>
  Option.bind (qH_copyRow m9 (v1 + 7) (h + 7)) fun m10 =>
  Option.bind (qH_copyRow m10 (v1 + 8) (h + 8)) fun m11 =>
  Option.bind (qH_copyRow m11 (v1 + 9) (h + 9)) fun m12 =>
  Option.bind (some (st m12 h 12 (m12 v1 12))) fun m13 =>
  Option.bind (some (st m13 h 13 (m13 v1 13))) fun m14 =>
  Option.bind (some (st m14 h 14 (m14 v1 14))) fun m15 =>
  Option.bind (some (st m15 h 15 (m15 v1 15))) fun m16 =>
  Option.bind (some (st m16 h 16 (m16 v1 16))) fun m17 =>
  some m17
def qY_push (μ : zM) (v1 : Nat) : Option zM :=
  if 0 ≤ (Int.tmod (wr ((μ 31 1) + (μ 31 2))) 8) ∧ (Int.tmod (wr ((μ 31 1) + (μ 31 2))) 8) < 8 then
  Option.bind (qH_copyFrom μ (33 + 10 * Int.toNat (Int.tmod (wr ((μ 31 1) + (μ 31 2))) 8)) v1) fun m1 =>
  if (m1 31 2) < 8 then
    Option.bind (some (st m1 31 2 (wr ((m1 31 2) + 1)))) fun m3 =>
    some m3
  else
    Option.bind (some (st m1 31 1 (Int.tmod (wr ((m1 31 1) + 1)) 8))) fun m2 =>
    some m2
  else none
def qH_buildFlat (μ : zM) (h : Nat) (v1 : Int) (v2 : Int) : Option (Int × zM) :=
  if 0 ≤ (μ h 0) ∧ (μ h 0) < 6 then
  Option.bind (some (st μ (h + 1) (μ h 0) v1)) fun m1 =>
  if 0 ≤ (μ h 0) ∧ (μ h 0) < 6 then
  Option.bind (some (st m1 (h + 2) (μ h 0) v2)) fun m2 =>
  Option.bind (some (st m2 h 0 (wr ((m2 h 0) + 1)))) fun m3 =>
  some ((μ h 0), m3)
  else none
  else none
def qT_addFlat (μ : zM) (v1 : Int) (v2 : Int) : Option ((Int ⊕ Nat) × zM) :=
  Option.bind (qH_refusalOfFlat μ 1 v1 v2) fun a1 =>
  tcall (qT_refuse μ a1) fun a2 m2 =>
  Option.bind (qY_push m2 1) fun m3 =>
  bnd2 (qH_buildFlat m3 1 v1 v2) fun a4 m4 =>
  some (.inl a4, m4)
def qH_refusalOfTenant (μ : zM) (h : Nat) (v1 : Int) (v2 : Int) (v3 : Int) (v4 : Int) : Option Int :=
  Option.bind (qT_isWithin μ v1 1 50) fun a1 =>
  if a1 = 0 then
    some 3
  else
    Option.bind (qT_isWithin μ v2 0 5) fun a2 =>
    if a2 = 0 then
      some 3
    else
      Option.bind (qT_isWithin μ v3 1 40) fun a3 =>
      if a3 = 0 then
        some 3
      else
        Option.bind (qT_isWithin μ v4 0 99) fun a4 =>
        if a4 = 0 then
          some 3
        else
          if (μ h 3) < 6 then
            some 0
          else
            some 4
def qH_welcome (μ : zM) (h : Nat) (v1 : Int) (v2 : Int) (v3 : Int) (v4 : Int) : Option (Int × zM) :=
  if 0 ≤ (μ h 3) ∧ (μ h 3) < 6 then
  Option.bind (some (st μ (h + 3) (μ h 3) (μ h 4))) fun m1 =>
  if 0 ≤ (μ h 3) ∧ (μ h 3) < 6 then
  Option.bind (some (st m1 (h + 4) (μ h 3) v1)) fun m2 =>
  if 0 ≤ (μ h 3) ∧ (μ h 3) < 6 then
  Option.bind (some (st m2 (h + 5) (μ h 3) v2)) fun m3 =>
  if 0 ≤ (μ h 3) ∧ (μ h 3) < 6 then
  Option.bind (some (st m3 (h + 6) (μ h 3) v3)) fun m4 =>
  if 0 ≤ (μ h 3) ∧ (μ h 3) < 6 then
  Option.bind (some (st m4 (h + 7) (μ h 3) v4)) fun m5 =>
  if 0 ≤ (μ h 3) ∧ (μ h 3) < 6 then
  Option.bind (some (st m5 (h + 8) (μ h 3) 0)) fun m6 =>
  if 0 ≤ (μ h 3) ∧ (μ h 3) < 6 then
  Option.bind (some (st m6 (h + 9) (μ h 3) (-1))) fun m7 =>
  Option.bind (some (st m7 h 3 (wr ((m7 h 3) + 1)))) fun m8 =>
  Option.bind (some (st m8 h 4 (wr ((m8 h 4) + 1)))) fun m9 =>
  if y_inL ((m9 h 15) + v4) then
  Option.bind (some (st m9 h 15 ((m9 h 15) + v4))) fun m10 =>
  if 0 ≤ (μ h 3) ∧ (μ h 3) < 6 then
  some ((m10 (h + 3) (μ h 3)), m10)
  else none
  else none
  else none
  else none
  else none
  else none
  else none
  else none
  else none
def qT_addTenant (μ : zM) (v1 : Int) (v2 : Int) (v3 : Int) (v4 : Int) : Option ((Int ⊕ Nat) × zM) :=
  Option.bind (qH_refusalOfTenant μ 1 v1 v2 v3 v4) fun a1 =>
  tcall (qT_refuse μ a1) fun a2 m2 =>
  Option.bind (qY_push m2 1) fun m3 =>
  bnd2 (qH_welcome m3 1 v1 v2 v3 v4) fun a4 m4 =>
  some (.inl a4, m4)
def qH_slotOf_l2 (μ : zM) (h : Nat) (v1 : Int) : Nat → Int → Option (Int ⊕ Unit)
  | 0, _ => none
  | n+1, v2 =>
    if v2 < (μ h 3) then
      if 0 ≤ v2 ∧ v2 < 6 then
      if (μ (h + 3) v2) = v1 then
        some (.inl v2)
      else
        qH_slotOf_l2 μ h v1 n (wr (v2 + 1))
      else none
    else
      some (.inr ())
def qH_slotOf (μ : zM) (h : Nat) (v1 : Int) : Option Int :=
  bndS (qH_slotOf_l2 μ h v1 200 0) (fun (r1 : Int) => some r1) (fun t1 =>
  some (-1)
  )
def qH_refusalOfGoing (μ : zM) (h : Nat) (v1 : Int) : Option Int :=
  Option.bind (qH_slotOf μ h v1) fun a1 =>
  if a1 = (-1) then
    some 1
  else
    if 0 ≤ a1 ∧ a1 < 6 then
    if (μ (h + 9) a1) = (-1) then
      some 0
    else
      some 4
    else none
def qH_closeGap_l4 (v0 : Nat) : Nat → zM → Int → Option zM
  | 0, _, _ => none
  | n+1, μ, v2 =>
    if v2 < 6 then
      if 0 ≤ v2 ∧ v2 < 6 then
      if 0 ≤ (wr (v2 - 1)) ∧ (wr (v2 - 1)) < 6 then
      Option.bind (some (st μ v0 (wr (v2 - 1)) (μ v0 v2))) fun m1 =>
      qH_closeGap_l4 v0 n m1 (wr (v2 + 1))
      else none
      else none
    else
      some μ
def qH_closeGap (μ : zM) (v0 : Nat) (v1 : Int) : Option zM :=
  Option.bind (qH_closeGap_l4 v0 200 μ (wr (v1 + 1))) fun m2 =>
  some m2
def qH_sendAway (μ : zM) (h : Nat) (v1 : Int) : Option (Int × zM) :=
  if 0 ≤ v1 ∧ v1 < 6 then
  if y_inL ((μ h 16) + (μ (h + 7) v1)) then
  Option.bind (some (st μ h 16 ((μ h 16) + (μ (h + 7) v1)))) fun m1 =>
  Option.bind (some (st m1 h 3 (wr ((m1 h 3) - 1)))) fun m2 =>
  Option.bind (qH_closeGap m2 (h + 3) v1) fun m3 =>
  Option.bind (qH_closeGap m3 (h + 4) v1) fun m4 =>
  Option.bind (qH_closeGap m4 (h + 5) v1) fun m5 =>
  Option.bind (qH_closeGap m5 (h + 6) v1) fun m6 =>
  Option.bind (qH_closeGap m6 (h + 7) v1) fun m7 =>
  Option.bind (qH_closeGap m7 (h + 8) v1) fun m8 =>
  Option.bind (qH_closeGap m8 (h + 9) v1) fun m9 =>
  some ((m9 h 3), m9)
  else none
  else none
def qT_removeTenant (μ : zM) (v1 : Int) : Option ((Int ⊕ Nat) × zM) :=
  Option.bind (qH_refusalOfGoing μ 1 v1) fun a1 =>
  tcall (qT_refuse μ a1) fun a2 m2 =>
  Option.bind (qY_push m2 1) fun m3 =>
  Option.bind (qH_slotOf m3 1 v1) fun a4 =>
  bnd2 (qH_sendAway m3 1 a4) fun a5 m5 =>
  some (.inl a5, m5)
def qH_hasFlat (μ : zM) (h : Nat) (v1 : Int) : Option Int :=
  if v1 < 0 then
    some 0
  else
    if v1 < (μ h 0) then
      some 1
    else
      some 0
def qH_slotIn_l2 (μ : zM) (h : Nat) (v1 : Int) : Nat → Int → Option (Int ⊕ Unit)
  | 0, _ => none
  | n+1, v2 =>
    if v2 < (μ h 3) then
      if 0 ≤ v2 ∧ v2 < 6 then
      if (μ (h + 9) v2) = v1 then
        some (.inl v2)
      else
        qH_slotIn_l2 μ h v1 n (wr (v2 + 1))
      else none
    else
      some (.inr ())
def qH_slotIn (μ : zM) (h : Nat) (v1 : Int) : Option Int :=
  bndS (qH_slotIn_l2 μ h v1 200 0) (fun (r1 : Int) => some r1) (fun t1 =>
  some (-1)
  )
def qH_canAfford (μ : zM) (h : Nat) (v1 : Int) (v2 : Int) : Option Int :=
  if 0 ≤ v2 ∧ v2 < 6 then
  if 0 ≤ v1 ∧ v1 < 6 then
  if (μ (h + 7) v1) < (μ (h + 2) v2) then
    some 0
  else
    some 1
  else none
  else none
def qH_refusalOfMovingIn (μ : zM) (h : Nat) (v1 : Int) (v2 : Int) : Option Int :=
  Option.bind (qH_slotOf μ h v1) fun a1 =>
  if a1 = (-1) then
    some 1
  else
    Option.bind (qH_hasFlat μ h v2) fun a2 =>
    if a2 = 0 then
      some 2
    else
      if 0 ≤ a1 ∧ a1 < 6 then
      if (μ (h + 9) a1) = (-1) then
        Option.bind (qH_slotIn μ h v2) fun a3 =>
        if a3 = (-1) then
          Option.bind (qH_canAfford μ h a1 v2) fun a4 =>
          if a4 = 0 then
            some 5
          else
            some 0
        else
          some 4
      else
        some 4
      else none
def qH_burdenFor (μ : zM) (h : Nat) (v1 : Int) (v2 : Int) : Option Int :=
  if 0 ≤ v2 ∧ v2 < 6 then
  if 0 ≤ v1 ∧ v1 < 6 then
  if 0 ≤ v2 ∧ v2 < 6 then
  if (wr ((μ (h + 1) v2) - (μ (h + 5) v1))) < 0 then
    some (wr ((μ (h + 2) v2) + (wr (3 * (wr (-(wr ((μ (h + 1) v2) - (μ (h + 5) v1)))))))))
  else
    some (wr ((μ (h + 2) v2) + (wr (3 * (wr ((μ (h + 1) v2) - (μ (h + 5) v1)))))))
  else none
  else none
  else none
def qH_lodge (μ : zM) (h : Nat) (v1 : Int) (v2 : Int) : Option (Int × zM) :=
  if 0 ≤ v1 ∧ v1 < 6 then
  Option.bind (some (st μ (h + 9) v1 v2)) fun m1 =>
  Option.bind (qH_burdenFor m1 h v1 v2) fun a2 =>
  some (a2, m1)
  else none
def qT_moveIn (μ : zM) (v1 : Int) (v2 : Int) : Option ((Int ⊕ Nat) × zM) :=
  Option.bind (qH_refusalOfMovingIn μ 1 v1 v2) fun a1 =>
  tcall (qT_refuse μ a1) fun a2 m2 =>
  Option.bind (qY_push m2 1) fun m3 =>
  Option.bind (qH_slotOf m3 1 v1) fun a4 =>
  bnd2 (qH_lodge m3 1 a4 v2) fun a5 m5 =>
  some (.inl a5, m5)
def qH_refusalOfMovingOut (μ : zM) (h : Nat) (v1 : Int) : Option Int :=
  Option.bind (qH_slotOf μ h v1) fun a1 =>
  if a1 = (-1) then
    some 1
  else
    if 0 ≤ a1 ∧ a1 < 6 then
    if (μ (h + 9) a1) = (-1) then
      some 4
    else
      some 0
    else none
def qH_prefersFlat (μ : zM) (h : Nat) (v1 : Int) (v2 : Int) (v3 : Int) : Option Int :=
  Option.bind (qH_burdenFor μ h v1 v2) fun a1 =>
  Option.bind (qH_burdenFor μ h v1 v3) fun a2 =>
  if a1 < a2 then
    some 1
  else
    if a1 = a2 then
      if v2 < v3 then
        some 1
      else
        some 0
    else
      some 0
def qH_isPreferredTo (μ : zM) (h : Nat) (v1 : Int) (v2 : Int) : Option Int :=
  if 0 ≤ v1 ∧ v1 < 6 then
  if 0 ≤ v2 ∧ v2 < 6 then
  if (μ (h + 4) v1) < (μ (h + 4) v2) then
    some 1
  else
    if 0 ≤ v1 ∧ v1 < 6 then
    if 0 ≤ v2 ∧ v2 < 6 then
    if (μ (h + 4) v1) = (μ (h + 4) v2) then
      if v1 < v2 then
        some 1
      else
        some 0
    else
      some 0
    else none
    else none
  else none
  else none
def qH_candidateFor_j63 (rec : Int → Int → Option (Int)) (μ : zM) (h : Nat) (v1 : Int) (v2 : Int) (v3 : Int) (v4 : Int) (s0 : Int) : Option (Int) :=
  if s0 = 0 then
    rec v3 (wr (v4 + 1))
  else
    if v3 = (-1) then
      rec v4 (wr (v4 + 1))
    else
      Option.bind (qH_isPreferredTo μ h v4 v3) fun a1 =>
      if a1 = 0 then
        rec v3 (wr (v4 + 1))
      else
        rec v4 (wr (v4 + 1))
def qH_candidateFor_j62 (rec : Int → Int → Option (Int)) (μ : zM) (h : Nat) (v1 : Int) (v2 : Int) (v3 : Int) (v4 : Int) : Option (Int) :=
  qH_candidateFor_j63 rec μ h v1 v2 v3 v4 0
def qH_candidateFor_j58 (rec : Int → Int → Option (Int)) (μ : zM) (h : Nat) (v1 : Int) (v2 : Int) (v3 : Int) (v4 : Int) : Option (Int) :=
  qH_candidateFor_j63 rec μ h v1 v2 v3 v4 1
def qH_candidateFor_l5 (μ : zM) (h : Nat) (v1 : Int) (v2 : Int) : Nat → Int → Int → Option (Int)
  | 0, _, _ => none
  | n+1, v3, v4 =>
    if v4 < (μ h 3) then
      if v4 = v2 then
        qH_candidateFor_j62 (qH_candidateFor_l5 μ h v1 v2 n) μ h v1 v2 v3 v4
      else
        Option.bind (qH_canAfford μ h v4 v1) fun a2 =>
        if a2 = 0 then
          qH_candidateFor_j62 (qH_candidateFor_l5 μ h v1 v2 n) μ h v1 v2 v3 v4
        else
          if 0 ≤ v4 ∧ v4 < 6 then
          if (μ (h + 9) v4) = (-1) then
            qH_candidateFor_j58 (qH_candidateFor_l5 μ h v1 v2 n) μ h v1 v2 v3 v4
          else
            if 0 ≤ v4 ∧ v4 < 6 then
            Option.bind (qH_prefersFlat μ h v4 v1 (μ (h + 9) v4)) fun a3 =>
            if a3 = 0 then
              qH_candidateFor_j62 (qH_candidateFor_l5 μ h v1 v2 n) μ h v1 v2 v3 v4
            else
              qH_candidateFor_j58 (qH_candidateFor_l5 μ h v1 v2 n) μ h v1 v2 v3 v4
            else none
          else none
    else
      some (v3)
def qH_candidateFor (μ : zM) (h : Nat) (v1 : Int) (v2 : Int) : Option Int :=
  Option.bind (qH_candidateFor_l5 μ h v1 v2 200 (-1) 0) fun t4 =>
  some t4
def qH_leaveHome_l23 (h : Nat) (v1 : Int) : Nat → zM → Int → Int → Option ((Int ⊕ Int) × zM)
  | 0, _, _, _ => none
  | n+1, μ, v2, v3 =>
    if v2 = (-1) then
      some (.inr v3, μ)
    else
      if v3 < 36 then
        Option.bind (qH_candidateFor μ h v2 v1) fun a3 =>
        if a3 = (-1) then
          some (.inl v3, μ)
        else
          if 0 ≤ a3 ∧ a3 < 6 then
          if 0 ≤ a3 ∧ a3 < 6 then
          Option.bind (some (st μ (h + 9) a3 v2)) fun m4 =>
          qH_leaveHome_l23 h v1 n m4 (μ (h + 9) a3) (wr (v3 + 1))
          else none
          else none
      else
        some (.inr v3, μ)
def qH_leaveHome (μ : zM) (h : Nat) (v1 : Int) : Option (Int × zM) :=
  if 0 ≤ v1 ∧ v1 < 6 then
  if 0 ≤ v1 ∧ v1 < 6 then
  Option.bind (some (st μ (h + 9) v1 (-1))) fun m1 =>
  if 0 ≤ v1 ∧ v1 < 6 then
  Option.bind (some (st m1 (h + 8) v1 0)) fun m2 =>
  bndS2 (qH_leaveHome_l23 h v1 200 m2 (μ (h + 9) v1) 0) (fun (r5 : Int) m5 => some (r5, m5)) (fun t5 m5 =>
  some (t5, m5)
  )
  else none
  else none
  else none
def qT_moveOut (μ : zM) (v1 : Int) : Option ((Int ⊕ Nat) × zM) :=
  Option.bind (qH_refusalOfMovingOut μ 1 v1) fun a1 =>
  tcall (qT_refuse μ a1) fun a2 m2 =>
  Option.bind (qY_push m2 1) fun m3 =>
  Option.bind (qH_slotOf m3 1 v1) fun a4 =>
  bnd2 (qH_leaveHome m3 1 a4) fun a5 m5 =>
  some (.inl a5, m5)
def qH_refusalOfRent (μ : zM) (h : Nat) (v1 : Int) (v2 : Int) : Option Int :=
  Option.bind (qH_hasFlat μ h v1) fun a1 =>
  if a1 = 0 then
    some 2
  else
    Option.bind (qT_isWithin μ v2 1 99) fun a2 =>
    if a2 = 0 then
      some 3
    else
      some 0
def qH_changeRent (μ : zM) (h : Nat) (v1 : Int) (v2 : Int) : Option (Int × zM) :=
  if 0 ≤ v1 ∧ v1 < 6 then
  if 0 ≤ v1 ∧ v1 < 6 then
  Option.bind (some (st μ (h + 2) v1 v2)) fun m1 =>
  some ((μ (h + 2) v1), m1)
  else none
  else none
def qT_setRent (μ : zM) (v1 : Int) (v2 : Int) : Option ((Int ⊕ Nat) × zM) :=
  Option.bind (qH_refusalOfRent μ 1 v1 v2) fun a1 =>
  tcall (qT_refuse μ a1) fun a2 m2 =>
  Option.bind (qY_push m2 1) fun m3 =>
  bnd2 (qH_changeRent m3 1 v1 v2) fun a4 m4 =>
  some (.inl a4, m4)
def qH_refusalOfGift (μ : zM) (h : Nat) (v1 : Int) (v2 : Int) : Option Int :=
  Option.bind (qH_slotOf μ h v1) fun a1 =>
  if a1 = (-1) then
    some 1
  else
    Option.bind (qT_isWithin μ v2 1 99) fun a2 =>
    if a2 = 0 then
      some 3
    else
      some 0
def qH_receive (μ : zM) (h : Nat) (v1 : Int) (v2 : Int) : Option (Int × zM) :=
  if 0 ≤ v1 ∧ v1 < 6 then
  if 0 ≤ v1 ∧ v1 < 6 then
  Option.bind (some (st μ (h + 7) v1 (wr ((μ (h + 7) v1) + v2)))) fun m1 =>
  if y_inL ((m1 h 15) + v2) then
  Option.bind (some (st m1 h 15 ((m1 h 15) + v2))) fun m2 =>
  if 0 ≤ v1 ∧ v1 < 6 then
  some ((m2 (h + 7) v1), m2)
  else none
  else none
  else none
  else none
def qT_give (μ : zM) (v1 : Int) (v2 : Int) : Option ((Int ⊕ Nat) × zM) :=
  Option.bind (qH_refusalOfGift μ 1 v1 v2) fun a1 =>
  tcall (qT_refuse μ a1) fun a2 m2 =>
  Option.bind (qY_push m2 1) fun m3 =>
  Option.bind (qH_slotOf m3 1 v1) fun a4 =>
  bnd2 (qH_receive m3 1 a4 v2) fun a5 m5 =>
  some (.inl a5, m5)
def qT_fill_l2 (v0 : Nat) (n0 : Nat) (v1 : Int) : Nat → zM → Int → Option zM
  | 0, _, _ => none
  | n+1, μ, v2 =>
    if v2 < (n0 : Int) then
      if 0 ≤ v2 ∧ v2 < (n0 : Int) then
      Option.bind (some (st μ v0 v2 v1)) fun m1 =>
      qT_fill_l2 v0 n0 v1 n m1 (wr (v2 + 1))
      else none
    else
      some μ
def qT_fill (μ : zM) (v0 : Nat) (n0 : Nat) (v1 : Int) : Option zM :=
  Option.bind (qT_fill_l2 v0 n0 v1 200 μ 0) fun m2 =>
  some m2
def qH_rankFor_l5 (μ : zM) (h : Nat) (v1 : Int) (v2 : Int) : Nat → Int → Int → Option (Int)
  | 0, _, _ => none
  | n+1, v3, v4 =>
    if v4 < (μ h 0) then
      Option.bind (qH_prefersFlat μ h v1 v4 v2) fun a1 =>
      if a1 = 0 then
        qH_rankFor_l5 μ h v1 v2 n v3 (wr (v4 + 1))
      else
        qH_rankFor_l5 μ h v1 v2 n (wr (v3 + 1)) (wr (v4 + 1))
    else
      some (v3)
def qH_rankFor (μ : zM) (h : Nat) (v1 : Int) (v2 : Int) : Option Int :=
  Option.bind (qH_rankFor_l5 μ h v1 v2 200 0 0) fun t2 =>
  some t2
def qP_begin_l28 (v1 : Nat) (v2 : Int) : Nat → zM → Int → Option zM
  | 0, _, _ => none
  | n+1, μ, v3 =>
    if v3 < (μ v1 0) then
      Option.bind (qH_rankFor μ v1 v2 v3) fun a3 =>
      if 0 ≤ v2 ∧ v2 < 6 then
      if 0 ≤ v3 ∧ v3 < 6 then
      Option.bind (some (st μ (115 + Int.toNat v2) v3 a3)) fun m4 =>
      if 0 ≤ v2 ∧ v2 < 6 then
      if 0 ≤ a3 ∧ a3 < 6 then
      Option.bind (some (st m4 (122 + Int.toNat v2) a3 v3)) fun m5 =>
      qP_begin_l28 v1 v2 n m5 (wr (v3 + 1))
      else none
      else none
      else none
      else none
    else
      some μ
def qP_begin_l18 (v1 : Nat) : Nat → zM → Int → Option zM
  | 0, _, _ => none
  | n+1, μ, v2 =>
    if v2 < (μ v1 3) then
      Option.bind (qP_begin_l28 v1 v2 200 μ 0) fun m6 =>
      qP_begin_l18 v1 n m6 (wr (v2 + 1))
    else
      some μ
def qP_begin (μ : zM) (v1 : Nat) : Option zM :=
  Option.bind (qT_fill μ 128 6 (-1)) fun m1 =>
  Option.bind (qT_fill m1 129 6 (-1)) fun m2 =>
  Option.bind (qP_begin_l18 v1 200 m2 0) fun m7 =>
  some m7
def qP_refusedAfterAsking_j88 (μ : zM) (v2 : Int) (v3 : Int) (v4 : Int) : Option (Int × zM) :=
  if 0 ≤ v3 ∧ v3 < 6 then
  Option.bind (some (st μ 129 v3 v2)) fun m3 =>
  if 0 ≤ v2 ∧ v2 < 6 then
  Option.bind (some (st m3 128 v2 v3)) fun m4 =>
  some (v4, m4)
  else none
  else none
def qP_refusedAfterAsking_j74 (μ : zM) (v2 : Int) (v3 : Int) (v4 : Int) : Option (Int × zM) :=
  if v4 = (-1) then
    qP_refusedAfterAsking_j88 μ v2 v3 v4
  else
    if 0 ≤ v4 ∧ v4 < 6 then
    Option.bind (some (st μ 128 v4 (-1))) fun m5 =>
    qP_refusedAfterAsking_j88 m5 v2 v3 v4
    else none
def qP_refusedAfterAsking (μ : zM) (v1 : Nat) (v2 : Int) : Option (Int × zM) :=
  if 0 ≤ v2 ∧ v2 < 6 then
  if (μ 130 v2) < (μ v1 0) then
    if 0 ≤ v2 ∧ v2 < 6 then
    if 0 ≤ v2 ∧ v2 < 6 then
    if 0 ≤ (μ 130 v2) ∧ (μ 130 v2) < 6 then
    if 0 ≤ v2 ∧ v2 < 6 then
    if 0 ≤ v2 ∧ v2 < 6 then
    Option.bind (some (st μ 130 v2 (wr ((μ 130 v2) + 1)))) fun m1 =>
    if 0 ≤ (μ (122 + Int.toNat v2) (μ 130 v2)) ∧ (μ (122 + Int.toNat v2) (μ 130 v2)) < 6 then
    Option.bind (qH_canAfford m1 v1 v2 (μ (122 + Int.toNat v2) (μ 130 v2))) fun a2 =>
    if a2 = 0 then
      some (v2, m1)
    else
      if (m1 129 (μ (122 + Int.toNat v2) (μ 130 v2))) = (-1) then
        qP_refusedAfterAsking_j74 m1 v2 (μ (122 + Int.toNat v2) (μ 130 v2)) (m1 129 (μ (122 + Int.toNat v2) (μ 130 v2)))
      else
        Option.bind (qH_isPreferredTo m1 v1 (m1 129 (μ (122 + Int.toNat v2) (μ 130 v2))) v2) fun a6 =>
        if a6 = 0 then
          qP_refusedAfterAsking_j74 m1 v2 (μ (122 + Int.toNat v2) (μ 130 v2)) (m1 129 (μ (122 + Int.toNat v2) (μ 130 v2)))
        else
          some (v2, m1)
    else none
    else none
    else none
    else none
    else none
    else none
  else
    some ((-1), μ)
  else none
def qP_planByAsking_l28 (v1 : Nat) (v2 : Int) : Nat → zM → Int → Int → Option zM
  | 0, _, _, _ => none
  | n+1, μ, v3, v4 =>
    if v4 < 36 then
      if v3 = (-1) then
        some μ
      else
        bnd2 (qP_refusedAfterAsking μ v1 v3) fun a3 m3 =>
        qP_planByAsking_l28 v1 v2 n m3 a3 (wr (v4 + 1))
    else
      some μ
def qP_planByAsking_l15 (v1 : Nat) : Nat → zM → Int → Option zM
  | 0, _, _ => none
  | n+1, μ, v2 =>
    if v2 < (μ v1 3) then
      Option.bind (qP_planByAsking_l28 v1 v2 200 μ v2 0) fun m4 =>
      qP_planByAsking_l15 v1 n m4 (wr (v2 + 1))
    else
      some μ
def qP_planByAsking (μ : zM) (v1 : Nat) : Option zM :=
  Option.bind (qP_begin μ v1) fun m1 =>
  Option.bind (qT_fill m1 130 6 0) fun m2 =>
  Option.bind (qP_planByAsking_l15 v1 200 m2 0) fun m5 =>
  some m5
def qH_liveBy_l4 (h : Nat) : Nat → zM → Int → Int → Option ((Int) × zM)
  | 0, _, _, _ => none
  | n+1, μ, v2, v3 =>
    if v3 < (μ h 3) then
      if 0 ≤ v3 ∧ v3 < 6 then
      if 0 ≤ v3 ∧ v3 < 6 then
      if (μ (h + 9) v3) = (μ 128 v3) then
        qH_liveBy_l4 h n μ v2 (wr (v3 + 1))
      else
        if 0 ≤ v3 ∧ v3 < 6 then
        if 0 ≤ v3 ∧ v3 < 6 then
        Option.bind (some (st μ (h + 9) v3 (μ 128 v3))) fun m1 =>
        qH_liveBy_l4 h n m1 (wr (v2 + 1)) (wr (v3 + 1))
        else none
        else none
      else none
      else none
    else
      some (v2, μ)
def qH_liveBy (μ : zM) (h : Nat) : Option (Int × zM) :=
  bnd2 (qH_liveBy_l4 h 200 μ 0 0) fun t2 m2 =>
  some (t2, m2)
def qT_settle (μ : zM) : Option (Int × zM) :=
  Option.bind (qY_push μ 1) fun m1 =>
  Option.bind (qP_planByAsking m1 1) fun m2 =>
  bnd2 (qH_liveBy m2 1) fun a3 m3 =>
  some (a3, m3)
def qH_refusalOfMonths (μ : zM) (h : Nat) (v1 : Int) : Option Int :=
  Option.bind (qT_isWithin μ v1 1 24) fun a1 =>
  if a1 = 0 then
    some 3
  else
    some 0
def qH_takeTurn (μ : zM) (h : Nat) (v1 : Int) : Option zM :=
  if 0 ≤ v1 ∧ v1 < 6 then
  bnd2 (qH_receive μ h v1 (μ (h + 6) v1)) fun a1 m1 =>
  if 0 ≤ v1 ∧ v1 < 6 then
  if (m1 (h + 9) v1) = (-1) then
    some m1
  else
    Option.bind (qH_canAfford m1 h v1 (m1 (h + 9) v1)) fun a2 =>
    if a2 = 0 then
      if 0 ≤ v1 ∧ v1 < 6 then
      if 0 ≤ v1 ∧ v1 < 6 then
      Option.bind (some (st m1 (h + 8) v1 (wr ((m1 (h + 8) v1) + 1)))) fun m3 =>
      if 0 ≤ v1 ∧ v1 < 6 then
      if (m3 (h + 8) v1) < 2 then
        some m3
      else
        Option.bind (some (st m3 h 13 (wr ((m3 h 13) + 1)))) fun m4 =>
        bnd2 (qH_leaveHome m4 h v1) fun a5 m5 =>
        some m5
      else none
      else none
      else none
    else
      if 0 ≤ v1 ∧ v1 < 6 then
      if 0 ≤ (m1 (h + 9) v1) ∧ (m1 (h + 9) v1) < 6 then
      if 0 ≤ v1 ∧ v1 < 6 then
      Option.bind (some (st m1 (h + 7) v1 (wr ((m1 (h + 7) v1) - (m1 (h + 2) (m1 (h + 9) v1)))))) fun m6 =>
      if 0 ≤ (m1 (h + 9) v1) ∧ (m1 (h + 9) v1) < 6 then
      Option.bind (some (st m6 h 14 (wr ((m6 h 14) + (m6 (h + 2) (m1 (h + 9) v1)))))) fun m7 =>
      if 0 ≤ v1 ∧ v1 < 6 then
      Option.bind (some (st m7 (h + 8) v1 0)) fun m8 =>
      some m8
      else none
      else none
      else none
      else none
      else none
  else none
  else none
def qH_letMonthsPass_l25 (h : Nat) (v1 : Int) (v2 : Int) (v3 : Int) : Nat → zM → Int → Option zM
  | 0, _, _ => none
  | n+1, μ, v4 =>
    if v4 < (μ h 3) then
      Option.bind (qH_takeTurn μ h v4) fun m2 =>
      qH_letMonthsPass_l25 h v1 v2 v3 n m2 (wr (v4 + 1))
    else
      some μ
def qH_letMonthsPass_l7 (h : Nat) (v1 : Int) (v2 : Int) : Nat → zM → Int → Option zM
  | 0, _, _ => none
  | n+1, μ, v3 =>
    if v3 < v1 then
      Option.bind (some (st μ h 12 (wr ((μ h 12) + 1)))) fun m1 =>
      Option.bind (qH_letMonthsPass_l25 h v1 v2 v3 200 m1 0) fun m3 =>
      qH_letMonthsPass_l7 h v1 v2 n m3 (wr (v3 + 1))
    else
      some μ
def qH_letMonthsPass (μ : zM) (h : Nat) (v1 : Int) : Option (Int × zM) :=
  Option.bind (qH_letMonthsPass_l7 h v1 (μ h 13) 200 μ 0) fun m4 =>
  some ((wr ((m4 h 13) - (μ h 13))), m4)
def qT_pass (μ : zM) (v1 : Int) : Option ((Int ⊕ Nat) × zM) :=
  Option.bind (qH_refusalOfMonths μ 1 v1) fun a1 =>
  tcall (qT_refuse μ a1) fun a2 m2 =>
  Option.bind (qY_push m2 1) fun m3 =>
  bnd2 (qH_letMonthsPass m3 1 v1) fun a4 m4 =>
  some (.inl a4, m4)
def qT_flats (μ : zM) : Option Int :=
  some (μ 1 0)
def qT_requireFlat (μ : zM) (v1 : Int) : Option ((Int ⊕ Nat) × zM) :=
  Option.bind (qH_hasFlat μ 1 v1) fun a1 =>
  if a1 = 0 then
    some (.inr 1, μ)
  else
    some (.inl 0, μ)
def qT_floorOf (μ : zM) (v1 : Int) : Option ((Int ⊕ Nat) × zM) :=
  tcall (qT_requireFlat μ v1) fun a1 m1 =>
  if 0 ≤ v1 ∧ v1 < 6 then
  some (.inl (m1 2 v1), m1)
  else none
def qT_rentOf (μ : zM) (v1 : Int) : Option ((Int ⊕ Nat) × zM) :=
  tcall (qT_requireFlat μ v1) fun a1 m1 =>
  if 0 ≤ v1 ∧ v1 < 6 then
  some (.inl (m1 3 v1), m1)
  else none
def qT_tenantIn (μ : zM) (v1 : Int) : Option ((Int ⊕ Nat) × zM) :=
  tcall (qT_requireFlat μ v1) fun a1 m1 =>
  Option.bind (qH_slotIn m1 1 v1) fun a2 =>
  if a2 = (-1) then
    some (.inr 0, m1)
  else
    if 0 ≤ a2 ∧ a2 < 6 then
    some (.inl (m1 4 a2), m1)
    else none
def qH_housedCount_l4 (μ : zM) (h : Nat) : Nat → Int → Int → Option (Int)
  | 0, _, _ => none
  | n+1, v1, v2 =>
    if v2 < (μ h 3) then
      if 0 ≤ v2 ∧ v2 < 6 then
      if (μ (h + 9) v2) = (-1) then
        qH_housedCount_l4 μ h n v1 (wr (v2 + 1))
      else
        qH_housedCount_l4 μ h n (wr (v1 + 1)) (wr (v2 + 1))
      else none
    else
      some (v1)
def qH_housedCount (μ : zM) (h : Nat) : Option Int :=
  Option.bind (qH_housedCount_l4 μ h 200 0 0) fun t1 =>
  some t1
def qT_vacantFlats (μ : zM) : Option Int :=
  Option.bind (qH_housedCount μ 1) fun a1 =>
  some (wr ((μ 1 0) - a1))
def qT_tenants (μ : zM) : Option Int :=
  some (μ 1 3)
def qT_isPresent (μ : zM) (v1 : Int) : Option Int :=
  Option.bind (qH_slotOf μ 1 v1) fun a1 =>
  if a1 = (-1) then
    some 0
  else
    some 1
def qT_presentSlot (μ : zM) (v1 : Int) : Option ((Int ⊕ Nat) × zM) :=
  Option.bind (qH_slotOf μ 1 v1) fun a1 =>
  if a1 = (-1) then
    some (.inr 0, μ)
  else
    some (.inl a1, μ)
def qT_weightOf (μ : zM) (v1 : Int) : Option ((Int ⊕ Nat) × zM) :=
  tcall (qT_presentSlot μ v1) fun a1 m1 =>
  if 0 ≤ a1 ∧ a1 < 6 then
  some (.inl (m1 5 a1), m1)
  else none
def qT_purseOf (μ : zM) (v1 : Int) : Option ((Int ⊕ Nat) × zM) :=
  tcall (qT_presentSlot μ v1) fun a1 m1 =>
  if 0 ≤ a1 ∧ a1 < 6 then
  some (.inl (m1 8 a1), m1)
  else none
def qT_noticesOf (μ : zM) (v1 : Int) : Option ((Int ⊕ Nat) × zM) :=
  tcall (qT_presentSlot μ v1) fun a1 m1 =>
  if 0 ≤ a1 ∧ a1 < 6 then
  some (.inl (m1 9 a1), m1)
  else none
def qT_housedSlot (μ : zM) (v1 : Int) : Option ((Int ⊕ Nat) × zM) :=
  tcall (qT_presentSlot μ v1) fun a1 m1 =>
  if 0 ≤ a1 ∧ a1 < 6 then
  if (m1 10 a1) = (-1) then
    some (.inr 0, m1)
  else
    some (.inl a1, m1)
  else none
def qT_flatOf (μ : zM) (v1 : Int) : Option ((Int ⊕ Nat) × zM) :=
  tcall (qT_housedSlot μ v1) fun a1 m1 =>
  if 0 ≤ a1 ∧ a1 < 6 then
  some (.inl (m1 10 a1), m1)
  else none
def qT_burden (μ : zM) (v1 : Int) (v2 : Int) : Option ((Int ⊕ Nat) × zM) :=
  tcall (qT_presentSlot μ v1) fun a1 m1 =>
  tcall (qT_requireFlat m1 v2) fun a2 m2 =>
  Option.bind (qH_burdenFor m2 1 a1 v2) fun a3 =>
  some (.inl a3, m2)
def qT_flatByRank_l9 (μ : zM) (v2 : Int) (v3 : Int) : Nat → Int → Option (Int ⊕ Unit)
  | 0, _ => none
  | n+1, v4 =>
    if v4 < (μ 1 0) then
      Option.bind (qH_rankFor μ 1 v3 v4) fun a2 =>
      if a2 = v2 then
        some (.inl v4)
      else
        qT_flatByRank_l9 μ v2 v3 n (wr (v4 + 1))
    else
      some (.inr ())
def qT_flatByRank (μ : zM) (v1 : Int) (v2 : Int) : Option ((Int ⊕ Nat) × zM) :=
  tcall (qT_presentSlot μ v1) fun a1 m1 =>
  bndS (qT_flatByRank_l9 m1 v2 a1 200 0) (fun (r3 : Int) => some (.inl r3, m1)) (fun t3 =>
  some (.inr 0, m1)
  )
def qH_rankByPurse_l4 (μ : zM) (h : Nat) (v1 : Int) : Nat → Int → Int → Option (Int)
  | 0, _, _ => none
  | n+1, v2, v3 =>
    if v3 < (μ h 3) then
      if 0 ≤ v3 ∧ v3 < 6 then
      if 0 ≤ v1 ∧ v1 < 6 then
      if (μ (h + 7) v1) < (μ (h + 7) v3) then
        qH_rankByPurse_l4 μ h v1 n (wr (v2 + 1)) (wr (v3 + 1))
      else
        if 0 ≤ v3 ∧ v3 < 6 then
        if 0 ≤ v1 ∧ v1 < 6 then
        if (μ (h + 7) v3) = (μ (h + 7) v1) then
          if v3 < v1 then
            qH_rankByPurse_l4 μ h v1 n (wr (v2 + 1)) (wr (v3 + 1))
          else
            qH_rankByPurse_l4 μ h v1 n v2 (wr (v3 + 1))
        else
          qH_rankByPurse_l4 μ h v1 n v2 (wr (v3 + 1))
        else none
        else none
      else none
      else none
    else
      some (v2)
def qH_rankByPurse (μ : zM) (h : Nat) (v1 : Int) : Option Int :=
  Option.bind (qH_rankByPurse_l4 μ h v1 200 0 0) fun t1 =>
  some t1
def qT_tenantByPurse_l2 (μ : zM) (v1 : Int) : Nat → Int → Option (Int ⊕ Unit)
  | 0, _ => none
  | n+1, v2 =>
    if v2 < (μ 1 3) then
      Option.bind (qH_rankByPurse μ 1 v2) fun a1 =>
      if a1 = v1 then
        if 0 ≤ v2 ∧ v2 < 6 then
        some (.inl (μ 4 v2))
        else none
      else
        qT_tenantByPurse_l2 μ v1 n (wr (v2 + 1))
    else
      some (.inr ())
def qT_tenantByPurse (μ : zM) (v1 : Int) : Option ((Int ⊕ Nat) × zM) :=
  bndS (qT_tenantByPurse_l2 μ v1 200 0) (fun (r2 : Int) => some (.inl r2, μ)) (fun t2 =>
  some (.inr 0, μ)
  )
def qT_requireFloor (μ : zM) (v0 : Int) : Option ((Int ⊕ Nat) × zM) :=
  Option.bind (qT_isWithin μ v0 0 5) fun a1 =>
  if a1 = 0 then
    some (.inr 1, μ)
  else
    some (.inl 0, μ)
def qH_creakOn_l4 (μ : zM) (h : Nat) (v1 : Int) : Nat → Int → Int → Option (Int)
  | 0, _, _ => none
  | n+1, v2, v3 =>
    if v3 < (μ h 3) then
      if 0 ≤ v3 ∧ v3 < 6 then
      if (μ (h + 9) v3) = (-1) then
        qH_creakOn_l4 μ h v1 n v2 (wr (v3 + 1))
      else
        if 0 ≤ (μ (h + 9) v3) ∧ (μ (h + 9) v3) < 6 then
        if (μ (h + 1) (μ (h + 9) v3)) = v1 then
          if 0 ≤ v3 ∧ v3 < 6 then
          qH_creakOn_l4 μ h v1 n (wr (v2 + (μ (h + 4) v3))) (wr (v3 + 1))
          else none
        else
          qH_creakOn_l4 μ h v1 n v2 (wr (v3 + 1))
        else none
      else none
    else
      some (v2)
def qH_creakOn (μ : zM) (h : Nat) (v1 : Int) : Option Int :=
  Option.bind (qH_creakOn_l4 μ h v1 200 0 0) fun t1 =>
  some t1
def qT_creak (μ : zM) (v1 : Int) : Option ((Int ⊕ Nat) × zM) :=
  tcall (qT_requireFloor μ v1) fun a1 m1 =>
  Option.bind (qH_creakOn m1 1 v1) fun a2 =>
  some (.inl a2, m1)
def qS_measure_l2 (v1 : Nat) : Nat → zM → Int → Option zM
  | 0, _, _ => none
  | n+1, μ, v2 =>
    if v2 < 6 then
      Option.bind (qH_creakOn μ v1 v2) fun a1 =>
      if 0 ≤ v2 ∧ v2 < 6 then
      Option.bind (some (st μ 133 v2 a1)) fun m2 =>
      qS_measure_l2 v1 n m2 (wr (v2 + 1))
      else none
    else
      some μ
def qS_measure (μ : zM) (v1 : Nat) : Option zM :=
  Option.bind (qS_measure_l2 v1 200 μ 0) fun m3 =>
  some m3
def qS_spread_j25 (f : zM → Nat → Int → Int → Option (Int × zM)) (μ : zM) (v0 : Nat) (v2 : Int) (v3 : Int) : Option (Int × zM) :=
  bnd2 (f μ v0 (wr (v2 + 1)) v3) fun a1 m1 =>
  some (a1, m1)
def qS_spread_l49 (f : zM → Nat → Int → Int → Option (Int × zM)) (v0 : Nat) (v2 : Int) (v3 : Int) (v4 : Int) : Nat → zM → Int → Int → Option ((Int) × zM)
  | 0, _, _, _ => none
  | n+1, μ, v5, v6 =>
    if v6 < 6 then
      if 0 ≤ v6 ∧ v6 < 6 then
      if (μ 133 v6) < v4 then
        qS_spread_l49 f v0 v2 v3 v4 n μ v5 (wr (v6 + 1))
      else
        if 0 ≤ v6 ∧ v6 < 6 then
        if 0 ≤ v6 ∧ v6 < 6 then
        Option.bind (some (st μ 133 v6 (wr ((μ 133 v6) - v4)))) fun m2 =>
        bnd2 (f m2 v0 (wr (v2 + 1)) v3) fun a3 m3 =>
        if 0 ≤ v6 ∧ v6 < 6 then
        if 0 ≤ v6 ∧ v6 < 6 then
        Option.bind (some (st m3 133 v6 (wr ((m3 133 v6) + v4)))) fun m4 =>
        qS_spread_l49 f v0 v2 v3 v4 n m4 (wr (v5 + a3)) (wr (v6 + 1))
        else none
        else none
        else none
        else none
      else none
    else
      some (v5, μ)
def qS_spread_b (f : zM → Nat → Int → Int → Option (Int × zM)) (μ : zM) (v0 : Nat) (v2 : Int) (v3 : Int) : Option (Int × zM) :=
  if v2 < (μ v0 3) then
    if 0 ≤ v2 ∧ v2 < 6 then
    if (μ (v0 + 9) v2) = (-1) then
      qS_spread_j25 f μ v0 v2 v3
    else
      if v2 = v3 then
        qS_spread_j25 f μ v0 v2 v3
      else
        if 0 ≤ v2 ∧ v2 < 6 then
        bnd2 (qS_spread_l49 f v0 v2 v3 (μ (v0 + 4) v2) 200 μ 0 0) fun t5 m5 =>
        some (t5, m5)
        else none
    else none
  else
    some (1, μ)
def qS_spread : Nat → zM → Nat → Int → Int → Option (Int × zM)
  | 0, _, _, _, _ => none
  | n+1, μ, v0, v2, v3 => qS_spread_b (qS_spread n) μ v0 v2 v3
def qS_countByTrying (μ : zM) (v1 : Nat) : Option (Int × zM) :=
  Option.bind (qS_measure μ v1) fun m1 =>
  bnd2 (qS_spread 20 m1 v1 0 (-1)) fun a2 m2 =>
  some (a2, m2)
def qT_censuses (μ : zM) : Option (Int × zM) :=
  bnd2 (qS_countByTrying μ 1) fun a1 m1 =>
  some (a1, m1)
def qS_weighSets_l21 (v1 : Nat) (v2 : Int) : Nat → zM → Int → Option zM
  | 0, _, _ => none
  | n+1, μ, v3 =>
    if v3 < (μ v1 3) then
      if (yand (yshr v2 v3) 1) = 1 then
        if 0 ≤ v2 ∧ v2 < 64 then
        if 0 ≤ v3 ∧ v3 < 6 then
        if 0 ≤ v2 ∧ v2 < 64 then
        Option.bind (some (st μ 134 v2 (wr ((μ 134 v2) + (μ (v1 + 4) v3))))) fun m2 =>
        qS_weighSets_l21 v1 v2 n m2 (wr (v3 + 1))
        else none
        else none
        else none
      else
        qS_weighSets_l21 v1 v2 n μ (wr (v3 + 1))
    else
      some μ
def qS_weighSets_l10 (v1 : Nat) : Nat → zM → Int → Option zM
  | 0, _, _ => none
  | n+1, μ, v2 =>
    if v2 < 64 then
      Option.bind (qS_weighSets_l21 v1 v2 200 μ 0) fun m3 =>
      qS_weighSets_l10 v1 n m3 (wr (v2 + 1))
    else
      some μ
def qS_weighSets (μ : zM) (v1 : Nat) : Option zM :=
  Option.bind (qT_fill μ 134 64 0) fun m1 =>
  Option.bind (qS_weighSets_l10 v1 200 m1 0) fun m4 =>
  some m4
def qS_housedSet_l4 (μ : zM) (v0 : Nat) : Nat → Int → Int → Option (Int)
  | 0, _, _ => none
  | n+1, v1, v2 =>
    if v2 < (μ v0 3) then
      if 0 ≤ v2 ∧ v2 < 6 then
      if (μ (v0 + 9) v2) = (-1) then
        qS_housedSet_l4 μ v0 n v1 (wr (v2 + 1))
      else
        qS_housedSet_l4 μ v0 n (yor v1 (yshl 1 v2)) (wr (v2 + 1))
      else none
    else
      some (v1)
def qS_housedSet (μ : zM) (v0 : Nat) : Option Int :=
  Option.bind (qS_housedSet_l4 μ v0 200 0 0) fun t1 =>
  some t1
def qS_improve_l12 (μ : zM) (v2 : Int) (v3 : Int) : Nat → Int → Int → Option (Int)
  | 0, _, _ => none
  | n+1, v4, v5 =>
    if v3 < v5 then
      some (v4)
    else
      if 0 ≤ v5 ∧ v5 < 64 then
      if (μ 134 v5) = v2 then
        if (yand v5 v3) = v5 then
          if 0 ≤ (yxor v3 v5) ∧ (yxor v3 v5) < 64 then
          qS_improve_l12 μ v2 v3 n (wr (v4 + (μ 135 (yxor v3 v5)))) (wr (v5 + 1))
          else none
        else
          qS_improve_l12 μ v2 v3 n v4 (wr (v5 + 1))
      else
        qS_improve_l12 μ v2 v3 n v4 (wr (v5 + 1))
      else none
def qS_improve_l2 (v2 : Int) : Nat → zM → Int → Option zM
  | 0, _, _ => none
  | n+1, μ, v3 =>
    if v3 < 0 then
      some μ
    else
      Option.bind (qS_improve_l12 μ v2 v3 200 0 0) fun t1 =>
      if 0 ≤ v3 ∧ v3 < 64 then
      Option.bind (some (st μ 135 v3 t1)) fun m2 =>
      qS_improve_l2 v2 n m2 (wr (v3 + (-1)))
      else none
def qS_improve (μ : zM) (v1 : Int) (v2 : Int) : Option zM :=
  Option.bind (qS_improve_l2 v2 200 μ v1) fun m3 =>
  some m3
def qS_countBySets_l32 (v2 : Int) : Nat → zM → Int → Option zM
  | 0, _, _ => none
  | n+1, μ, v3 =>
    if v3 < 6 then
      if 0 ≤ v3 ∧ v3 < 6 then
      Option.bind (qS_improve μ v2 (μ 133 v3)) fun m6 =>
      qS_countBySets_l32 v2 n m6 (wr (v3 + 1))
      else none
    else
      some μ
def qS_countBySets (μ : zM) (v1 : Nat) : Option (Int × zM) :=
  Option.bind (qS_measure μ v1) fun m1 =>
  Option.bind (qS_weighSets m1 v1) fun m2 =>
  Option.bind (qT_fill m2 135 64 0) fun m3 =>
  Option.bind (some (st m3 135 0 1)) fun m4 =>
  Option.bind (qS_housedSet m4 v1) fun a5 =>
  Option.bind (qS_countBySets_l32 a5 200 m4 0) fun m7 =>
  if 0 ≤ a5 ∧ a5 < 64 then
  some ((m7 135 a5), m7)
  else none
def qT_censusesBySets (μ : zM) : Option (Int × zM) :=
  bnd2 (qS_countBySets μ 1) fun a1 m1 =>
  some (a1, m1)
def qS_countFloors_j79 (rec : zM → Int → Int → Option ((Int) × zM)) (μ : zM) (v1 : Nat) (v2 : Int) (v3 : Int) (v5 : Int) (s0 : Int) (s1 : Int) : Option ((Int) × zM) :=
  if 0 ≤ v5 ∧ v5 < 6 then
  if 0 ≤ v5 ∧ v5 < 6 then
  Option.bind (some (st μ 133 v5 (wr ((μ 133 v5) + v3)))) fun m4 =>
  rec m4 (wr (s0 + s1)) (wr (v5 + 1))
  else none
  else none
def qS_countFloors_l30 (v1 : Nat) (v2 : Int) (v3 : Int) : Nat → zM → Int → Int → Option ((Int) × zM)
  | 0, _, _, _ => none
  | n+1, μ, v4, v5 =>
    if v5 < 6 then
      if 0 ≤ v5 ∧ v5 < 6 then
      if (μ 133 v5) < v3 then
        qS_countFloors_l30 v1 v2 v3 n μ v4 (wr (v5 + 1))
      else
        if 0 ≤ v5 ∧ v5 < 6 then
        if 0 ≤ v5 ∧ v5 < 6 then
        Option.bind (some (st μ 133 v5 (wr ((μ 133 v5) - v3)))) fun m2 =>
        bnd2 (qS_spread 20 m2 v1 0 v2) fun a3 m3 =>
        if 0 < a3 then
          qS_countFloors_j79 (qS_countFloors_l30 v1 v2 v3 n) m3 v1 v2 v3 v5 v4 1
        else
          qS_countFloors_j79 (qS_countFloors_l30 v1 v2 v3 n) m3 v1 v2 v3 v5 v4 0
        else none
        else none
      else none
    else
      some (v4, μ)
def qS_countFloors (μ : zM) (v1 : Nat) (v2 : Int) : Option (Int × zM) :=
  if 0 ≤ v2 ∧ v2 < 6 then
  if (μ (v1 + 9) v2) = (-1) then
    some (0, μ)
  else
    Option.bind (qS_measure μ v1) fun m1 =>
    if 0 ≤ v2 ∧ v2 < 6 then
    bnd2 (qS_countFloors_l30 v1 v2 (m1 (v1 + 4) v2) 200 m1 0 0) fun t5 m5 =>
    some (t5, m5)
    else none
  else none
def qT_possibleFloors (μ : zM) (v1 : Int) : Option ((Int ⊕ Nat) × zM) :=
  tcall (qT_presentSlot μ v1) fun a1 m1 =>
  bnd2 (qS_countFloors m1 1 a1) fun a2 m2 =>
  some (.inl a2, m2)
def qT_requireGiven (μ : zM) (v0 : Int) : Option ((Int ⊕ Nat) × zM) :=
  if v0 = (-1) then
    some (.inr 0, μ)
  else
    some (.inl v0, μ)
def qT_plannedFlat (μ : zM) (v1 : Int) : Option ((Int ⊕ Nat) × zM) :=
  tcall (qT_presentSlot μ v1) fun a1 m1 =>
  Option.bind (qP_planByAsking m1 1) fun m2 =>
  if 0 ≤ a1 ∧ a1 < 6 then
  tcall (qT_requireGiven m2 (m2 128 a1)) fun a3 m3 =>
  some (.inl a3, m3)
  else none
def qP_rankOf (μ : zM) (v1 : Int) (v2 : Int) : Option Int :=
  if v2 = (-1) then
    some 6
  else
    if 0 ≤ v1 ∧ v1 < 6 then
    if 0 ≤ v2 ∧ v2 < 6 then
    some (μ (115 + Int.toNat v1) v2)
    else none
    else none
def qP_wants (μ : zM) (v1 : Nat) (v2 : Int) (v3 : Int) : Option Int :=
  Option.bind (qH_canAfford μ v1 v2 v3) fun a1 =>
  if a1 = 0 then
    some 0
  else
    if 0 ≤ v2 ∧ v2 < 6 then
    if 0 ≤ v3 ∧ v3 < 6 then
    if 0 ≤ v2 ∧ v2 < 6 then
    Option.bind (qP_rankOf μ v2 (μ 128 v2)) fun a2 =>
    if (μ (115 + Int.toNat v2) v3) < a2 then
      some 1
    else
      some 0
    else none
    else none
    else none
def qP_isFreeFlatWanted_l12 (μ : zM) (v1 : Nat) (v2 : Int) : Nat → Int → Option (Int ⊕ Unit)
  | 0, _ => none
  | n+1, v3 =>
    if v3 < (μ v1 3) then
      if 0 ≤ v2 ∧ v2 < 6 then
      if (μ 129 v2) = (-1) then
        Option.bind (qP_wants μ v1 v3 v2) fun a1 =>
        if a1 = 0 then
          qP_isFreeFlatWanted_l12 μ v1 v2 n (wr (v3 + 1))
        else
          some (.inl 1)
      else
        some (.inr ())
      else none
    else
      some (.inr ())
def qP_isFreeFlatWanted_l2 (μ : zM) (v1 : Nat) : Nat → Int → Option (Int ⊕ Unit)
  | 0, _ => none
  | n+1, v2 =>
    if v2 < (μ v1 0) then
      bndS (qP_isFreeFlatWanted_l12 μ v1 v2 200 0) (fun (r2 : Int) => some (.inl r2)) (fun t2 =>
      qP_isFreeFlatWanted_l2 μ v1 n (wr (v2 + 1))
      )
    else
      some (.inr ())
def qP_isFreeFlatWanted (μ : zM) (v1 : Nat) : Option Int :=
  bndS (qP_isFreeFlatWanted_l2 μ v1 200 0) (fun (r3 : Int) => some r3) (fun t3 =>
  some 0
  )
def qP_isBetterForAll_l2 (μ : zM) (v1 : Nat) : Nat → Int → Option (Int ⊕ Unit)
  | 0, _ => none
  | n+1, v2 =>
    if v2 < (μ v1 3) then
      if 0 ≤ v2 ∧ v2 < 6 then
      Option.bind (qP_rankOf μ v2 (μ 128 v2)) fun a1 =>
      if 0 ≤ v2 ∧ v2 < 6 then
      Option.bind (qP_rankOf μ v2 (μ 131 v2)) fun a2 =>
      if a2 < a1 then
        some (.inl 0)
      else
        qP_isBetterForAll_l2 μ v1 n (wr (v2 + 1))
      else none
      else none
    else
      some (.inr ())
def qP_isBetterForAll (μ : zM) (v1 : Nat) : Option Int :=
  bndS (qP_isBetterForAll_l2 μ v1 200 0) (fun (r3 : Int) => some r3) (fun t3 =>
  some 1
  )
def qP_keepStable_j26 (μ : zM) : Option zM :=
  Option.bind (some (cpy μ 128 131 6)) fun m2 =>
  some m2
def qP_keepStable (μ : zM) (v1 : Nat) : Option zM :=
  Option.bind (some (st μ 113 6 (wr ((μ 113 6) + 1)))) fun m1 =>
  if (m1 113 6) = 1 then
    qP_keepStable_j26 m1
  else
    Option.bind (qP_isBetterForAll m1 v1) fun a3 =>
    if a3 = 0 then
      some m1
    else
      qP_keepStable_j26 m1
def qP_clashes_j34 (rec : Int → Option (Int ⊕ Unit)) (μ : zM) (v1 : Nat) (v2 : Int) (v3 : Int) (v4 : Int) (s0 : Int) : Option (Int ⊕ Unit) :=
  if 0 ≤ s0 ∧ s0 < 6 then
  if (μ 128 s0) = (-1) then
    rec (wr (v3 + 1))
  else
    if 0 ≤ s0 ∧ s0 < 6 then
    Option.bind (qP_wants μ v1 v4 (μ 128 s0)) fun a2 =>
    if a2 = 0 then
      rec (wr (v3 + 1))
    else
      some (.inl 1)
    else none
  else none
def qP_clashes_j21 (rec : Int → Option (Int ⊕ Unit)) (μ : zM) (v1 : Nat) (v2 : Int) (v3 : Int) (s0 : Int) : Option (Int ⊕ Unit) :=
  if s0 = v2 then
    qP_clashes_j34 rec μ v1 v2 v3 s0 v3
  else
    qP_clashes_j34 rec μ v1 v2 v3 s0 v2
def qP_clashes_l2 (μ : zM) (v1 : Nat) (v2 : Int) : Nat → Int → Option (Int ⊕ Unit)
  | 0, _ => none
  | n+1, v3 =>
    if v3 < v2 then
      Option.bind (qH_isPreferredTo μ v1 v2 v3) fun a1 =>
      if a1 = 0 then
        qP_clashes_j21 (qP_clashes_l2 μ v1 v2 n) μ v1 v2 v3 v3
      else
        qP_clashes_j21 (qP_clashes_l2 μ v1 v2 n) μ v1 v2 v3 v2
    else
      some (.inr ())
def qP_clashes (μ : zM) (v1 : Nat) (v2 : Int) : Option Int :=
  bndS (qP_clashes_l2 μ v1 v2 200 0) (fun (r3 : Int) => some r3) (fun t3 =>
  some 0
  )
def qP_tryRest (f : zM → Nat → Int → Option zM) (μ : zM) (v1 : Nat) (v2 : Int) (v3 : Int) : Option zM :=
  if 0 ≤ v2 ∧ v2 < 6 then
  Option.bind (some (st μ 128 v2 v3)) fun m1 =>
  Option.bind (qP_clashes m1 v1 v2) fun a2 =>
  if a2 = 0 then
    Option.bind (f m1 v1 (wr (v2 + 1))) fun m3 =>
    some m3
  else
    some m1
  else none
def qP_tryFlats_l31 (f : zM → Nat → Int → Option zM) (v1 : Nat) (v2 : Int) : Nat → zM → Int → Option zM
  | 0, _, _ => none
  | n+1, μ, v3 =>
    if v3 < (μ v1 0) then
      if 0 ≤ v3 ∧ v3 < 6 then
      if (μ 129 v3) = (-1) then
        Option.bind (qH_canAfford μ v1 v2 v3) fun a2 =>
        if a2 = 0 then
          qP_tryFlats_l31 f v1 v2 n μ (wr (v3 + 1))
        else
          if 0 ≤ v3 ∧ v3 < 6 then
          Option.bind (some (st μ 129 v3 v2)) fun m3 =>
          Option.bind (qP_tryRest f m3 v1 v2 v3) fun m4 =>
          if 0 ≤ v3 ∧ v3 < 6 then
          Option.bind (some (st m4 129 v3 (-1))) fun m5 =>
          qP_tryFlats_l31 f v1 v2 n m5 (wr (v3 + 1))
          else none
          else none
      else
        qP_tryFlats_l31 f v1 v2 n μ (wr (v3 + 1))
      else none
    else
      some μ
def qP_tryFlats_b (f : zM → Nat → Int → Option zM) (μ : zM) (v1 : Nat) (v2 : Int) : Option zM :=
  if v2 < (μ v1 3) then
    Option.bind (qP_tryRest f μ v1 v2 (-1)) fun m1 =>
    Option.bind (qP_tryFlats_l31 f v1 v2 200 m1 0) fun m6 =>
    some m6
  else
    Option.bind (qP_isFreeFlatWanted μ v1) fun a7 =>
    if a7 = 0 then
      Option.bind (qP_keepStable μ v1) fun m8 =>
      some m8
    else
      some μ
def qP_tryFlats : Nat → zM → Nat → Int → Option zM
  | 0, _, _, _ => none
  | n+1, μ, v1, v2 => qP_tryFlats_b (qP_tryFlats n) μ v1 v2
def qP_tryAll (μ : zM) (v1 : Nat) : Option zM :=
  Option.bind (qP_begin μ v1) fun m1 =>
  Option.bind (qT_fill m1 131 6 (-1)) fun m2 =>
  Option.bind (some (st m2 113 6 0)) fun m3 =>
  Option.bind (qP_tryFlats 20 m3 v1 0) fun m4 =>
  some m4
def qP_planByPlans (μ : zM) (v1 : Nat) : Option zM :=
  Option.bind (qP_tryAll μ v1) fun m1 =>
  some m1
def qT_plannedFlatByPlans (μ : zM) (v1 : Int) : Option ((Int ⊕ Nat) × zM) :=
  tcall (qT_presentSlot μ v1) fun a1 m1 =>
  Option.bind (qP_planByPlans m1 1) fun m2 =>
  if 0 ≤ a1 ∧ a1 < 6 then
  tcall (qT_requireGiven m2 (m2 131 a1)) fun a3 m3 =>
  some (.inl a3, m3)
  else none
def qP_countStable (μ : zM) (v1 : Nat) : Option (Int × zM) :=
  Option.bind (qP_tryAll μ v1) fun m1 =>
  some ((m1 113 6), m1)
def qT_stablePlans (μ : zM) : Option (Int × zM) :=
  bnd2 (qP_countStable μ 1) fun a1 m1 =>
  some (a1, m1)
def qP_isHouseStable_j45 (rec : zM → Int → Option ((Int ⊕ Unit) × zM)) (μ : zM) (v1 : Nat) (v2 : Int) (v3 : Int) : Option ((Int ⊕ Unit) × zM) :=
  if 0 ≤ v2 ∧ v2 < 6 then
  Option.bind (some (st μ 128 v2 v3)) fun m2 =>
  Option.bind (qP_clashes m2 v1 v2) fun a3 =>
  if a3 = 0 then
    rec m2 (wr (v2 + 1))
  else
    some (.inl 0, m2)
  else none
def qP_isHouseStable_l7 (v1 : Nat) : Nat → zM → Int → Option ((Int ⊕ Unit) × zM)
  | 0, _, _ => none
  | n+1, μ, v2 =>
    if v2 < (μ v1 3) then
      if 0 ≤ v2 ∧ v2 < 6 then
      if (μ (v1 + 9) v2) = (-1) then
        qP_isHouseStable_j45 (qP_isHouseStable_l7 v1 n) μ v1 v2 (μ (v1 + 9) v2)
      else
        Option.bind (qH_canAfford μ v1 v2 (μ (v1 + 9) v2)) fun a4 =>
        if a4 = 0 then
          some (.inl 0, μ)
        else
          if 0 ≤ (μ (v1 + 9) v2) ∧ (μ (v1 + 9) v2) < 6 then
          Option.bind (some (st μ 129 (μ (v1 + 9) v2) v2)) fun m5 =>
          qP_isHouseStable_j45 (qP_isHouseStable_l7 v1 n) m5 v1 v2 (μ (v1 + 9) v2)
          else none
      else none
    else
      some (.inr (), μ)
def qP_isHouseStable (μ : zM) (v1 : Nat) : Option (Int × zM) :=
  Option.bind (qP_begin μ v1) fun m1 =>
  bndS2 (qP_isHouseStable_l7 v1 200 m1 0) (fun (r6 : Int) m6 => some (r6, m6)) (fun t6 m6 =>
  Option.bind (qP_isFreeFlatWanted m6 v1) fun a7 =>
  if a7 = 0 then
    some (1, m6)
  else
    some (0, m6)
  )
def qT_isStable (μ : zM) : Option (Int × zM) :=
  bnd2 (qP_isHouseStable μ 1) fun a1 m1 =>
  if 0 ≤ a1 ∧ a1 < 2 then some (a1, m1) else none
def qT_chainLength (μ : zM) (v1 : Int) : Option ((Int ⊕ Nat) × zM) :=
  tcall (qT_housedSlot μ v1) fun a1 m1 =>
  Option.bind (qH_copyFrom m1 11 1) fun m2 =>
  bnd2 (qH_leaveHome m2 11 a1) fun a3 m3 =>
  some (.inl a3, m3)
def qT_monthsUntilEviction_l13 : Nat → zM → Int → Option ((Int ⊕ Unit) × zM)
  | 0, _, _ => none
  | n+1, μ, v1 =>
    if 24 < v1 then
      some (.inr (), μ)
    else
      bnd2 (qH_letMonthsPass μ 11 1) fun a2 m2 =>
      if 0 < a2 then
        some (.inl v1, m2)
      else
        qT_monthsUntilEviction_l13 n m2 (wr (v1 + 1))
def qT_monthsUntilEviction (μ : zM) : Option ((Int ⊕ Nat) × zM) :=
  Option.bind (qH_copyFrom μ 11 1) fun m1 =>
  bndS2 (qT_monthsUntilEviction_l13 200 m1 1) (fun (r3 : Int) m3 => some (.inl r3, m3)) (fun t3 m3 =>
  some (.inr 0, m3)
  )
def qT_month (μ : zM) : Option Int :=
  some (μ 1 12)
def qT_received (μ : zM) : Option Int :=
  some (μ 1 15)
def qH_sumOfParts_l13 (μ : zM) (h : Nat) : Nat → Int → Int → Option (Int)
  | 0, _, _ => none
  | n+1, v1, v3 =>
    if v3 < (μ h 3) then
      if 0 ≤ v3 ∧ v3 < 6 then
      if y_inL (v1 + (μ (h + 7) v3)) then
      qH_sumOfParts_l13 μ h n (v1 + (μ (h + 7) v3)) (wr (v3 + 1))
      else none
      else none
    else
      some (v1)
def qH_sumOfParts (μ : zM) (h : Nat) : Option Int :=
  if y_inL ((μ h 16) + (μ h 14)) then
  Option.bind (qH_sumOfParts_l13 μ h 200 ((μ h 16) + (μ h 14)) 0) fun t1 =>
  some t1
  else none
def qT_receivedByParts (μ : zM) : Option Int :=
  Option.bind (qH_sumOfParts μ 1) fun a1 =>
  some a1
def qT_paidRents (μ : zM) : Option Int :=
  some (μ 1 14)
def qT_evictions (μ : zM) : Option Int :=
  some (μ 1 13)
def qH_sumOfBurdens_l4 (μ : zM) (h : Nat) : Nat → Int → Int → Option (Int)
  | 0, _, _ => none
  | n+1, v1, v2 =>
    if v2 < (μ h 3) then
      if 0 ≤ v2 ∧ v2 < 6 then
      if (μ (h + 9) v2) = (-1) then
        qH_sumOfBurdens_l4 μ h n v1 (wr (v2 + 1))
      else
        if 0 ≤ v2 ∧ v2 < 6 then
        Option.bind (qH_burdenFor μ h v2 (μ (h + 9) v2)) fun a1 =>
        qH_sumOfBurdens_l4 μ h n (wr (v1 + a1)) (wr (v2 + 1))
        else none
      else none
    else
      some (v1)
def qH_sumOfBurdens (μ : zM) (h : Nat) : Option Int :=
  Option.bind (qH_sumOfBurdens_l4 μ h 200 0 0) fun t2 =>
  some t2
def qT_meanBurden (μ : zM) : Option ((Int ⊕ Nat) × zM) :=
  Option.bind (qH_housedCount μ 1) fun a1 =>
  if a1 = 0 then
    some (.inr 5, μ)
  else
    Option.bind (qH_sumOfBurdens μ 1) fun a2 =>
    if fp_n64 (fp_ddiv (fp_i2d a2) (fp_i2d a1)) then
    some (.inl (fp_ddiv (fp_i2d a2) (fp_i2d a1)), μ)
    else none
def qT_occupancy (μ : zM) : Option ((Int ⊕ Nat) × zM) :=
  if (μ 1 0) = 0 then
    some (.inr 5, μ)
  else
    Option.bind (qH_housedCount μ 1) fun a1 =>
    if fp_n32 (fp_fdiv (fp_i2f a1) (fp_i2f (μ 1 0))) then
    some (.inl (fp_fdiv (fp_i2f a1) (fp_i2f (μ 1 0))), μ)
    else none
def qH_isTenantSound_j16 (μ : zM) (h : Nat) (v1 : Int) (s0 : Int) : Option Int :=
  if 0 ≤ v1 ∧ v1 < 6 then
  if s0 < (μ (h + 3) v1) then
    if 0 ≤ v1 ∧ v1 < 6 then
    if (μ (h + 3) v1) < (μ h 4) then
      if 0 ≤ v1 ∧ v1 < 6 then
      Option.bind (qT_isWithin μ (μ (h + 4) v1) 1 50) fun a1 =>
      if a1 = 0 then
        some 0
      else
        if 0 ≤ v1 ∧ v1 < 6 then
        Option.bind (qT_isWithin μ (μ (h + 5) v1) 0 5) fun a2 =>
        if a2 = 0 then
          some 0
        else
          if 0 ≤ v1 ∧ v1 < 6 then
          Option.bind (qT_isWithin μ (μ (h + 6) v1) 1 40) fun a3 =>
          if a3 = 0 then
            some 0
          else
            if 0 ≤ v1 ∧ v1 < 6 then
            if (μ (h + 7) v1) < 0 then
              some 0
            else
              if 0 ≤ v1 ∧ v1 < 6 then
              Option.bind (qT_isWithin μ (μ (h + 8) v1) 0 1) fun a4 =>
              if a4 = 0 then
                some 0
              else
                some 1
              else none
            else none
          else none
        else none
      else none
    else
      some 0
    else none
  else
    some 0
  else none
def qH_isTenantSound (μ : zM) (h : Nat) (v1 : Int) : Option Int :=
  if v1 = 0 then
    qH_isTenantSound_j16 μ h v1 (-1)
  else
    if 0 ≤ (wr (v1 - 1)) ∧ (wr (v1 - 1)) < 6 then
    qH_isTenantSound_j16 μ h v1 (μ (h + 3) (wr (v1 - 1)))
    else none
def qH_isHomeSound (μ : zM) (h : Nat) (v1 : Int) : Option Int :=
  if 0 ≤ v1 ∧ v1 < 6 then
  if (μ (h + 9) v1) = (-1) then
    some 1
  else
    Option.bind (qH_hasFlat μ h (μ (h + 9) v1)) fun a1 =>
    if a1 = 0 then
      some 0
    else
      Option.bind (qH_slotIn μ h (μ (h + 9) v1)) fun a2 =>
      if a2 = v1 then
        some 1
      else
        some 0
  else none
def qH_isSound_l30 (μ : zM) (h : Nat) : Nat → Int → Option (Int ⊕ Unit)
  | 0, _ => none
  | n+1, v1 =>
    if v1 < (μ h 0) then
      if 0 ≤ v1 ∧ v1 < 6 then
      Option.bind (qT_isWithin μ (μ (h + 1) v1) 0 5) fun a3 =>
      if a3 = 0 then
        some (.inl 0)
      else
        if 0 ≤ v1 ∧ v1 < 6 then
        Option.bind (qT_isWithin μ (μ (h + 2) v1) 1 99) fun a4 =>
        if a4 = 0 then
          some (.inl 0)
        else
          qH_isSound_l30 μ h n (wr (v1 + 1))
        else none
      else none
    else
      some (.inr ())
def qH_isSound_l77 (μ : zM) (h : Nat) : Nat → Int → Option (Int ⊕ Unit)
  | 0, _ => none
  | n+1, v1 =>
    if v1 < (μ h 3) then
      Option.bind (qH_isTenantSound μ h v1) fun a6 =>
      if a6 = 0 then
        some (.inl 0)
      else
        Option.bind (qH_isHomeSound μ h v1) fun a7 =>
        if a7 = 0 then
          some (.inl 0)
        else
          qH_isSound_l77 μ h n (wr (v1 + 1))
    else
      some (.inr ())
def qH_isSound (μ : zM) (h : Nat) : Option Int :=
  Option.bind (qT_isWithin μ (μ h 0) 0 6) fun a1 =>
  if a1 = 0 then
    some 0
  else
    Option.bind (qT_isWithin μ (μ h 3) 0 6) fun a2 =>
    if a2 = 0 then
      some 0
    else
      bndS (qH_isSound_l30 μ h 200 0) (fun (r5 : Int) => some r5) (fun t5 =>
      bndS (qH_isSound_l77 μ h 200 0) (fun (r8 : Int) => some r8) (fun t8 =>
      Option.bind (qH_sumOfParts μ h) fun a9 =>
      if (ycmp (μ h 15) a9) = 0 then
        some 1
      else
        some 0
      )
      )
def qP_doWaysAgree_l13 (μ : zM) (v1 : Nat) : Nat → Int → Option (Int ⊕ Unit)
  | 0, _ => none
  | n+1, v2 =>
    if v2 < (μ v1 3) then
      if 0 ≤ v2 ∧ v2 < 6 then
      if 0 ≤ v2 ∧ v2 < 6 then
      if (μ 128 v2) = (μ 131 v2) then
        qP_doWaysAgree_l13 μ v1 n (wr (v2 + 1))
      else
        some (.inl 0)
      else none
      else none
    else
      some (.inr ())
def qP_doWaysAgree (μ : zM) (v1 : Nat) : Option (Int × zM) :=
  Option.bind (qP_tryAll μ v1) fun m1 =>
  Option.bind (qP_planByAsking m1 v1) fun m2 =>
  bndS (qP_doWaysAgree_l13 m2 v1 200 0) (fun (r3 : Int) => some (r3, m2)) (fun t3 =>
  if (m2 113 6) < 1 then
    some (0, m2)
  else
    some (1, m2)
  )
def qT_isConsistent (μ : zM) : Option (Int × zM) :=
  Option.bind (qH_isSound μ 1) fun a1 =>
  if a1 = 0 then
    some (0, μ)
  else
    bnd2 (qS_countByTrying μ 1) fun a2 m2 =>
    bnd2 (qS_countBySets m2 1) fun a3 m3 =>
    if a2 = a3 then
      bnd2 (qP_doWaysAgree m3 1) fun a4 m4 =>
      if a4 = 0 then
        some (0, m4)
      else
        some (1, m4)
    else
      some (0, m3)
def qX_clear (μ : zM) (t : Nat) : Option zM :=
  Option.bind (some (st μ t 1 0)) fun m1 =>
  some m1
def qX_append (μ : zM) (t : Nat) (v1 : Int) : Option zM :=
  if (μ t 1) < 128 then
    if (0 ≤ (μ t 1) ∧ (μ t 1) < 128) ∧ (0 ≤ v1 ∧ v1 ≤ 65535) then
    Option.bind (some (st μ (t + 1) (μ t 1) v1)) fun m1 =>
    Option.bind (some (st m1 t 1 (wr ((m1 t 1) + 1)))) fun m2 =>
    some m2
    else none
  else
    some μ
def qX_appendNumber_l2 (μ : zM) (t : Nat) (v1 : Int) : Nat → Int → Option (Int)
  | 0, _ => none
  | n+1, v2 =>
    if (wr (Int.tdiv v1 10)) < v2 then
      some (v2)
    else
      qX_appendNumber_l2 μ t v1 n (wr (v2 * 10))
def qX_appendNumber_l20 (t : Nat) (v1 : Int) : Nat → zM → Int → Option zM
  | 0, _, _ => none
  | n+1, μ, v3 =>
    if 0 < v3 then
      if v3 ≠ 0 then
      Option.bind (qX_append μ t ((wr (48 + (Int.tmod (wr (Int.tdiv v1 v3)) 10))) % 65536)) fun m2 =>
      qX_appendNumber_l20 t v1 n m2 (wr (Int.tdiv v3 10))
      else none
    else
      some μ
def qX_appendNumber (μ : zM) (t : Nat) (v1 : Int) : Option zM :=
  Option.bind (qX_appendNumber_l2 μ t v1 200 1) fun t1 =>
  Option.bind (qX_appendNumber_l20 t v1 200 μ t1) fun m3 =>
  some m3
def qT_appendFlat (μ : zM) (v1 : Int) : Option zM :=
  Option.bind (qX_append μ 140 32) fun m1 =>
  Option.bind (qX_appendNumber m1 140 v1) fun m2 =>
  Option.bind (qX_append m2 140 61) fun m3 =>
  if 0 ≤ v1 ∧ v1 < 6 then
  Option.bind (qX_appendNumber m3 140 (m3 3 v1)) fun m4 =>
  Option.bind (qH_slotIn m4 1 v1) fun a5 =>
  if a5 = (-1) then
    some m4
  else
    Option.bind (qX_append m4 140 58) fun m6 =>
    if 0 ≤ a5 ∧ a5 < 6 then
    Option.bind (qX_appendNumber m6 140 (m6 4 a5)) fun m7 =>
    some m7
    else none
  else none
def qT_writeFloor_l45 (v1 : Int) : Nat → zM → Int → Option zM
  | 0, _, _ => none
  | n+1, μ, v2 =>
    if v2 < (μ 1 0) then
      if 0 ≤ v2 ∧ v2 < 6 then
      if (μ 2 v2) = v1 then
        Option.bind (qT_appendFlat μ v2) fun m7 =>
        qT_writeFloor_l45 v1 n m7 (wr (v2 + 1))
      else
        qT_writeFloor_l45 v1 n μ (wr (v2 + 1))
      else none
    else
      some μ
def qT_writeFloor (μ : zM) (v1 : Int) : Option ((Int ⊕ Nat) × zM) :=
  tcall (qT_requireFloor μ v1) fun a1 m1 =>
  Option.bind (qX_clear m1 140) fun m2 =>
  Option.bind (qX_appendNumber m2 140 v1) fun m3 =>
  Option.bind (qX_append m3 140 126) fun m4 =>
  Option.bind (qH_creakOn m4 1 v1) fun a5 =>
  Option.bind (qX_appendNumber m4 140 a5) fun m6 =>
  Option.bind (qT_writeFloor_l45 v1 200 m6 0) fun m8 =>
  some (.inl (m8 140 1), m8)
def qT_writePlan_j45 (rec : zM → Int → Option zM) (μ : zM) (v2 : Int) : Option zM :=
  if 0 ≤ v2 ∧ v2 < 6 then
  Option.bind (qX_appendNumber μ 140 (μ 4 v2)) fun m3 =>
  Option.bind (qX_append m3 140 62) fun m4 =>
  if 0 ≤ v2 ∧ v2 < 6 then
  if (m4 128 v2) = (-1) then
    Option.bind (qX_append m4 140 45) fun m6 =>
    rec m6 (wr (v2 + 1))
  else
    if 0 ≤ v2 ∧ v2 < 6 then
    Option.bind (qX_appendNumber m4 140 (m4 128 v2)) fun m5 =>
    rec m5 (wr (v2 + 1))
    else none
  else none
  else none
def qT_writePlan_l21 : Nat → zM → Int → Option zM
  | 0, _, _ => none
  | n+1, μ, v2 =>
    if v2 < (μ 1 3) then
      if 0 < v2 then
        Option.bind (qX_append μ 140 32) fun m7 =>
        qT_writePlan_j45 (qT_writePlan_l21 n) m7 v2
      else
        qT_writePlan_j45 (qT_writePlan_l21 n) μ v2
    else
      some μ
def qT_writePlan (μ : zM) : Option (Int × zM) :=
  Option.bind (qP_planByAsking μ 1) fun m1 =>
  Option.bind (qX_clear m1 140) fun m2 =>
  Option.bind (qT_writePlan_l21 200 m2 0) fun m8 =>
  some ((m8 140 1), m8)
def qT_charAt_j15 (μ : zM) : Option ((Int ⊕ Nat) × zM) :=
  some (.inr 1, μ)
def qT_charAt (μ : zM) (v1 : Int) : Option ((Int ⊕ Nat) × zM) :=
  if v1 < 0 then
    qT_charAt_j15 μ
  else
    if v1 < (μ 140 1) then
      if 0 ≤ v1 ∧ v1 < 128 then
      if 0 ≤ (μ 141 v1) ∧ (μ 141 v1) ≤ 65535 then some (.inl (μ 141 v1), μ) else none
      else none
    else
      qT_charAt_j15 μ
def qT_type (μ : zM) (v1 : Int) : Option ((Int ⊕ Nat) × zM) :=
  if (μ 138 1) < 60 then
    Option.bind (qX_append μ 138 v1) fun m1 =>
    some (.inl (m1 138 1), m1)
  else
    some (.inr 3, μ)
def qR_rewind (μ : zM) : Option zM :=
  Option.bind (some (st μ 136 0 0)) fun m1 =>
  Option.bind (some (st m1 136 4 0)) fun m2 =>
  some m2
def qX_hasAt (μ : zM) (t : Nat) (v1 : Int) (v2 : Int) : Option Int :=
  if v1 < 0 then
    some 0
  else
    if v1 < (μ t 1) then
      if 0 ≤ v1 ∧ v1 < 128 then
      if (μ (t + 1) v1) = v2 then
        some 1
      else
        some 0
      else none
    else
      some 0
def qR_readSign (μ : zM) (v2 : Int) : Option zM :=
  Option.bind (qX_hasAt μ 138 (μ 136 0) v2) fun a1 =>
  if a1 = 0 then
    Option.bind (some (st μ 136 4 1)) fun m2 =>
    some m2
  else
    Option.bind (some (st μ 136 0 (wr ((μ 136 0) + 1)))) fun m3 =>
    some m3
def qR_chooseKind_l2 : Nat → zM → Int → Option ((Int ⊕ Unit) × zM)
  | 0, _, _ => none
  | n+1, μ, v2 =>
    if v2 < 8 then
      if 0 ≤ v2 ∧ v2 < 8 then
      if 0 ≤ v2 ∧ v2 < 8 then
      if (0 ≤ v2 ∧ v2 < 8) ∧ (0 : Int) ≤ 0 ∧ 0 < formLen v2 then
      Option.bind (qX_hasAt μ 138 (μ 136 0) (formAt v2 0)) fun a1 =>
      if a1 = 0 then
        qR_chooseKind_l2 n μ (wr (v2 + 1))
      else
        if 0 ≤ v2 ∧ v2 < 8 then
        if 0 ≤ v2 ∧ v2 < 8 then
        Option.bind (some (st μ 136 1 v2)) fun m2 =>
        some (.inl 0, m2)
        else none
        else none
      else none
      else none
      else none
    else
      some (.inr (), μ)
def qR_chooseKind (μ : zM) : Option zM :=
  bndS2 (qR_chooseKind_l2 200 μ 0) (fun (r3 : Int) m3 => some m3) (fun t3 m3 =>
  Option.bind (some (st m3 136 4 1)) fun m4 =>
  some m4
  )
def qX_digitAt (μ : zM) (t : Nat) (v1 : Int) : Option Int :=
  if v1 < 0 then
    some (-1)
  else
    if v1 < (μ t 1) then
      if 0 ≤ v1 ∧ v1 < 128 then
      if (μ (t + 1) v1) < 48 then
        some (-1)
      else
        if 0 ≤ v1 ∧ v1 < 128 then
        if 57 < (μ (t + 1) v1) then
          some (-1)
        else
          if 0 ≤ v1 ∧ v1 < 128 then
          some (wr ((μ (t + 1) v1) - 48))
          else none
        else none
      else none
    else
      some (-1)
def qR_keepValue (μ : zM) (v1 : Int) : Option zM :=
  if (μ 136 3) < 4 then
    if 0 ≤ (μ 136 3) ∧ (μ 136 3) < 4 then
    Option.bind (some (st μ 137 (μ 136 3) v1)) fun m1 =>
    Option.bind (some (st m1 136 3 (wr ((m1 136 3) + 1)))) fun m2 =>
    some m2
    else none
  else
    some μ
def qR_readDigit (μ : zM) : Option zM :=
  Option.bind (qX_digitAt μ 138 (μ 136 0)) fun a1 =>
  if a1 = (-1) then
    Option.bind (some (st μ 136 4 1)) fun m4 =>
    some m4
  else
    Option.bind (some (st μ 136 0 (wr ((μ 136 0) + 1)))) fun m2 =>
    Option.bind (qR_keepValue m2 a1) fun m3 =>
    some m3
def qR_readNumber_j30 (μ : zM) : Option zM :=
  Option.bind (qR_readDigit μ) fun m3 =>
  some m3
def qR_readNumber (μ : zM) : Option zM :=
  Option.bind (qX_digitAt μ 138 (μ 136 0)) fun a1 =>
  Option.bind (qX_digitAt μ 138 (wr ((μ 136 0) + 1))) fun a2 =>
  if a1 = (-1) then
    qR_readNumber_j30 μ
  else
    if a2 = (-1) then
      qR_readNumber_j30 μ
    else
      Option.bind (some (st μ 136 0 (wr ((μ 136 0) + 2)))) fun m4 =>
      Option.bind (qR_keepValue m4 (wr ((wr (10 * a1)) + a2))) fun m5 =>
      some m5
def qR_readPart (μ : zM) (v2 : Int) : Option zM :=
  if v2 = 35 then
    Option.bind (qR_readDigit μ) fun m3 =>
    some m3
  else
    if v2 = 37 then
      Option.bind (qR_readNumber μ) fun m2 =>
      some m2
    else
      Option.bind (qR_readSign μ v2) fun m1 =>
      some m1
def qR_readMonths (μ : zM) : Option zM :=
  Option.bind (qX_hasAt μ 138 (μ 136 0) 32) fun a1 =>
  if a1 = 0 then
    Option.bind (qR_keepValue μ 1) fun m2 =>
    some m2
  else
    Option.bind (some (st μ 136 0 (wr ((μ 136 0) + 1)))) fun m3 =>
    Option.bind (qR_readNumber m3) fun m4 =>
    some m4
def qR_readCommand_l39 (v3 : Int) : Nat → zM → Int → Option zM
  | 0, _, _ => none
  | n+1, μ, v4 =>
    if 0 ≤ v3 ∧ v3 < 8 then
    if v4 < (formLen v3) then
      if (μ 136 4) = 0 then
        if (0 ≤ v3 ∧ v3 < 8) ∧ (0 : Int) ≤ v4 ∧ v4 < formLen v3 then
        Option.bind (qR_readPart μ (formAt v3 v4)) fun m2 =>
        qR_readCommand_l39 v3 n m2 (wr (v4 + 1))
        else none
      else
        some μ
    else
      some μ
    else none
def qR_readCommand_j11 (μ : zM) : Option zM :=
  if (μ 136 4) = 0 then
    Option.bind (qR_chooseKind μ) fun m5 =>
    Option.bind (some (st m5 136 3 0)) fun m6 =>
    if 0 ≤ (m6 136 1) ∧ (m6 136 1) < 8 then
    Option.bind (qR_readCommand_l39 (m6 136 1) 200 m6 0) fun m7 =>
    if 0 ≤ (m7 136 1) ∧ (m7 136 1) < 8 then
    if (m7 136 1) = 7 then
      if (m7 136 4) = 0 then
        Option.bind (qR_readMonths m7) fun m8 =>
        some m8
      else
        some m7
    else
      some m7
    else none
    else none
  else
    Option.bind (some (st μ 136 3 0)) fun m1 =>
    if 0 ≤ (m1 136 1) ∧ (m1 136 1) < 8 then
    Option.bind (qR_readCommand_l39 (m1 136 1) 200 m1 0) fun m3 =>
    if 0 ≤ (m3 136 1) ∧ (m3 136 1) < 8 then
    if (m3 136 1) = 7 then
      if (m3 136 4) = 0 then
        Option.bind (qR_readMonths m3) fun m4 =>
        some m4
      else
        some m3
    else
      some m3
    else none
    else none
def qR_readCommand (μ : zM) (v2 : Int) : Option zM :=
  if 0 < v2 then
    Option.bind (qR_readSign μ 59) fun m9 =>
    qR_readCommand_j11 m9
  else
    qR_readCommand_j11 μ
def qR_countCommands_l6 : Nat → zM → Int → Option ((Int) × zM)
  | 0, _, _ => none
  | n+1, μ, v2 =>
    Option.bind (qR_readCommand μ v2) fun m2 =>
    if (m2 136 4) = 0 then
      if (m2 136 0) < (m2 138 1) then
        if 128 < (wr (v2 + 1)) then
          some ((wr (v2 + 1)), m2)
        else
          qR_countCommands_l6 n m2 (wr (v2 + 1))
      else
        some ((wr (v2 + 1)), m2)
    else
      some ((wr (v2 + 1)), m2)
def qR_countCommands (μ : zM) : Option (Int × zM) :=
  Option.bind (qR_rewind μ) fun m1 =>
  bnd2 (qR_countCommands_l6 200 m1 0) fun t3 m3 =>
  if (m3 136 4) = 0 then
    some (t3, m3)
  else
    some ((-1), m3)
def qT_refusalOfCommand_j56 (μ : zM) : Option Int :=
  Option.bind (qH_refusalOfFlat μ 1 (μ 137 0) (μ 137 1)) fun a1 =>
  some a1
def qT_refusalOfCommand_j70 (μ : zM) : Option Int :=
  Option.bind (qH_refusalOfTenant μ 1 (μ 137 0) (μ 137 1) (μ 137 2) (μ 137 3)) fun a2 =>
  some a2
def qT_refusalOfCommand_j90 (μ : zM) : Option Int :=
  Option.bind (qH_refusalOfMovingIn μ 1 (μ 137 0) (μ 137 1)) fun a3 =>
  some a3
def qT_refusalOfCommand_j104 (μ : zM) : Option Int :=
  Option.bind (qH_refusalOfMovingOut μ 1 (μ 137 0)) fun a4 =>
  some a4
def qT_refusalOfCommand_j115 (μ : zM) : Option Int :=
  Option.bind (qH_refusalOfRent μ 1 (μ 137 0) (μ 137 1)) fun a5 =>
  some a5
def qT_refusalOfCommand_j129 (μ : zM) : Option Int :=
  Option.bind (qH_refusalOfGift μ 1 (μ 137 0) (μ 137 1)) fun a6 =>
  some a6
def qT_refusalOfCommand_j143 (μ : zM) : Option Int :=
  Option.bind (qH_refusalOfMonths μ 1 (μ 137 0)) fun a7 =>
  some a7
def qT_refusalOfCommand (μ : zM) : Option Int :=
  if 0 ≤ (μ 136 1) ∧ (μ 136 1) < 8 then
  if 0 ≤ (μ 136 1) ∧ (μ 136 1) < 8 then
  if (swKind (μ 136 1)) = 1 then
    qT_refusalOfCommand_j56 μ
  else
  if (swKind (μ 136 1)) = 2 then
    qT_refusalOfCommand_j70 μ
  else
  if (swKind (μ 136 1)) = 3 then
    qT_refusalOfCommand_j90 μ
  else
  if (swKind (μ 136 1)) = 4 then
    qT_refusalOfCommand_j104 μ
  else
  if (swKind (μ 136 1)) = 5 then
    qT_refusalOfCommand_j115 μ
  else
  if (swKind (μ 136 1)) = 6 then
    qT_refusalOfCommand_j129 μ
  else
  if (swKind (μ 136 1)) = 7 then
    qT_refusalOfCommand_j143 μ
  else
    some 0
  else none
  else none
def qT_isNextAllowed (μ : zM) (v1 : Int) : Option (Int × zM) :=
  Option.bind (qR_readCommand μ v1) fun m1 =>
  Option.bind (qT_refusalOfCommand m1) fun a2 =>
  if 0 ≤ a2 ∧ a2 < 6 then
  if a2 = 0 then
    some (1, m1)
  else
    some (0, m1)
  else none
def qT_perform_j68 (μ : zM) : Option zM :=
  bnd2 (qH_buildFlat μ 1 (μ 137 0) (μ 137 1)) fun a1 m1 =>
  some m1
def qT_perform_j85 (μ : zM) : Option zM :=
  bnd2 (qH_welcome μ 1 (μ 137 0) (μ 137 1) (μ 137 2) (μ 137 3)) fun a2 m2 =>
  some m2
def qT_perform_j108 (μ : zM) : Option zM :=
  Option.bind (qH_slotOf μ 1 (μ 137 0)) fun a3 =>
  bnd2 (qH_lodge μ 1 a3 (μ 137 1)) fun a4 m4 =>
  some m4
def qT_perform_j132 (μ : zM) : Option zM :=
  Option.bind (qH_slotOf μ 1 (μ 137 0)) fun a5 =>
  bnd2 (qH_leaveHome μ 1 a5) fun a6 m6 =>
  some m6
def qT_perform_j153 (μ : zM) : Option zM :=
  bnd2 (qH_changeRent μ 1 (μ 137 0) (μ 137 1)) fun a7 m7 =>
  some m7
def qT_perform_j170 (μ : zM) : Option zM :=
  Option.bind (qH_slotOf μ 1 (μ 137 0)) fun a8 =>
  bnd2 (qH_receive μ 1 a8 (μ 137 1)) fun a9 m9 =>
  some m9
def qT_perform_j216 (μ : zM) : Option zM :=
  bnd2 (qH_letMonthsPass μ 1 (μ 137 0)) fun a10 m10 =>
  some m10
def qT_perform_j194 (μ : zM) : Option zM :=
  Option.bind (qP_planByAsking μ 1) fun m11 =>
  bnd2 (qH_liveBy m11 1) fun a12 m12 =>
  some m12
def qT_perform (μ : zM) : Option zM :=
  if 0 ≤ (μ 136 1) ∧ (μ 136 1) < 8 then
  if 0 ≤ (μ 136 1) ∧ (μ 136 1) < 8 then
  if (swKind (μ 136 1)) = 1 then
    qT_perform_j68 μ
  else
  if (swKind (μ 136 1)) = 2 then
    qT_perform_j85 μ
  else
  if (swKind (μ 136 1)) = 3 then
    qT_perform_j108 μ
  else
  if (swKind (μ 136 1)) = 4 then
    qT_perform_j132 μ
  else
  if (swKind (μ 136 1)) = 5 then
    qT_perform_j153 μ
  else
  if (swKind (μ 136 1)) = 6 then
    qT_perform_j170 μ
  else
  if (swKind (μ 136 1)) = 7 then
    qT_perform_j216 μ
  else
  if (swKind (μ 136 1)) = 8 then
    qT_perform_j194 μ
  else
    some μ
  else none
  else none
def qT_run_l66 (v1 : Int) : Nat → zM → Int → Option ((Int) × zM)
  | 0, _, _ => none
  | n+1, μ, v2 =>
    if v2 < v1 then
      bnd2 (qT_isNextAllowed μ v2) fun a4 m4 =>
      if a4 = 0 then
        some (v2, m4)
      else
        Option.bind (qT_perform m4) fun m5 =>
        qT_run_l66 v1 n m5 (wr (v2 + 1))
    else
      some (v2, μ)
def qT_run (μ : zM) : Option ((Int ⊕ Nat) × zM) :=
  bnd2 (qR_countCommands μ) fun a1 m1 =>
  if a1 = (-1) then
    Option.bind (some (st m1 0 10 (m1 136 0))) fun m11 =>
    Option.bind (qX_clear m11 138) fun m12 =>
    some (.inr 2, m12)
  else
    Option.bind (qH_copyFrom m1 11 1) fun m2 =>
    Option.bind (qR_rewind m2) fun m3 =>
    bnd2 (qT_run_l66 a1 200 m3 0) fun t6 m6 =>
    Option.bind (qX_clear m6 138) fun m7 =>
    if t6 < a1 then
      Option.bind (qH_copyFrom m7 1 11) fun m9 =>
      Option.bind (some (st m9 0 11 t6)) fun m10 =>
      some (.inr 4, m10)
    else
      Option.bind (qY_push m7 11) fun m8 =>
      some (.inl a1, m8)
def qT_errorPosition (μ : zM) : Option ((Int ⊕ Nat) × zM) :=
  if (μ 0 10) = (-1) then
    some (.inr 0, μ)
  else
    some (.inl (μ 0 10), μ)
def qT_failedCommand (μ : zM) : Option ((Int ⊕ Nat) × zM) :=
  if (μ 0 11) = (-1) then
    some (.inr 0, μ)
  else
    some (.inl (μ 0 11), μ)
def qY_popInto (μ : zM) (v1 : Nat) : Option zM :=
  if 0 < (μ 31 2) then
    Option.bind (some (st μ 31 2 (wr ((μ 31 2) - 1)))) fun m1 =>
    if 0 ≤ (Int.tmod (wr ((m1 31 1) + (m1 31 2))) 8) ∧ (Int.tmod (wr ((m1 31 1) + (m1 31 2))) 8) < 8 then
    Option.bind (qH_copyFrom m1 v1 (33 + 10 * Int.toNat (Int.tmod (wr ((m1 31 1) + (m1 31 2))) 8))) fun m2 =>
    some m2
    else none
  else
    some μ
def qT_undo (μ : zM) : Option ((Int ⊕ Nat) × zM) :=
  if (μ 31 2) = 0 then
    some (.inr 3, μ)
  else
    Option.bind (qY_popInto μ 1) fun m1 =>
    some (.inl (m1 31 2), m1)
def qT_save (μ : zM) : Option (Int × zM) :=
  Option.bind (qH_copyFrom μ 21 1) fun m1 =>
  Option.bind (some (st m1 0 9 1)) fun m2 =>
  some ((m2 21 3), m2)
def qY_forget (μ : zM) : Option zM :=
  Option.bind (some (st μ 31 2 0)) fun m1 =>
  some m1
def qT_restore (μ : zM) : Option ((Int ⊕ Nat) × zM) :=
  if (μ 0 9) = 0 then
    some (.inr 3, μ)
  else
    Option.bind (qH_copyFrom μ 1 21) fun m1 =>
    Option.bind (qY_forget m1) fun m2 =>
    some (.inl (m2 1 3), m2)
def qM_thrown (μ : zM) : Option Int :=
  some (μ 142 0)
def qM_fails (μ : zM) (v1 : Int) : Option (Int × zM) :=
  Option.bind (some (st μ 142 0 v1)) fun m1 =>
  some (0, m1)
def qM_isBetween (μ : zM) (v0 : Int) (v1 : Int) (v2 : Int) : Option Int :=
  if v0 < v1 then
    some 0
  else
    if v2 < v0 then
      some 0
    else
      some 1
def qM_copies_l2 : Nat → zM → Int → Option zM
  | 0, _, _ => none
  | n+1, μ, v1 =>
    if v1 < 62 then
      if 0 ≤ v1 ∧ v1 < 62 then
      if 0 ≤ v1 ∧ v1 < 62 then
      Option.bind (some (st μ 146 v1 (μ 143 v1))) fun m1 =>
      qM_copies_l2 n m1 (wr (v1 + 1))
      else none
      else none
    else
      some μ
def qM_copies (μ : zM) : Option zM :=
  Option.bind (qM_copies_l2 200 μ 0) fun m2 =>
  some m2
def qM_goesBack_l2 : Nat → zM → Int → Option zM
  | 0, _, _ => none
  | n+1, μ, v1 =>
    if v1 < 62 then
      if 0 ≤ v1 ∧ v1 < 62 then
      if 0 ≤ v1 ∧ v1 < 62 then
      Option.bind (some (st μ 143 v1 (μ 146 v1))) fun m1 =>
      qM_goesBack_l2 n m1 (wr (v1 + 1))
      else none
      else none
    else
      some μ
def qM_goesBack (μ : zM) : Option zM :=
  Option.bind (qM_goesBack_l2 200 μ 0) fun m2 =>
  some m2
def qM_keeps_l47 (v1 : Int) : Nat → zM → Int → Option zM
  | 0, _, _ => none
  | n+1, μ, v2 =>
    if v2 < 62 then
      if 0 ≤ v2 ∧ v2 < 62 then
      if 0 ≤ (wr ((wr (62 * v1)) + v2)) ∧ (wr ((wr (62 * v1)) + v2)) < 496 then
      Option.bind (some (st μ 144 (wr ((wr (62 * v1)) + v2)) (μ 146 v2))) fun m1 =>
      qM_keeps_l47 v1 n m1 (wr (v2 + 1))
      else none
      else none
    else
      some μ
def qM_keeps_j32 (μ : zM) : Option zM :=
  Option.bind (qM_keeps_l47 (Int.tmod (wr ((μ 142 7) + (μ 142 6))) 8) 200 μ 0) fun m2 =>
  Option.bind (some (st m2 142 6 (wr ((m2 142 6) + 1)))) fun m3 =>
  some m3
def qM_keeps (μ : zM) : Option zM :=
  if (μ 142 6) = 8 then
    Option.bind (some (st μ 142 7 (Int.tmod (wr ((μ 142 7) + 1)) 8))) fun m4 =>
    Option.bind (some (st m4 142 6 (wr ((m4 142 6) - 1)))) fun m5 =>
    qM_keeps_j32 m5
  else
    qM_keeps_j32 μ
def qM_remembers (μ : zM) : Option zM :=
  Option.bind (qM_copies μ) fun m1 =>
  Option.bind (qM_keeps m1) fun m2 =>
  some m2
def qM_looksAhead_l2 : Nat → zM → Int → Option zM
  | 0, _, _ => none
  | n+1, μ, v1 =>
    if v1 < 62 then
      if 0 ≤ v1 ∧ v1 < 62 then
      if 0 ≤ v1 ∧ v1 < 62 then
      Option.bind (some (st μ 147 v1 (μ 143 v1))) fun m1 =>
      qM_looksAhead_l2 n m1 (wr (v1 + 1))
      else none
      else none
    else
      some μ
def qM_looksAhead (μ : zM) : Option zM :=
  Option.bind (qM_looksAhead_l2 200 μ 0) fun m2 =>
  some m2
def qM_comesBack_l2 : Nat → zM → Int → Option zM
  | 0, _, _ => none
  | n+1, μ, v1 =>
    if v1 < 62 then
      if 0 ≤ v1 ∧ v1 < 62 then
      if 0 ≤ v1 ∧ v1 < 62 then
      Option.bind (some (st μ 143 v1 (μ 147 v1))) fun m1 =>
      qM_comesBack_l2 n m1 (wr (v1 + 1))
      else none
      else none
    else
      some μ
def qM_comesBack (μ : zM) : Option zM :=
  Option.bind (qM_comesBack_l2 200 μ 0) fun m2 =>
  some m2
def qM_isFlat (μ : zM) (v1 : Int) : Option Int :=
  Option.bind (qM_isBetween μ v1 0 (wr ((μ 143 0) - 1))) fun a1 =>
  if 0 ≤ a1 ∧ a1 < 2 then some a1 else none
def qM_flat (μ : zM) (v1 : Int) (v2 : Int) : Option Int :=
  if 0 ≤ (wr ((wr (8 + (wr (2 * v1)))) + v2)) ∧ (wr ((wr (8 + (wr (2 * v1)))) + v2)) < 62 then
  some (μ 143 (wr ((wr (8 + (wr (2 * v1)))) + v2)))
  else none
def qM_of (μ : zM) (v1 : Int) (v2 : Int) : Option Int :=
  if 0 ≤ (wr ((wr (20 + (wr (7 * v1)))) + v2)) ∧ (wr ((wr (20 + (wr (7 * v1)))) + v2)) < 62 then
  some (μ 143 (wr ((wr (20 + (wr (7 * v1)))) + v2)))
  else none
def qM_puts (μ : zM) (v1 : Int) (v2 : Int) (v3 : Int) : Option zM :=
  if 0 ≤ (wr ((wr (20 + (wr (7 * v1)))) + v2)) ∧ (wr ((wr (20 + (wr (7 * v1)))) + v2)) < 62 then
  Option.bind (some (st μ 143 (wr ((wr (20 + (wr (7 * v1)))) + v2)) v3)) fun m1 =>
  some m1
  else none
def qM_place_l2 (μ : zM) (v1 : Int) : Nat → Int → Option (Int ⊕ Unit)
  | 0, _ => none
  | n+1, v2 =>
    if v2 < (μ 143 1) then
      Option.bind (qM_of μ v2 0) fun a1 =>
      if a1 = v1 then
        some (.inl v2)
      else
        qM_place_l2 μ v1 n (wr (v2 + 1))
    else
      some (.inr ())
def qM_place (μ : zM) (v1 : Int) : Option Int :=
  bndS (qM_place_l2 μ v1 200 0) (fun (r2 : Int) => some r2) (fun t2 =>
  some (-1)
  )
def qM_occupant_l2 (μ : zM) (v1 : Int) : Nat → Int → Option (Int ⊕ Unit)
  | 0, _ => none
  | n+1, v2 =>
    if v2 < (μ 143 1) then
      Option.bind (qM_of μ v2 6) fun a1 =>
      if a1 = (wr (v1 + 1)) then
        some (.inl v2)
      else
        qM_occupant_l2 μ v1 n (wr (v2 + 1))
    else
      some (.inr ())
def qM_occupant (μ : zM) (v1 : Int) : Option Int :=
  bndS (qM_occupant_l2 μ v1 200 0) (fun (r2 : Int) => some r2) (fun t2 =>
  some (-1)
  )
def qM_burdenOf (μ : zM) (v1 : Int) (v2 : Int) : Option Int :=
  Option.bind (qM_flat μ v2 0) fun a1 =>
  Option.bind (qM_of μ v1 2) fun a2 =>
  Option.bind (qM_flat μ v2 1) fun a3 =>
  if (wr (a1 - a2)) < 0 then
    some (wr (a3 + (wr (3 * (wr (-(wr (a1 - a2))))))))
  else
    some (wr (a3 + (wr (3 * (wr (a1 - a2))))))
def qM_affords (μ : zM) (v1 : Int) (v2 : Int) : Option Int :=
  Option.bind (qM_flat μ v2 1) fun a1 =>
  Option.bind (qM_of μ v1 4) fun a2 =>
  if a2 < a1 then
    some 0
  else
    some 1
def qM_prefers (μ : zM) (v1 : Int) (v2 : Int) (v3 : Int) : Option Int :=
  if v3 < 0 then
    some 1
  else
    Option.bind (qM_burdenOf μ v1 v3) fun a1 =>
    Option.bind (qM_burdenOf μ v1 v2) fun a2 =>
    if 0 < (wr (a1 - a2)) then
      some 1
    else
      if (wr (a1 - a2)) = 0 then
        if v2 < v3 then
          some 1
        else
          some 0
      else
        some 0
def qM_isPreferred (μ : zM) (v1 : Int) (v2 : Int) : Option Int :=
  Option.bind (qM_of μ v2 1) fun a1 =>
  Option.bind (qM_of μ v1 1) fun a2 =>
  if 0 < (wr (a1 - a2)) then
    some 1
  else
    if (wr (a1 - a2)) = 0 then
      Option.bind (qM_of μ v1 0) fun a3 =>
      Option.bind (qM_of μ v2 0) fun a4 =>
      if a3 < a4 then
        some 1
      else
        some 0
    else
      some 0
def qM_notFlat (μ : zM) (v1 : Int) (v2 : Int) : Option Int :=
  Option.bind (qM_isBetween μ v1 0 5) fun a1 =>
  if a1 = 0 then
    some 1
  else
    Option.bind (qM_isBetween μ v2 1 99) fun a2 =>
    if a2 = 0 then
      some 1
    else
      if (μ 143 0) = 6 then
        some 2
      else
        some 0
def qM_addsFlat (μ : zM) (v1 : Int) (v2 : Int) : Option (Int × zM) :=
  Option.bind (some (st μ 143 0 (wr ((μ 143 0) + 1)))) fun m1 =>
  if 0 ≤ (wr ((wr (8 + (wr (2 * (μ 143 0))))) + 0)) ∧ (wr ((wr (8 + (wr (2 * (μ 143 0))))) + 0)) < 62 then
  Option.bind (some (st m1 143 (wr ((wr (8 + (wr (2 * (μ 143 0))))) + 0)) v1)) fun m2 =>
  if 0 ≤ (wr ((wr (8 + (wr (2 * (μ 143 0))))) + 1)) ∧ (wr ((wr (8 + (wr (2 * (μ 143 0))))) + 1)) < 62 then
  Option.bind (some (st m2 143 (wr ((wr (8 + (wr (2 * (μ 143 0))))) + 1)) v2)) fun m3 =>
  some ((μ 143 0), m3)
  else none
  else none
def qM_addFlat (μ : zM) (v1 : Int) (v2 : Int) : Option (Int × zM) :=
  Option.bind (some (st μ 142 0 0)) fun m1 =>
  Option.bind (qM_notFlat m1 v1 v2) fun a2 =>
  if a2 = 0 then
    Option.bind (qM_remembers m1) fun m3 =>
    bnd2 (qM_addsFlat m3 v1 v2) fun a4 m4 =>
    some (a4, m4)
  else
    bnd2 (qM_fails m1 a2) fun a5 m5 =>
    some (a5, m5)
def qM_notTenant (μ : zM) (v1 : Int) (v2 : Int) (v3 : Int) (v4 : Int) : Option Int :=
  Option.bind (qM_isBetween μ v1 1 50) fun a1 =>
  if a1 = 0 then
    some 1
  else
    Option.bind (qM_isBetween μ v2 0 5) fun a2 =>
    if a2 = 0 then
      some 1
    else
      Option.bind (qM_isBetween μ v3 1 40) fun a3 =>
      if a3 = 0 then
        some 1
      else
        Option.bind (qM_isBetween μ v4 0 99) fun a4 =>
        if a4 = 0 then
          some 1
        else
          if (μ 143 1) = 6 then
            some 2
          else
            some 0
def qM_addsTenant (μ : zM) (v1 : Int) (v2 : Int) (v3 : Int) (v4 : Int) : Option (Int × zM) :=
  Option.bind (some (st μ 143 1 (wr ((μ 143 1) + 1)))) fun m1 =>
  Option.bind (qM_puts m1 (μ 143 1) 0 (m1 143 2)) fun m2 =>
  Option.bind (qM_puts m2 (μ 143 1) 1 v1) fun m3 =>
  Option.bind (qM_puts m3 (μ 143 1) 2 v2) fun m4 =>
  Option.bind (qM_puts m4 (μ 143 1) 3 v3) fun m5 =>
  Option.bind (qM_puts m5 (μ 143 1) 4 v4) fun m6 =>
  Option.bind (qM_puts m6 (μ 143 1) 5 0) fun m7 =>
  Option.bind (qM_puts m7 (μ 143 1) 6 0) fun m8 =>
  Option.bind (some (st m8 143 7 (wr ((m8 143 7) + v4)))) fun m9 =>
  Option.bind (some (st m9 143 2 (wr ((m9 143 2) + 1)))) fun m10 =>
  some ((wr ((m10 143 2) - 1)), m10)
def qM_addTenant (μ : zM) (v1 : Int) (v2 : Int) (v3 : Int) (v4 : Int) : Option (Int × zM) :=
  Option.bind (some (st μ 142 0 0)) fun m1 =>
  Option.bind (qM_notTenant m1 v1 v2 v3 v4) fun a2 =>
  if a2 = 0 then
    Option.bind (qM_remembers m1) fun m3 =>
    bnd2 (qM_addsTenant m3 v1 v2 v3 v4) fun a4 m4 =>
    some (a4, m4)
  else
    bnd2 (qM_fails m1 a2) fun a5 m5 =>
    some (a5, m5)
def qM_removeTenant_l89 (v3 : Int) : Nat → zM → Int → Option zM
  | 0, _, _ => none
  | n+1, μ, v4 =>
    if v4 < v3 then
      if 0 ≤ (wr (v4 + 7)) ∧ (wr (v4 + 7)) < 62 then
      if 0 ≤ v4 ∧ v4 < 62 then
      Option.bind (some (st μ 143 v4 (μ 143 (wr (v4 + 7))))) fun m8 =>
      qM_removeTenant_l89 v3 n m8 (wr (v4 + 1))
      else none
      else none
    else
      some μ
def qM_removeTenant_l121 (v3 : Int) : Nat → zM → Int → Option zM
  | 0, _, _ => none
  | n+1, μ, v4 =>
    if v4 < 7 then
      if 0 ≤ (wr (v3 + v4)) ∧ (wr (v3 + v4)) < 62 then
      Option.bind (some (st μ 143 (wr (v3 + v4)) 0)) fun m10 =>
      qM_removeTenant_l121 v3 n m10 (wr (v4 + 1))
      else none
    else
      some μ
def qM_removeTenant (μ : zM) (v1 : Int) : Option (Int × zM) :=
  Option.bind (some (st μ 142 0 0)) fun m1 =>
  Option.bind (qM_place m1 v1) fun a2 =>
  if a2 < 0 then
    bnd2 (qM_fails m1 1) fun a13 m13 =>
    some (a13, m13)
  else
    Option.bind (qM_of m1 a2 6) fun a3 =>
    if 0 < a3 then
      bnd2 (qM_fails m1 2) fun a12 m12 =>
      some (a12, m12)
    else
      Option.bind (qM_remembers m1) fun m4 =>
      Option.bind (qM_of m4 a2 4) fun a5 =>
      Option.bind (some (st m4 143 6 (wr ((m4 143 6) + a5)))) fun m6 =>
      Option.bind (some (st m6 143 1 (wr ((m6 143 1) - 1)))) fun m7 =>
      Option.bind (qM_removeTenant_l89 (wr (20 + (wr (7 * (m7 143 1))))) 200 m7 (wr (20 + (wr (7 * a2))))) fun m9 =>
      Option.bind (qM_removeTenant_l121 (wr (20 + (wr (7 * (m7 143 1))))) 200 m9 0) fun m11 =>
      some ((m11 143 1), m11)
def qM_notIn (μ : zM) (v1 : Int) (v2 : Int) : Option Int :=
  Option.bind (qM_place μ v1) fun a1 =>
  if a1 < 0 then
    some 1
  else
    Option.bind (qM_isFlat μ v2) fun a2 =>
    if a2 = 0 then
      some 2
    else
      Option.bind (qM_of μ a1 6) fun a3 =>
      if 0 < a3 then
        some 3
      else
        Option.bind (qM_occupant μ v2) fun a4 =>
        if a4 < 0 then
          Option.bind (qM_affords μ a1 v2) fun a5 =>
          if a5 = 0 then
            some 4
          else
            some 0
        else
          some 3
def qM_movesIn (μ : zM) (v1 : Int) (v2 : Int) : Option (Int × zM) :=
  Option.bind (qM_place μ v1) fun a1 =>
  Option.bind (qM_puts μ a1 6 (wr (v2 + 1))) fun m2 =>
  Option.bind (qM_place m2 v1) fun a3 =>
  Option.bind (qM_burdenOf m2 a3 v2) fun a4 =>
  some (a4, m2)
def qM_moveIn (μ : zM) (v1 : Int) (v2 : Int) : Option (Int × zM) :=
  Option.bind (some (st μ 142 0 0)) fun m1 =>
  Option.bind (qM_notIn m1 v1 v2) fun a2 =>
  if a2 = 0 then
    Option.bind (qM_remembers m1) fun m3 =>
    bnd2 (qM_movesIn m3 v1 v2) fun a4 m4 =>
    some (a4, m4)
  else
    bnd2 (qM_fails m1 a2) fun a5 m5 =>
    some (a5, m5)
def qM_candidate_l5 (μ : zM) (v1 : Int) (v2 : Int) : Nat → Int → Int → Option (Int)
  | 0, _, _ => none
  | n+1, v3, v4 =>
    if v4 < (μ 143 1) then
      if v4 = v2 then
        qM_candidate_l5 μ v1 v2 n v3 (wr (v4 + 1))
      else
        Option.bind (qM_affords μ v4 v1) fun a1 =>
        if a1 = 0 then
          qM_candidate_l5 μ v1 v2 n v3 (wr (v4 + 1))
        else
          Option.bind (qM_of μ v4 6) fun a2 =>
          Option.bind (qM_prefers μ v4 v1 (wr (a2 - 1))) fun a3 =>
          if a3 = 0 then
            qM_candidate_l5 μ v1 v2 n v3 (wr (v4 + 1))
          else
            if v3 < 0 then
              qM_candidate_l5 μ v1 v2 n v4 (wr (v4 + 1))
            else
              Option.bind (qM_isPreferred μ v4 v3) fun a4 =>
              if a4 = 0 then
                qM_candidate_l5 μ v1 v2 n v3 (wr (v4 + 1))
              else
                qM_candidate_l5 μ v1 v2 n v4 (wr (v4 + 1))
    else
      some (v3)
def qM_candidate (μ : zM) (v1 : Int) (v2 : Int) : Option Int :=
  Option.bind (qM_candidate_l5 μ v1 v2 200 (-1) 0) fun t5 =>
  some t5
def qM_leaves_l27 (v1 : Int) : Nat → zM → Int → Int → Option ((Int ⊕ Int) × zM)
  | 0, _, _, _ => none
  | n+1, μ, v2, v3 =>
    if v2 < 0 then
      some (.inr v3, μ)
    else
      Option.bind (qM_candidate μ v2 v1) fun a4 =>
      if a4 < 0 then
        some (.inl v3, μ)
      else
        Option.bind (qM_of μ a4 6) fun a5 =>
        Option.bind (qM_puts μ a4 6 (wr (v2 + 1))) fun m6 =>
        qM_leaves_l27 v1 n m6 (wr (a5 - 1)) (wr (v3 + 1))
def qM_leaves (μ : zM) (v1 : Int) : Option (Int × zM) :=
  Option.bind (qM_of μ v1 6) fun a1 =>
  Option.bind (qM_puts μ v1 6 0) fun m2 =>
  Option.bind (qM_puts m2 v1 5 0) fun m3 =>
  bndS2 (qM_leaves_l27 v1 200 m3 (wr (a1 - 1)) 0) (fun (r7 : Int) m7 => some (r7, m7)) (fun t7 m7 =>
  some (t7, m7)
  )
def qM_notOut (μ : zM) (v1 : Int) : Option Int :=
  Option.bind (qM_place μ v1) fun a1 =>
  if a1 < 0 then
    some 1
  else
    Option.bind (qM_of μ a1 6) fun a2 =>
    if a2 = 0 then
      some 2
    else
      some 0
def qM_moveOut (μ : zM) (v1 : Int) : Option (Int × zM) :=
  Option.bind (some (st μ 142 0 0)) fun m1 =>
  Option.bind (qM_notOut m1 v1) fun a2 =>
  if a2 = 0 then
    Option.bind (qM_remembers m1) fun m3 =>
    Option.bind (qM_place m3 v1) fun a4 =>
    bnd2 (qM_leaves m3 a4) fun a5 m5 =>
    some (a5, m5)
  else
    bnd2 (qM_fails m1 a2) fun a6 m6 =>
    some (a6, m6)
def qM_notRent (μ : zM) (v1 : Int) (v2 : Int) : Option Int :=
  Option.bind (qM_isFlat μ v1) fun a1 =>
  if a1 = 0 then
    some 1
  else
    Option.bind (qM_isBetween μ v2 1 99) fun a2 =>
    if a2 = 0 then
      some 2
    else
      some 0
def qM_setsRent (μ : zM) (v1 : Int) (v2 : Int) : Option (Int × zM) :=
  Option.bind (qM_flat μ v1 1) fun a1 =>
  if 0 ≤ (wr ((wr (8 + (wr (2 * v1)))) + 1)) ∧ (wr ((wr (8 + (wr (2 * v1)))) + 1)) < 62 then
  Option.bind (some (st μ 143 (wr ((wr (8 + (wr (2 * v1)))) + 1)) v2)) fun m2 =>
  some (a1, m2)
  else none
def qM_setRent (μ : zM) (v1 : Int) (v2 : Int) : Option (Int × zM) :=
  Option.bind (some (st μ 142 0 0)) fun m1 =>
  Option.bind (qM_notRent m1 v1 v2) fun a2 =>
  if a2 = 0 then
    Option.bind (qM_remembers m1) fun m3 =>
    bnd2 (qM_setsRent m3 v1 v2) fun a4 m4 =>
    some (a4, m4)
  else
    bnd2 (qM_fails m1 a2) fun a5 m5 =>
    some (a5, m5)
def qM_notGive (μ : zM) (v1 : Int) (v2 : Int) : Option Int :=
  Option.bind (qM_place μ v1) fun a1 =>
  if a1 < 0 then
    some 1
  else
    Option.bind (qM_isBetween μ v2 1 99) fun a2 =>
    if a2 = 0 then
      some 2
    else
      some 0
def qM_gives (μ : zM) (v1 : Int) (v2 : Int) : Option (Int × zM) :=
  Option.bind (qM_place μ v1) fun a1 =>
  Option.bind (qM_of μ a1 4) fun a2 =>
  Option.bind (qM_puts μ a1 4 (wr (a2 + v2))) fun m3 =>
  Option.bind (some (st m3 143 7 (wr ((m3 143 7) + v2)))) fun m4 =>
  Option.bind (qM_of m4 a1 4) fun a5 =>
  some (a5, m4)
def qM_give (μ : zM) (v1 : Int) (v2 : Int) : Option (Int × zM) :=
  Option.bind (some (st μ 142 0 0)) fun m1 =>
  Option.bind (qM_notGive m1 v1 v2) fun a2 =>
  if a2 = 0 then
    Option.bind (qM_remembers m1) fun m3 =>
    bnd2 (qM_gives m3 v1 v2) fun a4 m4 =>
    some (a4, m4)
  else
    bnd2 (qM_fails m1 a2) fun a5 m5 =>
    some (a5, m5)
def qM_flatAt_l18 (μ : zM) (v1 : Int) (v2 : Int) (v3 : Int) : Nat → Int → Int → Option (Int)
  | 0, _, _ => none
  | n+1, v4, v5 =>
    if v5 < (μ 143 0) then
      if v5 = v3 then
        qM_flatAt_l18 μ v1 v2 v3 n (wr (v4 + 0)) (wr (v5 + 1))
      else
        Option.bind (qM_prefers μ v1 v5 v3) fun a1 =>
        if a1 = 0 then
          qM_flatAt_l18 μ v1 v2 v3 n (wr (v4 + 0)) (wr (v5 + 1))
        else
          qM_flatAt_l18 μ v1 v2 v3 n (wr (v4 + 1)) (wr (v5 + 1))
    else
      some (v4)
def qM_flatAt_l2 (μ : zM) (v1 : Int) (v2 : Int) : Nat → Int → Option (Int ⊕ Unit)
  | 0, _ => none
  | n+1, v3 =>
    if v3 < (μ 143 0) then
      Option.bind (qM_flatAt_l18 μ v1 v2 v3 200 0 0) fun t2 =>
      if t2 = v2 then
        some (.inl v3)
      else
        qM_flatAt_l2 μ v1 v2 n (wr (v3 + 1))
    else
      some (.inr ())
def qM_flatAt (μ : zM) (v1 : Int) (v2 : Int) : Option Int :=
  bndS (qM_flatAt_l2 μ v1 v2 200 0) (fun (r3 : Int) => some r3) (fun t3 =>
  some (-1)
  )
def qM_plannedIn_l2 (μ : zM) (v1 : Int) : Nat → Int → Option (Int ⊕ Unit)
  | 0, _ => none
  | n+1, v2 =>
    if v2 < (μ 143 1) then
      if 0 ≤ v2 ∧ v2 < 6 then
      if (μ 148 v2) = v1 then
        some (.inl v2)
      else
        qM_plannedIn_l2 μ v1 n (wr (v2 + 1))
      else none
    else
      some (.inr ())
def qM_plannedIn (μ : zM) (v1 : Int) : Option Int :=
  bndS (qM_plannedIn_l2 μ v1 200 0) (fun (r1 : Int) => some r1) (fun t1 =>
  some (-1)
  )
def qM_asks_j91 (μ : zM) (v1 : Int) (v2 : Int) : Option (Int × zM) :=
  if 0 ≤ v1 ∧ v1 < 6 then
  Option.bind (some (st μ 148 v1 v2)) fun m5 =>
  some (1, m5)
  else none
def qM_asks_j80 (μ : zM) (v1 : Int) (v2 : Int) (v3 : Int) : Option (Int × zM) :=
  if v3 < 0 then
    qM_asks_j91 μ v1 v2
  else
    if 0 ≤ v3 ∧ v3 < 6 then
    Option.bind (some (st μ 148 v3 (-1))) fun m6 =>
    qM_asks_j91 m6 v1 v2
    else none
def qM_asks (μ : zM) (v1 : Int) : Option (Int × zM) :=
  if 0 ≤ v1 ∧ v1 < 6 then
  if (μ 148 v1) < 0 then
    if 0 ≤ v1 ∧ v1 < 6 then
    if (μ 149 v1) = (μ 143 0) then
      some (0, μ)
    else
      if 0 ≤ v1 ∧ v1 < 6 then
      Option.bind (qM_flatAt μ v1 (μ 149 v1)) fun a1 =>
      if 0 ≤ v1 ∧ v1 < 6 then
      if 0 ≤ v1 ∧ v1 < 6 then
      Option.bind (some (st μ 149 v1 (wr ((μ 149 v1) + 1)))) fun m2 =>
      Option.bind (qM_affords m2 v1 a1) fun a3 =>
      if a3 = 0 then
        some (1, m2)
      else
        Option.bind (qM_plannedIn m2 a1) fun a4 =>
        if a4 < 0 then
          qM_asks_j80 m2 v1 a1 a4
        else
          Option.bind (qM_isPreferred m2 a4 v1) fun a7 =>
          if a7 = 0 then
            qM_asks_j80 m2 v1 a1 a4
          else
            some (1, m2)
      else none
      else none
      else none
    else none
  else
    some (0, μ)
  else none
def qM_findsPlan_l2 : Nat → zM → Int → Option zM
  | 0, _, _ => none
  | n+1, μ, v1 =>
    if v1 < 6 then
      if 0 ≤ v1 ∧ v1 < 6 then
      Option.bind (some (st μ 148 v1 (-1))) fun m1 =>
      if 0 ≤ v1 ∧ v1 < 6 then
      Option.bind (some (st m1 149 v1 0)) fun m2 =>
      qM_findsPlan_l2 n m2 (wr (v1 + 1))
      else none
      else none
    else
      some μ
def qM_findsPlan_l38 : Nat → zM → Int → Int → Option ((Int) × zM)
  | 0, _, _, _ => none
  | n+1, μ, v1, v2 =>
    if v2 < (μ 143 1) then
      bnd2 (qM_asks μ v2) fun a4 m4 =>
      if a4 = 0 then
        if v1 = 0 then
          qM_findsPlan_l38 n m4 0 (wr (v2 + 1))
        else
          qM_findsPlan_l38 n m4 1 (wr (v2 + 1))
      else
        qM_findsPlan_l38 n m4 1 (wr (v2 + 1))
    else
      some (v1, μ)
def qM_findsPlan_l30 : Nat → zM → Int → Option zM
  | 0, _, _ => none
  | n+1, μ, v1 =>
    if v1 = 0 then
      some μ
    else
      bnd2 (qM_findsPlan_l38 200 μ 0 0) fun t5 m5 =>
      qM_findsPlan_l30 n m5 t5
def qM_findsPlan (μ : zM) : Option zM :=
  Option.bind (qM_findsPlan_l2 200 μ 0) fun m3 =>
  Option.bind (qM_findsPlan_l30 200 m3 1) fun m6 =>
  some m6
def qM_isPlan_l2 (μ : zM) : Nat → Int → Option (Int ⊕ Unit)
  | 0, _ => none
  | n+1, v1 =>
    if v1 < (μ 143 1) then
      if 0 ≤ v1 ∧ v1 < 6 then
      if (μ 148 v1) < 0 then
        qM_isPlan_l2 μ n (wr (v1 + 1))
      else
        if 0 ≤ v1 ∧ v1 < 6 then
        if (μ 148 v1) < (μ 143 0) then
          if 0 ≤ v1 ∧ v1 < 6 then
          Option.bind (qM_affords μ v1 (μ 148 v1)) fun a1 =>
          if a1 = 0 then
            some (.inl 0)
          else
            if 0 ≤ v1 ∧ v1 < 6 then
            Option.bind (qM_plannedIn μ (μ 148 v1)) fun a2 =>
            if a2 = v1 then
              qM_isPlan_l2 μ n (wr (v1 + 1))
            else
              some (.inl 0)
            else none
          else none
        else
          some (.inl 0)
        else none
      else none
    else
      some (.inr ())
def qM_isPlan (μ : zM) : Option Int :=
  bndS (qM_isPlan_l2 μ 200 0) (fun (r3 : Int) => some r3) (fun t3 =>
  some 1
  )
def qM_isStablePlan_l23 (μ : zM) (v1 : Int) : Nat → Int → Option (Int ⊕ Unit)
  | 0, _ => none
  | n+1, v2 =>
    if v2 < (μ 143 0) then
      if 0 ≤ v1 ∧ v1 < 6 then
      if v2 = (μ 148 v1) then
        qM_isStablePlan_l23 μ v1 n (wr (v2 + 1))
      else
        Option.bind (qM_affords μ v1 v2) fun a2 =>
        if a2 = 0 then
          qM_isStablePlan_l23 μ v1 n (wr (v2 + 1))
        else
          if 0 ≤ v1 ∧ v1 < 6 then
          Option.bind (qM_prefers μ v1 v2 (μ 148 v1)) fun a3 =>
          if a3 = 0 then
            qM_isStablePlan_l23 μ v1 n (wr (v2 + 1))
          else
            Option.bind (qM_plannedIn μ v2) fun a4 =>
            if a4 < 0 then
              some (.inl 0)
            else
              Option.bind (qM_isPreferred μ v1 a4) fun a5 =>
              if a5 = 0 then
                qM_isStablePlan_l23 μ v1 n (wr (v2 + 1))
              else
                some (.inl 0)
          else none
      else none
    else
      some (.inr ())
def qM_isStablePlan_l11 (μ : zM) : Nat → Int → Option (Int ⊕ Unit)
  | 0, _ => none
  | n+1, v1 =>
    if v1 < (μ 143 1) then
      bndS (qM_isStablePlan_l23 μ v1 200 0) (fun (r6 : Int) => some (.inl r6)) (fun t6 =>
      qM_isStablePlan_l11 μ n (wr (v1 + 1))
      )
    else
      some (.inr ())
def qM_isStablePlan (μ : zM) : Option Int :=
  Option.bind (qM_isPlan μ) fun a1 =>
  if a1 = 0 then
    some 0
  else
    bndS (qM_isStablePlan_l11 μ 200 0) (fun (r7 : Int) => some r7) (fun t7 =>
    some 1
    )
def qM_settles_j42 (rec : zM → Int → Int → Option ((Int) × zM)) (μ : zM) (v2 : Int) (s0 : Int) (s1 : Int) : Option ((Int) × zM) :=
  if 0 ≤ v2 ∧ v2 < 6 then
  Option.bind (qM_puts μ v2 6 (wr ((μ 148 v2) + 1))) fun m3 =>
  rec m3 (wr (s0 + s1)) (wr (v2 + 1))
  else none
def qM_settles_l8 : Nat → zM → Int → Int → Option ((Int) × zM)
  | 0, _, _, _ => none
  | n+1, μ, v1, v2 =>
    if v2 < (μ 143 1) then
      Option.bind (qM_of μ v2 6) fun a2 =>
      if 0 ≤ v2 ∧ v2 < 6 then
      if a2 = (wr ((μ 148 v2) + 1)) then
        qM_settles_j42 (qM_settles_l8 n) μ v2 v1 0
      else
        qM_settles_j42 (qM_settles_l8 n) μ v2 v1 1
      else none
    else
      some (v1, μ)
def qM_settles (μ : zM) : Option (Int × zM) :=
  Option.bind (qM_findsPlan μ) fun m1 =>
  bnd2 (qM_settles_l8 200 m1 0 0) fun t4 m4 =>
  some (t4, m4)
def qM_settle (μ : zM) : Option (Int × zM) :=
  Option.bind (some (st μ 142 0 0)) fun m1 =>
  Option.bind (qM_remembers m1) fun m2 =>
  bnd2 (qM_settles m2) fun a3 m3 =>
  some (a3, m3)
def qM_goes (μ : zM) (v1 : Int) : Option (Int × zM) :=
  Option.bind (qM_of μ v1 4) fun a1 =>
  Option.bind (qM_of μ v1 3) fun a2 =>
  Option.bind (qM_puts μ v1 4 (wr (a1 + a2))) fun m3 =>
  Option.bind (qM_of m3 v1 3) fun a4 =>
  Option.bind (some (st m3 143 7 (wr ((m3 143 7) + a4)))) fun m5 =>
  Option.bind (qM_of m5 v1 6) fun a6 =>
  if a6 = 0 then
    some (0, m5)
  else
    Option.bind (qM_of m5 v1 6) fun a7 =>
    Option.bind (qM_flat m5 (wr (a7 - 1)) 1) fun a8 =>
    Option.bind (qM_of m5 v1 4) fun a9 =>
    if a9 < a8 then
      Option.bind (qM_of m5 v1 5) fun a10 =>
      Option.bind (qM_puts m5 v1 5 (wr (a10 + 1))) fun m11 =>
      Option.bind (qM_of m11 v1 5) fun a12 =>
      if a12 < 2 then
        some (0, m11)
      else
        bnd2 (qM_leaves m11 v1) fun a13 m13 =>
        Option.bind (some (st m13 143 4 (wr ((m13 143 4) + 1)))) fun m14 =>
        if a13 < 0 then
          some (0, m14)
        else
          some (1, m14)
    else
      Option.bind (qM_of m5 v1 4) fun a15 =>
      Option.bind (qM_puts m5 v1 4 (wr (a15 - a8))) fun m16 =>
      Option.bind (some (st m16 143 5 (wr ((m16 143 5) + a8)))) fun m17 =>
      Option.bind (qM_puts m17 v1 5 0) fun m18 =>
      some (0, m18)
def qM_passes_l22 (v1 : Int) (v3 : Int) : Nat → zM → Int → Int → Option ((Int) × zM)
  | 0, _, _, _ => none
  | n+1, μ, v2, v4 =>
    if v4 < (μ 143 1) then
      bnd2 (qM_goes μ v4) fun a2 m2 =>
      if a2 = 0 then
        qM_passes_l22 v1 v3 n m2 (wr (v2 + 0)) (wr (v4 + 1))
      else
        qM_passes_l22 v1 v3 n m2 (wr (v2 + 1)) (wr (v4 + 1))
    else
      some (v2, μ)
def qM_passes_l4 (v1 : Int) : Nat → zM → Int → Int → Option ((Int) × zM)
  | 0, _, _, _ => none
  | n+1, μ, v2, v3 =>
    if v3 < v1 then
      Option.bind (some (st μ 143 3 (wr ((μ 143 3) + 1)))) fun m1 =>
      bnd2 (qM_passes_l22 v1 v3 200 m1 v2 0) fun t3 m3 =>
      qM_passes_l4 v1 n m3 t3 (wr (v3 + 1))
    else
      some (v2, μ)
def qM_passes (μ : zM) (v1 : Int) : Option (Int × zM) :=
  bnd2 (qM_passes_l4 v1 200 μ 0 0) fun t4 m4 =>
  some (t4, m4)
def qM_notPass (μ : zM) (v0 : Int) : Option Int :=
  Option.bind (qM_isBetween μ v0 1 24) fun a1 =>
  if a1 = 0 then
    some 1
  else
    some 0
def qM_pass (μ : zM) (v1 : Int) : Option (Int × zM) :=
  Option.bind (some (st μ 142 0 0)) fun m1 =>
  Option.bind (qM_notPass m1 v1) fun a2 =>
  if a2 = 0 then
    Option.bind (qM_remembers m1) fun m3 =>
    bnd2 (qM_passes m3 v1) fun a4 m4 =>
    some (a4, m4)
  else
    bnd2 (qM_fails m1 1) fun a5 m5 =>
    some (a5, m5)
def qM_told (μ : zM) (v1 : Int) : Option (Int × zM) :=
  Option.bind (some (st μ 142 0 0)) fun m1 =>
  if 0 ≤ v1 ∧ v1 < 62 then
  some ((m1 143 v1), m1)
  else none
def qM_flats (μ : zM) : Option (Int × zM) :=
  bnd2 (qM_told μ 0) fun a1 m1 =>
  some (a1, m1)
def qM_floorOf (μ : zM) (v1 : Int) : Option (Int × zM) :=
  Option.bind (some (st μ 142 0 0)) fun m1 =>
  Option.bind (qM_isFlat m1 v1) fun a2 =>
  if a2 = 0 then
    bnd2 (qM_fails m1 1) fun a3 m3 =>
    some (a3, m3)
  else
    Option.bind (qM_flat m1 v1 0) fun a4 =>
    some (a4, m1)
def qM_rentOf (μ : zM) (v1 : Int) : Option (Int × zM) :=
  Option.bind (some (st μ 142 0 0)) fun m1 =>
  Option.bind (qM_isFlat m1 v1) fun a2 =>
  if a2 = 0 then
    bnd2 (qM_fails m1 1) fun a3 m3 =>
    some (a3, m3)
  else
    Option.bind (qM_flat m1 v1 1) fun a4 =>
    some (a4, m1)
def qM_tenantIn (μ : zM) (v1 : Int) : Option (Int × zM) :=
  Option.bind (some (st μ 142 0 0)) fun m1 =>
  Option.bind (qM_isFlat m1 v1) fun a2 =>
  if a2 = 0 then
    bnd2 (qM_fails m1 1) fun a7 m7 =>
    some (a7, m7)
  else
    Option.bind (qM_occupant m1 v1) fun a3 =>
    if a3 < 0 then
      bnd2 (qM_fails m1 2) fun a6 m6 =>
      some (a6, m6)
    else
      Option.bind (qM_occupant m1 v1) fun a4 =>
      Option.bind (qM_of m1 a4 0) fun a5 =>
      some (a5, m1)
def qM_vacantFlats_l9 (μ : zM) : Nat → Int → Int → Option (Int)
  | 0, _, _ => none
  | n+1, v1, v2 =>
    if v2 < (μ 143 0) then
      Option.bind (qM_occupant μ v2) fun a2 =>
      if a2 < 0 then
        qM_vacantFlats_l9 μ n (wr (v1 + 1)) (wr (v2 + 1))
      else
        qM_vacantFlats_l9 μ n (wr (v1 + 0)) (wr (v2 + 1))
    else
      some (v1)
def qM_vacantFlats (μ : zM) : Option (Int × zM) :=
  Option.bind (some (st μ 142 0 0)) fun m1 =>
  Option.bind (qM_vacantFlats_l9 m1 200 0 0) fun t3 =>
  some (t3, m1)
def qM_tenants (μ : zM) : Option (Int × zM) :=
  bnd2 (qM_told μ 1) fun a1 m1 =>
  some (a1, m1)
def qM_isPresent (μ : zM) (v1 : Int) : Option (Int × zM) :=
  Option.bind (some (st μ 142 0 0)) fun m1 =>
  Option.bind (qM_place m1 v1) fun a2 =>
  if a2 < 0 then
    some (0, m1)
  else
    some (1, m1)
def qM_tells (μ : zM) (v1 : Int) (v2 : Int) : Option (Int × zM) :=
  Option.bind (some (st μ 142 0 0)) fun m1 =>
  Option.bind (qM_place m1 v1) fun a2 =>
  if a2 < 0 then
    bnd2 (qM_fails m1 1) fun a5 m5 =>
    some (a5, m5)
  else
    Option.bind (qM_place m1 v1) fun a3 =>
    Option.bind (qM_of m1 a3 v2) fun a4 =>
    some (a4, m1)
def qM_weightOf (μ : zM) (v1 : Int) : Option (Int × zM) :=
  bnd2 (qM_tells μ v1 1) fun a1 m1 =>
  some (a1, m1)
def qM_purseOf (μ : zM) (v1 : Int) : Option (Int × zM) :=
  bnd2 (qM_tells μ v1 4) fun a1 m1 =>
  some (a1, m1)
def qM_noticesOf (μ : zM) (v1 : Int) : Option (Int × zM) :=
  bnd2 (qM_tells μ v1 5) fun a1 m1 =>
  some (a1, m1)
def qM_flatOf (μ : zM) (v1 : Int) : Option (Int × zM) :=
  bnd2 (qM_tells μ v1 6) fun a1 m1 =>
  if a1 = 0 then
    bnd2 (qM_fails m1 1) fun a2 m2 =>
    some (a2, m2)
  else
    some ((wr (a1 - 1)), m1)
def qM_burden (μ : zM) (v1 : Int) (v2 : Int) : Option (Int × zM) :=
  Option.bind (some (st μ 142 0 0)) fun m1 =>
  Option.bind (qM_place m1 v1) fun a2 =>
  if a2 < 0 then
    bnd2 (qM_fails m1 1) fun a7 m7 =>
    some (a7, m7)
  else
    Option.bind (qM_isFlat m1 v2) fun a3 =>
    if a3 = 0 then
      bnd2 (qM_fails m1 2) fun a4 m4 =>
      some (a4, m4)
    else
      Option.bind (qM_place m1 v1) fun a5 =>
      Option.bind (qM_burdenOf m1 a5 v2) fun a6 =>
      some (a6, m1)
def qM_flatByRank_j26 (μ : zM) : Option (Int × zM) :=
  bnd2 (qM_fails μ 1) fun a3 m3 =>
  some (a3, m3)
def qM_flatByRank (μ : zM) (v1 : Int) (v2 : Int) : Option (Int × zM) :=
  Option.bind (some (st μ 142 0 0)) fun m1 =>
  Option.bind (qM_place m1 v1) fun a2 =>
  if a2 < 0 then
    qM_flatByRank_j26 m1
  else
    Option.bind (qM_place m1 v1) fun a4 =>
    Option.bind (qM_flatAt m1 a4 v2) fun a5 =>
    if a5 < 0 then
      qM_flatByRank_j26 m1
    else
      Option.bind (qM_place m1 v1) fun a6 =>
      Option.bind (qM_flatAt m1 a6 v2) fun a7 =>
      some (a7, m1)
def qM_tenantByPurse_l22 (μ : zM) (v1 : Int) (v2 : Int) : Nat → Int → Int → Option (Int)
  | 0, _, _ => none
  | n+1, v3, v4 =>
    if v4 < (μ 143 1) then
      Option.bind (qM_of μ v4 4) fun a2 =>
      Option.bind (qM_of μ v2 4) fun a3 =>
      if a3 < a2 then
        qM_tenantByPurse_l22 μ v1 v2 n (wr (v3 + 1)) (wr (v4 + 1))
      else
        Option.bind (qM_of μ v4 4) fun a4 =>
        Option.bind (qM_of μ v2 4) fun a5 =>
        if a4 = a5 then
          if v4 < v2 then
            qM_tenantByPurse_l22 μ v1 v2 n (wr (v3 + 1)) (wr (v4 + 1))
          else
            qM_tenantByPurse_l22 μ v1 v2 n (wr (v3 + 0)) (wr (v4 + 1))
        else
          qM_tenantByPurse_l22 μ v1 v2 n (wr (v3 + 0)) (wr (v4 + 1))
    else
      some (v3)
def qM_tenantByPurse_l7 (μ : zM) (v1 : Int) : Nat → Int → Option (Int ⊕ Unit)
  | 0, _ => none
  | n+1, v2 =>
    if v2 < (μ 143 1) then
      Option.bind (qM_tenantByPurse_l22 μ v1 v2 200 0 0) fun t6 =>
      if t6 = v1 then
        Option.bind (qM_of μ v2 0) fun a7 =>
        some (.inl a7)
      else
        qM_tenantByPurse_l7 μ v1 n (wr (v2 + 1))
    else
      some (.inr ())
def qM_tenantByPurse (μ : zM) (v1 : Int) : Option (Int × zM) :=
  Option.bind (some (st μ 142 0 0)) fun m1 =>
  bndS (qM_tenantByPurse_l7 m1 v1 200 0) (fun (r8 : Int) => some (r8, m1)) (fun t8 =>
  bnd2 (qM_fails m1 1) fun a9 m9 =>
  some (a9, m9)
  )
def qM_findsCreaks_l2 : Nat → zM → Int → Option zM
  | 0, _, _ => none
  | n+1, μ, v1 =>
    if v1 < 6 then
      if 0 ≤ v1 ∧ v1 < 6 then
      Option.bind (some (st μ 150 v1 0)) fun m1 =>
      qM_findsCreaks_l2 n m1 (wr (v1 + 1))
      else none
    else
      some μ
def qM_findsCreaks_l23 : Nat → zM → Int → Option zM
  | 0, _, _ => none
  | n+1, μ, v1 =>
    if v1 < (μ 143 1) then
      Option.bind (qM_of μ v1 6) fun a3 =>
      if 0 < a3 then
        Option.bind (qM_of μ v1 6) fun a4 =>
        Option.bind (qM_flat μ (wr (a4 - 1)) 0) fun a5 =>
        if 0 ≤ a5 ∧ a5 < 6 then
        Option.bind (qM_of μ v1 1) fun a6 =>
        if 0 ≤ a5 ∧ a5 < 6 then
        Option.bind (some (st μ 150 a5 (wr ((μ 150 a5) + a6)))) fun m7 =>
        qM_findsCreaks_l23 n m7 (wr (v1 + 1))
        else none
        else none
      else
        qM_findsCreaks_l23 n μ (wr (v1 + 1))
    else
      some μ
def qM_findsCreaks (μ : zM) : Option zM :=
  Option.bind (qM_findsCreaks_l2 200 μ 0) fun m2 =>
  Option.bind (qM_findsCreaks_l23 200 m2 0) fun m8 =>
  some m8
def qM_creak (μ : zM) (v1 : Int) : Option (Int × zM) :=
  Option.bind (some (st μ 142 0 0)) fun m1 =>
  Option.bind (qM_isBetween m1 v1 0 5) fun a2 =>
  if a2 = 0 then
    bnd2 (qM_fails m1 1) fun a4 m4 =>
    some (a4, m4)
  else
    Option.bind (qM_findsCreaks m1) fun m3 =>
    if 0 ≤ v1 ∧ v1 < 6 then
    some ((m3 150 v1), m3)
    else none
def qM_isCensus_l4 (v2 : Int) : Nat → zM → Int → Option zM
  | 0, _, _ => none
  | n+1, μ, v3 =>
    if v3 < 6 then
      if 0 ≤ v3 ∧ v3 < 6 then
      Option.bind (some (st μ 151 v3 0)) fun m1 =>
      qM_isCensus_l4 v2 n m1 (wr (v3 + 1))
      else none
    else
      some μ
def qM_isCensus_j71 (rec : zM → Int → Int → Option ((Int ⊕ Unit) × zM)) (μ : zM) (v2 : Int) (v3 : Int) : Option ((Int ⊕ Unit) × zM) :=
  Option.bind (qM_of μ v3 6) fun a5 =>
  if 0 < a5 then
    if 0 ≤ v3 ∧ v3 < 6 then
    if 0 ≤ (μ 152 v3) ∧ (μ 152 v3) < 6 then
    Option.bind (qM_of μ v3 1) fun a6 =>
    if 0 ≤ (μ 152 v3) ∧ (μ 152 v3) < 6 then
    Option.bind (some (st μ 151 (μ 152 v3) (wr ((μ 151 (μ 152 v3)) + a6)))) fun m7 =>
    rec m7 v2 (wr (v3 + 1))
    else none
    else none
    else none
  else
    rec μ v2 (wr (v3 + 1))
def qM_isCensus_l25 : Nat → zM → Int → Int → Option ((Int ⊕ Unit) × zM)
  | 0, _, _, _ => none
  | n+1, μ, v2, v3 =>
    if v3 < (μ 143 1) then
      if 0 ≤ v3 ∧ v3 < 6 then
      Option.bind (some (st μ 152 v3 (Int.tmod v2 6))) fun m3 =>
      Option.bind (qM_of m3 v3 6) fun a4 =>
      if a4 = 0 then
        if 0 ≤ v3 ∧ v3 < 6 then
        if 0 < (m3 152 v3) then
          some (.inl 0, m3)
        else
          qM_isCensus_j71 (qM_isCensus_l25 n) m3 (wr (Int.tdiv v2 6)) v3
        else none
      else
        qM_isCensus_j71 (qM_isCensus_l25 n) m3 (wr (Int.tdiv v2 6)) v3
      else none
    else
      some (.inr (), μ)
def qM_isCensus_l109 (μ : zM) : Nat → Int → Option (Int ⊕ Unit)
  | 0, _ => none
  | n+1, v3 =>
    if v3 < 6 then
      if 0 ≤ v3 ∧ v3 < 6 then
      if 0 ≤ v3 ∧ v3 < 6 then
      if (μ 151 v3) = (μ 150 v3) then
        qM_isCensus_l109 μ n (wr (v3 + 1))
      else
        some (.inl 0)
      else none
      else none
    else
      some (.inr ())
def qM_isCensus (μ : zM) (v1 : Int) : Option (Int × zM) :=
  Option.bind (qM_isCensus_l4 v1 200 μ 0) fun m2 =>
  bndS2 (qM_isCensus_l25 200 m2 v1 0) (fun (r8 : Int) m8 => some (r8, m8)) (fun t8 m8 =>
  bndS (qM_isCensus_l109 m8 200 0) (fun (r9 : Int) => some (r9, m8)) (fun t9 =>
  some (1, m8)
  )
  )
def qM_numbers_l4 (μ : zM) : Nat → Int → Int → Option (Int)
  | 0, _, _ => none
  | n+1, v1, v2 =>
    if v2 < (μ 143 1) then
      qM_numbers_l4 μ n (wr (v1 * 6)) (wr (v2 + 1))
    else
      some (v1)
def qM_numbers (μ : zM) : Option Int :=
  Option.bind (qM_numbers_l4 μ 200 1 0) fun t1 =>
  some t1
def qM_censuses_l13 : Nat → zM → Int → Int → Option ((Int) × zM)
  | 0, _, _, _ => none
  | n+1, μ, v1, v2 =>
    Option.bind (qM_numbers μ) fun a3 =>
    if v2 < a3 then
      bnd2 (qM_isCensus μ v2) fun a4 m4 =>
      if a4 = 0 then
        qM_censuses_l13 n m4 (wr (v1 + 0)) (wr (v2 + 1))
      else
        qM_censuses_l13 n m4 (wr (v1 + 1)) (wr (v2 + 1))
    else
      some (v1, μ)
def qM_censuses (μ : zM) : Option (Int × zM) :=
  Option.bind (some (st μ 142 0 0)) fun m1 =>
  Option.bind (qM_findsCreaks m1) fun m2 =>
  bnd2 (qM_censuses_l13 60000 m2 0 0) fun t5 m5 =>
  some (t5, m5)
def qM_censusesBySets (μ : zM) : Option (Int × zM) :=
  bnd2 (qM_censuses μ) fun a1 m1 =>
  some (a1, m1)
def qM_possibleFloors_l42 (v2 : Int) : Nat → zM → Int → Int → Option ((Int) × zM)
  | 0, _, _, _ => none
  | n+1, μ, v3, v4 =>
    Option.bind (qM_numbers μ) fun a5 =>
    if v4 < a5 then
      bnd2 (qM_isCensus μ v4) fun a6 m6 =>
      if a6 = 0 then
        qM_possibleFloors_l42 v2 n m6 v3 (wr (v4 + 1))
      else
        if 0 ≤ v2 ∧ v2 < 6 then
        qM_possibleFloors_l42 v2 n m6 (yor v3 (yshl 1 (m6 152 v2))) (wr (v4 + 1))
        else none
    else
      some (v3, μ)
def qM_possibleFloors_l83 (μ : zM) (v3 : Int) : Nat → Int → Int → Option (Int)
  | 0, _, _ => none
  | n+1, v4, v5 =>
    if v5 < 6 then
      qM_possibleFloors_l83 μ v3 n (wr (v4 + (yand (yshr v3 v5) 1))) (wr (v5 + 1))
    else
      some (v4)
def qM_possibleFloors (μ : zM) (v1 : Int) : Option (Int × zM) :=
  Option.bind (some (st μ 142 0 0)) fun m1 =>
  Option.bind (qM_place m1 v1) fun a2 =>
  if a2 < 0 then
    bnd2 (qM_fails m1 1) fun a9 m9 =>
    some (a9, m9)
  else
    Option.bind (qM_of m1 a2 6) fun a3 =>
    if a3 = 0 then
      some (0, m1)
    else
      Option.bind (qM_findsCreaks m1) fun m4 =>
      bnd2 (qM_possibleFloors_l42 a2 60000 m4 0 0) fun t7 m7 =>
      Option.bind (qM_possibleFloors_l83 m7 t7 200 0 0) fun t8 =>
      some (t8, m7)
def qM_plannedFlat (μ : zM) (v1 : Int) : Option (Int × zM) :=
  Option.bind (some (st μ 142 0 0)) fun m1 =>
  Option.bind (qM_place m1 v1) fun a2 =>
  if a2 < 0 then
    bnd2 (qM_fails m1 1) fun a7 m7 =>
    some (a7, m7)
  else
    Option.bind (qM_findsPlan m1) fun m3 =>
    Option.bind (qM_place m3 v1) fun a4 =>
    if 0 ≤ a4 ∧ a4 < 6 then
    if (m3 148 a4) < 0 then
      bnd2 (qM_fails m3 1) fun a6 m6 =>
      some (a6, m6)
    else
      Option.bind (qM_place m3 v1) fun a5 =>
      if 0 ≤ a5 ∧ a5 < 6 then
      some ((m3 148 a5), m3)
      else none
    else none
def qM_plannedFlatByPlans (μ : zM) (v1 : Int) : Option (Int × zM) :=
  bnd2 (qM_plannedFlat μ v1) fun a1 m1 =>
  some (a1, m1)
def qM_stablePlans_l9 (μ : zM) : Nat → Int → Int → Option (Int)
  | 0, _, _ => none
  | n+1, v1, v2 =>
    if v2 < (μ 143 1) then
      qM_stablePlans_l9 μ n (wr (v1 * (wr ((μ 143 0) + 1)))) (wr (v2 + 1))
    else
      some (v1)
def qM_stablePlans_l51 (v1 : Int) (v2 : Int) (v3 : Int) : Nat → zM → Int → Int → Option zM
  | 0, _, _, _ => none
  | n+1, μ, v4, v5 =>
    if v5 < (μ 143 1) then
      if (wr ((μ 143 0) + 1)) ≠ 0 then
      if 0 ≤ v5 ∧ v5 < 6 then
      Option.bind (some (st μ 148 v5 (wr ((Int.tmod v4 (wr ((μ 143 0) + 1))) - 1)))) fun m3 =>
      if (wr ((m3 143 0) + 1)) ≠ 0 then
      qM_stablePlans_l51 v1 v2 v3 n m3 (wr (Int.tdiv v4 (wr ((m3 143 0) + 1)))) (wr (v5 + 1))
      else none
      else none
      else none
    else
      some μ
def qM_stablePlans_l40 (v1 : Int) : Nat → zM → Int → Int → Option ((Int) × zM)
  | 0, _, _, _ => none
  | n+1, μ, v2, v3 =>
    if v3 < v1 then
      Option.bind (qM_stablePlans_l51 v1 v2 v3 200 μ v3 0) fun m4 =>
      Option.bind (qM_isStablePlan m4) fun a5 =>
      if a5 = 0 then
        qM_stablePlans_l40 v1 n m4 (wr (v2 + 0)) (wr (v3 + 1))
      else
        qM_stablePlans_l40 v1 n m4 (wr (v2 + 1)) (wr (v3 + 1))
    else
      some (v2, μ)
def qM_stablePlans (μ : zM) : Option (Int × zM) :=
  Option.bind (some (st μ 142 0 0)) fun m1 =>
  Option.bind (qM_stablePlans_l9 m1 200 1 0) fun t2 =>
  bnd2 (qM_stablePlans_l40 t2 200000 m1 0 0) fun t6 m6 =>
  some (t6, m6)
def qM_isStable_l7 : Nat → zM → Int → Option zM
  | 0, _, _ => none
  | n+1, μ, v1 =>
    if v1 < (μ 143 1) then
      Option.bind (qM_of μ v1 6) fun a2 =>
      if 0 ≤ v1 ∧ v1 < 6 then
      Option.bind (some (st μ 148 v1 (wr (a2 - 1)))) fun m3 =>
      qM_isStable_l7 n m3 (wr (v1 + 1))
      else none
    else
      some μ
def qM_isStable (μ : zM) : Option (Int × zM) :=
  Option.bind (some (st μ 142 0 0)) fun m1 =>
  Option.bind (qM_isStable_l7 200 m1 0) fun m4 =>
  Option.bind (qM_isStablePlan m4) fun a5 =>
  if 0 ≤ a5 ∧ a5 < 2 then some (a5, m4) else none
def qM_chainLength (μ : zM) (v1 : Int) : Option (Int × zM) :=
  Option.bind (some (st μ 142 0 0)) fun m1 =>
  Option.bind (qM_notOut m1 v1) fun a2 =>
  if a2 = 0 then
    Option.bind (qM_looksAhead m1) fun m3 =>
    Option.bind (qM_place m3 v1) fun a4 =>
    bnd2 (qM_leaves m3 a4) fun a5 m5 =>
    Option.bind (qM_comesBack m5) fun m6 =>
    some (a5, m6)
  else
    bnd2 (qM_fails m1 1) fun a7 m7 =>
    some (a7, m7)
def qM_monthsUntilEviction_l13 : Nat → zM → Int → Int → Option ((Int × Int) × zM)
  | 0, _, _, _ => none
  | n+1, μ, v1, v2 =>
    if v1 < 24 then
      if v2 = 0 then
        bnd2 (qM_passes μ 1) fun a3 m3 =>
        qM_monthsUntilEviction_l13 n m3 (wr (v1 + 1)) a3
      else
        some ((v1, v2), μ)
    else
      some ((v1, v2), μ)
def qM_monthsUntilEviction (μ : zM) : Option (Int × zM) :=
  Option.bind (some (st μ 142 0 0)) fun m1 =>
  Option.bind (qM_looksAhead m1) fun m2 =>
  bnd2 (qM_monthsUntilEviction_l13 200 m2 0 0) fun t4 m4 =>
  Option.bind (qM_comesBack m4) fun m5 =>
  if 0 < t4.2 then
    some (t4.1, m5)
  else
    bnd2 (qM_fails m5 1) fun a6 m6 =>
    some (a6, m6)
def qM_month (μ : zM) : Option (Int × zM) :=
  bnd2 (qM_told μ 3) fun a1 m1 =>
  some (a1, m1)
def qM_received (μ : zM) : Option (Int × zM) :=
  Option.bind (some (st μ 142 0 0)) fun m1 =>
  some ((m1 143 7), m1)
def qM_purses_l4 (μ : zM) : Nat → Int → Int → Option (Int)
  | 0, _, _ => none
  | n+1, v1, v2 =>
    if v2 < (μ 143 1) then
      Option.bind (qM_of μ v2 4) fun a1 =>
      qM_purses_l4 μ n (wr (v1 + a1)) (wr (v2 + 1))
    else
      some (v1)
def qM_purses (μ : zM) : Option Int :=
  Option.bind (qM_purses_l4 μ 200 0 0) fun t2 =>
  some t2
def qM_receivedByParts (μ : zM) : Option (Int × zM) :=
  Option.bind (some (st μ 142 0 0)) fun m1 =>
  Option.bind (qM_purses m1) fun a2 =>
  some ((wr ((wr (a2 + (m1 143 6))) + (m1 143 5))), m1)
def qM_paidRents (μ : zM) : Option (Int × zM) :=
  bnd2 (qM_told μ 5) fun a1 m1 =>
  some (a1, m1)
def qM_evictions (μ : zM) : Option (Int × zM) :=
  bnd2 (qM_told μ 4) fun a1 m1 =>
  some (a1, m1)
def qM_meanBurden_l11 (μ : zM) : Nat → Int → Int → Int → Option (Int × Int)
  | 0, _, _, _ => none
  | n+1, v1, v2, v3 =>
    if v3 < (μ 143 1) then
      Option.bind (qM_of μ v3 6) fun a2 =>
      if a2 = 0 then
        qM_meanBurden_l11 μ n v1 v2 (wr (v3 + 1))
      else
        Option.bind (qM_of μ v3 6) fun a3 =>
        Option.bind (qM_burdenOf μ v3 (wr (a3 - 1))) fun a4 =>
        qM_meanBurden_l11 μ n (wr (v1 + a4)) (wr (v2 + 1)) (wr (v3 + 1))
    else
      some ((v1, v2))
def qM_meanBurden (μ : zM) : Option (Int × zM) :=
  Option.bind (some (st μ 142 0 0)) fun m1 =>
  Option.bind (qM_meanBurden_l11 m1 200 0 0 0) fun t5 =>
  if t5.2 = 0 then
    bnd2 (qM_fails m1 1) fun a6 m6 =>
    some ((fp_i2d a6), m6)
  else
    if fp_n64 (fp_ddiv (fp_i2d t5.1) (fp_i2d t5.2)) then
    some ((fp_ddiv (fp_i2d t5.1) (fp_i2d t5.2)), m1)
    else none
def qM_occupancy_l25 (μ : zM) : Nat → Int → Int → Option (Int)
  | 0, _, _ => none
  | n+1, v1, v2 =>
    if v2 < (μ 143 0) then
      Option.bind (qM_occupant μ v2) fun a2 =>
      if a2 < 0 then
        qM_occupancy_l25 μ n (wr (v1 + 0)) (wr (v2 + 1))
      else
        qM_occupancy_l25 μ n (wr (v1 + 1)) (wr (v2 + 1))
    else
      some (v1)
def qM_occupancy (μ : zM) : Option (Int × zM) :=
  Option.bind (some (st μ 142 0 0)) fun m1 =>
  if (m1 143 0) = 0 then
    bnd2 (qM_fails m1 1) fun a4 m4 =>
    some ((fp_i2f a4), m4)
  else
    Option.bind (qM_occupancy_l25 m1 200 0 0) fun t3 =>
    if fp_n32 (fp_fdiv (fp_i2f t3) (fp_i2f (m1 143 0))) then
    some ((fp_fdiv (fp_i2f t3) (fp_i2f (m1 143 0))), m1)
    else none
def qM_isConsistent (μ : zM) : Option (Int × zM) :=
  Option.bind (some (st μ 142 0 0)) fun m1 =>
  Option.bind (qM_purses m1) fun a2 =>
  if (wr ((wr (a2 + (m1 143 6))) + (m1 143 5))) = (m1 143 7) then
    some (1, m1)
  else
    some (0, m1)
def qM_writes (μ : zM) (v1 : Int) : Option zM :=
  if (0 ≤ (μ 142 15) ∧ (μ 142 15) < 120) ∧ (0 ≤ (v1 % 65536) ∧ (v1 % 65536) ≤ 65535) then
  Option.bind (some (st μ 153 (μ 142 15) (v1 % 65536))) fun m1 =>
  Option.bind (some (st m1 142 15 (wr ((m1 142 15) + 1)))) fun m2 =>
  some m2
  else none
def qM_writesNumber_l2 (μ : zM) (v1 : Int) : Nat → Int → Option (Int)
  | 0, _ => none
  | n+1, v2 =>
    if v2 ≠ 0 then
    if 9 < (wr (Int.tdiv v1 v2)) then
      qM_writesNumber_l2 μ v1 n (wr (v2 * 10))
    else
      some (v2)
    else none
def qM_writesNumber_l20 (v1 : Int) : Nat → zM → Int → Option zM
  | 0, _, _ => none
  | n+1, μ, v3 =>
    if 0 < v3 then
      if v3 ≠ 0 then
      Option.bind (qM_writes μ (wr (48 + (Int.tmod (wr (Int.tdiv v1 v3)) 10)))) fun m2 =>
      qM_writesNumber_l20 v1 n m2 (wr (Int.tdiv v3 10))
      else none
    else
      some μ
def qM_writesNumber (μ : zM) (v1 : Int) : Option zM :=
  Option.bind (qM_writesNumber_l2 μ v1 200 1) fun t1 =>
  Option.bind (qM_writesNumber_l20 v1 200 μ t1) fun m3 =>
  some m3
def qM_writeFloor_l52 (v1 : Int) : Nat → zM → Int → Option zM
  | 0, _, _ => none
  | n+1, μ, v2 =>
    if v2 < (μ 143 0) then
      Option.bind (qM_flat μ v2 0) fun a8 =>
      if a8 = v1 then
        Option.bind (qM_writes μ 32) fun m9 =>
        Option.bind (qM_writesNumber m9 v2) fun m10 =>
        Option.bind (qM_writes m10 61) fun m11 =>
        Option.bind (qM_flat m11 v2 1) fun a12 =>
        Option.bind (qM_writesNumber m11 a12) fun m13 =>
        Option.bind (qM_occupant m13 v2) fun a14 =>
        if a14 < 0 then
          qM_writeFloor_l52 v1 n m13 (wr (v2 + 1))
        else
          Option.bind (qM_writes m13 58) fun m15 =>
          Option.bind (qM_occupant m15 v2) fun a16 =>
          Option.bind (qM_of m15 a16 0) fun a17 =>
          Option.bind (qM_writesNumber m15 a17) fun m18 =>
          qM_writeFloor_l52 v1 n m18 (wr (v2 + 1))
      else
        qM_writeFloor_l52 v1 n μ (wr (v2 + 1))
    else
      some μ
def qM_writeFloor (μ : zM) (v1 : Int) : Option (Int × zM) :=
  Option.bind (some (st μ 142 0 0)) fun m1 =>
  Option.bind (qM_isBetween m1 v1 0 5) fun a2 =>
  if a2 = 0 then
    bnd2 (qM_fails m1 1) fun a20 m20 =>
    some (a20, m20)
  else
    Option.bind (qM_findsCreaks m1) fun m3 =>
    Option.bind (some (st m3 142 15 0)) fun m4 =>
    Option.bind (qM_writesNumber m4 v1) fun m5 =>
    Option.bind (qM_writes m5 126) fun m6 =>
    if 0 ≤ v1 ∧ v1 < 6 then
    Option.bind (qM_writesNumber m6 (m6 150 v1)) fun m7 =>
    Option.bind (qM_writeFloor_l52 v1 200 m7 0) fun m19 =>
    some ((m19 142 15), m19)
    else none
def qM_writePlan_j36 (rec : zM → Int → Option zM) (μ : zM) (v1 : Int) : Option zM :=
  Option.bind (qM_of μ v1 0) fun a4 =>
  Option.bind (qM_writesNumber μ a4) fun m5 =>
  Option.bind (qM_writes m5 62) fun m6 =>
  if 0 ≤ v1 ∧ v1 < 6 then
  if (m6 148 v1) < 0 then
    Option.bind (qM_writes m6 45) fun m8 =>
    rec m8 (wr (v1 + 1))
  else
    if 0 ≤ v1 ∧ v1 < 6 then
    Option.bind (qM_writesNumber m6 (m6 148 v1)) fun m7 =>
    rec m7 (wr (v1 + 1))
    else none
  else none
def qM_writePlan_l16 : Nat → zM → Int → Option zM
  | 0, _, _ => none
  | n+1, μ, v1 =>
    if v1 < (μ 143 1) then
      if 0 < v1 then
        Option.bind (qM_writes μ 32) fun m9 =>
        qM_writePlan_j36 (qM_writePlan_l16 n) m9 v1
      else
        qM_writePlan_j36 (qM_writePlan_l16 n) μ v1
    else
      some μ
def qM_writePlan (μ : zM) : Option (Int × zM) :=
  Option.bind (some (st μ 142 0 0)) fun m1 =>
  Option.bind (qM_findsPlan m1) fun m2 =>
  Option.bind (some (st m2 142 15 0)) fun m3 =>
  Option.bind (qM_writePlan_l16 200 m3 0) fun m10 =>
  some ((m10 142 15), m10)
def qM_charAt (μ : zM) (v1 : Int) : Option (Int × zM) :=
  Option.bind (some (st μ 142 0 0)) fun m1 =>
  Option.bind (qM_isBetween m1 v1 0 (wr ((m1 142 15) - 1))) fun a2 =>
  if a2 = 0 then
    bnd2 (qM_fails m1 1) fun a3 m3 =>
    if 0 ≤ (a3 % 65536) ∧ (a3 % 65536) ≤ 65535 then some ((a3 % 65536), m3) else none
  else
    if 0 ≤ v1 ∧ v1 < 120 then
    if 0 ≤ (m1 153 v1) ∧ (m1 153 v1) ≤ 65535 then some ((m1 153 v1), m1) else none
    else none
def qM_type (μ : zM) (v1 : Int) : Option (Int × zM) :=
  Option.bind (some (st μ 142 0 0)) fun m1 =>
  if (m1 142 17) = 60 then
    bnd2 (qM_fails m1 1) fun a4 m4 =>
    some (a4, m4)
  else
    if (0 ≤ (m1 142 17) ∧ (m1 142 17) < 60) ∧ (0 ≤ v1 ∧ v1 ≤ 65535) then
    Option.bind (some (st m1 154 (m1 142 17) v1)) fun m2 =>
    Option.bind (some (st m2 142 17 (wr ((m2 142 17) + 1)))) fun m3 =>
    some ((m3 142 17), m3)
    else none
def qM_nextChar (μ : zM) : Option Int :=
  if (μ 142 18) < (μ 142 17) then
    if 0 ≤ (μ 142 18) ∧ (μ 142 18) < 60 then
    some (μ 154 (μ 142 18))
    else none
  else
    some (-1)
def qM_reads (μ : zM) (v1 : Int) : Option (Int × zM) :=
  Option.bind (qM_nextChar μ) fun a1 =>
  if a1 = v1 then
    Option.bind (some (st μ 142 18 (wr ((μ 142 18) + 1)))) fun m2 =>
    some (1, m2)
  else
    some (0, μ)
def qM_readsDigit (μ : zM) (v1 : Int) : Option (Int × zM) :=
  Option.bind (qM_nextChar μ) fun a1 =>
  Option.bind (qM_isBetween μ a1 48 57) fun a2 =>
  if a2 = 0 then
    some (0, μ)
  else
    Option.bind (qM_nextChar μ) fun a3 =>
    if 0 ≤ v1 ∧ v1 < 4 then
    Option.bind (some (st μ 155 v1 (wr (a3 - 48)))) fun m4 =>
    Option.bind (some (st m4 142 18 (wr ((m4 142 18) + 1)))) fun m5 =>
    some (1, m5)
    else none
def qM_readsNumber (μ : zM) (v1 : Int) : Option (Int × zM) :=
  bnd2 (qM_readsDigit μ v1) fun a1 m1 =>
  if a1 = 0 then
    some (0, m1)
  else
    Option.bind (qM_nextChar m1) fun a2 =>
    Option.bind (qM_isBetween m1 a2 48 57) fun a3 =>
    if a3 = 0 then
      some (1, m1)
    else
      if 0 ≤ v1 ∧ v1 < 4 then
      Option.bind (qM_nextChar m1) fun a4 =>
      if 0 ≤ v1 ∧ v1 < 4 then
      Option.bind (some (st m1 155 v1 (wr ((wr ((wr (10 * (m1 155 v1))) + a4)) - 48)))) fun m5 =>
      Option.bind (some (st m5 142 18 (wr ((m5 142 18) + 1)))) fun m6 =>
      some (1, m6)
      else none
      else none
def qM_readsTenant (μ : zM) : Option (Int × zM) :=
  bnd2 (qM_reads μ 101) fun a1 m1 =>
  if a1 = 0 then
    some (0, m1)
  else
    bnd2 (qM_reads m1 110) fun a2 m2 =>
    if a2 = 0 then
      some (0, m2)
    else
      bnd2 (qM_reads m2 97) fun a3 m3 =>
      if a3 = 0 then
        some (0, m3)
      else
        bnd2 (qM_reads m3 110) fun a4 m4 =>
        if a4 = 0 then
          some (0, m4)
        else
          bnd2 (qM_reads m4 116) fun a5 m5 =>
          if a5 = 0 then
            some (0, m5)
          else
            bnd2 (qM_reads m5 32) fun a6 m6 =>
            if a6 = 0 then
              some (0, m6)
            else
              bnd2 (qM_readsNumber m6 0) fun a7 m7 =>
              if a7 = 0 then
                some (0, m7)
              else
                bnd2 (qM_reads m7 64) fun a8 m8 =>
                if a8 = 0 then
                  some (0, m8)
                else
                  bnd2 (qM_readsDigit m8 1) fun a9 m9 =>
                  if a9 = 0 then
                    some (0, m9)
                  else
                    bnd2 (qM_reads m9 43) fun a10 m10 =>
                    if a10 = 0 then
                      some (0, m10)
                    else
                      bnd2 (qM_readsNumber m10 2) fun a11 m11 =>
                      if a11 = 0 then
                        some (0, m11)
                      else
                        bnd2 (qM_reads m11 47) fun a12 m12 =>
                        if a12 = 0 then
                          some (0, m12)
                        else
                          bnd2 (qM_readsNumber m12 3) fun a13 m13 =>
                          if a13 = 0 then
                            some (0, m13)
                          else
                            some (1, m13)
def qM_readsMonth (μ : zM) : Option (Int × zM) :=
  Option.bind (some (st μ 155 0 1)) fun m1 =>
  bnd2 (qM_reads m1 111) fun a2 m2 =>
  if a2 = 0 then
    some (0, m2)
  else
    bnd2 (qM_reads m2 110) fun a3 m3 =>
    if a3 = 0 then
      some (0, m3)
    else
      bnd2 (qM_reads m3 116) fun a4 m4 =>
      if a4 = 0 then
        some (0, m4)
      else
        bnd2 (qM_reads m4 104) fun a5 m5 =>
        if a5 = 0 then
          some (0, m5)
        else
          bnd2 (qM_reads m5 32) fun a6 m6 =>
          if a6 = 0 then
            some (1, m6)
          else
            bnd2 (qM_readsNumber m6 0) fun a7 m7 =>
            if a7 = 0 then
              some (0, m7)
            else
              some (1, m7)
def qM_readsCommand (μ : zM) : Option (Int × zM) :=
  Option.bind (qM_nextChar μ) fun a1 =>
  Option.bind (some (st μ 142 22 a1)) fun m2 =>
  bnd2 (qM_reads m2 102) fun a3 m3 =>
  if a3 = 0 then
    bnd2 (qM_reads m3 116) fun a4 m4 =>
    if a4 = 0 then
      bnd2 (qM_reads m4 105) fun a5 m5 =>
      if a5 = 0 then
        bnd2 (qM_reads m5 111) fun a6 m6 =>
        if a6 = 0 then
          bnd2 (qM_reads m6 114) fun a7 m7 =>
          if a7 = 0 then
            bnd2 (qM_reads m7 103) fun a8 m8 =>
            if a8 = 0 then
              bnd2 (qM_reads m8 115) fun a9 m9 =>
              if a9 = 0 then
                bnd2 (qM_reads m9 109) fun a10 m10 =>
                if a10 = 0 then
                  some (0, m10)
                else
                  bnd2 (qM_readsMonth m10) fun a11 m11 =>
                  if a11 = 0 then
                    some (0, m11)
                  else
                    some (1, m11)
              else
                bnd2 (qM_reads m9 101) fun a12 m12 =>
                if a12 = 0 then
                  some (0, m12)
                else
                  bnd2 (qM_reads m12 116) fun a13 m13 =>
                  if a13 = 0 then
                    some (0, m13)
                  else
                    bnd2 (qM_reads m13 116) fun a14 m14 =>
                    if a14 = 0 then
                      some (0, m14)
                    else
                      bnd2 (qM_reads m14 108) fun a15 m15 =>
                      if a15 = 0 then
                        some (0, m15)
                      else
                        bnd2 (qM_reads m15 101) fun a16 m16 =>
                        if a16 = 0 then
                          some (0, m16)
                        else
                          some (1, m16)
            else
              bnd2 (qM_reads m8 105) fun a17 m17 =>
              if a17 = 0 then
                some (0, m17)
              else
                bnd2 (qM_reads m17 102) fun a18 m18 =>
                if a18 = 0 then
                  some (0, m18)
                else
                  bnd2 (qM_reads m18 116) fun a19 m19 =>
                  if a19 = 0 then
                    some (0, m19)
                  else
                    bnd2 (qM_reads m19 32) fun a20 m20 =>
                    if a20 = 0 then
                      some (0, m20)
                    else
                      bnd2 (qM_readsNumber m20 0) fun a21 m21 =>
                      if a21 = 0 then
                        some (0, m21)
                      else
                        bnd2 (qM_reads m21 43) fun a22 m22 =>
                        if a22 = 0 then
                          some (0, m22)
                        else
                          bnd2 (qM_readsNumber m22 1) fun a23 m23 =>
                          if a23 = 0 then
                            some (0, m23)
                          else
                            some (1, m23)
          else
            bnd2 (qM_reads m7 101) fun a24 m24 =>
            if a24 = 0 then
              some (0, m24)
            else
              bnd2 (qM_reads m24 110) fun a25 m25 =>
              if a25 = 0 then
                some (0, m25)
              else
                bnd2 (qM_reads m25 116) fun a26 m26 =>
                if a26 = 0 then
                  some (0, m26)
                else
                  bnd2 (qM_reads m26 32) fun a27 m27 =>
                  if a27 = 0 then
                    some (0, m27)
                  else
                    bnd2 (qM_readsDigit m27 0) fun a28 m28 =>
                    if a28 = 0 then
                      some (0, m28)
                    else
                      bnd2 (qM_reads m28 61) fun a29 m29 =>
                      if a29 = 0 then
                        some (0, m29)
                      else
                        bnd2 (qM_readsNumber m29 1) fun a30 m30 =>
                        if a30 = 0 then
                          some (0, m30)
                        else
                          some (1, m30)
        else
          bnd2 (qM_reads m6 117) fun a31 m31 =>
          if a31 = 0 then
            some (0, m31)
          else
            bnd2 (qM_reads m31 116) fun a32 m32 =>
            if a32 = 0 then
              some (0, m32)
            else
              bnd2 (qM_reads m32 32) fun a33 m33 =>
              if a33 = 0 then
                some (0, m33)
              else
                bnd2 (qM_readsNumber m33 0) fun a34 m34 =>
                if a34 = 0 then
                  some (0, m34)
                else
                  some (1, m34)
      else
        bnd2 (qM_reads m5 110) fun a35 m35 =>
        if a35 = 0 then
          some (0, m35)
        else
          bnd2 (qM_reads m35 32) fun a36 m36 =>
          if a36 = 0 then
            some (0, m36)
          else
            bnd2 (qM_readsNumber m36 0) fun a37 m37 =>
            if a37 = 0 then
              some (0, m37)
            else
              bnd2 (qM_reads m37 62) fun a38 m38 =>
              if a38 = 0 then
                some (0, m38)
              else
                bnd2 (qM_readsDigit m38 1) fun a39 m39 =>
                if a39 = 0 then
                  some (0, m39)
                else
                  some (1, m39)
    else
      bnd2 (qM_readsTenant m4) fun a40 m40 =>
      if 0 ≤ a40 ∧ a40 < 2 then some (a40, m40) else none
  else
    bnd2 (qM_reads m3 108) fun a41 m41 =>
    if a41 = 0 then
      some (0, m41)
    else
      bnd2 (qM_reads m41 97) fun a42 m42 =>
      if a42 = 0 then
        some (0, m42)
      else
        bnd2 (qM_reads m42 116) fun a43 m43 =>
        if a43 = 0 then
          some (0, m43)
        else
          bnd2 (qM_reads m43 32) fun a44 m44 =>
          if a44 = 0 then
            some (0, m44)
          else
            bnd2 (qM_readsDigit m44 0) fun a45 m45 =>
            if a45 = 0 then
              some (0, m45)
            else
              bnd2 (qM_reads m45 61) fun a46 m46 =>
              if a46 = 0 then
                some (0, m46)
              else
                bnd2 (qM_readsNumber m46 1) fun a47 m47 =>
                if a47 = 0 then
                  some (0, m47)
                else
                  some (1, m47)
def qM_readsAll_l7 : Nat → zM → Int → Option ((Int ⊕ Unit) × zM)
  | 0, _, _ => none
  | n+1, μ, v1 =>
    if v1 = 0 then
      some (.inr (), μ)
    else
      bnd2 (qM_readsCommand μ) fun a2 m2 =>
      if a2 = 0 then
        some (.inl 0, m2)
      else
        bnd2 (qM_reads m2 59) fun a3 m3 =>
        qM_readsAll_l7 n m3 a3
def qM_readsAll (μ : zM) : Option (Int × zM) :=
  Option.bind (some (st μ 142 18 0)) fun m1 =>
  bndS2 (qM_readsAll_l7 200 m1 1) (fun (r4 : Int) m4 => some (r4, m4)) (fun t4 m4 =>
  if (m4 142 18) = (m4 142 17) then
    some (1, m4)
  else
    some (0, m4)
  )
def qM_notNow_j92 (μ : zM) (v1 : Int) (v2 : Int) : Option Int :=
  Option.bind (qM_notFlat μ v1 v2) fun a1 =>
  some a1
def qM_notNow_j138 (μ : zM) (v1 : Int) (v2 : Int) : Option Int :=
  Option.bind (qM_notGive μ v1 v2) fun a2 =>
  some a2
def qM_notNow_j118 (μ : zM) (v1 : Int) (v2 : Int) : Option Int :=
  Option.bind (qM_notIn μ v1 v2) fun a3 =>
  some a3
def qM_notNow_j145 (μ : zM) (v1 : Int) : Option Int :=
  Option.bind (qM_notPass μ v1) fun a4 =>
  some a4
def qM_notNow_j125 (μ : zM) (v1 : Int) : Option Int :=
  Option.bind (qM_notOut μ v1) fun a5 =>
  some a5
def qM_notNow_j131 (μ : zM) (v1 : Int) (v2 : Int) : Option Int :=
  Option.bind (qM_notRent μ v1 v2) fun a6 =>
  some a6
def qM_notNow_j99 (μ : zM) (v1 : Int) (v2 : Int) : Option Int :=
  Option.bind (qM_notTenant μ v1 v2 (μ 155 2) (μ 155 3)) fun a7 =>
  some a7
def qM_notNow (μ : zM) : Option Int :=
  if (μ 142 22) = 102 then
    qM_notNow_j92 μ (μ 155 0) (μ 155 1)
  else
  if (μ 142 22) = 103 then
    qM_notNow_j138 μ (μ 155 0) (μ 155 1)
  else
  if (μ 142 22) = 104 then
    some 0
  else
  if (μ 142 22) = 105 then
    qM_notNow_j118 μ (μ 155 0) (μ 155 1)
  else
  if (μ 142 22) = 106 then
    some 0
  else
  if (μ 142 22) = 107 then
    some 0
  else
  if (μ 142 22) = 108 then
    some 0
  else
  if (μ 142 22) = 109 then
    qM_notNow_j145 μ (μ 155 0)
  else
  if (μ 142 22) = 110 then
    some 0
  else
  if (μ 142 22) = 111 then
    qM_notNow_j125 μ (μ 155 0)
  else
  if (μ 142 22) = 112 then
    some 0
  else
  if (μ 142 22) = 113 then
    some 0
  else
  if (μ 142 22) = 114 then
    qM_notNow_j131 μ (μ 155 0) (μ 155 1)
  else
  if (μ 142 22) = 115 then
    some 0
  else
  if (μ 142 22) = 116 then
    qM_notNow_j99 μ (μ 155 0) (μ 155 1)
  else
    some 0
def qM_doesNow_j92 (μ : zM) (v1 : Int) (v2 : Int) : Option (Int × zM) :=
  bnd2 (qM_addsFlat μ v1 v2) fun a1 m1 =>
  some (a1, m1)
def qM_doesNow_j142 (μ : zM) (v1 : Int) (v2 : Int) : Option (Int × zM) :=
  bnd2 (qM_gives μ v1 v2) fun a2 m2 =>
  some (a2, m2)
def qM_doesNow_j155 (μ : zM) : Option (Int × zM) :=
  bnd2 (qM_settles μ) fun a3 m3 =>
  some (a3, m3)
def qM_doesNow_j118 (μ : zM) (v1 : Int) (v2 : Int) : Option (Int × zM) :=
  bnd2 (qM_movesIn μ v1 v2) fun a4 m4 =>
  some (a4, m4)
def qM_doesNow_j149 (μ : zM) (v1 : Int) : Option (Int × zM) :=
  bnd2 (qM_passes μ v1) fun a5 m5 =>
  some (a5, m5)
def qM_doesNow_j125 (μ : zM) (v1 : Int) : Option (Int × zM) :=
  Option.bind (qM_place μ v1) fun a6 =>
  bnd2 (qM_leaves μ a6) fun a7 m7 =>
  some (a7, m7)
def qM_doesNow_j135 (μ : zM) (v1 : Int) (v2 : Int) : Option (Int × zM) :=
  bnd2 (qM_setsRent μ v1 v2) fun a8 m8 =>
  some (a8, m8)
def qM_doesNow_j99 (μ : zM) (v1 : Int) (v2 : Int) : Option (Int × zM) :=
  bnd2 (qM_addsTenant μ v1 v2 (μ 155 2) (μ 155 3)) fun a9 m9 =>
  some (a9, m9)
def qM_doesNow (μ : zM) : Option (Int × zM) :=
  if (μ 142 22) = 102 then
    qM_doesNow_j92 μ (μ 155 0) (μ 155 1)
  else
  if (μ 142 22) = 103 then
    qM_doesNow_j142 μ (μ 155 0) (μ 155 1)
  else
  if (μ 142 22) = 104 then
    qM_doesNow_j155 μ
  else
  if (μ 142 22) = 105 then
    qM_doesNow_j118 μ (μ 155 0) (μ 155 1)
  else
  if (μ 142 22) = 106 then
    qM_doesNow_j155 μ
  else
  if (μ 142 22) = 107 then
    qM_doesNow_j155 μ
  else
  if (μ 142 22) = 108 then
    qM_doesNow_j155 μ
  else
  if (μ 142 22) = 109 then
    qM_doesNow_j149 μ (μ 155 0)
  else
  if (μ 142 22) = 110 then
    qM_doesNow_j155 μ
  else
  if (μ 142 22) = 111 then
    qM_doesNow_j125 μ (μ 155 0)
  else
  if (μ 142 22) = 112 then
    qM_doesNow_j155 μ
  else
  if (μ 142 22) = 113 then
    qM_doesNow_j155 μ
  else
  if (μ 142 22) = 114 then
    qM_doesNow_j135 μ (μ 155 0) (μ 155 1)
  else
  if (μ 142 22) = 115 then
    qM_doesNow_j155 μ
  else
  if (μ 142 22) = 116 then
    qM_doesNow_j99 μ (μ 155 0) (μ 155 1)
  else
    qM_doesNow_j155 μ
def qM_doesAll_l12 : Nat → zM → Int → Option ((Int ⊕ Unit) × zM)
  | 0, _, _ => none
  | n+1, μ, v1 =>
    if v1 = 0 then
      some (.inr (), μ)
    else
      bnd2 (qM_readsCommand μ) fun a3 m3 =>
      Option.bind (qM_notNow m3) fun a4 =>
      if a4 = 0 then
        bnd2 (qM_doesNow m3) fun a5 m5 =>
        Option.bind (some (st m5 142 23 (wr ((m5 142 23) + 1)))) fun m6 =>
        bnd2 (qM_reads m6 59) fun a7 m7 =>
        qM_doesAll_l12 n m7 a7
      else
        some (.inl 0, m3)
def qM_doesAll (μ : zM) : Option (Int × zM) :=
  Option.bind (some (st μ 142 23 0)) fun m1 =>
  Option.bind (some (st m1 142 18 0)) fun m2 =>
  bndS2 (qM_doesAll_l12 200 m2 1) (fun (r8 : Int) m8 => some (r8, m8)) (fun t8 m8 =>
  some (1, m8)
  )
def qM_run (μ : zM) : Option (Int × zM) :=
  Option.bind (some (st μ 142 0 0)) fun m1 =>
  bnd2 (qM_readsAll m1) fun a2 m2 =>
  if a2 = 0 then
    Option.bind (some (st m2 142 19 (m2 142 18))) fun m10 =>
    Option.bind (some (st m10 142 17 0)) fun m11 =>
    bnd2 (qM_fails m11 1) fun a12 m12 =>
    some (a12, m12)
  else
    Option.bind (qM_copies m2) fun m3 =>
    bnd2 (qM_doesAll m3) fun a4 m4 =>
    Option.bind (some (st m4 142 17 0)) fun m5 =>
    if a4 = 0 then
      Option.bind (qM_goesBack m5) fun m6 =>
      Option.bind (some (st m6 142 20 (m6 142 23))) fun m7 =>
      bnd2 (qM_fails m7 2) fun a8 m8 =>
      some (a8, m8)
    else
      Option.bind (qM_keeps m5) fun m9 =>
      some ((m9 142 23), m9)
def qM_errorPosition (μ : zM) : Option (Int × zM) :=
  Option.bind (some (st μ 142 0 0)) fun m1 =>
  if (m1 142 19) < 0 then
    bnd2 (qM_fails m1 1) fun a2 m2 =>
    some (a2, m2)
  else
    some ((m1 142 19), m1)
def qM_failedCommand (μ : zM) : Option (Int × zM) :=
  Option.bind (some (st μ 142 0 0)) fun m1 =>
  if (m1 142 20) < 0 then
    bnd2 (qM_fails m1 1) fun a2 m2 =>
    some (a2, m2)
  else
    some ((m1 142 20), m1)
def qM_undo_l43 (v1 : Int) : Nat → zM → Int → Option zM
  | 0, _, _ => none
  | n+1, μ, v2 =>
    if v2 < 62 then
      if 0 ≤ (wr ((wr (62 * v1)) + v2)) ∧ (wr ((wr (62 * v1)) + v2)) < 496 then
      if 0 ≤ v2 ∧ v2 < 62 then
      Option.bind (some (st μ 143 v2 (μ 144 (wr ((wr (62 * v1)) + v2))))) fun m3 =>
      qM_undo_l43 v1 n m3 (wr (v2 + 1))
      else none
      else none
    else
      some μ
def qM_undo (μ : zM) : Option (Int × zM) :=
  Option.bind (some (st μ 142 0 0)) fun m1 =>
  if (m1 142 6) = 0 then
    bnd2 (qM_fails m1 1) fun a5 m5 =>
    some (a5, m5)
  else
    Option.bind (some (st m1 142 6 (wr ((m1 142 6) - 1)))) fun m2 =>
    Option.bind (qM_undo_l43 (Int.tmod (wr ((m2 142 7) + (m2 142 6))) 8) 200 m2 0) fun m4 =>
    some ((m4 142 6), m4)
def qM_save_l7 : Nat → zM → Int → Option zM
  | 0, _, _ => none
  | n+1, μ, v1 =>
    if v1 < 62 then
      if 0 ≤ v1 ∧ v1 < 62 then
      if 0 ≤ v1 ∧ v1 < 62 then
      Option.bind (some (st μ 145 v1 (μ 143 v1))) fun m2 =>
      qM_save_l7 n m2 (wr (v1 + 1))
      else none
      else none
    else
      some μ
def qM_save (μ : zM) : Option (Int × zM) :=
  Option.bind (some (st μ 142 0 0)) fun m1 =>
  Option.bind (qM_save_l7 200 m1 0) fun m3 =>
  Option.bind (some (st m3 142 8 1)) fun m4 =>
  some ((m4 143 1), m4)
def qM_restore_l20 : Nat → zM → Int → Option zM
  | 0, _, _ => none
  | n+1, μ, v1 =>
    if v1 < 62 then
      if 0 ≤ v1 ∧ v1 < 62 then
      if 0 ≤ v1 ∧ v1 < 62 then
      Option.bind (some (st μ 143 v1 (μ 145 v1))) fun m2 =>
      qM_restore_l20 n m2 (wr (v1 + 1))
      else none
      else none
    else
      some μ
def qM_restore (μ : zM) : Option (Int × zM) :=
  Option.bind (some (st μ 142 0 0)) fun m1 =>
  if (m1 142 8) = 0 then
    bnd2 (qM_fails m1 1) fun a6 m6 =>
    some (a6, m6)
  else
    Option.bind (qM_restore_l20 200 m1 0) fun m3 =>
    Option.bind (some (st m3 142 6 0)) fun m4 =>
    Option.bind (some (st m4 142 7 0)) fun m5 =>
    some ((m5 143 1), m5)
def qL_addFlat (μ : zM) (v1 : Int) (v2 : Int) : Option (Int × zM) :=
  bndT (qT_addFlat μ v1 v2) (fun x m => some (0, st m 156 0 x)) (fun (e : Nat) m => if e = 2 then some (1, m) else if e = 3 then some (2, m) else none)
def qL_addTenant (μ : zM) (v1 : Int) (v2 : Int) (v3 : Int) (v4 : Int) : Option (Int × zM) :=
  bndT (qT_addTenant μ v1 v2 v3 v4) (fun x m => some (0, st m 156 0 x)) (fun (e : Nat) m => if e = 2 then some (1, m) else if e = 3 then some (2, m) else none)
def qL_removeTenant (μ : zM) (v1 : Int) : Option (Int × zM) :=
  bndT (qT_removeTenant μ v1) (fun x m => some (0, st m 156 0 x)) (fun (e : Nat) m => if e = 0 then some (1, m) else if e = 3 then some (2, m) else none)
def qL_moveIn (μ : zM) (v1 : Int) (v2 : Int) : Option (Int × zM) :=
  bndT (qT_moveIn μ v1 v2) (fun x m => some (0, st m 156 0 x)) (fun (e : Nat) m => if e = 0 then some (1, m) else if e = 1 then some (2, m) else if e = 3 then some (3, m) else if e = 4 then some (4, m) else none)
def qL_moveOut (μ : zM) (v1 : Int) : Option (Int × zM) :=
  bndT (qT_moveOut μ v1) (fun x m => some (0, st m 156 0 x)) (fun (e : Nat) m => if e = 0 then some (1, m) else if e = 3 then some (2, m) else none)
def qL_setRent (μ : zM) (v1 : Int) (v2 : Int) : Option (Int × zM) :=
  bndT (qT_setRent μ v1 v2) (fun x m => some (0, st m 156 0 x)) (fun (e : Nat) m => if e = 1 then some (1, m) else if e = 2 then some (2, m) else none)
def qL_give (μ : zM) (v1 : Int) (v2 : Int) : Option (Int × zM) :=
  bndT (qT_give μ v1 v2) (fun x m => some (0, st m 156 0 x)) (fun (e : Nat) m => if e = 0 then some (1, m) else if e = 2 then some (2, m) else none)
def qL_pass (μ : zM) (v1 : Int) : Option (Int × zM) :=
  bndT (qT_pass μ v1) (fun x m => some (0, st m 156 0 x)) (fun (e : Nat) m => if e = 2 then some (1, m) else none)
def qL_floorOf (μ : zM) (v1 : Int) : Option (Int × zM) :=
  bndT (qT_floorOf μ v1) (fun x m => some (0, st m 156 0 x)) (fun (e : Nat) m => if e = 1 then some (1, m) else none)
def qL_rentOf (μ : zM) (v1 : Int) : Option (Int × zM) :=
  bndT (qT_rentOf μ v1) (fun x m => some (0, st m 156 0 x)) (fun (e : Nat) m => if e = 1 then some (1, m) else none)
def qL_tenantIn (μ : zM) (v1 : Int) : Option (Int × zM) :=
  bndT (qT_tenantIn μ v1) (fun x m => some (0, st m 156 0 x)) (fun (e : Nat) m => if e = 1 then some (1, m) else if e = 0 then some (2, m) else none)
def qL_weightOf (μ : zM) (v1 : Int) : Option (Int × zM) :=
  bndT (qT_weightOf μ v1) (fun x m => some (0, st m 156 0 x)) (fun (e : Nat) m => if e = 0 then some (1, m) else none)
def qL_purseOf (μ : zM) (v1 : Int) : Option (Int × zM) :=
  bndT (qT_purseOf μ v1) (fun x m => some (0, st m 156 0 x)) (fun (e : Nat) m => if e = 0 then some (1, m) else none)
def qL_noticesOf (μ : zM) (v1 : Int) : Option (Int × zM) :=
  bndT (qT_noticesOf μ v1) (fun x m => some (0, st m 156 0 x)) (fun (e : Nat) m => if e = 0 then some (1, m) else none)
def qL_flatOf (μ : zM) (v1 : Int) : Option (Int × zM) :=
  bndT (qT_flatOf μ v1) (fun x m => some (0, st m 156 0 x)) (fun (e : Nat) m => if e = 0 then some (1, m) else none)
def qL_burden (μ : zM) (v1 : Int) (v2 : Int) : Option (Int × zM) :=
  bndT (qT_burden μ v1 v2) (fun x m => some (0, st m 156 0 x)) (fun (e : Nat) m => if e = 0 then some (1, m) else if e = 1 then some (2, m) else none)
def qL_flatByRank (μ : zM) (v1 : Int) (v2 : Int) : Option (Int × zM) :=
  bndT (qT_flatByRank μ v1 v2) (fun x m => some (0, st m 156 0 x)) (fun (e : Nat) m => if e = 0 then some (1, m) else none)
def qL_tenantByPurse (μ : zM) (v1 : Int) : Option (Int × zM) :=
  bndT (qT_tenantByPurse μ v1) (fun x m => some (0, st m 156 0 x)) (fun (e : Nat) m => if e = 0 then some (1, m) else none)
def qL_creak (μ : zM) (v1 : Int) : Option (Int × zM) :=
  bndT (qT_creak μ v1) (fun x m => some (0, st m 156 0 x)) (fun (e : Nat) m => if e = 1 then some (1, m) else none)
def qL_possibleFloors (μ : zM) (v1 : Int) : Option (Int × zM) :=
  bndT (qT_possibleFloors μ v1) (fun x m => some (0, st m 156 0 x)) (fun (e : Nat) m => if e = 0 then some (1, m) else none)
def qL_plannedFlat (μ : zM) (v1 : Int) : Option (Int × zM) :=
  bndT (qT_plannedFlat μ v1) (fun x m => some (0, st m 156 0 x)) (fun (e : Nat) m => if e = 0 then some (1, m) else none)
def qL_plannedFlatByPlans (μ : zM) (v1 : Int) : Option (Int × zM) :=
  bndT (qT_plannedFlatByPlans μ v1) (fun x m => some (0, st m 156 0 x)) (fun (e : Nat) m => if e = 0 then some (1, m) else none)
def qL_chainLength (μ : zM) (v1 : Int) : Option (Int × zM) :=
  bndT (qT_chainLength μ v1) (fun x m => some (0, st m 156 0 x)) (fun (e : Nat) m => if e = 0 then some (1, m) else none)
def qL_monthsUntilEviction (μ : zM) : Option (Int × zM) :=
  bndT (qT_monthsUntilEviction μ) (fun x m => some (0, st m 156 0 x)) (fun (e : Nat) m => if e = 0 then some (1, m) else none)
def qL_meanBurden (μ : zM) : Option (Int × zM) :=
  bndT (qT_meanBurden μ) (fun x m => some (0, st m 157 0 x)) (fun (e : Nat) m => if e = 5 then some (1, m) else none)
def qL_occupancy (μ : zM) : Option (Int × zM) :=
  bndT (qT_occupancy μ) (fun x m => if fp_n64 (fp_f2d x) then some (0, st m 157 0 (fp_f2d x)) else none) (fun (e : Nat) m => if e = 5 then some (1, m) else none)
def qL_writeFloor (μ : zM) (v1 : Int) : Option (Int × zM) :=
  bndT (qT_writeFloor μ v1) (fun x m => some (0, st m 156 0 x)) (fun (e : Nat) m => if e = 1 then some (1, m) else none)
def qL_charAt (μ : zM) (v1 : Int) : Option (Int × zM) :=
  bndT (qT_charAt μ v1) (fun x m => some (0, st m 156 0 x)) (fun (e : Nat) m => if e = 1 then some (1, m) else none)
def qL_type (μ : zM) (v1 : Int) : Option (Int × zM) :=
  bndT (qT_type μ v1) (fun x m => some (0, st m 156 0 x)) (fun (e : Nat) m => if e = 3 then some (1, m) else none)
def qL_run (μ : zM) : Option (Int × zM) :=
  bndT (qT_run μ) (fun x m => some (0, st m 156 0 x)) (fun (e : Nat) m => if e = 2 then some (1, m) else if e = 4 then some (2, m) else none)
def qL_errorPosition (μ : zM) : Option (Int × zM) :=
  bndT (qT_errorPosition μ) (fun x m => some (0, st m 156 0 x)) (fun (e : Nat) m => if e = 0 then some (1, m) else none)
def qL_failedCommand (μ : zM) : Option (Int × zM) :=
  bndT (qT_failedCommand μ) (fun x m => some (0, st m 156 0 x)) (fun (e : Nat) m => if e = 0 then some (1, m) else none)
def qL_undo (μ : zM) : Option (Int × zM) :=
  bndT (qT_undo μ) (fun x m => some (0, st m 156 0 x)) (fun (e : Nat) m => if e = 3 then some (1, m) else none)
def qL_restore (μ : zM) : Option (Int × zM) :=
  bndT (qT_restore μ) (fun x m => some (0, st m 156 0 x)) (fun (e : Nat) m => if e = 3 then some (1, m) else none)
def qL_law_j264 (rec : zM → Int → Option ((Int ⊕ Unit) × zM)) (scL : Int) (scV : Int → Int) (μ : zM) (v5 : Int) : Option ((Int ⊕ Unit) × zM) :=
  if 0 ≤ (wr (v5 + 1)) ∧ (wr (v5 + 1)) < scL then
  if 0 ≤ (wr (v5 + 2)) ∧ (wr (v5 + 2)) < scL then
  bnd2 (qL_addFlat μ (scV (wr (v5 + 1))) (scV (wr (v5 + 2)))) fun a1 m1 =>
  if 0 ≤ (wr (v5 + 1)) ∧ (wr (v5 + 1)) < scL then
  if 0 ≤ (wr (v5 + 2)) ∧ (wr (v5 + 2)) < scL then
  bnd2 (qM_addFlat m1 (scV (wr (v5 + 1))) (scV (wr (v5 + 2)))) fun a2 m2 =>
  Option.bind (qM_thrown m2) fun a3 =>
  if a3 = a1 then
    if a1 = 0 then
      if (ycmp (m2 156 0) a2) = 0 then
        rec m2 (wr (v5 + 5))
      else
        some (.inl 0, m2)
    else
      rec m2 (wr (v5 + 5))
  else
    some (.inl 0, m2)
  else none
  else none
  else none
  else none
def qL_law_j332 (rec : zM → Int → Option ((Int ⊕ Unit) × zM)) (scL : Int) (scV : Int → Int) (μ : zM) (v5 : Int) : Option ((Int ⊕ Unit) × zM) :=
  if 0 ≤ (wr (v5 + 1)) ∧ (wr (v5 + 1)) < scL then
  if 0 ≤ (wr (v5 + 2)) ∧ (wr (v5 + 2)) < scL then
  if 0 ≤ (wr (v5 + 3)) ∧ (wr (v5 + 3)) < scL then
  if 0 ≤ (wr (v5 + 4)) ∧ (wr (v5 + 4)) < scL then
  bnd2 (qL_addTenant μ (scV (wr (v5 + 1))) (scV (wr (v5 + 2))) (scV (wr (v5 + 3))) (scV (wr (v5 + 4)))) fun a4 m4 =>
  if 0 ≤ (wr (v5 + 1)) ∧ (wr (v5 + 1)) < scL then
  if 0 ≤ (wr (v5 + 2)) ∧ (wr (v5 + 2)) < scL then
  if 0 ≤ (wr (v5 + 3)) ∧ (wr (v5 + 3)) < scL then
  if 0 ≤ (wr (v5 + 4)) ∧ (wr (v5 + 4)) < scL then
  bnd2 (qM_addTenant m4 (scV (wr (v5 + 1))) (scV (wr (v5 + 2))) (scV (wr (v5 + 3))) (scV (wr (v5 + 4)))) fun a5 m5 =>
  Option.bind (qM_thrown m5) fun a6 =>
  if a6 = a4 then
    if a4 = 0 then
      if (ycmp (m5 156 0) a5) = 0 then
        rec m5 (wr (v5 + 5))
      else
        some (.inl 0, m5)
    else
      rec m5 (wr (v5 + 5))
  else
    some (.inl 0, m5)
  else none
  else none
  else none
  else none
  else none
  else none
  else none
  else none
def qL_law_j424 (rec : zM → Int → Option ((Int ⊕ Unit) × zM)) (scL : Int) (scV : Int → Int) (μ : zM) (v5 : Int) : Option ((Int ⊕ Unit) × zM) :=
  if 0 ≤ (wr (v5 + 1)) ∧ (wr (v5 + 1)) < scL then
  bnd2 (qL_removeTenant μ (scV (wr (v5 + 1)))) fun a7 m7 =>
  if 0 ≤ (wr (v5 + 1)) ∧ (wr (v5 + 1)) < scL then
  bnd2 (qM_removeTenant m7 (scV (wr (v5 + 1)))) fun a8 m8 =>
  Option.bind (qM_thrown m8) fun a9 =>
  if a9 = a7 then
    if a7 = 0 then
      if (ycmp (m8 156 0) a8) = 0 then
        rec m8 (wr (v5 + 5))
      else
        some (.inl 0, m8)
    else
      rec m8 (wr (v5 + 5))
  else
    some (.inl 0, m8)
  else none
  else none
def qL_law_j480 (rec : zM → Int → Option ((Int ⊕ Unit) × zM)) (scL : Int) (scV : Int → Int) (μ : zM) (v5 : Int) : Option ((Int ⊕ Unit) × zM) :=
  if 0 ≤ (wr (v5 + 1)) ∧ (wr (v5 + 1)) < scL then
  if 0 ≤ (wr (v5 + 2)) ∧ (wr (v5 + 2)) < scL then
  bnd2 (qL_moveIn μ (scV (wr (v5 + 1))) (scV (wr (v5 + 2)))) fun a10 m10 =>
  if 0 ≤ (wr (v5 + 1)) ∧ (wr (v5 + 1)) < scL then
  if 0 ≤ (wr (v5 + 2)) ∧ (wr (v5 + 2)) < scL then
  bnd2 (qM_moveIn m10 (scV (wr (v5 + 1))) (scV (wr (v5 + 2)))) fun a11 m11 =>
  Option.bind (qM_thrown m11) fun a12 =>
  if a12 = a10 then
    if a10 = 0 then
      if (ycmp (m11 156 0) a11) = 0 then
        rec m11 (wr (v5 + 5))
      else
        some (.inl 0, m11)
    else
      rec m11 (wr (v5 + 5))
  else
    some (.inl 0, m11)
  else none
  else none
  else none
  else none
def qL_law_j548 (rec : zM → Int → Option ((Int ⊕ Unit) × zM)) (scL : Int) (scV : Int → Int) (μ : zM) (v5 : Int) : Option ((Int ⊕ Unit) × zM) :=
  if 0 ≤ (wr (v5 + 1)) ∧ (wr (v5 + 1)) < scL then
  bnd2 (qL_moveOut μ (scV (wr (v5 + 1)))) fun a13 m13 =>
  if 0 ≤ (wr (v5 + 1)) ∧ (wr (v5 + 1)) < scL then
  bnd2 (qM_moveOut m13 (scV (wr (v5 + 1)))) fun a14 m14 =>
  Option.bind (qM_thrown m14) fun a15 =>
  if a15 = a13 then
    if a13 = 0 then
      if (ycmp (m14 156 0) a14) = 0 then
        rec m14 (wr (v5 + 5))
      else
        some (.inl 0, m14)
    else
      rec m14 (wr (v5 + 5))
  else
    some (.inl 0, m14)
  else none
  else none
def qL_law_j604 (rec : zM → Int → Option ((Int ⊕ Unit) × zM)) (scL : Int) (scV : Int → Int) (μ : zM) (v5 : Int) : Option ((Int ⊕ Unit) × zM) :=
  if 0 ≤ (wr (v5 + 1)) ∧ (wr (v5 + 1)) < scL then
  if 0 ≤ (wr (v5 + 2)) ∧ (wr (v5 + 2)) < scL then
  bnd2 (qL_setRent μ (scV (wr (v5 + 1))) (scV (wr (v5 + 2)))) fun a16 m16 =>
  if 0 ≤ (wr (v5 + 1)) ∧ (wr (v5 + 1)) < scL then
  if 0 ≤ (wr (v5 + 2)) ∧ (wr (v5 + 2)) < scL then
  bnd2 (qM_setRent m16 (scV (wr (v5 + 1))) (scV (wr (v5 + 2)))) fun a17 m17 =>
  Option.bind (qM_thrown m17) fun a18 =>
  if a18 = a16 then
    if a16 = 0 then
      if (ycmp (m17 156 0) a17) = 0 then
        rec m17 (wr (v5 + 5))
      else
        some (.inl 0, m17)
    else
      rec m17 (wr (v5 + 5))
  else
    some (.inl 0, m17)
  else none
  else none
  else none
  else none
def qL_law_j672 (rec : zM → Int → Option ((Int ⊕ Unit) × zM)) (scL : Int) (scV : Int → Int) (μ : zM) (v5 : Int) : Option ((Int ⊕ Unit) × zM) :=
  if 0 ≤ (wr (v5 + 1)) ∧ (wr (v5 + 1)) < scL then
  if 0 ≤ (wr (v5 + 2)) ∧ (wr (v5 + 2)) < scL then
  bnd2 (qL_give μ (scV (wr (v5 + 1))) (scV (wr (v5 + 2)))) fun a19 m19 =>
  if 0 ≤ (wr (v5 + 1)) ∧ (wr (v5 + 1)) < scL then
  if 0 ≤ (wr (v5 + 2)) ∧ (wr (v5 + 2)) < scL then
  bnd2 (qM_give m19 (scV (wr (v5 + 1))) (scV (wr (v5 + 2)))) fun a20 m20 =>
  Option.bind (qM_thrown m20) fun a21 =>
  if a21 = a19 then
    if a19 = 0 then
      if (ycmp (m20 156 0) a20) = 0 then
        rec m20 (wr (v5 + 5))
      else
        some (.inl 0, m20)
    else
      rec m20 (wr (v5 + 5))
  else
    some (.inl 0, m20)
  else none
  else none
  else none
  else none
def qL_law_j740 (rec : zM → Int → Option ((Int ⊕ Unit) × zM)) (scL : Int) (scV : Int → Int) (μ : zM) (v5 : Int) : Option ((Int ⊕ Unit) × zM) :=
  bnd2 (qT_settle μ) fun a22 m22 =>
  bnd2 (qM_settle m22) fun a23 m23 =>
  if a22 = a23 then
    rec m23 (wr (v5 + 5))
  else
    some (.inl 0, m23)
def qL_law_j753 (rec : zM → Int → Option ((Int ⊕ Unit) × zM)) (scL : Int) (scV : Int → Int) (μ : zM) (v5 : Int) : Option ((Int ⊕ Unit) × zM) :=
  if 0 ≤ (wr (v5 + 1)) ∧ (wr (v5 + 1)) < scL then
  bnd2 (qL_pass μ (scV (wr (v5 + 1)))) fun a24 m24 =>
  if 0 ≤ (wr (v5 + 1)) ∧ (wr (v5 + 1)) < scL then
  bnd2 (qM_pass m24 (scV (wr (v5 + 1)))) fun a25 m25 =>
  Option.bind (qM_thrown m25) fun a26 =>
  if a26 = a24 then
    if a24 = 0 then
      if (ycmp (m25 156 0) a25) = 0 then
        rec m25 (wr (v5 + 5))
      else
        some (.inl 0, m25)
    else
      rec m25 (wr (v5 + 5))
  else
    some (.inl 0, m25)
  else none
  else none
def qL_law_j809 (rec : zM → Int → Option ((Int ⊕ Unit) × zM)) (scL : Int) (scV : Int → Int) (μ : zM) (v5 : Int) : Option ((Int ⊕ Unit) × zM) :=
  Option.bind (qT_flats μ) fun a27 =>
  bnd2 (qM_flats μ) fun a28 m28 =>
  if a27 = a28 then
    rec m28 (wr (v5 + 5))
  else
    some (.inl 0, m28)
def qL_law_j822 (rec : zM → Int → Option ((Int ⊕ Unit) × zM)) (scL : Int) (scV : Int → Int) (μ : zM) (v5 : Int) : Option ((Int ⊕ Unit) × zM) :=
  if 0 ≤ (wr (v5 + 1)) ∧ (wr (v5 + 1)) < scL then
  bnd2 (qL_floorOf μ (scV (wr (v5 + 1)))) fun a29 m29 =>
  if 0 ≤ (wr (v5 + 1)) ∧ (wr (v5 + 1)) < scL then
  bnd2 (qM_floorOf m29 (scV (wr (v5 + 1)))) fun a30 m30 =>
  Option.bind (qM_thrown m30) fun a31 =>
  if a31 = a29 then
    if a29 = 0 then
      if (ycmp (m30 156 0) a30) = 0 then
        rec m30 (wr (v5 + 5))
      else
        some (.inl 0, m30)
    else
      rec m30 (wr (v5 + 5))
  else
    some (.inl 0, m30)
  else none
  else none
def qL_law_j878 (rec : zM → Int → Option ((Int ⊕ Unit) × zM)) (scL : Int) (scV : Int → Int) (μ : zM) (v5 : Int) : Option ((Int ⊕ Unit) × zM) :=
  if 0 ≤ (wr (v5 + 1)) ∧ (wr (v5 + 1)) < scL then
  bnd2 (qL_rentOf μ (scV (wr (v5 + 1)))) fun a32 m32 =>
  if 0 ≤ (wr (v5 + 1)) ∧ (wr (v5 + 1)) < scL then
  bnd2 (qM_rentOf m32 (scV (wr (v5 + 1)))) fun a33 m33 =>
  Option.bind (qM_thrown m33) fun a34 =>
  if a34 = a32 then
    if a32 = 0 then
      if (ycmp (m33 156 0) a33) = 0 then
        rec m33 (wr (v5 + 5))
      else
        some (.inl 0, m33)
    else
      rec m33 (wr (v5 + 5))
  else
    some (.inl 0, m33)
  else none
  else none
def qL_law_j934 (rec : zM → Int → Option ((Int ⊕ Unit) × zM)) (scL : Int) (scV : Int → Int) (μ : zM) (v5 : Int) : Option ((Int ⊕ Unit) × zM) :=
  if 0 ≤ (wr (v5 + 1)) ∧ (wr (v5 + 1)) < scL then
  bnd2 (qL_tenantIn μ (scV (wr (v5 + 1)))) fun a35 m35 =>
  if 0 ≤ (wr (v5 + 1)) ∧ (wr (v5 + 1)) < scL then
  bnd2 (qM_tenantIn m35 (scV (wr (v5 + 1)))) fun a36 m36 =>
  Option.bind (qM_thrown m36) fun a37 =>
  if a37 = a35 then
    if a35 = 0 then
      if (ycmp (m36 156 0) a36) = 0 then
        rec m36 (wr (v5 + 5))
      else
        some (.inl 0, m36)
    else
      rec m36 (wr (v5 + 5))
  else
    some (.inl 0, m36)
  else none
  else none
def qL_law_j990 (rec : zM → Int → Option ((Int ⊕ Unit) × zM)) (scL : Int) (scV : Int → Int) (μ : zM) (v5 : Int) : Option ((Int ⊕ Unit) × zM) :=
  Option.bind (qT_vacantFlats μ) fun a38 =>
  bnd2 (qM_vacantFlats μ) fun a39 m39 =>
  if a38 = a39 then
    rec m39 (wr (v5 + 5))
  else
    some (.inl 0, m39)
def qL_law_j1003 (rec : zM → Int → Option ((Int ⊕ Unit) × zM)) (scL : Int) (scV : Int → Int) (μ : zM) (v5 : Int) : Option ((Int ⊕ Unit) × zM) :=
  Option.bind (qT_tenants μ) fun a40 =>
  bnd2 (qM_tenants μ) fun a41 m41 =>
  if a40 = a41 then
    rec m41 (wr (v5 + 5))
  else
    some (.inl 0, m41)
def qL_law_j1016 (rec : zM → Int → Option ((Int ⊕ Unit) × zM)) (scL : Int) (scV : Int → Int) (μ : zM) (v5 : Int) : Option ((Int ⊕ Unit) × zM) :=
  if 0 ≤ (wr (v5 + 1)) ∧ (wr (v5 + 1)) < scL then
  Option.bind (qT_isPresent μ (scV (wr (v5 + 1)))) fun a42 =>
  if 0 ≤ (wr (v5 + 1)) ∧ (wr (v5 + 1)) < scL then
  bnd2 (qM_isPresent μ (scV (wr (v5 + 1)))) fun a43 m43 =>
  if a42 = a43 then
    rec m43 (wr (v5 + 5))
  else
    some (.inl 0, m43)
  else none
  else none
def qL_law_j1041 (rec : zM → Int → Option ((Int ⊕ Unit) × zM)) (scL : Int) (scV : Int → Int) (μ : zM) (v5 : Int) : Option ((Int ⊕ Unit) × zM) :=
  if 0 ≤ (wr (v5 + 1)) ∧ (wr (v5 + 1)) < scL then
  bnd2 (qL_weightOf μ (scV (wr (v5 + 1)))) fun a44 m44 =>
  if 0 ≤ (wr (v5 + 1)) ∧ (wr (v5 + 1)) < scL then
  bnd2 (qM_weightOf m44 (scV (wr (v5 + 1)))) fun a45 m45 =>
  Option.bind (qM_thrown m45) fun a46 =>
  if a46 = a44 then
    if a44 = 0 then
      if (ycmp (m45 156 0) a45) = 0 then
        rec m45 (wr (v5 + 5))
      else
        some (.inl 0, m45)
    else
      rec m45 (wr (v5 + 5))
  else
    some (.inl 0, m45)
  else none
  else none
def qL_law_j1097 (rec : zM → Int → Option ((Int ⊕ Unit) × zM)) (scL : Int) (scV : Int → Int) (μ : zM) (v5 : Int) : Option ((Int ⊕ Unit) × zM) :=
  if 0 ≤ (wr (v5 + 1)) ∧ (wr (v5 + 1)) < scL then
  bnd2 (qL_purseOf μ (scV (wr (v5 + 1)))) fun a47 m47 =>
  if 0 ≤ (wr (v5 + 1)) ∧ (wr (v5 + 1)) < scL then
  bnd2 (qM_purseOf m47 (scV (wr (v5 + 1)))) fun a48 m48 =>
  Option.bind (qM_thrown m48) fun a49 =>
  if a49 = a47 then
    if a47 = 0 then
      if (ycmp (m48 156 0) a48) = 0 then
        rec m48 (wr (v5 + 5))
      else
        some (.inl 0, m48)
    else
      rec m48 (wr (v5 + 5))
  else
    some (.inl 0, m48)
  else none
  else none
def qL_law_j1153 (rec : zM → Int → Option ((Int ⊕ Unit) × zM)) (scL : Int) (scV : Int → Int) (μ : zM) (v5 : Int) : Option ((Int ⊕ Unit) × zM) :=
  if 0 ≤ (wr (v5 + 1)) ∧ (wr (v5 + 1)) < scL then
  bnd2 (qL_noticesOf μ (scV (wr (v5 + 1)))) fun a50 m50 =>
  if 0 ≤ (wr (v5 + 1)) ∧ (wr (v5 + 1)) < scL then
  bnd2 (qM_noticesOf m50 (scV (wr (v5 + 1)))) fun a51 m51 =>
  Option.bind (qM_thrown m51) fun a52 =>
  if a52 = a50 then
    if a50 = 0 then
      if (ycmp (m51 156 0) a51) = 0 then
        rec m51 (wr (v5 + 5))
      else
        some (.inl 0, m51)
    else
      rec m51 (wr (v5 + 5))
  else
    some (.inl 0, m51)
  else none
  else none
def qL_law_j1209 (rec : zM → Int → Option ((Int ⊕ Unit) × zM)) (scL : Int) (scV : Int → Int) (μ : zM) (v5 : Int) : Option ((Int ⊕ Unit) × zM) :=
  if 0 ≤ (wr (v5 + 1)) ∧ (wr (v5 + 1)) < scL then
  bnd2 (qL_flatOf μ (scV (wr (v5 + 1)))) fun a53 m53 =>
  if 0 ≤ (wr (v5 + 1)) ∧ (wr (v5 + 1)) < scL then
  bnd2 (qM_flatOf m53 (scV (wr (v5 + 1)))) fun a54 m54 =>
  Option.bind (qM_thrown m54) fun a55 =>
  if a55 = a53 then
    if a53 = 0 then
      if (ycmp (m54 156 0) a54) = 0 then
        rec m54 (wr (v5 + 5))
      else
        some (.inl 0, m54)
    else
      rec m54 (wr (v5 + 5))
  else
    some (.inl 0, m54)
  else none
  else none
def qL_law_j1265 (rec : zM → Int → Option ((Int ⊕ Unit) × zM)) (scL : Int) (scV : Int → Int) (μ : zM) (v5 : Int) : Option ((Int ⊕ Unit) × zM) :=
  if 0 ≤ (wr (v5 + 1)) ∧ (wr (v5 + 1)) < scL then
  if 0 ≤ (wr (v5 + 2)) ∧ (wr (v5 + 2)) < scL then
  bnd2 (qL_burden μ (scV (wr (v5 + 1))) (scV (wr (v5 + 2)))) fun a56 m56 =>
  if 0 ≤ (wr (v5 + 1)) ∧ (wr (v5 + 1)) < scL then
  if 0 ≤ (wr (v5 + 2)) ∧ (wr (v5 + 2)) < scL then
  bnd2 (qM_burden m56 (scV (wr (v5 + 1))) (scV (wr (v5 + 2)))) fun a57 m57 =>
  Option.bind (qM_thrown m57) fun a58 =>
  if a58 = a56 then
    if a56 = 0 then
      if (ycmp (m57 156 0) a57) = 0 then
        rec m57 (wr (v5 + 5))
      else
        some (.inl 0, m57)
    else
      rec m57 (wr (v5 + 5))
  else
    some (.inl 0, m57)
  else none
  else none
  else none
  else none
def qL_law_j1333 (rec : zM → Int → Option ((Int ⊕ Unit) × zM)) (scL : Int) (scV : Int → Int) (μ : zM) (v5 : Int) : Option ((Int ⊕ Unit) × zM) :=
  if 0 ≤ (wr (v5 + 1)) ∧ (wr (v5 + 1)) < scL then
  if 0 ≤ (wr (v5 + 2)) ∧ (wr (v5 + 2)) < scL then
  bnd2 (qL_flatByRank μ (scV (wr (v5 + 1))) (scV (wr (v5 + 2)))) fun a59 m59 =>
  if 0 ≤ (wr (v5 + 1)) ∧ (wr (v5 + 1)) < scL then
  if 0 ≤ (wr (v5 + 2)) ∧ (wr (v5 + 2)) < scL then
  bnd2 (qM_flatByRank m59 (scV (wr (v5 + 1))) (scV (wr (v5 + 2)))) fun a60 m60 =>
  Option.bind (qM_thrown m60) fun a61 =>
  if a61 = a59 then
    if a59 = 0 then
      if (ycmp (m60 156 0) a60) = 0 then
        rec m60 (wr (v5 + 5))
      else
        some (.inl 0, m60)
    else
      rec m60 (wr (v5 + 5))
  else
    some (.inl 0, m60)
  else none
  else none
  else none
  else none
def qL_law_j1401 (rec : zM → Int → Option ((Int ⊕ Unit) × zM)) (scL : Int) (scV : Int → Int) (μ : zM) (v5 : Int) : Option ((Int ⊕ Unit) × zM) :=
  if 0 ≤ (wr (v5 + 1)) ∧ (wr (v5 + 1)) < scL then
  bnd2 (qL_tenantByPurse μ (scV (wr (v5 + 1)))) fun a62 m62 =>
  if 0 ≤ (wr (v5 + 1)) ∧ (wr (v5 + 1)) < scL then
  bnd2 (qM_tenantByPurse m62 (scV (wr (v5 + 1)))) fun a63 m63 =>
  Option.bind (qM_thrown m63) fun a64 =>
  if a64 = a62 then
    if a62 = 0 then
      if (ycmp (m63 156 0) a63) = 0 then
        rec m63 (wr (v5 + 5))
      else
        some (.inl 0, m63)
    else
      rec m63 (wr (v5 + 5))
  else
    some (.inl 0, m63)
  else none
  else none
def qL_law_j1457 (rec : zM → Int → Option ((Int ⊕ Unit) × zM)) (scL : Int) (scV : Int → Int) (μ : zM) (v5 : Int) : Option ((Int ⊕ Unit) × zM) :=
  if 0 ≤ (wr (v5 + 1)) ∧ (wr (v5 + 1)) < scL then
  bnd2 (qL_creak μ (scV (wr (v5 + 1)))) fun a65 m65 =>
  if 0 ≤ (wr (v5 + 1)) ∧ (wr (v5 + 1)) < scL then
  bnd2 (qM_creak m65 (scV (wr (v5 + 1)))) fun a66 m66 =>
  Option.bind (qM_thrown m66) fun a67 =>
  if a67 = a65 then
    if a65 = 0 then
      if (ycmp (m66 156 0) a66) = 0 then
        rec m66 (wr (v5 + 5))
      else
        some (.inl 0, m66)
    else
      rec m66 (wr (v5 + 5))
  else
    some (.inl 0, m66)
  else none
  else none
def qL_law_j1513 (rec : zM → Int → Option ((Int ⊕ Unit) × zM)) (scL : Int) (scV : Int → Int) (μ : zM) (v5 : Int) : Option ((Int ⊕ Unit) × zM) :=
  bnd2 (qT_censuses μ) fun a68 m68 =>
  bnd2 (qM_censuses m68) fun a69 m69 =>
  if a68 = a69 then
    rec m69 (wr (v5 + 5))
  else
    some (.inl 0, m69)
def qL_law_j1526 (rec : zM → Int → Option ((Int ⊕ Unit) × zM)) (scL : Int) (scV : Int → Int) (μ : zM) (v5 : Int) : Option ((Int ⊕ Unit) × zM) :=
  bnd2 (qT_censusesBySets μ) fun a70 m70 =>
  bnd2 (qM_censusesBySets m70) fun a71 m71 =>
  if a70 = a71 then
    rec m71 (wr (v5 + 5))
  else
    some (.inl 0, m71)
def qL_law_j1539 (rec : zM → Int → Option ((Int ⊕ Unit) × zM)) (scL : Int) (scV : Int → Int) (μ : zM) (v5 : Int) : Option ((Int ⊕ Unit) × zM) :=
  if 0 ≤ (wr (v5 + 1)) ∧ (wr (v5 + 1)) < scL then
  bnd2 (qL_possibleFloors μ (scV (wr (v5 + 1)))) fun a72 m72 =>
  if 0 ≤ (wr (v5 + 1)) ∧ (wr (v5 + 1)) < scL then
  bnd2 (qM_possibleFloors m72 (scV (wr (v5 + 1)))) fun a73 m73 =>
  Option.bind (qM_thrown m73) fun a74 =>
  if a74 = a72 then
    if a72 = 0 then
      if (ycmp (m73 156 0) a73) = 0 then
        rec m73 (wr (v5 + 5))
      else
        some (.inl 0, m73)
    else
      rec m73 (wr (v5 + 5))
  else
    some (.inl 0, m73)
  else none
  else none
def qL_law_j1595 (rec : zM → Int → Option ((Int ⊕ Unit) × zM)) (scL : Int) (scV : Int → Int) (μ : zM) (v5 : Int) : Option ((Int ⊕ Unit) × zM) :=
  if 0 ≤ (wr (v5 + 1)) ∧ (wr (v5 + 1)) < scL then
  bnd2 (qL_plannedFlat μ (scV (wr (v5 + 1)))) fun a75 m75 =>
  if 0 ≤ (wr (v5 + 1)) ∧ (wr (v5 + 1)) < scL then
  bnd2 (qM_plannedFlat m75 (scV (wr (v5 + 1)))) fun a76 m76 =>
  Option.bind (qM_thrown m76) fun a77 =>
  if a77 = a75 then
    if a75 = 0 then
      if (ycmp (m76 156 0) a76) = 0 then
        rec m76 (wr (v5 + 5))
      else
        some (.inl 0, m76)
    else
      rec m76 (wr (v5 + 5))
  else
    some (.inl 0, m76)
  else none
  else none
def qL_law_j1651 (rec : zM → Int → Option ((Int ⊕ Unit) × zM)) (scL : Int) (scV : Int → Int) (μ : zM) (v5 : Int) : Option ((Int ⊕ Unit) × zM) :=
  if 0 ≤ (wr (v5 + 1)) ∧ (wr (v5 + 1)) < scL then
  bnd2 (qL_plannedFlatByPlans μ (scV (wr (v5 + 1)))) fun a78 m78 =>
  if 0 ≤ (wr (v5 + 1)) ∧ (wr (v5 + 1)) < scL then
  bnd2 (qM_plannedFlatByPlans m78 (scV (wr (v5 + 1)))) fun a79 m79 =>
  Option.bind (qM_thrown m79) fun a80 =>
  if a80 = a78 then
    if a78 = 0 then
      if (ycmp (m79 156 0) a79) = 0 then
        rec m79 (wr (v5 + 5))
      else
        some (.inl 0, m79)
    else
      rec m79 (wr (v5 + 5))
  else
    some (.inl 0, m79)
  else none
  else none
def qL_law_j1707 (rec : zM → Int → Option ((Int ⊕ Unit) × zM)) (scL : Int) (scV : Int → Int) (μ : zM) (v5 : Int) : Option ((Int ⊕ Unit) × zM) :=
  bnd2 (qT_stablePlans μ) fun a81 m81 =>
  bnd2 (qM_stablePlans m81) fun a82 m82 =>
  if a81 = a82 then
    rec m82 (wr (v5 + 5))
  else
    some (.inl 0, m82)
def qL_law_j1720 (rec : zM → Int → Option ((Int ⊕ Unit) × zM)) (scL : Int) (scV : Int → Int) (μ : zM) (v5 : Int) : Option ((Int ⊕ Unit) × zM) :=
  bnd2 (qT_isStable μ) fun a83 m83 =>
  bnd2 (qM_isStable m83) fun a84 m84 =>
  if a83 = a84 then
    rec m84 (wr (v5 + 5))
  else
    some (.inl 0, m84)
def qL_law_j1733 (rec : zM → Int → Option ((Int ⊕ Unit) × zM)) (scL : Int) (scV : Int → Int) (μ : zM) (v5 : Int) : Option ((Int ⊕ Unit) × zM) :=
  if 0 ≤ (wr (v5 + 1)) ∧ (wr (v5 + 1)) < scL then
  bnd2 (qL_chainLength μ (scV (wr (v5 + 1)))) fun a85 m85 =>
  if 0 ≤ (wr (v5 + 1)) ∧ (wr (v5 + 1)) < scL then
  bnd2 (qM_chainLength m85 (scV (wr (v5 + 1)))) fun a86 m86 =>
  Option.bind (qM_thrown m86) fun a87 =>
  if a87 = a85 then
    if a85 = 0 then
      if (ycmp (m86 156 0) a86) = 0 then
        rec m86 (wr (v5 + 5))
      else
        some (.inl 0, m86)
    else
      rec m86 (wr (v5 + 5))
  else
    some (.inl 0, m86)
  else none
  else none
def qL_law_j1789 (rec : zM → Int → Option ((Int ⊕ Unit) × zM)) (scL : Int) (scV : Int → Int) (μ : zM) (v5 : Int) : Option ((Int ⊕ Unit) × zM) :=
  bnd2 (qL_monthsUntilEviction μ) fun a88 m88 =>
  bnd2 (qM_monthsUntilEviction m88) fun a89 m89 =>
  Option.bind (qM_thrown m89) fun a90 =>
  if a90 = a88 then
    if a88 = 0 then
      if (ycmp (m89 156 0) a89) = 0 then
        rec m89 (wr (v5 + 5))
      else
        some (.inl 0, m89)
    else
      rec m89 (wr (v5 + 5))
  else
    some (.inl 0, m89)
def qL_law_j1833 (rec : zM → Int → Option ((Int ⊕ Unit) × zM)) (scL : Int) (scV : Int → Int) (μ : zM) (v5 : Int) : Option ((Int ⊕ Unit) × zM) :=
  Option.bind (qT_month μ) fun a91 =>
  bnd2 (qM_month μ) fun a92 m92 =>
  if a91 = a92 then
    rec m92 (wr (v5 + 5))
  else
    some (.inl 0, m92)
def qL_law_j1846 (rec : zM → Int → Option ((Int ⊕ Unit) × zM)) (scL : Int) (scV : Int → Int) (μ : zM) (v5 : Int) : Option ((Int ⊕ Unit) × zM) :=
  Option.bind (qT_received μ) fun a93 =>
  bnd2 (qM_received μ) fun a94 m94 =>
  if (ycmp a93 a94) = 0 then
    rec m94 (wr (v5 + 5))
  else
    some (.inl 0, m94)
def qL_law_j1860 (rec : zM → Int → Option ((Int ⊕ Unit) × zM)) (scL : Int) (scV : Int → Int) (μ : zM) (v5 : Int) : Option ((Int ⊕ Unit) × zM) :=
  Option.bind (qT_receivedByParts μ) fun a95 =>
  bnd2 (qM_receivedByParts μ) fun a96 m96 =>
  if (ycmp a95 a96) = 0 then
    rec m96 (wr (v5 + 5))
  else
    some (.inl 0, m96)
def qL_law_j1874 (rec : zM → Int → Option ((Int ⊕ Unit) × zM)) (scL : Int) (scV : Int → Int) (μ : zM) (v5 : Int) : Option ((Int ⊕ Unit) × zM) :=
  Option.bind (qT_paidRents μ) fun a97 =>
  bnd2 (qM_paidRents μ) fun a98 m98 =>
  if a97 = a98 then
    rec m98 (wr (v5 + 5))
  else
    some (.inl 0, m98)
def qL_law_j1887 (rec : zM → Int → Option ((Int ⊕ Unit) × zM)) (scL : Int) (scV : Int → Int) (μ : zM) (v5 : Int) : Option ((Int ⊕ Unit) × zM) :=
  Option.bind (qT_evictions μ) fun a99 =>
  bnd2 (qM_evictions μ) fun a100 m100 =>
  if a99 = a100 then
    rec m100 (wr (v5 + 5))
  else
    some (.inl 0, m100)
def qL_law_j1900 (rec : zM → Int → Option ((Int ⊕ Unit) × zM)) (scL : Int) (scV : Int → Int) (μ : zM) (v5 : Int) : Option ((Int ⊕ Unit) × zM) :=
  bnd2 (qL_meanBurden μ) fun a101 m101 =>
  bnd2 (qM_meanBurden m101) fun a102 m102 =>
  Option.bind (qM_thrown m102) fun a103 =>
  if a103 = a101 then
    if a101 = 0 then
      if (fp_dcmpl (m102 157 0) a102) = 0 then
        rec m102 (wr (v5 + 5))
      else
        if (fp_dcmpl (m102 157 0) (m102 157 0)) = 0 then
          some (.inl 0, m102)
        else
          if (fp_dcmpl a102 a102) = 0 then
            some (.inl 0, m102)
          else
            rec m102 (wr (v5 + 5))
    else
      rec m102 (wr (v5 + 5))
  else
    some (.inl 0, m102)
def qL_law_j1965 (rec : zM → Int → Option ((Int ⊕ Unit) × zM)) (scL : Int) (scV : Int → Int) (μ : zM) (v5 : Int) : Option ((Int ⊕ Unit) × zM) :=
  bnd2 (qL_occupancy μ) fun a104 m104 =>
  bnd2 (qM_occupancy m104) fun a105 m105 =>
  Option.bind (qM_thrown m105) fun a106 =>
  if a106 = a104 then
    if a104 = 0 then
      if fp_n64 (fp_f2d a105) then
      if (fp_dcmpl (m105 157 0) (fp_f2d a105)) = 0 then
        rec m105 (wr (v5 + 5))
      else
        if (fp_dcmpl (m105 157 0) (m105 157 0)) = 0 then
          some (.inl 0, m105)
        else
          if (fp_fcmpl a105 a105) = 0 then
            some (.inl 0, m105)
          else
            rec m105 (wr (v5 + 5))
      else none
    else
      rec m105 (wr (v5 + 5))
  else
    some (.inl 0, m105)
def qL_law_j2031 (rec : zM → Int → Option ((Int ⊕ Unit) × zM)) (scL : Int) (scV : Int → Int) (μ : zM) (v5 : Int) : Option ((Int ⊕ Unit) × zM) :=
  bnd2 (qT_isConsistent μ) fun a107 m107 =>
  bnd2 (qM_isConsistent m107) fun a108 m108 =>
  if a107 = a108 then
    rec m108 (wr (v5 + 5))
  else
    some (.inl 0, m108)
def qL_law_j2044 (rec : zM → Int → Option ((Int ⊕ Unit) × zM)) (scL : Int) (scV : Int → Int) (μ : zM) (v5 : Int) : Option ((Int ⊕ Unit) × zM) :=
  if 0 ≤ (wr (v5 + 1)) ∧ (wr (v5 + 1)) < scL then
  bnd2 (qL_writeFloor μ (scV (wr (v5 + 1)))) fun a109 m109 =>
  if 0 ≤ (wr (v5 + 1)) ∧ (wr (v5 + 1)) < scL then
  bnd2 (qM_writeFloor m109 (scV (wr (v5 + 1)))) fun a110 m110 =>
  Option.bind (qM_thrown m110) fun a111 =>
  if a111 = a109 then
    if a109 = 0 then
      if (ycmp (m110 156 0) a110) = 0 then
        rec m110 (wr (v5 + 5))
      else
        some (.inl 0, m110)
    else
      rec m110 (wr (v5 + 5))
  else
    some (.inl 0, m110)
  else none
  else none
def qL_law_j2100 (rec : zM → Int → Option ((Int ⊕ Unit) × zM)) (scL : Int) (scV : Int → Int) (μ : zM) (v5 : Int) : Option ((Int ⊕ Unit) × zM) :=
  bnd2 (qT_writePlan μ) fun a112 m112 =>
  bnd2 (qM_writePlan m112) fun a113 m113 =>
  if a112 = a113 then
    rec m113 (wr (v5 + 5))
  else
    some (.inl 0, m113)
def qL_law_j2113 (rec : zM → Int → Option ((Int ⊕ Unit) × zM)) (scL : Int) (scV : Int → Int) (μ : zM) (v5 : Int) : Option ((Int ⊕ Unit) × zM) :=
  if 0 ≤ (wr (v5 + 1)) ∧ (wr (v5 + 1)) < scL then
  bnd2 (qL_charAt μ (scV (wr (v5 + 1)))) fun a114 m114 =>
  if 0 ≤ (wr (v5 + 1)) ∧ (wr (v5 + 1)) < scL then
  bnd2 (qM_charAt m114 (scV (wr (v5 + 1)))) fun a115 m115 =>
  Option.bind (qM_thrown m115) fun a116 =>
  if a116 = a114 then
    if a114 = 0 then
      if (ycmp (m115 156 0) a115) = 0 then
        rec m115 (wr (v5 + 5))
      else
        some (.inl 0, m115)
    else
      rec m115 (wr (v5 + 5))
  else
    some (.inl 0, m115)
  else none
  else none
def qL_law_j2169 (rec : zM → Int → Option ((Int ⊕ Unit) × zM)) (scL : Int) (scV : Int → Int) (μ : zM) (v5 : Int) : Option ((Int ⊕ Unit) × zM) :=
  if 0 ≤ (wr (v5 + 1)) ∧ (wr (v5 + 1)) < scL then
  bnd2 (qL_type μ ((scV (wr (v5 + 1))) % 65536)) fun a117 m117 =>
  if 0 ≤ (wr (v5 + 1)) ∧ (wr (v5 + 1)) < scL then
  bnd2 (qM_type m117 ((scV (wr (v5 + 1))) % 65536)) fun a118 m118 =>
  Option.bind (qM_thrown m118) fun a119 =>
  if a119 = a117 then
    if a117 = 0 then
      if (ycmp (m118 156 0) a118) = 0 then
        rec m118 (wr (v5 + 5))
      else
        some (.inl 0, m118)
    else
      rec m118 (wr (v5 + 5))
  else
    some (.inl 0, m118)
  else none
  else none
def qL_law_j2227 (rec : zM → Int → Option ((Int ⊕ Unit) × zM)) (scL : Int) (scV : Int → Int) (μ : zM) (v5 : Int) : Option ((Int ⊕ Unit) × zM) :=
  bnd2 (qL_run μ) fun a120 m120 =>
  bnd2 (qM_run m120) fun a121 m121 =>
  Option.bind (qM_thrown m121) fun a122 =>
  if a122 = a120 then
    if a120 = 0 then
      if (ycmp (m121 156 0) a121) = 0 then
        rec m121 (wr (v5 + 5))
      else
        some (.inl 0, m121)
    else
      rec m121 (wr (v5 + 5))
  else
    some (.inl 0, m121)
def qL_law_j2271 (rec : zM → Int → Option ((Int ⊕ Unit) × zM)) (scL : Int) (scV : Int → Int) (μ : zM) (v5 : Int) : Option ((Int ⊕ Unit) × zM) :=
  bnd2 (qL_errorPosition μ) fun a123 m123 =>
  bnd2 (qM_errorPosition m123) fun a124 m124 =>
  Option.bind (qM_thrown m124) fun a125 =>
  if a125 = a123 then
    if a123 = 0 then
      if (ycmp (m124 156 0) a124) = 0 then
        rec m124 (wr (v5 + 5))
      else
        some (.inl 0, m124)
    else
      rec m124 (wr (v5 + 5))
  else
    some (.inl 0, m124)
def qL_law_j2315 (rec : zM → Int → Option ((Int ⊕ Unit) × zM)) (scL : Int) (scV : Int → Int) (μ : zM) (v5 : Int) : Option ((Int ⊕ Unit) × zM) :=
  bnd2 (qL_failedCommand μ) fun a126 m126 =>
  bnd2 (qM_failedCommand m126) fun a127 m127 =>
  Option.bind (qM_thrown m127) fun a128 =>
  if a128 = a126 then
    if a126 = 0 then
      if (ycmp (m127 156 0) a127) = 0 then
        rec m127 (wr (v5 + 5))
      else
        some (.inl 0, m127)
    else
      rec m127 (wr (v5 + 5))
  else
    some (.inl 0, m127)
def qL_law_j2359 (rec : zM → Int → Option ((Int ⊕ Unit) × zM)) (scL : Int) (scV : Int → Int) (μ : zM) (v5 : Int) : Option ((Int ⊕ Unit) × zM) :=
  bnd2 (qL_undo μ) fun a129 m129 =>
  bnd2 (qM_undo m129) fun a130 m130 =>
  Option.bind (qM_thrown m130) fun a131 =>
  if a131 = a129 then
    if a129 = 0 then
      if (ycmp (m130 156 0) a130) = 0 then
        rec m130 (wr (v5 + 5))
      else
        some (.inl 0, m130)
    else
      rec m130 (wr (v5 + 5))
  else
    some (.inl 0, m130)
def qL_law_j2403 (rec : zM → Int → Option ((Int ⊕ Unit) × zM)) (scL : Int) (scV : Int → Int) (μ : zM) (v5 : Int) : Option ((Int ⊕ Unit) × zM) :=
  bnd2 (qT_save μ) fun a132 m132 =>
  bnd2 (qM_save m132) fun a133 m133 =>
  if a132 = a133 then
    rec m133 (wr (v5 + 5))
  else
    some (.inl 0, m133)
def qL_law_j2416 (rec : zM → Int → Option ((Int ⊕ Unit) × zM)) (scL : Int) (scV : Int → Int) (μ : zM) (v5 : Int) : Option ((Int ⊕ Unit) × zM) :=
  bnd2 (qL_restore μ) fun a134 m134 =>
  bnd2 (qM_restore m134) fun a135 m135 =>
  Option.bind (qM_thrown m135) fun a136 =>
  if a136 = a134 then
    if a134 = 0 then
      if (ycmp (m135 156 0) a135) = 0 then
        rec m135 (wr (v5 + 5))
      else
        some (.inl 0, m135)
    else
      rec m135 (wr (v5 + 5))
  else
    some (.inl 0, m135)
def qL_law_l28 (scL : Int) (scV : Int → Int) : Nat → zM → Int → Option ((Int ⊕ Unit) × zM)
  | 0, _, _ => none
  | n+1, μ, v5 =>
    if (wr (scL - 5)) < v5 then
      some (.inr (), μ)
    else
      if 0 ≤ v5 ∧ v5 < scL then
      if (yand (scV v5) 63) = 0 then
        qL_law_j264 (qL_law_l28 scL scV n) scL scV μ v5
      else
      if (yand (scV v5) 63) = 1 then
        qL_law_j332 (qL_law_l28 scL scV n) scL scV μ v5
      else
      if (yand (scV v5) 63) = 2 then
        qL_law_j424 (qL_law_l28 scL scV n) scL scV μ v5
      else
      if (yand (scV v5) 63) = 3 then
        qL_law_j480 (qL_law_l28 scL scV n) scL scV μ v5
      else
      if (yand (scV v5) 63) = 4 then
        qL_law_j548 (qL_law_l28 scL scV n) scL scV μ v5
      else
      if (yand (scV v5) 63) = 5 then
        qL_law_j604 (qL_law_l28 scL scV n) scL scV μ v5
      else
      if (yand (scV v5) 63) = 6 then
        qL_law_j672 (qL_law_l28 scL scV n) scL scV μ v5
      else
      if (yand (scV v5) 63) = 7 then
        qL_law_j740 (qL_law_l28 scL scV n) scL scV μ v5
      else
      if (yand (scV v5) 63) = 8 then
        qL_law_j753 (qL_law_l28 scL scV n) scL scV μ v5
      else
      if (yand (scV v5) 63) = 9 then
        qL_law_j809 (qL_law_l28 scL scV n) scL scV μ v5
      else
      if (yand (scV v5) 63) = 10 then
        qL_law_j822 (qL_law_l28 scL scV n) scL scV μ v5
      else
      if (yand (scV v5) 63) = 11 then
        qL_law_j878 (qL_law_l28 scL scV n) scL scV μ v5
      else
      if (yand (scV v5) 63) = 12 then
        qL_law_j934 (qL_law_l28 scL scV n) scL scV μ v5
      else
      if (yand (scV v5) 63) = 13 then
        qL_law_j990 (qL_law_l28 scL scV n) scL scV μ v5
      else
      if (yand (scV v5) 63) = 14 then
        qL_law_j1003 (qL_law_l28 scL scV n) scL scV μ v5
      else
      if (yand (scV v5) 63) = 15 then
        qL_law_j1016 (qL_law_l28 scL scV n) scL scV μ v5
      else
      if (yand (scV v5) 63) = 16 then
        qL_law_j1041 (qL_law_l28 scL scV n) scL scV μ v5
      else
      if (yand (scV v5) 63) = 17 then
        qL_law_j1097 (qL_law_l28 scL scV n) scL scV μ v5
      else
      if (yand (scV v5) 63) = 18 then
        qL_law_j1153 (qL_law_l28 scL scV n) scL scV μ v5
      else
      if (yand (scV v5) 63) = 19 then
        qL_law_j1209 (qL_law_l28 scL scV n) scL scV μ v5
      else
      if (yand (scV v5) 63) = 20 then
        qL_law_j1265 (qL_law_l28 scL scV n) scL scV μ v5
      else
      if (yand (scV v5) 63) = 21 then
        qL_law_j1333 (qL_law_l28 scL scV n) scL scV μ v5
      else
      if (yand (scV v5) 63) = 22 then
        qL_law_j1401 (qL_law_l28 scL scV n) scL scV μ v5
      else
      if (yand (scV v5) 63) = 23 then
        qL_law_j1457 (qL_law_l28 scL scV n) scL scV μ v5
      else
      if (yand (scV v5) 63) = 24 then
        qL_law_j1513 (qL_law_l28 scL scV n) scL scV μ v5
      else
      if (yand (scV v5) 63) = 25 then
        qL_law_j1526 (qL_law_l28 scL scV n) scL scV μ v5
      else
      if (yand (scV v5) 63) = 26 then
        qL_law_j1539 (qL_law_l28 scL scV n) scL scV μ v5
      else
      if (yand (scV v5) 63) = 27 then
        qL_law_j1595 (qL_law_l28 scL scV n) scL scV μ v5
      else
      if (yand (scV v5) 63) = 28 then
        qL_law_j1651 (qL_law_l28 scL scV n) scL scV μ v5
      else
      if (yand (scV v5) 63) = 29 then
        qL_law_j1707 (qL_law_l28 scL scV n) scL scV μ v5
      else
      if (yand (scV v5) 63) = 30 then
        qL_law_j1720 (qL_law_l28 scL scV n) scL scV μ v5
      else
      if (yand (scV v5) 63) = 31 then
        qL_law_j1733 (qL_law_l28 scL scV n) scL scV μ v5
      else
      if (yand (scV v5) 63) = 32 then
        qL_law_j1789 (qL_law_l28 scL scV n) scL scV μ v5
      else
      if (yand (scV v5) 63) = 33 then
        qL_law_j1833 (qL_law_l28 scL scV n) scL scV μ v5
      else
      if (yand (scV v5) 63) = 34 then
        qL_law_j1846 (qL_law_l28 scL scV n) scL scV μ v5
      else
      if (yand (scV v5) 63) = 35 then
        qL_law_j1860 (qL_law_l28 scL scV n) scL scV μ v5
      else
      if (yand (scV v5) 63) = 36 then
        qL_law_j1874 (qL_law_l28 scL scV n) scL scV μ v5
      else
      if (yand (scV v5) 63) = 37 then
        qL_law_j1887 (qL_law_l28 scL scV n) scL scV μ v5
      else
      if (yand (scV v5) 63) = 38 then
        qL_law_j1900 (qL_law_l28 scL scV n) scL scV μ v5
      else
      if (yand (scV v5) 63) = 39 then
        qL_law_j1965 (qL_law_l28 scL scV n) scL scV μ v5
      else
      if (yand (scV v5) 63) = 40 then
        qL_law_j2031 (qL_law_l28 scL scV n) scL scV μ v5
      else
      if (yand (scV v5) 63) = 41 then
        qL_law_j2044 (qL_law_l28 scL scV n) scL scV μ v5
      else
      if (yand (scV v5) 63) = 42 then
        qL_law_j2100 (qL_law_l28 scL scV n) scL scV μ v5
      else
      if (yand (scV v5) 63) = 43 then
        qL_law_j2113 (qL_law_l28 scL scV n) scL scV μ v5
      else
      if (yand (scV v5) 63) = 44 then
        qL_law_j2169 (qL_law_l28 scL scV n) scL scV μ v5
      else
      if (yand (scV v5) 63) = 45 then
        qL_law_j2227 (qL_law_l28 scL scV n) scL scV μ v5
      else
      if (yand (scV v5) 63) = 46 then
        qL_law_j2271 (qL_law_l28 scL scV n) scL scV μ v5
      else
      if (yand (scV v5) 63) = 47 then
        qL_law_j2315 (qL_law_l28 scL scV n) scL scV μ v5
      else
      if (yand (scV v5) 63) = 48 then
        qL_law_j2359 (qL_law_l28 scL scV n) scL scV μ v5
      else
      if (yand (scV v5) 63) = 49 then
        qL_law_j2403 (qL_law_l28 scL scV n) scL scV μ v5
      else
      if (yand (scV v5) 63) = 50 then
        qL_law_j2416 (qL_law_l28 scL scV n) scL scV μ v5
      else
        qL_law_l28 scL scV n μ (wr (v5 + 5))
      else none
