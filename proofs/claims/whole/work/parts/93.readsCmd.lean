/-! ===== B: the model reads a command, the eight kinds ===== -/
theorem rd_first {g : Int → Int} {c : Int} {cs : List Int} {p n : Int} {v : Int → Int} (h35 : c ≠ 35) (h37 : c ≠ 37) (hg : g p = c) : rd g (c :: cs) p n v = rd g cs (p + 1) n v := by
  have hr9 : rd g (c :: cs) p n v = if c = 35 then (if dgv (g p) = -1 then (0, p, n, v) else rd g cs (p + 1) (n + 1) (ups v n (dgv (g p))))
      else if c = 37 then (if dgv (g p) = -1 then (0, p, n, v) else if dgv (g (p + 1)) = -1 then rd g cs (p + 1) (n + 1) (ups v n (dgv (g p))) else rd g cs (p + 2) (n + 1) (ups v n (10 * dgv (g p) + dgv (g (p + 1)))))
      else if g p = c then rd g cs (p + 1) n v else (0, p, n, v) := rfl
  rw [hr9, if_neg h35, if_neg h37, if_pos hg]
def CmdM (tx : Int → Int) (L p : Int) (m m' : zM) : Prop := ((∀ q : Nat, q ≠ 142 → q ≠ 155 → m' q = m q) ∧ ∀ j, j ≠ 18 → j ≠ 22 → m' 142 j = m 142 j) ∧ m' 142 18 = (pcmd (nc tx L) p).2.1 ∧ m' 142 22 = nc tx L p ∧ ((pcmd (nc tx L) p).1 = 1 → ∀ i, 0 ≤ i → i < vn (kd (nc tx L p)) → m' 155 i = (pcmd (nc tx L) p).2.2.2 i)
/-- a kind other than the month's, from behind its first sign on -/
theorem kind_eq {tx : Int → Int} {L p c : Int} {cs : List Int} {m m3 : zM} (t : TxM tx L m3) (h0 : 0 ≤ p ∧ p < L) (hg : nc tx L p = c) (hk : kd c ≠ 7) (hk2 : kd c ≠ -1) (hf : formL (kd c) = c :: cs) (h35 : c ≠ 35) (h37 : c ≠ 37) (hp : m3 142 18 = p + 1)
    (fq : (∀ q : Nat, q ≠ 142 → q ≠ 155 → m3 q = m q) ∧ ∀ j, j ≠ 18 → j ≠ 22 → m3 142 j = m 142 j) (hs : m3 142 22 = c) : ∃ m', rdM cs 0 m3 = some ((pcmd (nc tx L) p).1, m') ∧ CmdM tx L p m m' := by
  have hk8 := ((kd_spec c).resolve_left hk2).1
  have hff := form_facts hk8
  rw [hf] at hff
  have hv1 : vcount (c :: cs) = (if c = 35 ∨ c = 37 then 1 else 0) + vcount cs := rfl
  rw [if_neg (fun z => z.elim h35 h37)] at hv1
  have hpc : pcmd (nc tx L) p = rd (nc tx L) cs (p + 1) 0 (fun _ => 0) := by
    unfold pcmd pmon
    rw [hg, if_neg hk2, if_neg (fun z => hk z.1), hf, rd_first h35 h37 hg]
  have hpi := pcmd_in (tx := tx) (L := L) (p := p) (by omega) (by omega)
  have h5 := hff.2.2.2.2.1
  obtain ⟨m', u1, u2, u3, u4, u5⟩ := rdM_eq cs m3 (p + 1) 0 (fun _ => 0) t hp ⟨by omega, by omega⟩ (fun d hd => hff.2.2.1 d (List.mem_cons_of_mem _ hd)) (Int.le_refl _) (by omega) (fun i i0 i1 => by omega)
  unfold CmdM
  rw [hpc] at hpi ⊢
  rw [hg] at hpi ⊢
  exact ⟨m', u1, ⟨fun q q1 q2 => by rw [u2.1 q q1 q2, fq.1 q q1 q2], fun j j1 j2 => by rw [u2.2 j j1, fq.2 j j1 j2]⟩, u3, by rw [u2.2 22 (by decide)]; exact hs, fun z i i0 i1 => u4 i i0 (by rw [(hpi.2.2 z).2.2]; exact i1)⟩
theorem month_eq {tx : Int → Int} {L p : Int} {m m3 : zM} (t : TxM tx L m3) (h0 : 0 ≤ p ∧ p < L) (hg : nc tx L p = 109) (hp : m3 142 18 = p + 1)
    (fq : (∀ q : Nat, q ≠ 142 → q ≠ 155 → m3 q = m q) ∧ ∀ j, j ≠ 18 → j ≠ 22 → m3 142 j = m 142 j) (hs : m3 142 22 = 109) : ∃ m', qM_readsMonth m3 = some ((pcmd (nc tx L) p).1, m') ∧ CmdM tx L p m m' := by
  have hk : kd (nc tx L p) = 7 := by rw [hg]; decide
  have hpc : pcmd (nc tx L) p = pmon (nc tx L) 7 (rd (nc tx L) [111, 110, 116, 104] (p + 1) 0 (fun _ => 0)) := by
    unfold pcmd
    rw [hk, if_neg (by decide), show formL 7 = 109 :: [111, 110, 116, 104] by decide, rd_first (by decide) (by decide) hg]
  have hpi := pcmd_in (tx := tx) (L := L) (p := p) (by omega) (by omega)
  have hM : qM_readsMonth m3 = bnd2 (rdM [111, 110, 116, 104] 0 (st m3 155 0 1)) fun a m5 => if a = 0 then some (0, m5) else bnd2 (qM_reads m5 32) fun a6 m6 => if a6 = 0 then some (1, m6) else bnd2 (qM_readsNumber m6 0) fun a7 m7 => if a7 = 0 then some (0, m7) else some (1, m7) := by
    unfold qM_readsMonth
    rw [sBind]
    have t1 : TxM tx L (st m3 155 0 1) := t.fr QFr.num
    have r1 := reads_eq (c := 111) t1 (show (st m3 155 0 1) 142 18 = p + 1 by rw [st_k (by decide)]; exact hp) ⟨by omega, by omega⟩
    have e1 : rdM [111, 110, 116, 104] 0 (st m3 155 0 1) = bnd2 (qM_reads (st m3 155 0 1) 111) fun a m' => if a = 0 then some (0, m') else bnd2 (qM_reads m' 110) fun a m' => if a = 0 then some (0, m') else bnd2 (qM_reads m' 116) fun a m' => if a = 0 then some (0, m') else bnd2 (qM_reads m' 104) fun a m' => if a = 0 then some (0, m') else some (1, m') := rfl
    rw [e1]
    generalize qM_reads (st m3 155 0 1) 111 = o1
    cases o1 with
    | none => rfl
    | some x1 =>
      obtain ⟨a1, n1⟩ := x1
      rw [sBnd2, sBnd2]
      by_cases z1 : a1 = 0
      · rw [if_pos z1, if_pos z1, sBnd2, if_pos rfl]
      rw [if_neg z1, if_neg z1]
      generalize qM_reads n1 110 = o2
      cases o2 with
      | none => rfl
      | some x2 =>
        obtain ⟨a2, n2⟩ := x2
        rw [sBnd2, sBnd2]
        by_cases z2 : a2 = 0
        · rw [if_pos z2, if_pos z2, sBnd2, if_pos rfl]
        rw [if_neg z2, if_neg z2]
        generalize qM_reads n2 116 = o3
        cases o3 with
        | none => rfl
        | some x3 =>
          obtain ⟨a3, n3⟩ := x3
          rw [sBnd2, sBnd2]
          by_cases z3 : a3 = 0
          · rw [if_pos z3, if_pos z3, sBnd2, if_pos rfl]
          rw [if_neg z3, if_neg z3]
          generalize qM_reads n3 104 = o4
          cases o4 with
          | none => rfl
          | some x4 =>
            obtain ⟨a4, n4⟩ := x4
            rw [sBnd2, sBnd2]
            by_cases z4 : a4 = 0
            · rw [if_pos z4, if_pos z4, sBnd2, if_pos rfl]
            · rw [if_neg z4, if_neg z4, sBnd2, if_neg (show ¬ (1 : Int) = 0 by decide)]
  obtain ⟨m5, u1, u2, u3, u4, u5⟩ := rdM_eq [111, 110, 116, 104] (st m3 155 0 1) (p + 1) 0 (fun _ => 0) (t.fr QFr.num) (by rw [st_k (by decide)]; exact hp) ⟨by omega, by omega⟩ (by decide) (Int.le_refl _) (by decide) (fun i i0 i1 => by omega)
  have hin := rd_in (tx := tx) (L := L) [111, 110, 116, 104] (p + 1) 0 (fun _ => 0) (by decide) (by omega) (by omega)
  rw [hM, u1, sBnd2]
  have fr5 : QFr m3 m5 := QFr.num.trans u2
  have hs5 : m5 142 22 = 109 := by rw [fr5.2 22 (by decide)]; exact hs
  unfold CmdM
  rw [hpc] at hpi ⊢
  rw [hk] at hpi ⊢
  generalize hr9 : rd (nc tx L) [111, 110, 116, 104] (p + 1) 0 (fun _ => 0) = r at u1 u3 u4 u5 hin hpi ⊢
  by_cases hok : r.1 = 1
  · have h5 := hin.2.2 hok
    have hv0 : vcount [111, 110, 116, 104] = 0 := by decide
    have hn : r.2.2.1 = 0 := by omega
    have hpm : pmon (nc tx L) 7 r = if nc tx L r.2.1 = 32 then rd (nc tx L) [37] (r.2.1 + 1) r.2.2.1 r.2.2.2 else (1, r.2.1, r.2.2.1 + 1, ups r.2.2.2 r.2.2.1 1) := by unfold pmon; rw [if_pos ⟨rfl, hok⟩]
    have v0 : m5 155 0 = 1 := by rw [u5 0 (by omega), st_at]
    rw [hok, if_neg (show ¬ (1 : Int) = 0 by decide), reads_eq (t.fr fr5) u3 ⟨by omega, hin.1.2⟩]
    by_cases hsp : nc tx L r.2.1 = 32
    · have hp2 := nc_in (tx := tx) (L := L) (p := r.2.1) (by omega)
      rw [if_pos hsp] at hpm ⊢
      rw [sBnd2, if_neg (show ¬ (1 : Int) = 0 by decide)]
      have fr6 : QFr m3 (st m5 142 18 (r.2.1 + 1)) := fr5.trans QFr.pos
      obtain ⟨m7, w1, w2, w3, w4, w5⟩ := rdM_eq [37] (st m5 142 18 (r.2.1 + 1)) (r.2.1 + 1) r.2.2.1 r.2.2.2 (t.fr fr6) st_at ⟨by omega, by omega⟩ (by decide) (by omega) (by rw [hn]; decide) (fun i i0 i1 => by omega)
      have hM7 : rdM [37] r.2.2.1 (st m5 142 18 (r.2.1 + 1)) = bnd2 (qM_readsNumber (st m5 142 18 (r.2.1 + 1)) r.2.2.1) fun a m' => if a = 0 then some (0, m') else some (1, m') := rfl
      rw [hM7, hn] at w1
      rw [w1, hpm, hn]
      rw [hpm, hn] at hpi
      rw [hn] at w3 w4
      exact ⟨m7, rfl, ⟨fun q q1 q2 => by rw [(fr6.trans w2).1 q q1 q2, fq.1 q q1 q2], fun j j1 j2 => by rw [(fr6.trans w2).2 j j1, fq.2 j j1 j2]⟩, w3, by rw [(fr6.trans w2).2 22 (by decide), hs, hg], fun z i i0 i1 => w4 i i0 (by rw [(hpi.2.2 z).2.2]; exact i1)⟩
    · rw [if_neg hsp] at hpm ⊢
      rw [sBnd2, if_pos rfl, hpm, hn]
      refine ⟨m5, rfl, ⟨fun q q1 q2 => by rw [fr5.1 q q1 q2, fq.1 q q1 q2], fun j j1 j2 => by rw [fr5.2 j j1, fq.2 j j1 j2]⟩, u3, by rw [hs5, hg], fun _ i i0 i1 => ?_⟩
      have h1 : vn 7 = 1 := by decide
      have hi : i = 0 := by omega
      rw [hi, v0]
      show (1 : Int) = ups r.2.2.2 0 1 0
      exact ups_at.symm
  · have hz : r.1 = 0 := hin.2.1.resolve_right hok
    have hpm : pmon (nc tx L) 7 r = r := by unfold pmon; rw [if_neg (fun z => hok z.2)]
    rw [hz, if_pos rfl, hpm]
    exact ⟨m5, by rw [hz], ⟨fun q q1 q2 => by rw [fr5.1 q q1 q2, fq.1 q q1 q2], fun j j1 j2 => by rw [fr5.2 j j1, fq.2 j j1 j2]⟩, u3, by rw [hs5, hg], fun z => absurd z hok⟩
theorem readsCommand_eq {tx : Int → Int} {L p : Int} {m : zM} (t : TxM tx L m) (hp : m 142 18 = p) (h0 : 0 ≤ p ∧ p ≤ L) : ∃ m', qM_readsCommand m = some ((pcmd (nc tx L) p).1, m') ∧ CmdM tx L p m m' := by
  unfold qM_readsCommand
  rw [nextChar_eq t hp h0.1, sBind, sBind]
  generalize hm2 : st m 142 22 (nc tx L p) = m2
  have f2 : (∀ q : Nat, q ≠ 142 → q ≠ 155 → m2 q = m q) ∧ ∀ j, j ≠ 18 → j ≠ 22 → m2 142 j = m 142 j := by
    rw [← hm2]; exact ⟨fun q q1 _ => funext fun j => st_k q1, fun j _ j2 => st_i j2⟩
  have p2 : m2 142 18 = p := by rw [← hm2, st_i (by decide)]; exact hp
  have s2 : m2 142 22 = nc tx L p := by rw [← hm2, st_at]
  have t2 : TxM tx L m2 := ⟨by rw [f2.2 17 (by decide) (by decide)]; exact t.1, fun j j0 j1 => by rw [f2.1 154 (by decide) (by decide)]; exact t.2.1 j j0 j1, t.2.2⟩
  have R : ∀ c, qM_reads m2 c = some (if nc tx L p = c then (1, st m2 142 18 (p + 1)) else (0, m2)) := fun c => reads_eq t2 p2 h0
  have f3 : (∀ q : Nat, q ≠ 142 → q ≠ 155 → (st m2 142 18 (p + 1)) q = m q) ∧ ∀ j, j ≠ 18 → j ≠ 22 → (st m2 142 18 (p + 1)) 142 j = m 142 j := ⟨fun q q1 q2 => by rw [← f2.1 q q1 q2]; exact funext fun j => st_k q1, fun j j1 j2 => by rw [st_i j1]; exact f2.2 j j1 j2⟩
  have t3 : TxM tx L (st m2 142 18 (p + 1)) := t2.fr QFr.pos
  have one : ¬ (1 : Int) = 0 := by decide
  have K : ∀ (c : Int) (cs : List Int), nc tx L p = c → 0 ≤ c → kd c ≠ 7 → kd c ≠ -1 → formL (kd c) = c :: cs → c ≠ 35 → c ≠ 37 → ∃ m', rdM cs 0 (st m2 142 18 (p + 1)) = some ((pcmd (nc tx L) p).1, m') ∧ CmdM tx L p m m' := fun c cs hg hc k1 k2 k3 k4 k5 =>
    kind_eq t3 (nc_in (show nc tx L p ≠ -1 by rw [hg]; omega)) hg k1 k2 k3 k4 k5 st_at f3 (by rw [st_i (by decide), s2, hg])
  rw [R 102]
  by_cases h102 : nc tx L p = 102
  · rw [if_pos h102, sBnd2, if_neg one]
    exact K 102 [108, 97, 116, 32, 35, 61, 37] h102 (by decide) (by decide) (by decide) (by decide) (by decide) (by decide)
  rw [if_neg h102, sBnd2, if_pos rfl, R 116]
  by_cases h116 : nc tx L p = 116
  · rw [if_pos h116, sBnd2, if_neg one]
    obtain ⟨m', u1, u2⟩ := K 116 [101, 110, 97, 110, 116, 32, 37, 64, 35, 43, 37, 47, 37] h116 (by decide) (by decide) (by decide) (by decide) (by decide) (by decide)
    have hT : qM_readsTenant (st m2 142 18 (p + 1)) = rdM [101, 110, 97, 110, 116, 32, 37, 64, 35, 43, 37, 47, 37] 0 (st m2 142 18 (p + 1)) := rfl
    have hpi := (pcmd_in (tx := tx) h0.1 h0.2).2.1
    rw [hT, u1, sBnd2, if_pos (by omega)]
    exact ⟨m', rfl, u2⟩
  rw [if_neg h116, sBnd2, if_pos rfl, R 105]
  by_cases h105 : nc tx L p = 105
  · rw [if_pos h105, sBnd2, if_neg one]
    exact K 105 [110, 32, 37, 62, 35] h105 (by decide) (by decide) (by decide) (by decide) (by decide) (by decide)
  rw [if_neg h105, sBnd2, if_pos rfl, R 111]
  by_cases h111 : nc tx L p = 111
  · rw [if_pos h111, sBnd2, if_neg one]
    exact K 111 [117, 116, 32, 37] h111 (by decide) (by decide) (by decide) (by decide) (by decide) (by decide)
  rw [if_neg h111, sBnd2, if_pos rfl, R 114]
  by_cases h114 : nc tx L p = 114
  · rw [if_pos h114, sBnd2, if_neg one]
    exact K 114 [101, 110, 116, 32, 35, 61, 37] h114 (by decide) (by decide) (by decide) (by decide) (by decide) (by decide)
  rw [if_neg h114, sBnd2, if_pos rfl, R 103]
  by_cases h103 : nc tx L p = 103
  · rw [if_pos h103, sBnd2, if_neg one]
    exact K 103 [105, 102, 116, 32, 37, 43, 37] h103 (by decide) (by decide) (by decide) (by decide) (by decide) (by decide)
  rw [if_neg h103, sBnd2, if_pos rfl, R 115]
  by_cases h115 : nc tx L p = 115
  · rw [if_pos h115, sBnd2, if_neg one]
    exact K 115 [101, 116, 116, 108, 101] h115 (by decide) (by decide) (by decide) (by decide) (by decide) (by decide)
  rw [if_neg h115, sBnd2, if_pos rfl, R 109]
  by_cases h109 : nc tx L p = 109
  · rw [if_pos h109, sBnd2, if_neg one]
    obtain ⟨m', u1, u2⟩ := month_eq t3 (nc_in (show nc tx L p ≠ -1 by rw [h109]; decide)) h109 st_at f3 (by rw [st_i (by decide), s2, h109])
    have hpi := (pcmd_in (tx := tx) h0.1 h0.2).2.1
    rw [u1, sBnd2]
    refine ⟨m', ?_, u2⟩
    by_cases hz : (pcmd (nc tx L) p).1 = 0
    · rw [if_pos hz, hz]
    · rw [if_neg hz, show (pcmd (nc tx L) p).1 = 1 by omega]
  rw [if_neg h109, sBnd2, if_pos rfl]
  have hkd : kd (nc tx L p) = -1 := by
    rcases kd_spec (nc tx L p) with z | ⟨z1, z2⟩
    · exact z
    · exfalso
      rcases k8 z1 with z | z | z | z | z | z | z | z <;> rw [z] at z2
      · exact h102 (z2.symm.trans (by decide))
      · exact h116 (z2.symm.trans (by decide))
      · exact h105 (z2.symm.trans (by decide))
      · exact h111 (z2.symm.trans (by decide))
      · exact h114 (z2.symm.trans (by decide))
      · exact h103 (z2.symm.trans (by decide))
      · exact h115 (z2.symm.trans (by decide))
      · exact h109 (z2.symm.trans (by decide))
  have hpc : pcmd (nc tx L) p = (0, p, 0, fun _ => 0) := by unfold pcmd; rw [if_pos hkd]
  unfold CmdM
  rw [hpc]
  refine ⟨m2, rfl, f2, p2, s2, fun z => ?_⟩
  have z9 : (0 : Int) = 1 := z
  omega
