/-! ===== B: the model reads a command ===== -/
def TxM (tx : Int → Int) (L : Int) (m : zM) : Prop := m 142 17 = L ∧ (∀ j, 0 ≤ j → j < L → m 154 j = tx j) ∧ (0 ≤ L ∧ L ≤ 60) ∧ ∀ j, 0 ≤ j → j < L → 0 ≤ tx j ∧ tx j ≤ 65535
def QFr (m m' : zM) : Prop := (∀ q : Nat, q ≠ 142 → q ≠ 155 → m' q = m q) ∧ ∀ j, j ≠ 18 → m' 142 j = m 142 j
theorem QFr.trans {a b c : zM} (h : QFr a b) (g : QFr b c) : QFr a c := ⟨fun q q1 q2 => by rw [g.1 q q1 q2, h.1 q q1 q2], fun j j1 => by rw [g.2 j j1, h.2 j j1]⟩
theorem QFr.refl {m : zM} : QFr m m := ⟨fun _ _ _ => rfl, fun _ _ => rfl⟩
theorem QFr.pos {m : zM} {x : Int} : QFr m (st m 142 18 x) := ⟨fun q q1 _ => funext fun j => st_k q1, fun j j1 => st_i j1⟩
theorem QFr.num {m : zM} {i x : Int} : QFr m (st m 155 i x) := ⟨fun q _ q2 => funext fun j => st_k q2, fun j _ => st_k (by decide)⟩
theorem TxM.fr {tx : Int → Int} {L : Int} {m m' : zM} (h : TxM tx L m) (f : QFr m m') : TxM tx L m' := ⟨by rw [f.2 17 (by decide)]; exact h.1, fun j h0 h1 => by rw [f.1 154 (by decide) (by decide)]; exact h.2.1 j h0 h1, h.2.2⟩
theorem nextChar_eq {tx : Int → Int} {L p : Int} {m : zM} (t : TxM tx L m) (hp : m 142 18 = p) (h0 : 0 ≤ p) : qM_nextChar m = some (nc tx L p) := by
  have h60 := t.2.2.1.2
  unfold qM_nextChar nc
  rw [hp, t.1]
  by_cases h1 : p < L
  · rw [if_pos h1, if_pos (by omega), if_pos ⟨h0, h1⟩, t.2.1 p h0 h1]
  · rw [if_neg h1, if_neg (by omega)]
theorem reads_eq {tx : Int → Int} {L p c : Int} {m : zM} (t : TxM tx L m) (hp : m 142 18 = p) (h0 : 0 ≤ p ∧ p ≤ L) : qM_reads m c = some (if nc tx L p = c then (1, st m 142 18 (p + 1)) else (0, m)) := by
  have h60 := t.2.2.1.2
  unfold qM_reads
  rw [nextChar_eq t hp h0.1, sBind, hp, wr_n (by omega) (by omega)]
  by_cases h : nc tx L p = c
  · rw [if_pos h, if_pos h, sBind]
  · rw [if_neg h, if_neg h]
theorem readsDigit_eq {tx : Int → Int} {L p i : Int} {m : zM} (t : TxM tx L m) (hp : m 142 18 = p) (h0 : 0 ≤ p ∧ p ≤ L) (hi : 0 ≤ i ∧ i < 4) : qM_readsDigit m i = some (if dgv (nc tx L p) = -1 then (0, m) else (1, st (st m 155 i (dgv (nc tx L p))) 142 18 (p + 1))) := by
  have h60 := t.2.2.1.2
  unfold qM_readsDigit
  rw [nextChar_eq t hp h0.1, sBind, between_eq, sBind, sBind]
  by_cases h : dgv (nc tx L p) = -1
  · have hb : ¬ (48 ≤ nc tx L p ∧ nc tx L p ≤ 57) := fun z => by unfold dgv at h; rw [if_pos z] at h; omega
    rw [if_neg hb, if_pos rfl, if_pos h]
  · have hb := dgv_in h
    rw [if_pos hb.1, if_neg (show ¬ (1 : Int) = 0 by decide), if_pos hi, sBind, st_k (show (142 : Nat) ≠ 155 by decide), hp, wr_n (x := p + 1) (by omega) (by omega), sBind, wr_n (x := nc tx L p - 48) (by omega) (by omega), if_neg h, hb.2]
theorem readsNumber_eq {tx : Int → Int} {L p i : Int} {m : zM} (t : TxM tx L m) (hp : m 142 18 = p) (h0 : 0 ≤ p ∧ p ≤ L) (hi : 0 ≤ i ∧ i < 4) : ∃ m', qM_readsNumber m i = some (if dgv (nc tx L p) = -1 then 0 else 1, m') ∧ QFr m m' ∧ (dgv (nc tx L p) = -1 → m' = m) ∧ (dgv (nc tx L p) ≠ -1 → (∀ j, j ≠ i → m' 155 j = m 155 j) ∧
    (dgv (nc tx L (p + 1)) = -1 → m' 142 18 = p + 1 ∧ m' 155 i = dgv (nc tx L p)) ∧ (dgv (nc tx L (p + 1)) ≠ -1 → m' 142 18 = p + 2 ∧ m' 155 i = 10 * dgv (nc tx L p) + dgv (nc tx L (p + 1)))) := by
  have h60 := t.2.2.1.2
  unfold qM_readsNumber
  rw [readsDigit_eq t hp h0 hi]
  by_cases h : dgv (nc tx L p) = -1
  · rw [if_pos h, sBnd2, if_pos rfl, if_pos h]
    exact ⟨m, rfl, QFr.refl, fun _ => rfl, fun z => absurd h z⟩
  · have hp1 := dgv_p h
    rw [if_neg h, sBnd2, if_neg (show ¬ (1 : Int) = 0 by decide), if_neg h]
    generalize hm1 : st (st m 155 i (dgv (nc tx L p))) 142 18 (p + 1) = m1
    have f1 : QFr m m1 := by rw [← hm1]; exact QFr.num.trans QFr.pos
    have q1 : m1 142 18 = p + 1 := by rw [← hm1, st_at]
    have v1 : m1 155 i = dgv (nc tx L p) := by rw [← hm1, st_k (by decide), st_at]
    have o1 : ∀ j, j ≠ i → m1 155 j = m 155 j := fun j hj => by rw [← hm1, st_k (by decide), st_i hj]
    rw [nextChar_eq (t.fr f1) q1 (by omega), sBind, between_eq, sBind]
    by_cases h2 : dgv (nc tx L (p + 1)) = -1
    · have hb : ¬ (48 ≤ nc tx L (p + 1) ∧ nc tx L (p + 1) ≤ 57) := fun z => by unfold dgv at h2; rw [if_pos z] at h2; omega
      rw [if_neg hb, if_pos rfl]
      exact ⟨m1, rfl, f1, fun z => absurd z h, fun _ => ⟨o1, fun _ => ⟨q1, v1⟩, fun z => absurd h2 z⟩⟩
    · have hb := dgv_in h2
      have hp2 := dgv_p h2
      rw [if_pos hb.1, if_neg (show ¬ (1 : Int) = 0 by decide), if_pos hi, sBind, if_pos hi, v1, sBind, st_k (show (142 : Nat) ≠ 155 by decide), q1, wr_n (x := p + 1 + 1) (by omega) (by omega), sBind, wr_n (x := 10 * dgv (nc tx L p)) (by omega) (by omega), wr_n (x := 10 * dgv (nc tx L p) + nc tx L (p + 1)) (by omega) (by omega), wr_n (x := 10 * dgv (nc tx L p) + nc tx L (p + 1) - 48) (by omega) (by omega)]
      refine ⟨_, rfl, f1.trans (QFr.num.trans QFr.pos), fun z => absurd z h, fun _ => ⟨fun j hj => by rw [st_k (by decide), st_i hj]; exact o1 j hj, fun z => absurd z h2, fun _ => ⟨by rw [st_at]; omega, by rw [st_k (by decide), st_at]; omega⟩⟩⟩
/-- signs read one after the other, in the model's way -/
def rdM : List Int → Int → zM → Option (Int × zM)
  | [], _, m => some (1, m)
  | c :: cs, i, m => bnd2 (if c = 35 then qM_readsDigit m i else if c = 37 then qM_readsNumber m i else qM_reads m c) fun a m' => if a = 0 then some (0, m') else rdM cs (if c = 35 ∨ c = 37 then i + 1 else i) m'
theorem rd_n (g : Int → Int) : ∀ (cs : List Int) (p n : Int) (v : Int → Int), n ≤ (rd g cs p n v).2.2.1
  | [], _, _, _ => Int.le_refl _
  | c :: cs, p, n, v => by
    have hr9 : rd g (c :: cs) p n v = if c = 35 then (if dgv (g p) = -1 then (0, p, n, v) else rd g cs (p + 1) (n + 1) (ups v n (dgv (g p))))
      else if c = 37 then (if dgv (g p) = -1 then (0, p, n, v) else if dgv (g (p + 1)) = -1 then rd g cs (p + 1) (n + 1) (ups v n (dgv (g p))) else rd g cs (p + 2) (n + 1) (ups v n (10 * dgv (g p) + dgv (g (p + 1)))))
      else if g p = c then rd g cs (p + 1) n v else (0, p, n, v) := rfl
    rw [hr9]
    have a1 := fun p' v' => rd_n g cs p' (n + 1) v'
    have a2 := fun p' v' => rd_n g cs p' n v'
    split
    · split
      · exact Int.le_refl _
      · have := a1 (p + 1) (ups v n (dgv (g p))); omega
    · split
      · split
        · exact Int.le_refl _
        · split
          · have := a1 (p + 1) (ups v n (dgv (g p))); omega
          · have := a1 (p + 2) (ups v n (10 * dgv (g p) + dgv (g (p + 1)))); omega
      · split
        · exact a2 (p + 1) v
        · exact Int.le_refl _
theorem rdM_eq {tx : Int → Int} {L : Int} : ∀ (cs : List Int) (m : zM) (p n : Int) (v : Int → Int), TxM tx L m → m 142 18 = p → (0 ≤ p ∧ p ≤ L) → (∀ c, c ∈ cs → 0 ≤ c) → 0 ≤ n → n + vcount cs ≤ 4 → (∀ i, 0 ≤ i → i < n → m 155 i = v i) →
    ∃ m', rdM cs n m = some ((rd (nc tx L) cs p n v).1, m') ∧ QFr m m' ∧ m' 142 18 = (rd (nc tx L) cs p n v).2.1 ∧ (∀ i, 0 ≤ i → i < (rd (nc tx L) cs p n v).2.2.1 → m' 155 i = (rd (nc tx L) cs p n v).2.2.2 i) ∧ ∀ i, (rd (nc tx L) cs p n v).2.2.1 ≤ i → m' 155 i = m 155 i
  | [], m, p, n, v, t, hp, h0, _, _, _, hv9 => ⟨m, rfl, QFr.refl, hp, hv9, fun _ _ => rfl⟩
  | c :: cs, m, p, n, v, t, hp, h0, hc, n0, n4, hv9 => by
    have hcs : ∀ d, d ∈ cs → 0 ≤ d := fun d hd => hc d (List.mem_cons_of_mem _ hd)
    have hc0 := hc c (List.mem_cons_self ..)
    have hvc := vcount_nn cs
    have hv1 : vcount (c :: cs) = (if c = 35 ∨ c = 37 then 1 else 0) + vcount cs := rfl
    have hr9 : rd (nc tx L) (c :: cs) p n v = if c = 35 then (if dgv (nc tx L p) = -1 then (0, p, n, v) else rd (nc tx L) cs (p + 1) (n + 1) (ups v n (dgv (nc tx L p))))
      else if c = 37 then (if dgv (nc tx L p) = -1 then (0, p, n, v) else if dgv (nc tx L (p + 1)) = -1 then rd (nc tx L) cs (p + 1) (n + 1) (ups v n (dgv (nc tx L p))) else rd (nc tx L) cs (p + 2) (n + 1) (ups v n (10 * dgv (nc tx L p) + dgv (nc tx L (p + 1)))))
      else if nc tx L p = c then rd (nc tx L) cs (p + 1) n v else (0, p, n, v) := rfl
    have hM : rdM (c :: cs) n m = bnd2 (if c = 35 then qM_readsDigit m n else if c = 37 then qM_readsNumber m n else qM_reads m c) fun a m' => if a = 0 then some (0, m') else rdM cs (if c = 35 ∨ c = 37 then n + 1 else n) m' := rfl
    rw [hr9, hM]
    have vals : ∀ (m1 : zM) (x : Int), m1 155 n = x → (∀ j, j ≠ n → m1 155 j = m 155 j) → ∀ i, 0 ≤ i → i < n + 1 → m1 155 i = ups v n x i := fun m1 x hx ho i i0 i1 => by
      by_cases hi : i = n
      · rw [hi, ups_at, hx]
      · rw [ups_o hi, ho i hi]; exact hv9 i i0 (by omega)
    by_cases h35 : c = 35
    · rw [if_pos (Or.inl h35)] at hv1
      rw [if_pos h35, if_pos h35, readsDigit_eq t hp h0 ⟨n0, by omega⟩, if_pos (Or.inl h35)]
      by_cases hd : dgv (nc tx L p) = -1
      · rw [if_pos hd, if_pos hd, sBnd2, if_pos rfl]
        exact ⟨m, rfl, QFr.refl, hp, hv9, fun _ _ => rfl⟩
      · have hp1 := dgv_p hd
        rw [if_neg hd, if_neg hd, sBnd2, if_neg (show ¬ (1 : Int) = 0 by decide)]
        have o1 : ∀ j, j ≠ n → (st (st m 155 n (dgv (nc tx L p))) 142 18 (p + 1)) 155 j = m 155 j := fun j hj => by rw [st_k (by decide), st_i hj]
        obtain ⟨m', u1, u2, u3, u4, u5⟩ := rdM_eq cs (st (st m 155 n (dgv (nc tx L p))) 142 18 (p + 1)) (p + 1) (n + 1) (ups v n (dgv (nc tx L p))) (t.fr (QFr.num.trans QFr.pos)) st_at ⟨by omega, by omega⟩ hcs (by omega) (by omega) (vals _ _ (by rw [st_k (by decide), st_at]) o1)
        refine ⟨m', u1, (QFr.num.trans QFr.pos).trans u2, u3, u4, fun i hi => ?_⟩
        have := rd_n (nc tx L) cs (p + 1) (n + 1) (ups v n (dgv (nc tx L p)))
        rw [u5 i hi, o1 i (by omega)]
    rw [if_neg h35, if_neg h35]
    by_cases h37 : c = 37
    · rw [if_pos (Or.inr h37)] at hv1
      obtain ⟨m1, x1, x2, x3, x4⟩ := readsNumber_eq (i := n) t hp h0 ⟨n0, by omega⟩
      rw [if_pos h37, if_pos h37, x1, sBnd2, if_pos (Or.inr h37)]
      by_cases hd : dgv (nc tx L p) = -1
      · rw [if_pos hd, if_pos hd, if_pos rfl]
        rw [x3 hd]
        exact ⟨m, rfl, QFr.refl, hp, hv9, fun _ _ => rfl⟩
      · have hp1 := dgv_p hd
        obtain ⟨y1, y2, y3⟩ := x4 hd
        rw [if_neg hd, if_neg hd, if_neg (show ¬ (1 : Int) = 0 by decide)]
        by_cases hd2 : dgv (nc tx L (p + 1)) = -1
        · obtain ⟨z1, z2⟩ := y2 hd2
          rw [if_pos hd2]
          obtain ⟨m', u1, u2, u3, u4, u5⟩ := rdM_eq cs m1 (p + 1) (n + 1) (ups v n (dgv (nc tx L p))) (t.fr x2) z1 ⟨by omega, by omega⟩ hcs (by omega) (by omega) (vals _ _ z2 y1)
          refine ⟨m', u1, x2.trans u2, u3, u4, fun i hi => ?_⟩
          have := rd_n (nc tx L) cs (p + 1) (n + 1) (ups v n (dgv (nc tx L p)))
          rw [u5 i hi, y1 i (by omega)]
        · have hp2 := dgv_p hd2
          obtain ⟨z1, z2⟩ := y3 hd2
          rw [if_neg hd2]
          obtain ⟨m', u1, u2, u3, u4, u5⟩ := rdM_eq cs m1 (p + 2) (n + 1) (ups v n (10 * dgv (nc tx L p) + dgv (nc tx L (p + 1)))) (t.fr x2) z1 ⟨by omega, by omega⟩ hcs (by omega) (by omega) (vals _ _ z2 y1)
          refine ⟨m', u1, x2.trans u2, u3, u4, fun i hi => ?_⟩
          have := rd_n (nc tx L) cs (p + 2) (n + 1) (ups v n (10 * dgv (nc tx L p) + dgv (nc tx L (p + 1))))
          rw [u5 i hi, y1 i (by omega)]
    rw [if_neg h37, if_neg h37, reads_eq t hp h0, if_neg (show ¬ (c = 35 ∨ c = 37) from fun z => z.elim h35 h37)]
    rw [if_neg (show ¬ (c = 35 ∨ c = 37) from fun z => z.elim h35 h37)] at hv1
    by_cases hg : nc tx L p = c
    · have hp1 := nc_in (tx := tx) (L := L) (p := p) (by omega)
      rw [if_pos hg, if_pos hg, sBnd2, if_neg (show ¬ (1 : Int) = 0 by decide)]
      obtain ⟨m', u1, u2, u3, u4, u5⟩ := rdM_eq cs (st m 142 18 (p + 1)) (p + 1) n v (t.fr QFr.pos) st_at ⟨by omega, by omega⟩ hcs n0 (by omega) (fun i i0 i1 => by rw [st_k (by decide)]; exact hv9 i i0 i1)
      exact ⟨m', u1, QFr.pos.trans u2, u3, u4, fun i hi => by rw [u5 i hi, st_k (by decide)]⟩
    · rw [if_neg hg, if_neg hg, sBnd2, if_pos rfl]
      exact ⟨m, rfl, QFr.refl, hp, hv9, fun _ _ => rfl⟩
