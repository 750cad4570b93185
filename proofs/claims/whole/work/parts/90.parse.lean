/-! ===== B: reading a program's text; the class's way ===== -/
def nc (tx : Int → Int) (L p : Int) : Int := if 0 ≤ p ∧ p < L then tx p else -1
def dgv (c : Int) : Int := if 48 ≤ c ∧ c ≤ 57 then c - 48 else -1
def ups (v : Int → Int) (i x : Int) : Int → Int := fun j => if j = i then x else v j
theorem ups_at {v : Int → Int} {i x : Int} : ups v i x i = x := by unfold ups; rw [if_pos rfl]
theorem ups_o {v : Int → Int} {i x j : Int} (h : j ≠ i) : ups v i x j = v j := by unfold ups; rw [if_neg h]
/-- signs read one after the other: whether it went well, where, how many numbers, which -/
def rd (g : Int → Int) : List Int → Int → Int → (Int → Int) → Int × Int × Int × (Int → Int)
  | [], p, n, v => (1, p, n, v)
  | c :: cs, p, n, v =>
    if c = 35 then (if dgv (g p) = -1 then (0, p, n, v) else rd g cs (p + 1) (n + 1) (ups v n (dgv (g p))))
    else if c = 37 then (if dgv (g p) = -1 then (0, p, n, v) else if dgv (g (p + 1)) = -1 then rd g cs (p + 1) (n + 1) (ups v n (dgv (g p))) else rd g cs (p + 2) (n + 1) (ups v n (10 * dgv (g p) + dgv (g (p + 1)))))
    else if g p = c then rd g cs (p + 1) n v else (0, p, n, v)
def vcount : List Int → Int
  | [] => 0
  | c :: cs => (if c = 35 ∨ c = 37 then 1 else 0) + vcount cs
theorem vcount_nn : ∀ cs : List Int, 0 ≤ vcount cs
  | [] => by decide
  | c :: cs => by
    have := vcount_nn cs
    unfold vcount
    split <;> omega
theorem nc_in {tx : Int → Int} {L p : Int} (h : nc tx L p ≠ -1) : 0 ≤ p ∧ p < L := by
  unfold nc at h
  by_cases hp : 0 ≤ p ∧ p < L
  · exact hp
  · rw [if_neg hp] at h; exact absurd rfl h
theorem dgv_in {c : Int} (h : dgv c ≠ -1) : (48 ≤ c ∧ c ≤ 57) ∧ dgv c = c - 48 := by
  unfold dgv at h ⊢
  by_cases hc : 48 ≤ c ∧ c ≤ 57
  · rw [if_pos hc]; exact ⟨hc, rfl⟩
  · rw [if_neg hc] at h; exact absurd rfl h
theorem dgv_p {tx : Int → Int} {L p : Int} (h : dgv (nc tx L p) ≠ -1) : (0 ≤ p ∧ p < L) ∧ 0 ≤ dgv (nc tx L p) ∧ dgv (nc tx L p) ≤ 9 := by
  have h1 := dgv_in h
  exact ⟨nc_in (show nc tx L p ≠ -1 from fun z => by rw [z] at h1; omega), by omega⟩
def RdOk (L p n : Int) (cs : List Int) (r : Int × Int × Int × (Int → Int)) : Prop := (p ≤ r.2.1 ∧ r.2.1 ≤ L) ∧ (r.1 = 0 ∨ r.1 = 1) ∧ (r.1 = 1 → r.2.2.1 = n + vcount cs ∧ p + cs.length ≤ r.2.1)
theorem rdok_bad {L p n : Int} {cs : List Int} {v : Int → Int} (h1 : p ≤ L) : RdOk L p n cs (0, p, n, v) := ⟨⟨Int.le_refl _, h1⟩, Or.inl rfl, fun z => by
  have z9 : (0 : Int) = 1 := z
  omega⟩
theorem rdok_cons {L p n p1 n1 c : Int} {cs : List Int} {r : Int × Int × Int × (Int → Int)} (h : RdOk L p1 n1 cs r) (hp : p + 1 ≤ p1) (hn : n1 = n + (if c = 35 ∨ c = 37 then 1 else 0)) : RdOk L p n (c :: cs) r := by
  obtain ⟨⟨h1, h2⟩, h3, h4⟩ := h
  refine ⟨⟨by omega, h2⟩, h3, fun z => ?_⟩
  have h5 := h4 z
  have hv9 : vcount (c :: cs) = (if c = 35 ∨ c = 37 then 1 else 0) + vcount cs := rfl
  rw [List.length_cons, hv9]
  omega
theorem rd_in {tx : Int → Int} {L : Int} : ∀ (cs : List Int) (p n : Int) (v : Int → Int), (∀ c, c ∈ cs → 0 ≤ c) → 0 ≤ p → p ≤ L → RdOk L p n cs (rd (nc tx L) cs p n v)
  | [], p, n, v, _, h0, h1 => ⟨⟨Int.le_refl _, h1⟩, Or.inr rfl, fun _ => ⟨by show n = n + 0; omega, by show p + ((0 : Nat) : Int) ≤ p; omega⟩⟩
  | c :: cs, p, n, v, hc, h0, h1 => by
    have hcs : ∀ d, d ∈ cs → 0 ≤ d := fun d hd => hc d (List.mem_cons_of_mem _ hd)
    have hc0 := hc c (List.mem_cons_self ..)
    have hr9 : rd (nc tx L) (c :: cs) p n v = if c = 35 then (if dgv (nc tx L p) = -1 then (0, p, n, v) else rd (nc tx L) cs (p + 1) (n + 1) (ups v n (dgv (nc tx L p))))
      else if c = 37 then (if dgv (nc tx L p) = -1 then (0, p, n, v) else if dgv (nc tx L (p + 1)) = -1 then rd (nc tx L) cs (p + 1) (n + 1) (ups v n (dgv (nc tx L p))) else rd (nc tx L) cs (p + 2) (n + 1) (ups v n (10 * dgv (nc tx L p) + dgv (nc tx L (p + 1)))))
      else if nc tx L p = c then rd (nc tx L) cs (p + 1) n v else (0, p, n, v) := rfl
    rw [hr9]
    by_cases h35 : c = 35
    · rw [if_pos h35]
      by_cases hd : dgv (nc tx L p) = -1
      · rw [if_pos hd]; exact rdok_bad h1
      · rw [if_neg hd]
        have hp := (dgv_p hd).1
        exact rdok_cons (rd_in cs _ _ _ hcs (by omega) (by omega)) (Int.le_refl _) (by rw [if_pos (Or.inl h35)])
    rw [if_neg h35]
    by_cases h37 : c = 37
    · rw [if_pos h37]
      by_cases hd : dgv (nc tx L p) = -1
      · rw [if_pos hd]; exact rdok_bad h1
      · rw [if_neg hd]
        have hp := (dgv_p hd).1
        by_cases hd2 : dgv (nc tx L (p + 1)) = -1
        · rw [if_pos hd2]
          exact rdok_cons (rd_in cs _ _ _ hcs (by omega) (by omega)) (Int.le_refl _) (by rw [if_pos (Or.inr h37)])
        · rw [if_neg hd2]
          have hp2 := (dgv_p hd2).1
          exact rdok_cons (rd_in cs _ _ _ hcs (by omega) (by omega)) (by omega) (by rw [if_pos (Or.inr h37)])
    rw [if_neg h37]
    by_cases hg : nc tx L p = c
    · rw [if_pos hg]
      have hp := nc_in (tx := tx) (L := L) (p := p) (by omega)
      exact rdok_cons (rd_in cs _ _ _ hcs (by omega) (by omega)) (Int.le_refl _) (by rw [if_neg (show ¬ (c = 35 ∨ c = 37) from fun z => z.elim h35 h37)]; omega)
    · rw [if_neg hg]; exact rdok_bad h1
/-- the class holds the text tx of length L -/
def TxC (tx : Int → Int) (L : Int) (m : zM) : Prop := m 138 1 = L ∧ (∀ j, 0 ≤ j → j < L → m 139 j = tx j) ∧ (0 ≤ L ∧ L ≤ 60) ∧ ∀ j, 0 ≤ j → j < L → 0 ≤ tx j ∧ tx j ≤ 65535
/-- only the parser's objects are others -/
def PFr (m m' : zM) : Prop := ∀ q : Nat, q ≠ 136 → q ≠ 137 → m' q = m q
theorem TxC.fr {tx : Int → Int} {L : Int} {m m' : zM} (h : TxC tx L m) (f : PFr m m') : TxC tx L m' := ⟨by rw [f 138 (by decide) (by decide)]; exact h.1, fun j h0 h1 => by rw [f 139 (by decide) (by decide)]; exact h.2.1 j h0 h1, h.2.2⟩
theorem PFr.trans {a b c : zM} (h : PFr a b) (g : PFr b c) : PFr a c := fun q q1 q2 => by rw [g q q1 q2, h q q1 q2]
theorem PFr.st {m : zM} {i x : Int} : PFr m (st m 136 i x) := fun q q1 _ => funext fun j => st_k q1
theorem hasAt_eq {tx : Int → Int} {L p c : Int} {m : zM} (h : TxC tx L m) (hc : c ≠ -1) : qX_hasAt m 138 p c = some (if nc tx L p = c then 1 else 0) := by
  unfold qX_hasAt nc
  rw [h.1]
  have h60 := h.2.2.1.2
  by_cases h0 : p < 0
  · rw [if_pos h0, if_neg (show ¬ (0 ≤ p ∧ p < L) by omega), if_neg (fun z => hc z.symm)]
  · rw [if_neg h0]
    by_cases h1 : p < L
    · rw [if_pos h1, if_pos (show 0 ≤ p ∧ p < 128 by omega), if_pos (show 0 ≤ p ∧ p < L by omega)]
      show (if m 139 p = c then some 1 else some 0) = _
      rw [h.2.1 p (by omega) h1]
      by_cases h2 : tx p = c
      · rw [if_pos h2, if_pos h2]
      · rw [if_neg h2, if_neg h2]
    · rw [if_neg h1, if_neg (show ¬ (0 ≤ p ∧ p < L) by omega), if_neg (fun z => hc z.symm)]
theorem digitAt_eq {tx : Int → Int} {L p : Int} {m : zM} (h : TxC tx L m) : qX_digitAt m 138 p = some (dgv (nc tx L p)) := by
  unfold qX_digitAt nc
  rw [h.1]
  have h60 := h.2.2.1.2
  have hn : dgv (-1) = -1 := by decide
  by_cases h0 : p < 0
  · rw [if_pos h0, if_neg (show ¬ (0 ≤ p ∧ p < L) by omega), hn]
  · rw [if_neg h0]
    by_cases h1 : p < L
    · have c : 0 ≤ p ∧ p < 128 := by omega
      rw [if_pos h1, if_pos c, if_pos c, if_pos c, if_pos (show 0 ≤ p ∧ p < L by omega)]
      show (if m 139 p < 48 then some (-1) else if 57 < m 139 p then some (-1) else some (wr (m 139 p - 48))) = _
      rw [h.2.1 p (by omega) h1]
      have ht := h.2.2.2 p (by omega) h1
      unfold dgv
      by_cases h2 : tx p < 48
      · rw [if_pos h2, if_neg (by omega)]
      · rw [if_neg h2]
        by_cases h3 : 57 < tx p
        · rw [if_pos h3, if_neg (by omega)]
        · rw [if_neg h3, if_pos (by omega), wr_n (by omega) (by omega)]
    · rw [if_neg h1, if_neg (show ¬ (0 ≤ p ∧ p < L) by omega), hn]
/-- the class's parser stands at p, has kind k, n values v, and is right (ok = 1) or wrong -/
def PsC (m : zM) (p k n : Int) (v : Int → Int) (ok : Int) : Prop := m 136 0 = p ∧ m 136 1 = k ∧ m 136 3 = n ∧ m 136 4 = 1 - ok ∧ ∀ i, 0 ≤ i → i < n → m 137 i = v i
theorem keepValue_eq {m : zM} {p k n x : Int} {v : Int → Int} (h : PsC m p k n v 1) (hn : 0 ≤ n ∧ n < 4) : ∃ m', qR_keepValue m x = some m' ∧ PsC m' p k (n + 1) (ups v n x) 1 ∧ PFr m m' := by
  obtain ⟨h1, h2, h3, h4, h5⟩ := h
  unfold qR_keepValue
  rw [h3, if_pos hn.2, if_pos hn, sBind, st_k (show (136 : Nat) ≠ 137 by decide), h3, wr_n (by omega) (by omega), sBind]
  refine ⟨_, rfl, ⟨by rw [st_i (by decide), st_k (by decide)]; exact h1, by rw [st_i (by decide), st_k (by decide)]; exact h2, st_at, by rw [st_i (by decide), st_k (by decide)]; exact h4, fun i i0 i1 => ?_⟩, fun q q1 q2 => funext fun j => by rw [st_k q1, st_k q2]⟩
  rw [st_k (by decide)]
  by_cases hi : i = n
  · rw [hi, st_at, ups_at]
  · rw [st_i hi, ups_o hi]; exact h5 i i0 (by omega)
theorem PsC.wrong {m : zM} {p k n : Int} {v : Int → Int} (h : PsC m p k n v 1) : PsC (st m 136 4 1) p k n v 0 := ⟨by rw [st_i (by decide)]; exact h.1, by rw [st_i (by decide)]; exact h.2.1, by rw [st_i (by decide)]; exact h.2.2.1, by rw [st_at]; rfl, fun i i0 i1 => by rw [st_k (by decide)]; exact h.2.2.2.2 i i0 i1⟩
theorem PsC.move {m : zM} {p k n p' : Int} {v : Int → Int} {ok : Int} (h : PsC m p k n v ok) : PsC (st m 136 0 p') p' k n v ok := ⟨st_at, by rw [st_i (by decide)]; exact h.2.1, by rw [st_i (by decide)]; exact h.2.2.1, by rw [st_i (by decide)]; exact h.2.2.2.1, fun i i0 i1 => by rw [st_k (by decide)]; exact h.2.2.2.2 i i0 i1⟩
/-- one part of a form -/
theorem readPart_eq {tx : Int → Int} {L p k n c : Int} {v : Int → Int} {m : zM} (t : TxC tx L m) (h : PsC m p k n v 1) (hc : 0 ≤ c) (hn : 0 ≤ n) (hn4 : n + vcount [c] ≤ 4) (hp : 0 ≤ p ∧ p ≤ L) : ∃ m', qR_readPart m c = some m' ∧ PsC m' (rd (nc tx L) [c] p n v).2.1 k (rd (nc tx L) [c] p n v).2.2.1 (rd (nc tx L) [c] p n v).2.2.2 (rd (nc tx L) [c] p n v).1 ∧ PFr m m' := by
  have h60 := t.2.2.1.2
  have pos := h.1
  have rdig : n < 4 → dgv (nc tx L p) = -1 ∨ dgv (nc tx L p) ≠ -1 → ∃ m', qR_readDigit m = some m' ∧ PFr m m' ∧ ((dgv (nc tx L p) = -1 ∧ PsC m' p k n v 0) ∨ (dgv (nc tx L p) ≠ -1 ∧ PsC m' (p + 1) k (n + 1) (ups v n (dgv (nc tx L p))) 1)) := fun hn9 _ => by
    unfold qR_readDigit
    rw [pos, digitAt_eq t, sBind]
    by_cases hd : dgv (nc tx L p) = -1
    · rw [if_pos hd, sBind]
      exact ⟨_, rfl, PFr.st, Or.inl ⟨hd, h.wrong⟩⟩
    · rw [if_neg hd, wr_n (by omega) (by omega), sBind]
      obtain ⟨m', u1, u2, u3⟩ := keepValue_eq (x := dgv (nc tx L p)) (h.move (p' := p + 1)) ⟨hn, hn9⟩
      rw [u1, sBind]
      exact ⟨m', rfl, PFr.st.trans u3, Or.inr ⟨hd, u2⟩⟩
  unfold qR_readPart
  have hvc : vcount [c] = (if c = 35 ∨ c = 37 then 1 else 0) + 0 := rfl
  by_cases h35 : c = 35
  · rw [if_pos (Or.inl h35)] at hvc
    rw [if_pos h35]
    have hr9 : rd (nc tx L) [c] p n v = if dgv (nc tx L p) = -1 then (0, p, n, v) else (1, p + 1, n + 1, ups v n (dgv (nc tx L p))) := by
      unfold rd
      rw [if_pos h35]
      rfl
    obtain ⟨m', u1, u2, u3⟩ := rdig (by omega) (Decidable.em _)
    rw [hr9, u1, sBind]
    rcases u3 with ⟨y1, y2⟩ | ⟨y1, y2⟩
    · rw [if_pos y1]; exact ⟨m', rfl, y2, u2⟩
    · rw [if_neg y1]; exact ⟨m', rfl, y2, u2⟩
  rw [if_neg h35]
  by_cases h37 : c = 37
  · rw [if_pos (Or.inr h37)] at hvc
    rw [if_pos h37]
    have hr9 : rd (nc tx L) [c] p n v = if dgv (nc tx L p) = -1 then (0, p, n, v) else if dgv (nc tx L (p + 1)) = -1 then (1, p + 1, n + 1, ups v n (dgv (nc tx L p))) else (1, p + 2, n + 1, ups v n (10 * dgv (nc tx L p) + dgv (nc tx L (p + 1)))) := by
      unfold rd
      rw [if_neg h35, if_pos h37]
      rfl
    unfold qR_readNumber qR_readNumber_j30
    rw [pos, digitAt_eq t, sBind, wr_n (x := p + 1) (by omega) (by omega), digitAt_eq t, sBind]
    obtain ⟨m', u1, u2, u3⟩ := rdig (by omega) (Decidable.em _)
    by_cases hd : dgv (nc tx L p) = -1
    · rw [if_pos hd, hr9, if_pos hd, u1, sBind]
      rcases u3 with ⟨y1, y2⟩ | ⟨y1, y2⟩
      · exact ⟨m', rfl, y2, u2⟩
      · exact absurd hd y1
    · rw [if_neg hd, hr9, if_neg hd]
      by_cases hd2 : dgv (nc tx L (p + 1)) = -1
      · rw [if_pos hd2, if_pos hd2, u1, sBind]
        rcases u3 with ⟨y1, y2⟩ | ⟨y1, y2⟩
        · exact absurd y1 hd
        · exact ⟨m', rfl, y2, u2⟩
      · have b1 := (dgv_p hd).2
        have b2 := (dgv_p hd2).2
        rw [if_neg hd2, if_neg hd2, wr_n (x := p + 2) (by omega) (by omega), sBind, wr_n (x := 10 * dgv (nc tx L p)) (by omega) (by omega), wr_n (x := 10 * dgv (nc tx L p) + dgv (nc tx L (p + 1))) (by omega) (by omega)]
        obtain ⟨m2, w1, w2, w3⟩ := keepValue_eq (x := 10 * dgv (nc tx L p) + dgv (nc tx L (p + 1))) (h.move (p' := p + 2)) ⟨hn, by omega⟩
        rw [w1, sBind]
        exact ⟨m2, rfl, w2, PFr.st.trans w3⟩
  · rw [if_neg h37]
    have hr9 : rd (nc tx L) [c] p n v = if nc tx L p = c then (1, p + 1, n, v) else (0, p, n, v) := by
      unfold rd
      rw [if_neg h35, if_neg h37]
      rfl
    unfold qR_readSign
    rw [pos, hasAt_eq t (by omega), sBind, hr9]
    by_cases hg : nc tx L p = c
    · rw [if_pos hg, if_neg (show ¬ (1 : Int) = 0 by decide), wr_n (by omega) (by omega), sBind, if_pos hg]
      exact ⟨_, rfl, h.move, PFr.st⟩
    · rw [if_neg hg, if_pos rfl, sBind, if_neg hg]
      exact ⟨_, rfl, h.wrong, PFr.st⟩
theorem rd_cons {g : Int → Int} {c : Int} {cs : List Int} {p n : Int} {v : Int → Int} : rd g (c :: cs) p n v = if (rd g [c] p n v).1 = 0 then rd g [c] p n v else rd g cs (rd g [c] p n v).2.1 (rd g [c] p n v).2.2.1 (rd g [c] p n v).2.2.2 := by
  have h1 : rd g [c] p n v = if c = 35 then (if dgv (g p) = -1 then (0, p, n, v) else (1, p + 1, n + 1, ups v n (dgv (g p))))
      else if c = 37 then (if dgv (g p) = -1 then (0, p, n, v) else if dgv (g (p + 1)) = -1 then (1, p + 1, n + 1, ups v n (dgv (g p))) else (1, p + 2, n + 1, ups v n (10 * dgv (g p) + dgv (g (p + 1)))))
      else if g p = c then (1, p + 1, n, v) else (0, p, n, v) := rfl
  have h2 : rd g (c :: cs) p n v = if c = 35 then (if dgv (g p) = -1 then (0, p, n, v) else rd g cs (p + 1) (n + 1) (ups v n (dgv (g p))))
      else if c = 37 then (if dgv (g p) = -1 then (0, p, n, v) else if dgv (g (p + 1)) = -1 then rd g cs (p + 1) (n + 1) (ups v n (dgv (g p))) else rd g cs (p + 2) (n + 1) (ups v n (10 * dgv (g p) + dgv (g (p + 1)))))
      else if g p = c then rd g cs (p + 1) n v else (0, p, n, v) := rfl
  rw [h1, h2]
  have h10 : ¬ (1 : Int) = 0 := by decide
  by_cases h35 : c = 35
  · rw [if_pos h35, if_pos h35]
    by_cases hd : dgv (g p) = -1
    · rw [if_pos hd, if_pos hd, if_pos rfl]
    · rw [if_neg hd, if_neg hd]; exact (if_neg h10).symm
  · rw [if_neg h35, if_neg h35]
    by_cases h37 : c = 37
    · rw [if_pos h37, if_pos h37]
      by_cases hd : dgv (g p) = -1
      · rw [if_pos hd, if_pos hd, if_pos rfl]
      · rw [if_neg hd, if_neg hd]
        by_cases hd2 : dgv (g (p + 1)) = -1
        · rw [if_pos hd2, if_pos hd2]; exact (if_neg h10).symm
        · rw [if_neg hd2, if_neg hd2]; exact (if_neg h10).symm
    · rw [if_neg h37, if_neg h37]
      by_cases hg : g p = c
      · rw [if_pos hg, if_pos hg]; exact (if_neg h10).symm
      · rw [if_neg hg, if_neg hg, if_pos rfl]
theorem form_l {tx : Int → Int} {L k : Int} (hk : 0 ≤ k ∧ k < 8) : ∀ (cs : List Int) (nn : Nat) (m : zM) (p n i : Int) (v : Int → Int), TxC tx L m → PsC m p k n v 1 → (∀ c, c ∈ cs → 0 ≤ c) → 0 ≤ i → formLen k = i + cs.length → (∀ j : Nat, j < cs.length → formAt k (i + j) = cs.getD j 0) → 0 ≤ n → n + vcount cs ≤ 4 → 0 ≤ p ∧ p ≤ L → cs.length < nn → i ≤ 100 →
    ∃ m', qR_readCommand_l39 k nn m i = some m' ∧ PsC m' (rd (nc tx L) cs p n v).2.1 k (rd (nc tx L) cs p n v).2.2.1 (rd (nc tx L) cs p n v).2.2.2 (rd (nc tx L) cs p n v).1 ∧ PFr m m'
  | [], nn, m, p, n, i, v, t, h, _, i0, hl, _, _, _, _, hn, _ => by
    obtain ⟨nn, rfl⟩ : ∃ n', nn = n' + 1 := ⟨nn - 1, by omega⟩
    have hl0 : formLen k = i + ((0 : Nat) : Int) := hl
    unfold qR_readCommand_l39
    rw [if_pos hk, if_neg (by omega)]
    exact ⟨m, rfl, h, fun _ _ _ => rfl⟩
  | c :: cs, nn, m, p, n, i, v, t, h, hc, i0, hl, hf, n0, n4, hp, hn, hi => by
    obtain ⟨nn, rfl⟩ : ∃ n', nn = n' + 1 := ⟨nn - 1, by omega⟩
    rw [List.length_cons] at hl hn
    have hvc := vcount_nn cs
    have hv1 : vcount (c :: cs) = vcount [c] + vcount cs := by
      show (if c = 35 ∨ c = 37 then 1 else 0) + vcount cs = ((if c = 35 ∨ c = 37 then 1 else 0) + 0) + vcount cs
      omega
    have hf0 := hf 0 (by rw [List.length_cons]; omega)
    rw [show i + ((0 : Nat) : Int) = i by omega] at hf0
    have hf0' : formAt k i = c := hf0
    have hc0 := hc c (List.mem_cons_self ..)
    have w0 : m 136 4 = 0 := by have := h.2.2.2.1; omega
    obtain ⟨m1, u1, u2, u3⟩ := readPart_eq t h hc0 n0 (by omega) hp
    have hin := rd_in (tx := tx) (L := L) [c] p n v (fun d hd => by rw [List.mem_singleton.mp hd]; exact hc0) hp.1 hp.2
    unfold qR_readCommand_l39
    rw [if_pos hk, if_pos (by omega), if_pos w0, if_pos ⟨hk, by omega, by omega⟩, hf0', u1, sBind, wr_n (by omega) (by omega), rd_cons]
    by_cases hz : (rd (nc tx L) [c] p n v).1 = 0
    · rw [if_pos hz]
      obtain ⟨nn, rfl⟩ : ∃ n', nn = n' + 1 := ⟨nn - 1, by omega⟩
      have w1 : ¬ m1 136 4 = 0 := by have := u2.2.2.2.1; rw [hz] at this; omega
      unfold qR_readCommand_l39
      rw [if_pos hk]
      by_cases hlt : i + 1 < formLen k
      · rw [if_pos hlt, if_neg w1]; exact ⟨m1, rfl, u2, u3⟩
      · rw [if_neg hlt]; exact ⟨m1, rfl, u2, u3⟩
    · rw [if_neg hz]
      have h1 : (rd (nc tx L) [c] p n v).1 = 1 := hin.2.1.resolve_left hz
      have h2 := hin.2.2 h1
      have hv0 := vcount_nn [c]
      rw [h1] at u2
      obtain ⟨m', v1, v2, v3⟩ := form_l hk cs nn m1 _ _ (i + 1) _ (t.fr u3) u2 (fun d hd => hc d (List.mem_cons_of_mem _ hd)) (by omega) (by omega) (fun j hj => by
        have := hf (j + 1) (by rw [List.length_cons]; omega)
        rw [show i + 1 + (j : Int) = i + ((j + 1 : Nat) : Int) by omega, this]
        rfl) (by omega) (by omega) ⟨by omega, hin.1.2⟩ (by omega) (by
        have h14 : formLen k ≤ 100 := by
          have hk8 : k = 0 ∨ k = 1 ∨ k = 2 ∨ k = 3 ∨ k = 4 ∨ k = 5 ∨ k = 6 ∨ k = 7 := by omega
          rcases hk8 with rfl | rfl | rfl | rfl | rfl | rfl | rfl | rfl <;> decide
        omega)
      exact ⟨m', v1, v2, u3.trans v3⟩
