/-! ===== B: counting a program's commands, on both sides ===== -/
/-- whether the text reads well from s on, where reading ends, how many commands -/
def walk (g : Int → Int) (L : Int) : Nat → Int → Int × Int × Nat
  | 0, s => (0, s, 0)
  | k+1, s => if (pcmd g s).1 = 1 then (if (pcmd g s).2.1 < L then (if g (pcmd g s).2.1 = 59 then ((walk g L k ((pcmd g s).2.1 + 1)).1, (walk g L k ((pcmd g s).2.1 + 1)).2.1, (walk g L k ((pcmd g s).2.1 + 1)).2.2 + 1) else (0, (pcmd g s).2.1, 1)) else (1, (pcmd g s).2.1, 1)) else (0, (pcmd g s).2.1, 1)
def Prog (g : Int → Int) (L : Int) : Nat → Int → Prop
  | 0, _ => False
  | n+1, s => (pcmd g s).1 = 1 ∧ ((n = 0 ∧ (pcmd g s).2.1 = L) ∨ (n ≠ 0 ∧ g (pcmd g s).2.1 = 59 ∧ Prog g L n ((pcmd g s).2.1 + 1)))
theorem walk_in {tx : Int → Int} {L : Int} : ∀ (k : Nat) (s : Int), 0 ≤ s → s ≤ L → L - s < k → (walk (nc tx L) L k s).1 = 0 ∨ ((walk (nc tx L) L k s).1 = 1 ∧ Prog (nc tx L) L (walk (nc tx L) L k s).2.2 s ∧ s + (walk (nc tx L) L k s).2.2 ≤ L + 1 ∧ (walk (nc tx L) L k s).2.1 = L)
  | 0, s, h0, h1, h2 => by omega
  | k+1, s, h0, h1, h2 => by
    have hp := pcmd_in (tx := tx) h0 h1
    unfold walk
    by_cases hok : (pcmd (nc tx L) s).1 = 1
    · have h3 := (hp.2.2 hok).1
      rw [if_pos hok]
      by_cases hl : (pcmd (nc tx L) s).2.1 < L
      · rw [if_pos hl]
        by_cases hs : nc tx L (pcmd (nc tx L) s).2.1 = 59
        · rw [if_pos hs]
          have ih := walk_in (tx := tx) (L := L) k ((pcmd (nc tx L) s).2.1 + 1) (by omega) (by omega) (by omega)
          generalize walk (nc tx L) L k ((pcmd (nc tx L) s).2.1 + 1) = w at ih
          rcases ih with y | ⟨y1, y2, y3, y4⟩
          · exact Or.inl y
          · refine Or.inr ⟨y1, ⟨hok, Or.inr ⟨fun z => ?_, hs, y2⟩⟩, ?_, y4⟩
            · rw [z] at y2; exact y2
            · show s + ((w.2.2 + 1 : Nat) : Int) ≤ L + 1
              omega
        · rw [if_neg hs]; exact Or.inl rfl
      · rw [if_neg hl]
        have he : (pcmd (nc tx L) s).2.1 = L := by omega
        refine Or.inr ⟨rfl, ⟨hok, Or.inl ⟨rfl, he⟩⟩, ?_, he⟩
        show s + ((1 : Nat) : Int) ≤ L + 1
        omega
    · rw [if_neg hok]; exact Or.inl rfl
/-- the class's parser is about to read command number i, that begins at s -/
def AtC (tx : Int → Int) (L s i : Int) (m : zM) : Prop := m 136 4 = 0 ∧ (0 ≤ m 136 1 ∧ m 136 1 < 8) ∧ ((i = 0 ∧ m 136 0 = s) ∨ (0 < i ∧ m 136 0 = s - 1 ∧ nc tx L (s - 1) = 59))
theorem readC_eq {tx : Int → Int} {L s i : Int} {m : zM} (t : TxC tx L m) (h : AtC tx L s i m) (hs : 0 ≤ s ∧ s ≤ L) : ∃ m', qR_readCommand m i = some m' ∧ PFr m m' ∧ CmdC tx L s m' := by
  obtain ⟨h1, h2, h3⟩ := h
  have h60 := t.2.2.1.2
  unfold qR_readCommand
  rcases h3 with ⟨h3, h4⟩ | ⟨h3, h4, h5⟩
  · rw [if_neg (by omega)]
    exact readCommand_eq t h4 h1 h2 hs
  · unfold qR_readSign
    rw [if_pos h3, h4, hasAt_eq t (by decide), sBind, if_pos h5, if_neg (show ¬ (1 : Int) = 0 by decide), wr_n (by omega) (by omega), sBind, sBind, show s - 1 + 1 = s by omega]
    obtain ⟨m', u1, u2, u3⟩ := readCommand_eq (t.fr PFr.st) (p := s) (m := st m 136 0 s) st_at (by rw [st_i (by decide)]; exact h1) (by rw [st_i (by decide)]; exact h2) hs
    exact ⟨m', u1, PFr.st.trans u2, u3⟩
theorem readC_bad {tx : Int → Int} {L q i : Int} {m : zM} (t : TxC tx L m) (hi : 0 < i) (hq : m 136 0 = q) (hk : 0 ≤ m 136 1 ∧ m 136 1 < 8) (hs : nc tx L q ≠ 59) : ∃ m', qR_readCommand m i = some m' ∧ PFr m m' ∧ m' 136 0 = q ∧ m' 136 4 = 1 ∧ (0 ≤ m' 136 1 ∧ m' 136 1 < 8) := by
  unfold qR_readCommand qR_readSign
  rw [if_pos hi, hq, hasAt_eq t (by decide), sBind, if_neg hs, if_pos rfl, sBind, sBind]
  unfold qR_readCommand_j11
  rw [st_at, if_neg (by decide), sBind]
  generalize hm2 : st (st m 136 4 1) 136 3 0 = m2
  have k2 : m2 136 1 = m 136 1 := by rw [← hm2, st_i (by decide), st_i (by decide)]
  have w2 : m2 136 4 = 1 := by rw [← hm2, st_i (by decide), st_at]
  have q2 : m2 136 0 = q := by rw [← hm2, st_i (by decide), st_i (by decide), hq]
  have f2 : PFr m m2 := by rw [← hm2]; exact PFr.st.trans PFr.st
  rw [k2, if_pos hk, stop_l hk (by omega), sBind, k2, if_pos hk]
  by_cases h7 : m 136 1 = 7
  · rw [if_pos h7, if_neg (by omega)]; exact ⟨m2, rfl, f2, q2, w2, by rw [k2]; exact hk⟩
  · rw [if_neg h7]; exact ⟨m2, rfl, f2, q2, w2, by rw [k2]; exact hk⟩
theorem countC_l {tx : Int → Int} {L : Int} : ∀ (k n : Nat) (s i : Int) (m : zM), TxC tx L m → AtC tx L s i m → 0 ≤ s → s ≤ L → L - s < k → k + 1 < n → 0 ≤ i → i ≤ s →
    ∃ c m', qR_countCommands_l6 n m i = some (c, m') ∧ PFr m m' ∧ m' 136 0 = (walk (nc tx L) L k s).2.1 ∧ m' 136 4 = 1 - (walk (nc tx L) L k s).1 ∧ (0 ≤ m' 136 1 ∧ m' 136 1 < 8) ∧ ((walk (nc tx L) L k s).1 = 1 → c = i + (walk (nc tx L) L k s).2.2)
  | 0, n, s, i, m, t, h, h0, h1, h2, _, _, _ => by omega
  | k+1, n, s, i, m, t, h, h0, h1, h2, hn, i0, i1 => by
    obtain ⟨n, rfl⟩ : ∃ n', n = n' + 1 := ⟨n - 1, by omega⟩
    have h60 := t.2.2.1.2
    have hp := pcmd_in (tx := tx) h0 h1
    obtain ⟨m2, u1, u2, u3, u4, u5, u6⟩ := readC_eq t h ⟨h0, h1⟩
    have t2 := t.fr u2
    unfold qR_countCommands_l6 walk
    rw [u1, sBind, t2.1, u3, wr_n (by omega) (by omega)]
    by_cases hok : (pcmd (nc tx L) s).1 = 1
    · have h3 := (hp.2.2 hok).1
      rw [if_pos hok, if_pos (by omega)]
      by_cases hl : (pcmd (nc tx L) s).2.1 < L
      · rw [if_pos hl, if_pos hl, if_neg (by omega)]
        by_cases hs : nc tx L (pcmd (nc tx L) s).2.1 = 59
        · rw [if_pos hs]
          obtain ⟨c, m', v1, v2, v3, v4, v5, v6⟩ := countC_l k n ((pcmd (nc tx L) s).2.1 + 1) (i + 1) m2 t2 ⟨by omega, u5, Or.inr ⟨by omega, by omega, by rw [show (pcmd (nc tx L) s).2.1 + 1 - 1 = (pcmd (nc tx L) s).2.1 by omega]; exact hs⟩⟩ (by omega) (by omega) (by omega) (by omega) (by omega) (by omega)
          refine ⟨c, m', v1, u2.trans v2, v3, v4, v5, fun z => ?_⟩
          have := v6 z
          show c = i + (((walk (nc tx L) L k ((pcmd (nc tx L) s).2.1 + 1)).2.2 + 1 : Nat) : Int)
          omega
        · rw [if_neg hs]
          obtain ⟨m3, w1, w2, w3, w4, w5⟩ := readC_bad (i := i + 1) t2 (by omega) u3 u5 hs
          obtain ⟨n, rfl⟩ : ∃ n', n = n' + 1 := ⟨n - 1, by omega⟩
          unfold qR_countCommands_l6
          rw [w1, sBind, if_neg (by omega)]
          exact ⟨_, m3, rfl, u2.trans w2, w3, w4, w5, fun z => absurd (show (0 : Int) = 1 from z) (by decide)⟩
      · rw [if_neg hl, if_neg hl]
        refine ⟨i + 1, m2, rfl, u2, u3, by rw [u4, hok], u5, fun _ => rfl⟩
    · have hz : (pcmd (nc tx L) s).1 = 0 := hp.2.1.resolve_right hok
      rw [if_neg hok, if_neg (by omega)]
      refine ⟨i + 1, m2, rfl, u2, u3, by rw [u4, hz], u5, fun z => absurd (show (0 : Int) = 1 from z) (by decide)⟩
theorem countCommands_eq {tx : Int → Int} {L : Int} {m : zM} (t : TxC tx L m) (hk : 0 ≤ m 136 1 ∧ m 136 1 < 8) : ∃ c m', qR_countCommands m = some (c, m') ∧ PFr m m' ∧ m' 136 0 = (walk (nc tx L) L 100 0).2.1 ∧ (0 ≤ m' 136 1 ∧ m' 136 1 < 8) ∧ (((walk (nc tx L) L 100 0).1 = 1 ∧ c = (walk (nc tx L) L 100 0).2.2) ∨ ((walk (nc tx L) L 100 0).1 = 0 ∧ c = -1)) := by
  have hL := t.2.2.1
  unfold qR_countCommands qR_rewind
  rw [sBind, sBind, sBind]
  have f1 : PFr m (st (st m 136 0 0) 136 4 0) := PFr.st.trans PFr.st
  obtain ⟨c, m', u1, u2, u3, u4, u5, u6⟩ := countC_l 100 200 0 0 (st (st m 136 0 0) 136 4 0) (t.fr f1) ⟨st_at, by rw [st_i (by decide), st_i (by decide)]; exact hk, Or.inl ⟨rfl, by rw [st_i (by decide), st_at]⟩⟩ (Int.le_refl _) (by omega) (by omega) (by decide) (Int.le_refl _) (Int.le_refl _)
  have hw := walk_in (tx := tx) (L := L) 100 0 (Int.le_refl _) hL.1 (by omega)
  rw [u1, sBnd2]
  rcases hw with y | ⟨y1, y2, y3⟩
  · rw [if_neg (by omega)]
    exact ⟨-1, m', rfl, f1.trans u2, u3, u5, Or.inr ⟨y, rfl⟩⟩
  · rw [if_pos (by omega)]
    have := u6 y1
    exact ⟨c, m', rfl, f1.trans u2, u3, u5, Or.inl ⟨y1, by omega⟩⟩
theorem readsAll_l {tx : Int → Int} {L : Int} : ∀ (k n : Nat) (s : Int) (m : zM), TxM tx L m → m 142 18 = s → 0 ≤ s → s ≤ L → L - s < k → k + 1 < n →
    ∃ e9 m', qM_readsAll_l7 n m 1 = some (e9, m') ∧ ((∀ q : Nat, q ≠ 142 → q ≠ 155 → m' q = m q) ∧ ∀ j, j ≠ 18 → j ≠ 22 → m' 142 j = m 142 j) ∧ m' 142 18 = (walk (nc tx L) L k s).2.1 ∧ (((walk (nc tx L) L k s).1 = 1 ∧ e9 = .inr ()) ∨ ((walk (nc tx L) L k s).1 = 0 ∧ (e9 = .inl 0 ∨ (e9 = .inr () ∧ m' 142 18 < L))))
  | 0, n, s, m, t, h, h0, h1, h2, _ => by omega
  | k+1, n, s, m, t, h, h0, h1, h2, hn => by
    obtain ⟨n, rfl⟩ : ∃ n', n = n' + 1 := ⟨n - 1, by omega⟩
    obtain ⟨n, rfl⟩ : ∃ n', n = n' + 1 := ⟨n - 1, by omega⟩
    have hp := pcmd_in (tx := tx) h0 h1
    obtain ⟨m2, u1, ⟨f1, f2⟩, u3, u4, u5⟩ := readsCommand_eq t h ⟨h0, h1⟩
    have t2 : TxM tx L m2 := ⟨by rw [f2 17 (by decide) (by decide)]; exact t.1, fun j j0 j1 => by rw [f1 154 (by decide) (by decide)]; exact t.2.1 j j0 j1, t.2.2⟩
    have stop : ∀ m5 : zM, qM_readsAll_l7 (n + 1) m5 0 = some (.inr (), m5) := fun m5 => by unfold qM_readsAll_l7; rw [if_pos rfl]
    unfold walk
    conv =>
      enter [1, e9, 1, m', 1]
      unfold qM_readsAll_l7
    rw [if_neg (show ¬ (1 : Int) = 0 by decide), u1, sBnd2]
    by_cases hok : (pcmd (nc tx L) s).1 = 1
    · have h3 := (hp.2.2 hok).1
      rw [if_pos hok, if_neg (by omega), reads_eq t2 u3 ⟨by omega, hp.1.2⟩]
      by_cases hl : (pcmd (nc tx L) s).2.1 < L
      · rw [if_pos hl]
        by_cases hs : nc tx L (pcmd (nc tx L) s).2.1 = 59
        · rw [if_pos hs, if_pos hs, sBnd2]
          obtain ⟨e9, m', v1, v2, v3, v4⟩ := readsAll_l k (n + 1) ((pcmd (nc tx L) s).2.1 + 1) (st m2 142 18 ((pcmd (nc tx L) s).2.1 + 1)) (t2.fr QFr.pos) st_at (by omega) (by omega) (by omega) (by omega)
          exact ⟨e9, m', v1, ⟨fun q q1 q2 => by rw [v2.1 q q1 q2, ← f1 q q1 q2]; exact funext fun j => st_k q1, fun j j1 j2 => by rw [v2.2 j j1 j2, st_i j1, f2 j j1 j2]⟩, v3, v4⟩
        · rw [if_neg hs, if_neg hs, sBnd2, stop]
          exact ⟨_, m2, rfl, ⟨f1, f2⟩, u3, Or.inr ⟨rfl, Or.inr ⟨rfl, by omega⟩⟩⟩
      · have he : nc tx L (pcmd (nc tx L) s).2.1 ≠ 59 := fun z => by
          have := nc_in (tx := tx) (L := L) (p := (pcmd (nc tx L) s).2.1) (by rw [z]; decide)
          omega
        rw [if_neg hl, if_neg he, sBnd2, stop]
        exact ⟨_, m2, rfl, ⟨f1, f2⟩, u3, Or.inl ⟨rfl, rfl⟩⟩
    · have hz : (pcmd (nc tx L) s).1 = 0 := hp.2.1.resolve_right hok
      rw [if_neg hok, if_pos hz]
      exact ⟨_, m2, rfl, ⟨f1, f2⟩, u3, Or.inr ⟨rfl, Or.inl rfl⟩⟩
theorem readsAll_eq {tx : Int → Int} {L : Int} {m : zM} (t : TxM tx L m) : ∃ m', qM_readsAll m = some ((walk (nc tx L) L 100 0).1, m') ∧ ((∀ q : Nat, q ≠ 142 → q ≠ 155 → m' q = m q) ∧ ∀ j, j ≠ 18 → j ≠ 22 → m' 142 j = m 142 j) ∧ m' 142 18 = (walk (nc tx L) L 100 0).2.1 := by
  have hL := t.2.2.1
  unfold qM_readsAll
  rw [sBind]
  obtain ⟨e9, m', u1, u2, u3, u4⟩ := readsAll_l 100 200 0 (st m 142 18 0) (t.fr QFr.pos) st_at (Int.le_refl _) hL.1 (by omega) (by decide)
  have fr : (∀ q : Nat, q ≠ 142 → q ≠ 155 → m' q = m q) ∧ ∀ j, j ≠ 18 → j ≠ 22 → m' 142 j = m 142 j := ⟨fun q q1 q2 => by rw [u2.1 q q1 q2]; exact funext fun j => st_k q1, fun j j1 j2 => by rw [u2.2 j j1 j2, st_i j1]⟩
  have h17 : m' 142 17 = L := by rw [fr.2 17 (by decide) (by decide)]; exact t.1
  have hw := walk_in (tx := tx) (L := L) 100 0 (Int.le_refl _) hL.1 (by omega)
  rw [u1]
  rcases u4 with ⟨y1, rfl⟩ | ⟨y1, rfl | ⟨rfl, y2⟩⟩
  · have he : (walk (nc tx L) L 100 0).2.1 = L := by
      rcases hw with z | z
      · omega
      · exact z.2.2.2
    rw [sBndS2r, h17, u3, if_pos he, y1]
    exact ⟨m', rfl, fr, u3⟩
  · rw [sBndS2l, y1]
    exact ⟨m', rfl, fr, u3⟩
  · rw [sBndS2r, h17, if_neg (by omega), y1]
    exact ⟨m', rfl, fr, u3⟩
