/-! ===== B: a program carried out, on both sides ===== -/
theorem stb_any {N : Int} {V : zM} (w : WF N V) : ∃ p, Stb V p := by
  refine stb_ex (μ := fun q j => V (q - 1) j) w (HEq6.of_hv ?_)
  funext k j
  show V (1 + k - 1) j = V k j
  rw [Nat.add_sub_cancel_left]
def Nx (g : Int → Int) (s : Int) (V V1 : zM) : Prop := Next V (kd (g s)) ((pcmd g s).2.2.2 0) ((pcmd g s).2.2.2 1) ((pcmd g s).2.2.2 2) ((pcmd g s).2.2.2 3) V1
/-- of the n commands from s on, j are carried out and lead from V to V' -/
def Ex (g : Int → Int) : Nat → Int → zM → Nat → zM → Prop
  | 0, _, V, j, V' => j = 0 ∧ V' = V
  | n+1, s, V, j, V' => (∃ V1 j1, Nx g s V V1 ∧ Ex g n ((pcmd g s).2.1 + 1) V1 j1 V' ∧ j = j1 + 1) ∨ ((¬ ∃ V1, Nx g s V V1) ∧ j = 0 ∧ V' = V)
def RFr (m m' : zM) : Prop := ∀ q : Nat, (q < 1 ∨ 11 ≤ q) → (q < 113 ∨ 138 ≤ q) → m' q = m q
theorem execC_l {tx : Int → Int} {L c : Int} : ∀ (n nn : Nat) (N : Int) (m V : zM) (s i : Int), N + 20000 * n ≤ 1000000000 → WF N V → HEq6 (hv m 1) V → TxC tx L m → AtC tx L s i m → 0 ≤ s → s ≤ L → Prog (nc tx L) L n s → 0 ≤ i → i ≤ 1000 → c = i + n → c ≤ 1000 → n < nn →
    ∃ (j : Nat) (V' m' : zM), qT_run_l66 c nn m i = some (i + j, m') ∧ j ≤ n ∧ Ex (nc tx L) n s V j V' ∧ HEq6 (hv m' 1) V' ∧ WF (N + 20000 * n) V' ∧ RFr m m' ∧ (0 ≤ m' 136 1 ∧ m' 136 1 < 8)
  | 0, _, _, _, _, _, _, _, _, _, _, _, _, _, hP, _, _, _, _, _ => absurd hP id
  | n+1, nn, N, m, V, s, i, hN, w, e, t, at9, h0, h1, hP, i0, i1, hc, hc9, hnn => by
    obtain ⟨nn, rfl⟩ : ∃ n', nn = n' + 1 := ⟨nn - 1, by omega⟩
    have hp := pcmd_in (tx := tx) h0 h1
    obtain ⟨hok, hnext⟩ := hP
    have hp2 := hp.2.2 hok
    obtain ⟨m1, u1, u2, u3, u4, u5, u6⟩ := readC_eq t at9 ⟨h0, h1⟩
    obtain ⟨k1, k2⟩ := u6 hok
    have e1 : HEq6 (hv m1 1) V := HEq6.trans (HEq6.of_same fun q q1 q2 => u2 q (by omega) (by omega)) e
    obtain ⟨⟨r, r1, r2, r3⟩, dc⟩ := stepC (by omega) w e1 u5
    have iff : ∀ V1, Next V (m1 136 1) (m1 137 0) (m1 137 1) (m1 137 2) (m1 137 3) V1 ↔ Nx (nc tx L) s V V1 := fun V1 => by
      unfold Nx
      rw [k1]
      exact ⟨fun z => next_congr hp2.2.1 (fun i i0 i1 => k2 i i0 i1) z, fun z => next_congr hp2.2.1 (fun i i0 i1 => (k2 i i0 i1).symm) z⟩
    unfold qT_run_l66
    rw [if_pos (by omega)]
    unfold qT_isNextAllowed
    rw [u1, sBind, r1, sBind, if_pos r2]
    by_cases hr9 : r = 0
    · obtain ⟨V1, hV1⟩ := r3.mp hr9
      obtain ⟨m2, x1, x2, x3⟩ := dc V1 hV1
      rw [if_pos hr9, sBnd2, if_neg (show ¬ (1 : Int) = 0 by decide), x1, sBind, wr_n (by omega) (by omega)]
      have fr2 : RFr m m2 := fun q q1 q2 => by rw [x3 q q1 (by omega), u2 q (by omega) (by omega)]
      have w1 := next_wf w hV1
      have t2 : TxC tx L m2 := ⟨by rw [fr2 138 (by decide) (by decide)]; exact t.1, fun j j0 j1 => by rw [fr2 139 (by decide) (by decide)]; exact t.2.1 j j0 j1, t.2.2⟩
      have k136 : m2 136 = m1 136 := x3 136 (by decide) (by decide)
      rcases hnext with ⟨hn0, he⟩ | ⟨hn0, hs, hP2⟩
      · obtain ⟨nn, rfl⟩ : ∃ n', nn = n' + 1 := ⟨nn - 1, by omega⟩
        unfold qT_run_l66
        rw [if_neg (by omega)]
        refine ⟨1, V1, m2, rfl, by omega, Or.inl ⟨V1, 0, (iff V1).mp hV1, ?_, rfl⟩, x2, w1.mono (by omega), fr2, by rw [k136]; exact u5⟩
        rw [hn0]
        exact ⟨rfl, rfl⟩
      · have hin := nc_in (tx := tx) (L := L) (p := (pcmd (nc tx L) s).2.1) (by rw [hs]; decide)
        obtain ⟨j, V', m', y1, y2, y3, y4, y5, y6, y7⟩ := execC_l n nn (N + 20000) m2 V1 ((pcmd (nc tx L) s).2.1 + 1) (i + 1) (by omega) w1 x2 t2 ⟨by rw [k136, u4, hok]; rfl, by rw [k136]; exact u5, Or.inr ⟨by omega, by rw [k136, u3]; omega, by rw [show (pcmd (nc tx L) s).2.1 + 1 - 1 = (pcmd (nc tx L) s).2.1 by omega]; exact hs⟩⟩ (by omega) (by omega) hP2 (by omega) (by omega) (by omega) hc9 (by omega)
        refine ⟨j + 1, V', m', by rw [y1, show i + 1 + (j : Int) = i + ((j + 1 : Nat) : Int) by omega], by omega, Or.inl ⟨V1, j, (iff V1).mp hV1, y3, rfl⟩, y4, y5.mono (by omega), fun q q1 q2 => by rw [y6 q q1 q2, fr2 q q1 q2], y7⟩
    · rw [if_neg hr9, sBnd2, if_pos rfl]
      refine ⟨0, V, m1, by rw [show i + ((0 : Nat) : Int) = i by omega], by omega, Or.inr ⟨fun ⟨V1, z⟩ => hr9 (r3.mpr ⟨V1, (iff V1).mpr z⟩), rfl, rfl⟩, e1, w.mono (by omega), fun q q1 q2 => u2 q (by omega) (by omega), u5⟩
def EFr (m m' : zM) : Prop := (∀ q : Nat, q ≠ 142 → q ≠ 143 → q ≠ 148 → q ≠ 149 → q ≠ 155 → m' q = m q) ∧ ∀ j, j ≠ 18 → j ≠ 22 → j ≠ 23 → m' 142 j = m 142 j
theorem execM_l {tx : Int → Int} {L : Int} : ∀ (n nn : Nat) (N : Int) (m V V' : zM) (j : Nat) (s : Int), N + 20000 * n ≤ 1000000000 → WF N V → RowIs (m 143) V → TxM tx L m → m 142 18 = s → 0 ≤ s → s ≤ L → Prog (nc tx L) L n s → Ex (nc tx L) n s V j V' → 0 ≤ m 142 23 → m 142 23 + n ≤ 1000 → n + 1 < nn →
    ∃ e9 m', qM_doesAll_l12 nn m 1 = some (e9, m') ∧ ((j = n ∧ e9 = .inr ()) ∨ (j < n ∧ e9 = .inl 0)) ∧ m' 142 23 = m 142 23 + j ∧ RowIs (m' 143) V' ∧ EFr m m'
  | 0, _, _, _, _, _, _, _, _, _, _, _, _, _, _, hP, _, _, _, _ => absurd hP id
  | n+1, nn, N, m, V, V', j, s, hN, w, r, t, hs9, h0, h1, hP, hE, d0, d1, hnn => by
    obtain ⟨nn, rfl⟩ : ∃ n', nn = n' + 1 := ⟨nn - 1, by omega⟩
    obtain ⟨nn, rfl⟩ : ∃ n', nn = n' + 1 := ⟨nn - 1, by omega⟩
    have hp := pcmd_in (tx := tx) h0 h1
    obtain ⟨hok, hnext⟩ := hP
    have hp2 := hp.2.2 hok
    have hkd := (kd_spec (nc tx L s)).resolve_left (by omega)
    obtain ⟨m1, u1, ⟨f1, f2⟩, u3, u4, u5⟩ := readsCommand_eq t hs9 ⟨h0, h1⟩
    have v1 := u5 hok
    have t1 : TxM tx L m1 := ⟨by rw [f2 17 (by decide) (by decide)]; exact t.1, fun j j0 j1 => by rw [f1 154 (by decide) (by decide)]; exact t.2.1 j j0 j1, t.2.2⟩
    have r1 : RowIs (m1 143) V := by rw [f1 143 (by decide) (by decide)]; exact r
    obtain ⟨⟨x, x1, x2⟩, dm⟩ := stepM (k := kd (nc tx L s)) (by omega) w r1 hkd.1 (by rw [u4, hkd.2]) (stb_any w)
    have iff : ∀ V1, Next V (kd (nc tx L s)) (m1 155 0) (m1 155 1) (m1 155 2) (m1 155 3) V1 ↔ Nx (nc tx L) s V V1 := fun V1 => by
      unfold Nx
      exact ⟨fun z => next_congr hp2.2.1 (fun i i0 i1 => v1 i i0 i1) z, fun z => next_congr hp2.2.1 (fun i i0 i1 => (v1 i i0 i1).symm) z⟩
    have k23 : m1 142 23 = m 142 23 := f2 23 (by decide) (by decide)
    have stop : ∀ m5 : zM, qM_doesAll_l12 (nn + 1) m5 0 = some (.inr (), m5) := fun m5 => by unfold qM_doesAll_l12; rw [if_pos rfl]
    conv =>
      enter [1, e9, 1, m', 1]
      unfold qM_doesAll_l12
    rw [if_neg (show ¬ (1 : Int) = 0 by decide), u1, sBnd2, x1, sBind]
    rcases hE with ⟨V1, j1, hV1, hE1, hj⟩ | ⟨hno, hj, hVV⟩
    · have hx : x = 0 := x2.mpr ⟨V1, (iff V1).mpr hV1⟩
      obtain ⟨y, m2, y1, y2, y3⟩ := dm V1 ((iff V1).mpr hV1)
      have k142 : m2 142 = m1 142 := y3 142 (by decide) (by decide) (by decide)
      rw [if_pos hx, y1, sBnd2, sBind, k142, k23, wr_n (by omega) (by omega)]
      generalize hm3 : st m2 142 23 (m 142 23 + 1) = m3
      have q3 : ∀ q : Nat, q ≠ 142 → m3 q = m2 q := fun q hq => by rw [← hm3]; exact funext fun j => st_k hq
      have c3 : ∀ j, j ≠ 23 → m3 142 j = m1 142 j := fun j hj => by rw [← hm3, st_i hj, k142]
      have d3 : m3 142 23 = m 142 23 + 1 := by rw [← hm3, st_at]
      have t3 : TxM tx L m3 := ⟨by rw [c3 17 (by decide)]; exact t1.1, fun j j0 j1 => by rw [q3 154 (by decide), y3 154 (by decide) (by decide) (by decide)]; exact t1.2.1 j j0 j1, t.2.2⟩
      have fr3 : EFr m m3 := ⟨fun q q1 q2 q3' q4 q5 => by rw [q3 q q1, y3 q q2 q3' q4, f1 q q1 q5], fun j j1 j2 j3 => by rw [c3 j j3, f2 j j1 j2]⟩
      have row3 : RowIs (m3 143) V1 := by rw [q3 143 (by decide)]; exact y2
      have w1 := next_wf w ((iff V1).mpr hV1)
      rw [reads_eq (c := 59) t3 (by rw [c3 18 (by decide)]; exact u3) ⟨by omega, hp.1.2⟩]
      rcases hnext with ⟨hn0, he⟩ | ⟨hn0, hs, hP2⟩
      · have hne : nc tx L (pcmd (nc tx L) s).2.1 ≠ 59 := fun z => by
          have := nc_in (tx := tx) (L := L) (p := (pcmd (nc tx L) s).2.1) (by rw [z]; decide)
          omega
        rw [hn0] at hE1
        obtain ⟨z1, z2⟩ := hE1
        rw [if_neg hne, sBnd2, stop]
        exact ⟨_, m3, rfl, Or.inl ⟨by omega, rfl⟩, by rw [d3, hj, z1]; rfl, by rw [z2]; exact row3, fr3⟩
      · have hin := nc_in (tx := tx) (L := L) (p := (pcmd (nc tx L) s).2.1) (by rw [hs]; decide)
        rw [if_pos hs, sBnd2]
        obtain ⟨e9, m', a1, a2, a3, a4, a5⟩ := execM_l n (nn + 1) (N + 20000) (st m3 142 18 ((pcmd (nc tx L) s).2.1 + 1)) V1 V' j1 ((pcmd (nc tx L) s).2.1 + 1) (by omega) w1 (by rw [show (st m3 142 18 ((pcmd (nc tx L) s).2.1 + 1)) 143 = m3 143 from funext fun j => st_k (by decide)]; exact row3) (t3.fr QFr.pos) st_at (by omega) (by omega) hP2 hE1 (by rw [st_i (by decide), d3]; omega) (by rw [st_i (by decide), d3]; omega) (by omega)
        rw [st_i (by decide), d3] at a3
        refine ⟨e9, m', a1, ?_, by omega, a4, ⟨fun q q1 q2 q3' q4 q5 => ?_, fun j j1 j2 j3 => ?_⟩⟩
        · rcases a2 with ⟨b1, b2⟩ | ⟨b1, b2⟩
          · exact Or.inl ⟨by omega, b2⟩
          · exact Or.inr ⟨by omega, b2⟩
        · rw [a5.1 q q1 q2 q3' q4 q5, ← fr3.1 q q1 q2 q3' q4 q5]; exact funext fun j => st_k q1
        · rw [a5.2 j j1 j2 j3, st_i j1, fr3.2 j j1 j2 j3]
    · have hx : ¬ x = 0 := fun z => by
        obtain ⟨V1, z1⟩ := x2.mp z
        exact hno ⟨V1, (iff V1).mp z1⟩
      rw [if_neg hx]
      exact ⟨_, m1, rfl, Or.inr ⟨by omega, rfl⟩, by rw [k23, hj]; show m 142 23 = m 142 23 + ((0 : Nat) : Int); omega, by rw [hVV]; exact r1, ⟨fun q q1 _ _ _ q5 => f1 q q1 q5, fun j j1 j2 _ => f2 j j1 j2⟩⟩
theorem walk_ge {tx : Int → Int} {L : Int} : ∀ (k : Nat) (s : Int), 0 ≤ s → s ≤ L → s ≤ (walk (nc tx L) L k s).2.1
  | 0, s, _, _ => Int.le_refl _
  | k+1, s, h0, h1 => by
    have hp := pcmd_in (tx := tx) h0 h1
    unfold walk
    by_cases hok : (pcmd (nc tx L) s).1 = 1
    · rw [if_pos hok]
      by_cases hl : (pcmd (nc tx L) s).2.1 < L
      · rw [if_pos hl]
        by_cases hs : nc tx L (pcmd (nc tx L) s).2.1 = 59
        · rw [if_pos hs]
          have ih := walk_ge (tx := tx) (L := L) k ((pcmd (nc tx L) s).2.1 + 1) (by omega) (by omega)
          show s ≤ (walk (nc tx L) L k ((pcmd (nc tx L) s).2.1 + 1)).2.1
          omega
        · rw [if_neg hs]; exact hp.1.1
      · rw [if_neg hl]; exact hp.1.1
    · rw [if_neg hok]; exact hp.1.1
theorem push11_eq {μ : zM} (hC : 0 ≤ μ 31 1 ∧ μ 31 1 < 8) (hK : 0 ≤ μ 31 2 ∧ μ 31 2 ≤ 8) : ∃ m, qY_push μ 11 = some m ∧ m 31 1 = (if μ 31 2 < 8 then μ 31 1 else (μ 31 1 + 1) % 8) ∧ m 31 2 = (if μ 31 2 < 8 then μ 31 2 + 1 else μ 31 2) ∧
    HEq6 (hv m (33 + 10 * ((μ 31 1 + μ 31 2) % 8).toNat)) (hv μ 11) ∧ ∀ q : Nat, q ≠ 31 → (q < 33 + 10 * ((μ 31 1 + μ 31 2) % 8).toNat ∨ 43 + 10 * ((μ 31 1 + μ 31 2) % 8).toNat ≤ q) → m q = μ q := by
  unfold qY_push
  rw [wr_n (by omega) (by omega), tmod8 (by omega), if_pos ⟨by omega, by omega⟩]
  generalize hs : 33 + 10 * ((μ 31 1 + μ 31 2) % 8).toNat = s
  obtain ⟨m1, e1, e2, e3⟩ := copyFrom_eq (μ := μ) (h := s) (v := 11) (Or.inr (by omega))
  have f31 : m1 31 = μ 31 := e3 31 (Or.inl (by omega))
  rw [e1, sBind, f31]
  by_cases hk : μ 31 2 < 8
  · rw [if_pos hk, if_pos hk, if_pos hk, sBind, wr_n (by omega) (by omega)]
    refine ⟨_, rfl, by rw [st_i (by decide), f31], st_at, HEq6.trans (HEq6.of_same fun q h1 h2 => funext fun j => st_k (by omega)) e2, fun q h1 h2 => ?_⟩
    rw [← e3 q (by omega)]
    exact funext fun j => st_k h1
  · rw [if_neg hk, if_neg hk, if_neg hk, sBind, wr_n (by omega) (by omega), tmod8 (by omega)]
    refine ⟨_, rfl, st_at, by rw [st_i (by decide), f31], HEq6.trans (HEq6.of_same fun q h1 h2 => funext fun j => st_k (by omega)) e2, fun q h1 h2 => ?_⟩
    rw [← e3 q (by omega)]
    exact funext fun j => st_k h1
theorem keeps_eq {μ : zM} (hF : 0 ≤ μ 142 7 ∧ μ 142 7 < 8) (hK : 0 ≤ μ 142 6 ∧ μ 142 6 ≤ 8) : ∃ m, qM_keeps μ = some m ∧ m 142 7 = (if μ 142 6 < 8 then μ 142 7 else (μ 142 7 + 1) % 8) ∧ m 142 6 = (if μ 142 6 < 8 then μ 142 6 + 1 else μ 142 6) ∧
    (∀ j, j ≠ 6 → j ≠ 7 → m 142 j = μ 142 j) ∧ (∀ i, 0 ≤ i → i < 62 → m 144 (62 * ((μ 142 7 + μ 142 6) % 8) + i) = μ 146 i) ∧ (∀ j, (j < 62 * ((μ 142 7 + μ 142 6) % 8) ∨ 62 * ((μ 142 7 + μ 142 6) % 8) + 62 ≤ j) → m 144 j = μ 144 j) ∧
    ∀ q : Nat, q ≠ 142 → q ≠ 144 → m q = μ q := by
  unfold qM_keeps
  by_cases hk : μ 142 6 = 8
  · rw [if_pos hk, sBind, wr_n (by omega) (by omega), tmod8 (by omega), st_i (by decide), sBind, wr_n (by omega) (by omega)]
    generalize hm2 : st (st μ 142 7 ((μ 142 7 + 1) % 8)) 142 6 (μ 142 6 - 1) = m2
    have g7 : m2 142 7 = (μ 142 7 + 1) % 8 := by rw [← hm2, st_i (by decide), st_at]
    have g6 : m2 142 6 = 7 := by rw [← hm2, st_at]; omega
    have gj : ∀ j, j ≠ 6 → j ≠ 7 → m2 142 j = μ 142 j := fun j h6 h7 => by rw [← hm2, st_i h6, st_i h7]
    have gq : ∀ q : Nat, q ≠ 142 → m2 q = μ q := fun q hq => by rw [← hm2]; exact funext fun j => by rw [st_k hq, st_k hq]
    have hs : (m2 142 7 + m2 142 6) % 8 = (μ 142 7 + μ 142 6) % 8 := by rw [g7, g6]; omega
    rw [keeps_j (μ := m2) (by omega) (by omega), hs, g6]
    refine ⟨_, rfl, by rw [st_i (by decide), cpyR_k (by decide), g7, if_neg (by omega)], by rw [st_at, if_neg (by omega), hk]; rfl, fun j h6 h7 => by rw [st_i h6, cpyR_k (by decide), gj j h6 h7], fun i h0 h1 => ?_, fun j hj => ?_, fun q h1 h2 => ?_⟩
    · rw [st_k (by decide)]
      unfold cpyR
      rw [if_pos rfl, if_pos (by omega), gq 146 (by decide), show 62 * ((μ 142 7 + μ 142 6) % 8) + i - 62 * ((μ 142 7 + μ 142 6) % 8) = i by omega]
    · rw [st_k (by decide)]
      unfold cpyR
      rw [if_pos rfl, if_neg (by omega), gq 144 (by decide)]
    · rw [← gq q h1]
      exact funext fun j => by rw [st_k h1, cpyR_k h2]
  · rw [if_neg hk, keeps_j (μ := μ) (by omega) (by omega)]
    refine ⟨_, rfl, by rw [st_i (by decide), cpyR_k (by decide), if_pos (by omega)], by rw [st_at, if_pos (by omega)], fun j h6 h7 => by rw [st_i h6, cpyR_k (by decide)], fun i h0 h1 => ?_, fun j hj => ?_, fun q h1 h2 => ?_⟩
    · rw [st_k (by decide)]
      unfold cpyR
      rw [if_pos rfl, if_pos (by omega), show 62 * ((μ 142 7 + μ 142 6) % 8) + i - 62 * ((μ 142 7 + μ 142 6) % 8) = i by omega]
    · rw [st_k (by decide)]
      unfold cpyR
      rw [if_pos rfl, if_neg (by omega)]
    · exact funext fun j => by rw [st_k h1, cpyR_k h2]
theorem goes_l {μ : zM} : ∀ (k n : Nat) (i : Int), i + k = 62 → 0 ≤ i → k < n → qM_goesBack_l2 n (cpy μ 146 143 i) i = some (cpy μ 146 143 62) := by
  intro k
  induction k with
  | zero =>
    intro n i h h0 hn
    obtain ⟨n, rfl⟩ : ∃ n', n = n' + 1 := ⟨n - 1, by omega⟩
    unfold qM_goesBack_l2
    rw [if_neg (by omega), show i = 62 by omega]
  | succ k ih =>
    intro n i h h0 hn
    obtain ⟨n, rfl⟩ : ∃ n', n = n' + 1 := ⟨n - 1, by omega⟩
    unfold qM_goesBack_l2
    rw [if_pos (by omega), if_pos (by omega), if_pos (by omega), sBind, st_cpy (by decide) h0, wr_n (by omega) (by omega)]
    exact ih n (i + 1) (by omega) (by omega) (by omega)
theorem goesBack_eq {μ : zM} : qM_goesBack μ = some (cpy μ 146 143 62) := by
  unfold qM_goesBack
  have h := goes_l (μ := μ) 62 200 0 (by omega) (by omega) (by omega)
  rw [cpy_0] at h
  rw [h]; rfl
