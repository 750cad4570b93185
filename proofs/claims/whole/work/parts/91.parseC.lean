/-! ===== B: the class reads a command ===== -/
def kd (c : Int) : Int := fi (fun e9 => formAt e9 0) c 8 0
def formL (k : Int) : List Int := formS.getD k.toNat []
theorem k8 {k : Int} (hk : 0 ≤ k ∧ k < 8) : k = 0 ∨ k = 1 ∨ k = 2 ∨ k = 3 ∨ k = 4 ∨ k = 5 ∨ k = 6 ∨ k = 7 := by omega
theorem form_facts {k : Int} (hk : 0 ≤ k ∧ k < 8) : formAt k 0 ≠ -1 ∧ 0 < formLen k ∧ (∀ c, c ∈ formL k → 0 ≤ c) ∧ formLen k = (formL k).length ∧ vcount (formL k) ≤ 4 ∧ (k = 7 → vcount (formL k) = 0) ∧ (formL k).length ≤ 20 := by
  rcases k8 hk with rfl | rfl | rfl | rfl | rfl | rfl | rfl | rfl <;> exact ⟨by decide, by decide, by decide, by decide, by decide, by decide, by decide⟩
theorem form_at {k : Int} (hk : 0 ≤ k ∧ k < 8) (j : Nat) : formAt k (0 + j) = (formL k).getD j 0 := by
  unfold formAt formL
  rw [show (0 + (j : Int)).toNat = j by omega]
theorem kd_spec (c : Int) : kd c = -1 ∨ ((0 ≤ kd c ∧ kd c < 8) ∧ formAt (kd c) 0 = c) := by
  have h := fi_spec (w := fun e9 => formAt e9 0) (v := c) 8 0 (Int.le_refl _)
  unfold kd
  rcases h with h | h
  · exact Or.inr ⟨⟨h.1, by omega⟩, h.2.2⟩
  · exact Or.inl h.1
theorem kind_l {tx : Int → Int} {L p : Int} {m : zM} (t : TxC tx L m) (hp : m 136 0 = p) : ∀ (kk n : Nat) (i : Int), i + kk = 8 → 0 ≤ i → kk < n → qR_chooseKind_l2 n m i = if fi (fun e9 => formAt e9 0) (nc tx L p) kk i = -1 then some (.inr (), m) else some (.inl 0, st m 136 1 (fi (fun e9 => formAt e9 0) (nc tx L p) kk i)) := by
  intro kk
  induction kk with
  | zero =>
    intro n i h1 h0 hn
    obtain ⟨n, rfl⟩ : ∃ n', n = n' + 1 := ⟨n - 1, by omega⟩
    unfold qR_chooseKind_l2 fi
    rw [if_neg (by omega), if_pos rfl]
  | succ kk ih =>
    intro n i h1 h0 hn
    obtain ⟨n, rfl⟩ : ∃ n', n = n' + 1 := ⟨n - 1, by omega⟩
    have c : 0 ≤ i ∧ i < 8 := by omega
    have hf := form_facts c
    unfold qR_chooseKind_l2 fi
    rw [if_pos c.2, if_pos c, if_pos c, if_pos ⟨c, by decide, hf.2.1⟩, hp, hasAt_eq t hf.1, sBind, wr_n (by omega) (by omega)]
    by_cases hw : nc tx L p = formAt i 0
    · rw [if_pos hw, if_neg (show ¬ (1 : Int) = 0 by decide), if_pos c, if_pos c, sBind, if_pos hw.symm, if_neg (show ¬ i = -1 by omega)]
    · rw [if_neg hw, if_pos rfl, if_neg (show ¬ formAt i 0 = nc tx L p from fun z => hw z.symm)]
      exact ih n (i + 1) (by omega) (by omega) (by omega)
theorem chooseKind_eq {tx : Int → Int} {L p k n : Int} {v : Int → Int} {m : zM} (t : TxC tx L m) (h : PsC m p k n v 1) : ∃ m', qR_chooseKind m = some m' ∧ PFr m m' ∧ ((kd (nc tx L p) = -1 ∧ PsC m' p k n v 0) ∨ (kd (nc tx L p) ≠ -1 ∧ PsC m' p (kd (nc tx L p)) n v 1)) := by
  unfold qR_chooseKind
  rw [kind_l t h.1 8 200 0 (by decide) (by decide) (by decide)]
  show ∃ m', bndS2 (if kd (nc tx L p) = -1 then some (.inr (), m) else some (.inl 0, st m 136 1 (kd (nc tx L p)))) _ _ = some m' ∧ _
  by_cases hk : kd (nc tx L p) = -1
  · rw [if_pos hk, sBndS2r, sBind]
    exact ⟨_, rfl, PFr.st, Or.inl ⟨hk, h.wrong⟩⟩
  · rw [if_neg hk, sBndS2l]
    exact ⟨_, rfl, PFr.st, Or.inr ⟨hk, ⟨by rw [st_i (by decide)]; exact h.1, st_at, by rw [st_i (by decide)]; exact h.2.2.1, by rw [st_i (by decide)]; exact h.2.2.2.1, fun i i0 i1 => by rw [st_k (by decide)]; exact h.2.2.2.2 i i0 i1⟩⟩⟩
def pmon (g : Int → Int) (k : Int) (r : Int × Int × Int × (Int → Int)) : Int × Int × Int × (Int → Int) :=
  if k = 7 ∧ r.1 = 1 then (if g r.2.1 = 32 then rd g [37] (r.2.1 + 1) r.2.2.1 r.2.2.2 else (1, r.2.1, r.2.2.1 + 1, ups r.2.2.2 r.2.2.1 1)) else r
/-- a command read from p on -/
def pcmd (g : Int → Int) (p : Int) : Int × Int × Int × (Int → Int) :=
  if kd (g p) = -1 then (0, p, 0, fun _ => 0) else pmon g (kd (g p)) (rd g (formL (kd (g p))) p 0 (fun _ => 0))
def vn (k : Int) : Int := if k = 7 then 1 else vcount (formL k)
theorem pcmd_in {tx : Int → Int} {L p : Int} (h0 : 0 ≤ p) (h1 : p ≤ L) : (p ≤ (pcmd (nc tx L) p).2.1 ∧ (pcmd (nc tx L) p).2.1 ≤ L) ∧ ((pcmd (nc tx L) p).1 = 0 ∨ (pcmd (nc tx L) p).1 = 1) ∧ ((pcmd (nc tx L) p).1 = 1 → p + 1 ≤ (pcmd (nc tx L) p).2.1 ∧ (0 ≤ kd (nc tx L p) ∧ kd (nc tx L p) < 8) ∧ (pcmd (nc tx L) p).2.2.1 = vn (kd (nc tx L p))) := by
  unfold pcmd
  by_cases hk : kd (nc tx L p) = -1
  · rw [if_pos hk]
    refine ⟨⟨Int.le_refl _, h1⟩, Or.inl rfl, fun z => ?_⟩
    have z9 : (0 : Int) = 1 := z
    omega
  rw [if_neg hk]
  have hk8 := ((kd_spec (nc tx L p)).resolve_left hk).1
  have hf := form_facts hk8
  have hin := rd_in (tx := tx) (L := L) (formL (kd (nc tx L p))) p 0 (fun _ => 0) hf.2.2.1 h0 h1
  generalize hr9 : rd (nc tx L) (formL (kd (nc tx L p))) p 0 (fun _ => 0) = r at hin
  have hlen : 1 ≤ ((formL (kd (nc tx L p))).length : Int) := by omega
  unfold pmon vn
  by_cases hm : kd (nc tx L p) = 7 ∧ r.1 = 1
  · have h5 := hin.2.2 hm.2
    have hv9 := hf.2.2.2.2.2.1 hm.1
    rw [if_pos hm, if_pos hm.1]
    by_cases hs : nc tx L r.2.1 = 32
    · rw [if_pos hs]
      have hp2 := nc_in (tx := tx) (L := L) (p := r.2.1) (by omega)
      have hi2 := rd_in (tx := tx) (L := L) [37] (r.2.1 + 1) r.2.2.1 r.2.2.2 (fun d hd => by rw [List.mem_singleton.mp hd]; decide) (by omega) (by omega)
      refine ⟨⟨by have := hi2.1.1; omega, hi2.1.2⟩, hi2.2.1, fun z => ?_⟩
      have h6 := hi2.2.2 z
      have h7 : vcount [37] = 1 := by decide
      exact ⟨by have := hi2.1.1; omega, hk8, by omega⟩
    · rw [if_neg hs]
      refine ⟨⟨?_, hin.1.2⟩, Or.inr rfl, fun _ => ⟨?_, hk8, ?_⟩⟩
      · show p ≤ r.2.1; omega
      · show p + 1 ≤ r.2.1; omega
      · show r.2.2.1 + 1 = 1; omega
  · rw [if_neg hm]
    refine ⟨hin.1, hin.2.1, fun z => ?_⟩
    have h5 := hin.2.2 z
    rw [if_neg (fun y => hm ⟨y, z⟩)]
    exact ⟨by omega, hk8, by omega⟩
/-- what the class's parser says once a command was read -/
def CmdC (tx : Int → Int) (L p : Int) (m : zM) : Prop := m 136 0 = (pcmd (nc tx L) p).2.1 ∧ m 136 4 = 1 - (pcmd (nc tx L) p).1 ∧ (0 ≤ m 136 1 ∧ m 136 1 < 8) ∧ ((pcmd (nc tx L) p).1 = 1 → m 136 1 = kd (nc tx L p) ∧ ∀ i, 0 ≤ i → i < vn (kd (nc tx L p)) → m 137 i = (pcmd (nc tx L) p).2.2.2 i)
theorem stop_l {m : zM} {k : Int} (hk : 0 ≤ k ∧ k < 8) (hw : m 136 4 ≠ 0) : qR_readCommand_l39 k 200 m 0 = some m := by
  unfold qR_readCommand_l39
  rw [if_pos hk, if_pos (form_facts hk).2.1, if_neg hw]
theorem readCommand_eq {tx : Int → Int} {L p : Int} {m : zM} (t : TxC tx L m) (hp : m 136 0 = p) (hw : m 136 4 = 0) (hk : 0 ≤ m 136 1 ∧ m 136 1 < 8) (hp0 : 0 ≤ p ∧ p ≤ L) : ∃ m', qR_readCommand_j11 m = some m' ∧ PFr m m' ∧ CmdC tx L p m' := by
  have hL := t.2.2.1
  have h0 : PsC m p (m 136 1) (m 136 3) (m 137) 1 := ⟨hp, rfl, rfl, by omega, fun _ _ _ => rfl⟩
  unfold qR_readCommand_j11
  rw [if_pos hw]
  obtain ⟨m1, u1, u2, u3⟩ := chooseKind_eq t h0
  rw [u1, sBind, sBind]
  generalize hm2 : st m1 136 3 0 = m2
  have f2 : PFr m m2 := by rw [← hm2]; exact u2.trans PFr.st
  have b : ∀ j, j ≠ 3 → m2 136 j = m1 136 j := fun j hj => by rw [← hm2, st_i hj]
  rcases u3 with ⟨x1, x2⟩ | ⟨x1, x2⟩
  · have k2 : m2 136 1 = m 136 1 := by rw [b 1 (by decide)]; exact x2.2.1
    have w2 : m2 136 4 = 1 := by rw [b 4 (by decide)]; exact x2.2.2.2.1
    have p2 : m2 136 0 = p := by rw [b 0 (by decide)]; exact x2.1
    rw [k2, if_pos hk, stop_l hk (by omega), sBind, k2, if_pos hk]
    have hc : pcmd (nc tx L) p = (0, p, 0, fun _ => 0) := by unfold pcmd; rw [if_pos x1]
    have res : CmdC tx L p m2 := by
      unfold CmdC
      rw [hc]
      refine ⟨p2, by rw [w2]; rfl, by rw [k2]; exact hk, fun z => ?_⟩
      have z9 : (0 : Int) = 1 := z
      omega
    by_cases h7 : m 136 1 = 7
    · rw [if_pos h7, if_neg (by omega)]; exact ⟨m2, rfl, f2, res⟩
    · rw [if_neg h7]; exact ⟨m2, rfl, f2, res⟩
  · have hk8 := ((kd_spec (nc tx L p)).resolve_left x1).1
    have hf := form_facts hk8
    have k2 : m2 136 1 = kd (nc tx L p) := by rw [b 1 (by decide)]; exact x2.2.1
    have h2 : PsC m2 p (kd (nc tx L p)) 0 (fun _ => 0) 1 := ⟨by rw [b 0 (by decide)]; exact x2.1, k2, by rw [← hm2, st_at], by rw [b 4 (by decide)]; exact x2.2.2.2.1, fun i i0 i1 => by omega⟩
    have hvn := vcount_nn (formL (kd (nc tx L p)))
    obtain ⟨m3, w1, w2, w3⟩ := form_l hk8 (formL (kd (nc tx L p))) 200 m2 p 0 0 (fun _ => 0) (t.fr f2) h2 hf.2.2.1 (Int.le_refl _) (by omega) (fun j _ => form_at hk8 j) (Int.le_refl _) (by omega) hp0 (by omega) (by decide)
    have hin := rd_in (tx := tx) (L := L) (formL (kd (nc tx L p))) p 0 (fun _ => 0) hf.2.2.1 hp0.1 hp0.2
    have hpc : pcmd (nc tx L) p = pmon (nc tx L) (kd (nc tx L p)) (rd (nc tx L) (formL (kd (nc tx L p))) p 0 (fun _ => 0)) := by unfold pcmd; rw [if_neg x1]
    have hpi := pcmd_in (tx := tx) hp0.1 hp0.2
    rw [k2, if_pos hk8, w1, sBind, w2.2.1, if_pos hk8]
    unfold CmdC
    rw [hpc] at hpi ⊢
    generalize hr9 : rd (nc tx L) (formL (kd (nc tx L p))) p 0 (fun _ => 0) = r at w2 hin hpi ⊢
    have f3 : PFr m m3 := f2.trans w3
    have hpm : ¬ (kd (nc tx L p) = 7 ∧ r.1 = 1) → pmon (nc tx L) (kd (nc tx L p)) r = r := fun z => by unfold pmon; rw [if_neg z]
    have plain : pmon (nc tx L) (kd (nc tx L p)) r = r → ∃ m', some m3 = some m' ∧ PFr m m' ∧ (m' 136 0 = (pmon (nc tx L) (kd (nc tx L p)) r).2.1 ∧ m' 136 4 = 1 - (pmon (nc tx L) (kd (nc tx L p)) r).1 ∧ (0 ≤ m' 136 1 ∧ m' 136 1 < 8) ∧ ((pmon (nc tx L) (kd (nc tx L p)) r).1 = 1 → m' 136 1 = kd (nc tx L p) ∧ ∀ i, 0 ≤ i → i < vn (kd (nc tx L p)) → m' 137 i = (pmon (nc tx L) (kd (nc tx L p)) r).2.2.2 i)) := fun z => by
      rw [z] at hpi ⊢
      exact ⟨m3, rfl, f3, w2.1, w2.2.2.2.1, by rw [w2.2.1]; exact hk8, fun y => ⟨w2.2.1, fun i i0 i1 => w2.2.2.2.2 i i0 (by rw [(hpi.2.2 y).2.2]; exact i1)⟩⟩
    by_cases h7 : kd (nc tx L p) = 7
    · rw [if_pos h7]
      by_cases hok : r.1 = 1
      · have w0 : m3 136 4 = 0 := by have := w2.2.2.2.1; omega
        rw [if_pos w0]
        have h5 := hin.2.2 hok
        have hv0 := hf.2.2.2.2.2.1 h7
        have hpm2 : pmon (nc tx L) (kd (nc tx L p)) r = if nc tx L r.2.1 = 32 then rd (nc tx L) [37] (r.2.1 + 1) r.2.2.1 r.2.2.2 else (1, r.2.1, r.2.2.1 + 1, ups r.2.2.2 r.2.2.1 1) := by unfold pmon; rw [if_pos ⟨h7, hok⟩]
        rw [hok] at w2
        unfold qR_readMonths
        rw [w2.1, hasAt_eq (t.fr f3) (by decide), sBind]
        by_cases hs : nc tx L r.2.1 = 32
        · have hp2 := nc_in (tx := tx) (L := L) (p := r.2.1) (by omega)
          rw [if_pos hs] at hpm2
          rw [if_pos hs, if_neg (show ¬ (1 : Int) = 0 by decide), wr_n (by omega) (by omega), sBind]
          have hv37 : vcount [37] = 1 := by decide
          obtain ⟨m5, y1, y2, y3⟩ := readPart_eq (c := 37) (t.fr (f3.trans PFr.st)) (w2.move (p' := r.2.1 + 1)) (by decide) (by omega) (by omega) ⟨by omega, by omega⟩
          have hrp : qR_readPart (st m3 136 0 (r.2.1 + 1)) 37 = Option.bind (qR_readNumber (st m3 136 0 (r.2.1 + 1))) fun m2 => some m2 := rfl
          rw [hrp] at y1
          rw [hpm2] at hpi ⊢
          cases hq : qR_readNumber (st m3 136 0 (r.2.1 + 1)) with
          | none => rw [hq] at y1; exact absurd y1 (by intro z; cases z)
          | some m6 =>
            rw [hq, sBind] at y1
            rw [sBind, sBind, y1]
            exact ⟨m5, rfl, f3.trans (PFr.st.trans y3), y2.1, y2.2.2.2.1, by rw [y2.2.1]; exact hk8, fun z => ⟨y2.2.1, fun i i0 i1 => y2.2.2.2.2 i i0 (by rw [(hpi.2.2 z).2.2]; exact i1)⟩⟩
        · rw [if_neg hs] at hpm2
          rw [if_neg hs, if_pos rfl]
          obtain ⟨m5, y1, y2, y3⟩ := keepValue_eq (x := 1) w2 ⟨by omega, by omega⟩
          rw [y1, sBind, sBind, hpm2]
          rw [hpm2] at hpi
          exact ⟨m5, rfl, f3.trans y3, y2.1, y2.2.2.2.1, by rw [y2.2.1]; exact hk8, fun z => ⟨y2.2.1, fun i i0 i1 => y2.2.2.2.2 i i0 (by have := (hpi.2.2 z).2.2; show i < r.2.2.1 + 1; rw [show r.2.2.1 + 1 = vn (kd (nc tx L p)) from this]; exact i1)⟩⟩
      · have w0 : ¬ m3 136 4 = 0 := by have := w2.2.2.2.1; have := hin.2.1; omega
        rw [if_neg w0]
        exact plain (hpm (fun z => hok z.2))
    · rw [if_neg h7]
      exact plain (hpm (fun z => h7 z.1))
