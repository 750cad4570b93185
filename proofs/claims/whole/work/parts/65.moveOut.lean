/-! ===== B: moveOut ===== -/
theorem HEq6.of_hv {m V : zM} {h : Nat} (he : hv m h = V) : HEq6 (hv m h) V := by
  rw [he]
  exact ⟨⟨rfl, rfl, rfl, rfl, rfl, rfl, rfl, rfl⟩, fun _ _ _ _ _ _ => rfl⟩
theorem h6bd {V V' : zM} (e : HEq6 V V') {t f : Int} (ht : 0 ≤ t ∧ t < 6) (hf : 0 ≤ f ∧ f < 6) : bd V t f = bd V' t f := by
  unfold bd
  rw [e.2 1 (by decide) (by decide) f hf.1 hf.2, e.2 5 (by decide) (by decide) t ht.1 ht.2, e.2 2 (by decide) (by decide) f hf.1 hf.2]
theorem h6pf {V V' : zM} (e : HEq6 V V') {t f g : Int} (ht : 0 ≤ t ∧ t < 6) (hf : 0 ≤ f ∧ f < 6) (hg : 0 ≤ g ∧ g < 6) : pf V t f g ↔ pf V' t f g := by
  unfold pf
  rw [h6bd e ht hf, h6bd e ht hg]
theorem h6pr {V V' : zM} (e : HEq6 V V') {t u : Int} (ht : 0 ≤ t ∧ t < 6) (hu : 0 ≤ u ∧ u < 6) : pr V t u ↔ pr V' t u := by
  unfold pr
  rw [e.2 4 (by decide) (by decide) t ht.1 ht.2, e.2 4 (by decide) (by decide) u hu.1 hu.2]
theorem h6wants {N : Int} {V V' : zM} (e : HEq6 V V') (w : WF N V) {f x t : Int} (ht : 0 ≤ t ∧ t < V 0 3) (hf : 0 ≤ f ∧ f < 6) : wants V f x t ↔ wants V' f x t := by
  have t6 := w.t6
  have n6 := w.n6
  have hm := (w.tn t ht.1 ht.2).2.2.2.2.2
  unfold wants
  rw [← e.2 7 (by decide) (by decide) t ht.1 (by omega), ← e.2 2 (by decide) (by decide) f hf.1 hf.2, ← e.2 9 (by decide) (by decide) t ht.1 (by omega)]
  by_cases h9 : V 9 t = -1
  · constructor
    · exact fun z => ⟨z.1, z.2.1, Or.inl h9⟩
    · exact fun z => ⟨z.1, z.2.1, Or.inl h9⟩
  · rw [h6pf e (t := t) (f := f) (g := V 9 t) ⟨ht.1, by omega⟩ hf ⟨by omega, by omega⟩]
theorem h6cd {N : Int} {V V' : zM} (e : HEq6 V V') (w : WF N V) {f x : Int} (hf : 0 ≤ f ∧ f < 6) : ∀ (k : Nat) (b i : Int), i + k = V 0 3 → 0 ≤ i → -1 ≤ b → b < i → cd V f x k b i = cd V' f x k b i
  | 0, _, _, _, _, _, _ => rfl
  | k+1, b, i, h1, h2, h3, h4 => by
    have t6 := w.t6
    unfold cd
    have hw := h6wants e w (f := f) (x := x) (t := i) ⟨h2, by omega⟩ hf
    by_cases h : wants V f x i
    · rw [if_pos h, if_pos (hw.mp h)]
      have hc : (b = -1 ∨ pr V i b) ↔ (b = -1 ∨ pr V' i b) := by
        by_cases hb : b = -1
        · exact ⟨fun _ => Or.inl hb, fun _ => Or.inl hb⟩
        · rw [h6pr e (t := i) (u := b) ⟨h2, by omega⟩ ⟨by omega, by omega⟩]
      by_cases h2 : b = -1 ∨ pr V i b
      · rw [if_pos h2, if_pos (hc.mp h2)]
        exact h6cd e w hf k i (i + 1) (by omega) (by omega) (by omega) (by omega)
      · rw [if_neg h2, if_neg (fun z => h2 (hc.mpr z))]
        exact h6cd e w hf k b (i + 1) (by omega) (by omega) (by omega) (by omega)
    · rw [if_neg h, if_neg (fun z => h (hw.mpr z))]
      exact h6cd e w hf k b (i + 1) (by omega) (by omega) (by omega) (by omega)
theorem h6cand {N : Int} {V V' : zM} (e : HEq6 V V') (w : WF N V) {f x : Int} (hf : 0 ≤ f ∧ f < 6) : cand V f x = cand V' f x := by
  have t0 := w.t0
  unfold cand
  rw [← e.1.2.1]
  exact h6cd e w hf _ _ _ (by omega) (by omega) (by omega) (by omega)
theorem h6chn {N : Int} {x : Int} : ∀ (k : Nat) {V V' : zM} {f n : Int}, WF N V → Free V f → HEq6 V V' → (chn x k V f n).2 = (chn x k V' f n).2 ∧ HEq6 (chn x k V f n).1 (chn x k V' f n).1
  | 0, _, _, _, _, _, _, e => ⟨rfl, e⟩
  | k+1, V, V', f, n, w, fr, e => by
    have t6 := w.t6
    have n6 := w.n6
    unfold chn
    by_cases hf : f = -1
    · rw [if_pos hf, if_pos hf]; exact ⟨rfl, e⟩
    rw [if_neg hf, if_neg hf]
    have h1 := fr.resolve_left hf
    rw [← h6cand e w (f := f) (x := x) ⟨h1.1.1, by omega⟩]
    by_cases hc : cand V f x = -1
    · rw [if_pos hc, if_pos hc]; exact ⟨rfl, e⟩
    rw [if_neg hc, if_neg hc]
    have hs := (cand_spec (V := V) (f := f) (x := x) w.t0).resolve_left hc
    rw [← e.2 9 (by decide) (by decide) (cand V f x) hs.1 (by omega)]
    exact h6chn k (home_wf w ⟨by omega, h1.1.2⟩ (fun j j0 j1 _ z => absurd z (h1.2 j j0 j1))) (free_step w fr hf ⟨hs.1, hs.2.1⟩) e.upd
theorem h6leave {N : Int} {V V' : zM} {x : Int} (e : HEq6 V V') (w : WF N V) (hx : 0 ≤ x ∧ x < V 0 3) : (vLeave V x).2 = (vLeave V' x).2 ∧ HEq6 (vLeave V x).1 (vLeave V' x).1 := by
  have t6 := w.t6
  have l := left_wf w hx
  unfold vLeave
  rw [← e.2 9 (by decide) (by decide) x hx.1 (by omega)]
  exact h6chn 36 l.1 l.2 e.upd.upd
theorem HEq6.symm {V V' : zM} (e : HEq6 V V') : HEq6 V' V := by
  obtain ⟨⟨a1, a2, a3, a4, a5, a6, a7, a8⟩, b⟩ := e
  exact ⟨⟨a1.symm, a2.symm, a3.symm, a4.symm, a5.symm, a6.symm, a7.symm, a8.symm⟩, fun k k1 k9 j j0 j6 => (b k k1 k9 j j0 j6).symm⟩
theorem notOut_eq {N : Int} {μ V : zM} {v : Int} (w : WF N V) (r : RowIs (μ 143) V) : qM_notOut μ v = some (if fi (V 3) v (V 0 3).toNat 0 = -1 then 1 else if V 9 (fi (V 3) v (V 0 3).toNat 0) = -1 then 2 else 0) := by
  have t0 := w.t0
  have t6 := w.t6
  have hs := fi_spec (w := V 3) (v := v) (V 0 3).toNat 0 (by omega)
  unfold qM_notOut
  rw [place_eq r t0 t6, sBind]
  generalize fi (V 3) v (V 0 3).toNat 0 = s at hs
  by_cases hf : s = -1
  · rw [if_pos (by omega), if_pos hf]
  · have s0 : 0 ≤ s ∧ s < V 0 3 := by omega
    have rm := (r.tn s s0.1 s0.2).2.2.2.2.2.2
    rw [if_neg (by omega), if_neg hf, of_eq (by omega) (by decide), sBind, show 20 + 7 * s + 6 = 26 + 7 * s by omega, rm]
    by_cases h9 : V 9 s = -1
    · rw [if_pos (by omega), if_pos h9]
    · rw [if_neg (by omega), if_neg h9]
theorem moveOut_ok {N : Int} {v : Int} : OpOk N N (fun μ => qL_moveOut μ v) (fun μ => qM_moveOut μ v) := by
  intro μ hI
  have hB := hI.1
  have w := hB.1
  have t0 : 0 ≤ μ 1 3 := w.t0
  have t6 : μ 1 3 ≤ 6 := w.t6
  have k9 : ∀ (m : zM) (x : Int), (st m 142 0 x) 143 = m 143 := fun m x => funext fun j => st_k (by decide)
  have hs := fi_spec (w := μ (1 + 3)) (v := v) (μ 1 3).toNat 0 (by omega)
  have hp : ∀ m : zM, m 143 = μ 143 → qM_place m v = some (fi (μ (1 + 3)) v (μ 1 3).toNat 0) := fun m hm => place_eq (V := hv μ 1) (by rw [hm]; exact hB.2) t0 t6
  have ho : ∀ m : zM, m 143 = μ 143 → qM_notOut m v = some (if fi (μ (1 + 3)) v (μ 1 3).toNat 0 = -1 then 1 else if μ (1 + 9) (fi (μ (1 + 3)) v (μ 1 3).toNat 0) = -1 then 2 else 0) := fun m hm => notOut_eq (V := hv μ 1) w (by rw [hm]; exact hB.2)
  have hq : ∀ m : zM, (∀ q : Nat, q < 31 → m q = μ q) → qH_slotOf m 1 v = some (fi (μ (1 + 3)) v (μ 1 3).toNat 0) := fun m hm => by
    rw [slotOf_eq (by rw [hm 1 (by omega)]; exact t0) (by rw [hm 1 (by omega)]; exact t6), hm 1 (by omega), hm (1 + 3) (by omega)]
  show ∃ a9 m1 x m2, qL_moveOut μ v = some (a9, m1) ∧ qM_moveOut m1 v = some (x, m2) ∧ m2 142 0 = a9 ∧ (a9 = 0 → m2 156 0 = x) ∧ Inv N m2
  unfold qL_moveOut qT_moveOut qH_refusalOfMovingOut
  rw [hq μ (fun q _ => rfl), sBind]
  generalize fi (μ (1 + 3)) v (μ 1 3).toNat 0 = s at hs hp hq ho
  by_cases hf : s = -1
  · rw [if_pos hf, sBind, refuseE (by decide), sTcr, sBndTr, if_pos (by decide)]
    refine ⟨1, μ, 0, st (st μ 142 0 0) 142 0 1, rfl, ?_, st_at, fun h => absurd h (by decide), thrown_inv (thrown_inv hI (Int.le_refl _)) (Int.le_refl _)⟩
    unfold qM_moveOut
    rw [sBind, ho _ (k9 _ _), if_pos hf, sBind, if_neg (by decide), fails_eq, sBnd2]
  have s0 : 0 ≤ s ∧ s < μ 1 3 := by omega
  rw [if_neg hf, if_pos (show 0 ≤ s ∧ s < 6 by omega)]
  by_cases hm1 : μ (1 + 9) s = -1
  · rw [if_pos hm1, sBind, refuseE (by decide), sTcr, sBndTr, if_neg (by decide), if_pos (by decide)]
    refine ⟨2, μ, 0, st (st μ 142 0 0) 142 0 2, rfl, ?_, st_at, fun h => absurd h (by decide), thrown_inv (thrown_inv hI (Int.le_refl _)) (Int.le_refl _)⟩
    unfold qM_moveOut
    rw [sBind, ho _ (k9 _ _), if_neg hf, if_pos hm1, sBind, if_neg (by decide), fails_eq, sBnd2]
  rw [if_neg hm1, sBind, refuse0, sTcl]
  obtain ⟨m1, m2, e1, g1, e2, k⟩ := change_both (N' := N) (μ := μ) (r := (vLeave (hv μ 1) s).2) (V' := (vLeave (hv μ 1) s).1) (fun m => Option.bind (qH_slotOf m 1 v) fun a4 => qH_leaveHome m 1 a4) (fun m => Option.bind (qM_place m v) fun a4 => qM_leaves m a4) hI (Int.le_refl _)
    (fun m1 g1 => by
      show ∃ m2, Option.bind (qH_slotOf m1 1 v) (fun a4 => qH_leaveHome m1 1 a4) = _ ∧ _
      rw [hq m1 g1, sBind]
      have e : HEq6 (hv m1 1) (hv μ 1) := HEq6.of_same fun q q1 q2 => g1 q (by omega)
      have l := h6leave e (x := s) (e.wf w) (by rw [e.1.2.1]; exact s0)
      obtain ⟨m, p1, p2, p3⟩ := leaveHome_eq (μ := m1) (h := 1) (x := s) (e.wf w) (by rw [g1 1 (by omega)]; exact s0)
      refine ⟨m, by rw [p1, l.1], fun q hq => p3 q (by omega) (by omega), ?_⟩
      rw [p2]
      exact l.2)
    (fun m5 l5 => by
      obtain ⟨m6, p1, p2, p3⟩ := leaves_eq (m := m5) (V := hv μ 1) (x := s) w (by rw [l5]; exact hB.2) s0
      refine ⟨m6, ?_, fun q q1 _ _ => p3 q q1, fun j _ => by rw [p3 142 (by decide)], p2⟩
      show Option.bind (qM_place m5 v) (fun a4 => qM_leaves m5 a4) = _
      rw [hp m5 l5, sBind, p1])
    (leave_wf w s0)
  have e2' : Option.bind (qH_slotOf m1 1 v) (fun a4 => qH_leaveHome m1 1 a4) = some ((vLeave (hv μ 1) s).2, m2) := e2
  rw [hq m1 g1, sBind] at e2'
  rw [e1, sBind, hq m1 g1, sBind, e2', sBnd2, sBndTl]
  obtain ⟨k143, k0, m5, m6, e5, l143, e6, z0, z1, z2⟩ := k _ rfl
  refine ⟨0, _, (vLeave (hv μ 1) s).2, m6, rfl, ?_, z0, fun _ => z1, z2⟩
  have e6' : Option.bind (qM_place m5 v) (fun a4 => qM_leaves m5 a4) = some ((vLeave (hv μ 1) s).2, m6) := e6
  rw [hp m5 l143, sBind] at e6'
  unfold qM_moveOut
  rw [sBind, ho _ k143, if_neg hf, if_neg hm1, sBind, if_pos rfl, e5, sBind, hp m5 l143, sBind, e6', sBnd2]
