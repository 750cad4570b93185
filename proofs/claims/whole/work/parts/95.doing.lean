/-! ===== B: a command carried out, on both sides ===== -/
section NXT
variable {V V' : zM} {a b c d : Int}
theorem next0 : Next V 0 a b c d V' ↔ (A0 V a b ∧ V' = vAddFlat V a b) := ⟨fun h => by rcases h with ⟨h0, h⟩ | ⟨h0, h⟩ | ⟨h0, h⟩ | ⟨h0, h⟩ | ⟨h0, h⟩ | ⟨h0, h⟩ | ⟨h0, h⟩ | ⟨h0, h⟩ <;> first | exact h | exact absurd h0 (by decide), fun h => Or.inl ⟨rfl, h⟩⟩
theorem next1 : Next V 1 a b c d V' ↔ (A1 V a b c d ∧ V' = vAddTenant V a b c d) := ⟨fun h => by rcases h with ⟨h0, h⟩ | ⟨h0, h⟩ | ⟨h0, h⟩ | ⟨h0, h⟩ | ⟨h0, h⟩ | ⟨h0, h⟩ | ⟨h0, h⟩ | ⟨h0, h⟩ <;> first | exact h | exact absurd h0 (by decide), fun h => Or.inr (Or.inl ⟨rfl, h⟩)⟩
theorem next2 : Next V 2 a b c d V' ↔ (A2 V a b ∧ V' = st V 9 (sl V a) b) := ⟨fun h => by rcases h with ⟨h0, h⟩ | ⟨h0, h⟩ | ⟨h0, h⟩ | ⟨h0, h⟩ | ⟨h0, h⟩ | ⟨h0, h⟩ | ⟨h0, h⟩ | ⟨h0, h⟩ <;> first | exact h | exact absurd h0 (by decide), fun h => Or.inr (Or.inr (Or.inl ⟨rfl, h⟩))⟩
theorem next3 : Next V 3 a b c d V' ↔ (A3 V a ∧ V' = (vLeave V (sl V a)).1) := ⟨fun h => by rcases h with ⟨h0, h⟩ | ⟨h0, h⟩ | ⟨h0, h⟩ | ⟨h0, h⟩ | ⟨h0, h⟩ | ⟨h0, h⟩ | ⟨h0, h⟩ | ⟨h0, h⟩ <;> first | exact h | exact absurd h0 (by decide), fun h => Or.inr (Or.inr (Or.inr (Or.inl ⟨rfl, h⟩)))⟩
theorem next4 : Next V 4 a b c d V' ↔ (A4 V a b ∧ V' = st V 2 a b) := ⟨fun h => by rcases h with ⟨h0, h⟩ | ⟨h0, h⟩ | ⟨h0, h⟩ | ⟨h0, h⟩ | ⟨h0, h⟩ | ⟨h0, h⟩ | ⟨h0, h⟩ | ⟨h0, h⟩ <;> first | exact h | exact absurd h0 (by decide), fun h => Or.inr (Or.inr (Or.inr (Or.inr (Or.inl ⟨rfl, h⟩))))⟩
theorem next5 : Next V 5 a b c d V' ↔ (A5 V a b ∧ V' = vGive V (sl V a) b) := ⟨fun h => by rcases h with ⟨h0, h⟩ | ⟨h0, h⟩ | ⟨h0, h⟩ | ⟨h0, h⟩ | ⟨h0, h⟩ | ⟨h0, h⟩ | ⟨h0, h⟩ | ⟨h0, h⟩ <;> first | exact h | exact absurd h0 (by decide), fun h => Or.inr (Or.inr (Or.inr (Or.inr (Or.inr (Or.inl ⟨rfl, h⟩)))))⟩
theorem next6 : Next V 6 a b c d V' ↔ ∃ p, Stb V p ∧ V' = lb V p (V 0 3) := ⟨fun h => by rcases h with ⟨h0, h⟩ | ⟨h0, h⟩ | ⟨h0, h⟩ | ⟨h0, h⟩ | ⟨h0, h⟩ | ⟨h0, h⟩ | ⟨h0, h⟩ | ⟨h0, h⟩ <;> first | exact h | exact absurd h0 (by decide), fun h => Or.inr (Or.inr (Or.inr (Or.inr (Or.inr (Or.inr (Or.inl ⟨rfl, h⟩))))))⟩
theorem next7 : Next V 7 a b c d V' ↔ (A7 a ∧ V' = (vMonths a.toNat V 0).1) := ⟨fun h => by rcases h with ⟨h0, h⟩ | ⟨h0, h⟩ | ⟨h0, h⟩ | ⟨h0, h⟩ | ⟨h0, h⟩ | ⟨h0, h⟩ | ⟨h0, h⟩ | ⟨h0, h⟩ <;> first | exact h | exact absurd h0 (by decide), fun h => Or.inr (Or.inr (Or.inr (Or.inr (Or.inr (Or.inr (Or.inr ⟨rfl, h⟩))))))⟩
end NXT
theorem next_congr {V V' : zM} {k : Int} {x y : Int → Int} (hk : 0 ≤ k ∧ k < 8) (he : ∀ i, 0 ≤ i → i < vn k → x i = y i) (h : Next V k (x 0) (x 1) (x 2) (x 3) V') : Next V k (y 0) (y 1) (y 2) (y 3) V' := by
  rcases k8 hk with rfl | rfl | rfl | rfl | rfl | rfl | rfl | rfl
  · rw [next0] at h ⊢; rw [← he 0 (by decide) (by decide), ← he 1 (by decide) (by decide)]; exact h
  · rw [next1] at h ⊢; rw [← he 0 (by decide) (by decide), ← he 1 (by decide) (by decide), ← he 2 (by decide) (by decide), ← he 3 (by decide) (by decide)]; exact h
  · rw [next2] at h ⊢; rw [← he 0 (by decide) (by decide), ← he 1 (by decide) (by decide)]; exact h
  · rw [next3] at h ⊢; rw [← he 0 (by decide) (by decide)]; exact h
  · rw [next4] at h ⊢; rw [← he 0 (by decide) (by decide), ← he 1 (by decide) (by decide)]; exact h
  · rw [next5] at h ⊢; rw [← he 0 (by decide) (by decide), ← he 1 (by decide) (by decide)]; exact h
  · rw [next6] at h ⊢; exact h
  · rw [next7] at h ⊢; rw [← he 0 (by decide) (by decide)]; exact h
theorem ex_and {A : Prop} {f : zM} : (∃ V', A ∧ V' = f) ↔ A := ⟨fun ⟨_, h, _⟩ => h, fun h => ⟨f, h, rfl⟩⟩
def RefC (V m : zM) : Prop := ∃ r, qT_refusalOfCommand m = some r ∧ (0 ≤ r ∧ r < 6) ∧ (r = 0 ↔ ∃ V', Next V (m 136 1) (m 137 0) (m 137 1) (m 137 2) (m 137 3) V')
def DoC (V m : zM) : Prop := ∀ V', Next V (m 136 1) (m 137 0) (m 137 1) (m 137 2) (m 137 3) V' → ∃ m', qT_perform m = some m' ∧ HEq6 (hv m' 1) V' ∧ CFr m m'
theorem stepC {N : Int} {V m : zM} (hN : N ≤ 1000000000) (w : WF N V) (e : HEq6 (hv m 1) V) (hk : 0 ≤ m 136 1 ∧ m 136 1 < 8) : RefC V m ∧ DoC V m := by
  unfold RefC DoC
  rcases k8 hk with h | h | h | h | h | h | h | h <;> rw [h]
  · have e1 : qT_refusalOfCommand m = qT_refusalOfCommand_j56 m := by unfold qT_refusalOfCommand; rw [h]; rfl
    have e2 : qT_perform m = qT_perform_j68 m := by unfold qT_perform; rw [h]; rfl
    obtain ⟨r, r1, r2, r3⟩ := r0C (N := N) (a := m 137 0) (b := m 137 1) e
    refine ⟨⟨r, by rw [e1]; unfold qT_refusalOfCommand_j56; rw [r1, sBind], r2, by simp only [next0, ex_and]; exact r3⟩, fun V' hn => ?_⟩
    obtain ⟨ha, rfl⟩ := next0.mp hn
    obtain ⟨x, m', p1, p2, p3⟩ := p0C w e ha
    exact ⟨m', by rw [e2]; unfold qT_perform_j68; rw [p1, sBnd2], p2, p3⟩
  · have e1 : qT_refusalOfCommand m = qT_refusalOfCommand_j70 m := by unfold qT_refusalOfCommand; rw [h]; rfl
    have e2 : qT_perform m = qT_perform_j85 m := by unfold qT_perform; rw [h]; rfl
    obtain ⟨r, r1, r2, r3⟩ := r1C (N := N) (a := m 137 0) (b := m 137 1) (c := m 137 2) (d := m 137 3) e
    refine ⟨⟨r, by rw [e1]; unfold qT_refusalOfCommand_j70; rw [r1, sBind], r2, by simp only [next1, ex_and]; exact r3⟩, fun V' hn => ?_⟩
    obtain ⟨ha, rfl⟩ := next1.mp hn
    obtain ⟨x, m', p1, p2, p3⟩ := p1C hN w e ha
    exact ⟨m', by rw [e2]; unfold qT_perform_j85; rw [p1, sBnd2], p2, p3⟩
  · have e1 : qT_refusalOfCommand m = qT_refusalOfCommand_j90 m := by unfold qT_refusalOfCommand; rw [h]; rfl
    have e2 : qT_perform m = qT_perform_j108 m := by unfold qT_perform; rw [h]; rfl
    obtain ⟨r, r1, r2, r3⟩ := r2C (a := m 137 0) (b := m 137 1) w e
    refine ⟨⟨r, by rw [e1]; unfold qT_refusalOfCommand_j90; rw [r1, sBind], r2, by simp only [next2, ex_and]; exact r3⟩, fun V' hn => ?_⟩
    obtain ⟨ha, rfl⟩ := next2.mp hn
    obtain ⟨x, m', p1, p2, p3⟩ := p2C w e ha
    rw [h6slot w e, sBind] at p1
    exact ⟨m', by rw [e2]; unfold qT_perform_j108; rw [h6slot w e, sBind, p1, sBnd2], p2, p3⟩
  · have e1 : qT_refusalOfCommand m = qT_refusalOfCommand_j104 m := by unfold qT_refusalOfCommand; rw [h]; rfl
    have e2 : qT_perform m = qT_perform_j132 m := by unfold qT_perform; rw [h]; rfl
    obtain ⟨r, r1, r2, r3⟩ := r3C (a := m 137 0) w e
    refine ⟨⟨r, by rw [e1]; unfold qT_refusalOfCommand_j104; rw [r1, sBind], r2, by simp only [next3, ex_and]; exact r3⟩, fun V' hn => ?_⟩
    obtain ⟨ha, rfl⟩ := next3.mp hn
    obtain ⟨x, m', p1, p2, p3⟩ := p3C w e ha
    rw [h6slot w e, sBind] at p1
    exact ⟨m', by rw [e2]; unfold qT_perform_j132; rw [h6slot w e, sBind, p1, sBnd2], p2, p3⟩
  · have e1 : qT_refusalOfCommand m = qT_refusalOfCommand_j115 m := by unfold qT_refusalOfCommand; rw [h]; rfl
    have e2 : qT_perform m = qT_perform_j153 m := by unfold qT_perform; rw [h]; rfl
    obtain ⟨r, r1, r2, r3⟩ := r4C (N := N) (a := m 137 0) (b := m 137 1) e
    refine ⟨⟨r, by rw [e1]; unfold qT_refusalOfCommand_j115; rw [r1, sBind], r2, by simp only [next4, ex_and]; exact r3⟩, fun V' hn => ?_⟩
    obtain ⟨ha, rfl⟩ := next4.mp hn
    obtain ⟨x, m', p1, p2, p3⟩ := p4C w e ha
    exact ⟨m', by rw [e2]; unfold qT_perform_j153; rw [p1, sBnd2], p2, p3⟩
  · have e1 : qT_refusalOfCommand m = qT_refusalOfCommand_j129 m := by unfold qT_refusalOfCommand; rw [h]; rfl
    have e2 : qT_perform m = qT_perform_j170 m := by unfold qT_perform; rw [h]; rfl
    obtain ⟨r, r1, r2, r3⟩ := r5C (a := m 137 0) (b := m 137 1) w e
    refine ⟨⟨r, by rw [e1]; unfold qT_refusalOfCommand_j129; rw [r1, sBind], r2, by simp only [next5, ex_and]; exact r3⟩, fun V' hn => ?_⟩
    obtain ⟨ha, rfl⟩ := next5.mp hn
    obtain ⟨x, m', p1, p2, p3⟩ := p5C hN w e ha
    rw [h6slot w e, sBind] at p1
    exact ⟨m', by rw [e2]; unfold qT_perform_j170; rw [h6slot w e, sBind, p1, sBnd2], p2, p3⟩
  · have e1 : qT_refusalOfCommand m = some 0 := by unfold qT_refusalOfCommand; rw [h]; rfl
    have e2 : qT_perform m = qT_perform_j194 m := by unfold qT_perform; rw [h]; rfl
    obtain ⟨p, hp⟩ := stb_ex (μ := m) w e
    refine ⟨⟨0, e1, by decide, ⟨fun _ => ⟨_, next6.mpr ⟨p, hp, rfl⟩⟩, fun _ => rfl⟩⟩, fun V' hn => ?_⟩
    obtain ⟨p', hp', rfl⟩ := next6.mp hn
    obtain ⟨m1, p1, p2, p3⟩ := planByAsking_eq (h := 1) (μ := m) (V := V) (by decide) w e
    obtain ⟨m2, u1, u2, u3⟩ := liveBy_eq (h := 1) (m := m1) (V := V) (p := p') (by decide) w (HEq6.trans (HEq6.of_same fun q q1 q2 => p3 q (by omega)) e) (fun t ht => stb_eq w p2 hp' ht)
    exact ⟨m2, by rw [e2]; unfold qT_perform_j194; rw [p1, sBind, u1, sBnd2], u2, fun q q1 q2 => by rw [u3 q (by omega), p3 q (by omega)]⟩
  · have e1 : qT_refusalOfCommand m = qT_refusalOfCommand_j143 m := by unfold qT_refusalOfCommand; rw [h]; rfl
    have e2 : qT_perform m = qT_perform_j216 m := by unfold qT_perform; rw [h]; rfl
    obtain ⟨r, r1, r2, r3⟩ := r7C (m := m) (a := m 137 0)
    refine ⟨⟨r, by rw [e1]; unfold qT_refusalOfCommand_j143; rw [r1, sBind], r2, by simp only [next7, ex_and]; exact r3⟩, fun V' hn => ?_⟩
    obtain ⟨ha, rfl⟩ := next7.mp hn
    have ha0 := ha.1
    have ha1 := ha.2
    obtain ⟨m', p1, p2, p3⟩ := letMonths_eq (h := 1) (v := m 137 0) (μ := m) (by omega) (by omega) w e
    exact ⟨m', by rw [e2]; unfold qT_perform_j216; rw [p1, sBnd2], p2, fun q q1 _ => p3 q (by omega)⟩
def RefM (V m : zM) (k : Int) : Prop := ∃ r, qM_notNow m = some r ∧ (r = 0 ↔ ∃ V', Next V k (m 155 0) (m 155 1) (m 155 2) (m 155 3) V')
def DoM (V m : zM) (k : Int) : Prop := ∀ V', Next V k (m 155 0) (m 155 1) (m 155 2) (m 155 3) V' → ∃ x m', qM_doesNow m = some (x, m') ∧ RowIs (m' 143) V' ∧ MFr m m'
theorem stepM {N : Int} {V m : zM} {k : Int} (hN : N ≤ 1000000000) (w : WF N V) (r : RowIs (m 143) V) (hk : 0 ≤ k ∧ k < 8) (hs : m 142 22 = formAt k 0) (hV : ∃ p, Stb V p) : RefM V m k ∧ DoM V m k := by
  unfold RefM DoM
  rcases k8 hk with rfl | rfl | rfl | rfl | rfl | rfl | rfl | rfl
  · have h : m 142 22 = 102 := hs.trans (by decide)
    have e1 : qM_notNow m = qM_notNow_j92 m (m 155 0) (m 155 1) := by unfold qM_notNow; rw [h]; rfl
    have e2 : qM_doesNow m = qM_doesNow_j92 m (m 155 0) (m 155 1) := by unfold qM_doesNow; rw [h]; rfl
    obtain ⟨x, r1, r2⟩ := r0M (a := m 155 0) (b := m 155 1) w r
    refine ⟨⟨x, by rw [e1]; unfold qM_notNow_j92; rw [r1, sBind], by simp only [next0, ex_and]; exact r2⟩, fun V' hn => ?_⟩
    obtain ⟨ha, rfl⟩ := next0.mp hn
    obtain ⟨y, m', p1, p2, p3⟩ := p0M w r ha
    exact ⟨y, m', by rw [e2]; unfold qM_doesNow_j92; rw [p1, sBnd2], p2, p3⟩
  · have h : m 142 22 = 116 := hs.trans (by decide)
    have e1 : qM_notNow m = qM_notNow_j99 m (m 155 0) (m 155 1) := by unfold qM_notNow; rw [h]; rfl
    have e2 : qM_doesNow m = qM_doesNow_j99 m (m 155 0) (m 155 1) := by unfold qM_doesNow; rw [h]; rfl
    obtain ⟨x, r1, r2⟩ := r1M (a := m 155 0) (b := m 155 1) (c := m 155 2) (d := m 155 3) w r
    refine ⟨⟨x, by rw [e1]; unfold qM_notNow_j99; rw [r1, sBind], by simp only [next1, ex_and]; exact r2⟩, fun V' hn => ?_⟩
    obtain ⟨ha, rfl⟩ := next1.mp hn
    obtain ⟨y, m', p1, p2, p3⟩ := p1M hN w r ha
    exact ⟨y, m', by rw [e2]; unfold qM_doesNow_j99; rw [p1, sBnd2], p2, p3⟩
  · have h : m 142 22 = 105 := hs.trans (by decide)
    have e1 : qM_notNow m = qM_notNow_j118 m (m 155 0) (m 155 1) := by unfold qM_notNow; rw [h]; rfl
    have e2 : qM_doesNow m = qM_doesNow_j118 m (m 155 0) (m 155 1) := by unfold qM_doesNow; rw [h]; rfl
    obtain ⟨x, r1, r2⟩ := r2M (a := m 155 0) (b := m 155 1) w r
    refine ⟨⟨x, by rw [e1]; unfold qM_notNow_j118; rw [r1, sBind], by simp only [next2, ex_and]; exact r2⟩, fun V' hn => ?_⟩
    obtain ⟨ha, rfl⟩ := next2.mp hn
    obtain ⟨y, m', p1, p2, p3⟩ := p2M w r ha
    exact ⟨y, m', by rw [e2]; unfold qM_doesNow_j118; rw [p1, sBnd2], p2, p3⟩
  · have h : m 142 22 = 111 := hs.trans (by decide)
    have e1 : qM_notNow m = qM_notNow_j125 m (m 155 0) := by unfold qM_notNow; rw [h]; rfl
    have e2 : qM_doesNow m = qM_doesNow_j125 m (m 155 0) := by unfold qM_doesNow; rw [h]; rfl
    obtain ⟨x, r1, r2⟩ := r3M (a := m 155 0) w r
    refine ⟨⟨x, by rw [e1]; unfold qM_notNow_j125; rw [r1, sBind], by simp only [next3, ex_and]; exact r2⟩, fun V' hn => ?_⟩
    obtain ⟨ha, rfl⟩ := next3.mp hn
    obtain ⟨y, m', p1, p2, p3⟩ := p3M w r ha
    exact ⟨y, m', by rw [e2]; exact p1, p2, p3⟩
  · have h : m 142 22 = 114 := hs.trans (by decide)
    have e1 : qM_notNow m = qM_notNow_j131 m (m 155 0) (m 155 1) := by unfold qM_notNow; rw [h]; rfl
    have e2 : qM_doesNow m = qM_doesNow_j135 m (m 155 0) (m 155 1) := by unfold qM_doesNow; rw [h]; rfl
    obtain ⟨x, r1, r2⟩ := r4M (a := m 155 0) (b := m 155 1) w r
    refine ⟨⟨x, by rw [e1]; unfold qM_notNow_j131; rw [r1, sBind], by simp only [next4, ex_and]; exact r2⟩, fun V' hn => ?_⟩
    obtain ⟨ha, rfl⟩ := next4.mp hn
    obtain ⟨y, m', p1, p2, p3⟩ := p4M w r ha
    exact ⟨y, m', by rw [e2]; unfold qM_doesNow_j135; rw [p1, sBnd2], p2, p3⟩
  · have h : m 142 22 = 103 := hs.trans (by decide)
    have e1 : qM_notNow m = qM_notNow_j138 m (m 155 0) (m 155 1) := by unfold qM_notNow; rw [h]; rfl
    have e2 : qM_doesNow m = qM_doesNow_j142 m (m 155 0) (m 155 1) := by unfold qM_doesNow; rw [h]; rfl
    obtain ⟨x, r1, r2⟩ := r5M (a := m 155 0) (b := m 155 1) w r
    refine ⟨⟨x, by rw [e1]; unfold qM_notNow_j138; rw [r1, sBind], by simp only [next5, ex_and]; exact r2⟩, fun V' hn => ?_⟩
    obtain ⟨ha, rfl⟩ := next5.mp hn
    obtain ⟨y, m', p1, p2, p3⟩ := p5M hN w r ha
    exact ⟨y, m', by rw [e2]; unfold qM_doesNow_j142; rw [p1, sBnd2], p2, p3⟩
  · have h : m 142 22 = 115 := hs.trans (by decide)
    have e1 : qM_notNow m = some 0 := by unfold qM_notNow; rw [h]; rfl
    have e2 : qM_doesNow m = qM_doesNow_j155 m := by unfold qM_doesNow; rw [h]; rfl
    obtain ⟨p, hp⟩ := hV
    refine ⟨⟨0, e1, ⟨fun _ => ⟨_, next6.mpr ⟨p, hp, rfl⟩⟩, fun _ => rfl⟩⟩, fun V' hn => ?_⟩
    obtain ⟨p', hp', rfl⟩ := next6.mp hn
    obtain ⟨m', p1, p2, p3⟩ := settles_eq w r hp'
    exact ⟨_, m', by rw [e2]; unfold qM_doesNow_j155; rw [p1, sBnd2], p2, p3⟩
  · have h : m 142 22 = 109 := hs.trans (by decide)
    have e1 : qM_notNow m = qM_notNow_j145 m (m 155 0) := by unfold qM_notNow; rw [h]; rfl
    have e2 : qM_doesNow m = qM_doesNow_j149 m (m 155 0) := by unfold qM_doesNow; rw [h]; rfl
    obtain ⟨x, r1, r2⟩ := r7M (m := m) (a := m 155 0)
    refine ⟨⟨x, by rw [e1]; unfold qM_notNow_j145; rw [r1, sBind], by simp only [next7, ex_and]; exact r2⟩, fun V' hn => ?_⟩
    obtain ⟨ha, rfl⟩ := next7.mp hn
    have ha0 := ha.1
    have ha1 := ha.2
    obtain ⟨m', p1, p2, p3⟩ := passes_eq (v := m 155 0) (m := m) (by omega) (by omega) w r
    exact ⟨_, m', by rw [e2]; unfold qM_doesNow_j149; rw [p1, sBnd2], p2, fun q q1 _ _ => p3 q q1⟩
