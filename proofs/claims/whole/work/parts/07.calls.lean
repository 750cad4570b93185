/-! ===== bodies and calls ===== -/
def y_args : Nat → List yV → List (Nat × yV)
  | _, [] => []
  | i, v :: vs => (i, v) :: y_args (i + 1) vs
theorem y_args_map : ∀ (as : List yV) (i : Nat), (∀ v ∈ as, y_cat v = 1) → lv_args i (as.map y_tv) = (y_args i as).map fun q => (q.1, y_tv q.2)
  | [], _, _ => rfl
  | v :: vs, i, h => by
    have hv := (List.forall_mem_cons.mp h).1
    show (i, y_tv v) :: lv_args (if (y_tv v).category = 2 then i + 2 else i + 1) (vs.map y_tv) = _
    rw [if_neg (by rw [y_cat_tv, hv]; decide), y_args_map vs (i + 1) (List.forall_mem_cons.mp h).2]
    rfl
theorem y_args_len : ∀ (as : List yV), (∀ v ∈ as, y_cat v = 1) → (lg_sl (as.map y_tv)).length = as.length
  | [], _ => rfl
  | v :: vs, h => by
    have hv := (List.forall_mem_cons.mp h).1
    show (List.flatMap _ (y_tv v :: vs.map y_tv)).length = _
    rw [List.flatMap_cons, if_neg (by rw [y_cat_tv, hv]; decide), List.length_append]
    have := y_args_len vs (List.forall_mem_cons.mp h).2
    unfold lg_sl at this
    rw [this]
    simp [Nat.add_comm]
theorem y_args_ok : ∀ (as : List yV) (i : Nat), (∀ v ∈ as, y_ok v) → ∀ q ∈ y_args i as, y_ok q.2
  | [], _, _, _, hq => nomatch hq
  | v :: vs, i, h, q, hq => by
    rcases List.mem_cons.mp hq with h1 | h1
    · rw [h1]; exact (List.forall_mem_cons.mp h).1
    · exact y_args_ok vs (i + 1) (List.forall_mem_cons.mp h).2 q h1
theorem y_of {g : yG} {me : yM0} {d kc ks : Nat} {as : List yV} {M : yMem} {Q : yOut → yMem → Prop} (hpl : plainName me.1.cls = true) (hh : me.2.2.2.2 = []) (hcat : ∀ v ∈ as, y_cat v = 1) (hlen : as.length ≤ me.2.2.1) (k : Y g me d kc ks 0 (y_args 0 as) [] M Q) : yC g me d kc ks as M Q := by
  intro hok l hl
  refine vx_ofW (cc := me.2.1) (maxL := me.2.2.1) (ret := me.2.2.2.1) (ws' := yB) hpl (by unfold y_ws; rw [hh]; rfl) ?_
  intro p e s m args below meth c s₁ B hml hex hP
  obtain ⟨rfl, hW, hSt⟩ := hP
  have hts := atoms_spec (ws := y_ws me) B.pre
  have C : y_Cx g me p l s m (as.map y_tv).toArray meth c := ⟨B.exec, B.bytes, hml, B.returns, B.notSynchronized, findClass_of_methodNamed B.named, fun w hw => hts w (List.mem_cons_of_mem _ hw), hl, (by rw [hh, List.eq_nil_iff_forall_not_mem.mpr hex]; rfl), hSt, hW.1, (name_of_methodNamed B.named B.method).1⟩
  have hlv := lv_entry (as.map y_tv) (n := me.2.2.1) (by rw [y_args_len as hcat]; exact hlen)
  rw [y_args_map as 0 hcat] at hlv
  rw [lg_entry_eq]
  exact k p l e s m _ below meth c s.heap [] 0 0 kc ks _ C (by omega) (by omega) hW.2.1 (y_args_ok as 0 hok) (fun _ h => nomatch h) hW.2.2.1 hW.2.2.2 va_S.rf hlv
theorem y_blind {g : yG} {as : List yV} {M : yMem} : FrameBlind (y_Pc g as M) := by
  intro a U f mk ⟨h1, h2, h3⟩
  exact ⟨h1, h2, y_S.move (s := U) (U := U.calling f mk a) (State.WarmedH.refl U) h3 (Nat.le_refl _) (fun _ _ _ => rfl)⟩
/-- what is thrown here is not caught here -/
def y_unc (me : yM0) (pc : Nat) : Prop := ∀ q ∈ me.2.2.2.2, ¬ (q.1 ≤ pc ∧ pc < q.2.1)
theorem y_unc0 {me : yM0} {pc : Nat} (h : me.2.2.2.2 = []) : y_unc me pc := fun q hq => by rw [h] at hq; cases hq
theorem y_uncov {me : yM0} {pc : Nat} {c : Code} (h : y_unc me pc) (hx : c.exceptionTable.toList.map (fun x => (x.startPc, x.endPc, x.handlerPc, x.catchType)) = me.2.2.2.2) : ∀ x ∈ c.exceptionTable.toList, covers x pc = false := by
  intro x hxm
  have h1 := h (x.startPc, x.endPc, x.handlerPc, x.catchType) (by rw [← hx]; exact List.mem_map.mpr ⟨x, hxm, rfl⟩)
  show (decide (x.startPc ≤ pc) && decide (pc < x.endPc)) = false
  by_cases c1 : x.startPc ≤ pc
  · rw [decide_eq_true c1, decide_eq_false (fun c2 => h1 ⟨c1, c2⟩)]; rfl
  · rw [decide_eq_false c1]; rfl
/-- behind a call -/
theorem y_behind {g : yG} {me : yM0} {d kc ks kc' ks' pc : Nat} {L : List (Nat × yV)} {S S0 : List yV} {Q Q' : yOut → yMem → Prop} {a : Array Value} {p : Program} {l : Launch} {e : Env} {s : State} {m : MethodId} {args : Array Value} {below : List Frame} {meth : Method} {c : Code} {H : Heap} {locs : List Loc} {cells slots mc ms : Nat} {ls : Array Slot}
    (C : y_Cx g me p l s m args meth c) (h1 : cells + (kc + kc') ≤ mc) (h2 : slots + (ks + ks') ≤ ms) (hL : ∀ q ∈ L, y_ok q.2) (hS' : ∀ v ∈ S, y_ok v) (hS : va_S (y_A g) s.heap H locs) (hlv : lv_has ls me.2.2.1 (L.map fun q => (q.1, y_tv q.2)))
    (hr : vx_Run p l e (y_rm d mc ms) s m args below meth c H locs cells slots kc' ks' (F0 m pc ls (S0.map y_tv)) (S.map y_tv) (y_Qc g Q' a) (y_XC g Q') (y_A g))
    (hu : y_unc me pc) (kx : ∀ E M1, Q' (.inr E) M1 → Q (.inr E) M1) (kk : ∀ r M1, Q' (.inl r) M1 → Y g me d kc ks (pc + 3) L (r.toList ++ S) M1 Q) :
    W p l e (y_rm d mc ms) s m args below meth c H locs cells slots (vx_MQ below (y_Qc g Q) (y_XC g Q) args s mc ms (y_A g)) (F0 m pc ls (S0.map y_tv)) := by
  intro T hT X
  rcases hr T hT X with ⟨v, st₀, t, T', L9, h0, X', hL9, e1, e2, ⟨⟨r, M1, hv, hok, hq, hW⟩, hF⟩, st⟩ | ⟨q, st₀, t, T', L9, E, ce, h0, X', hL9, e1, e2, ⟨⟨M1, hq, hW⟩, hF⟩, hce, hcv, hcl, st⟩
  · cases hv
    obtain ⟨k1, k2, k3⟩ := vx_keep h0 e1 hS (fun q _ h => h) (fun q h => h) hL9 hF
    have hM1 := hW.2.1
    have hP1 : va_P g.1 y_cl (y_tw g M1) T'.heap := by rw [e1]; exact hW.2.2.1
    have hSr : ∀ w ∈ r.toList ++ S, y_ok w := by
      intro w hw
      rcases List.mem_append.mp hw with hw | hw
      · exact hok w (by cases r with
          | none => cases hw
          | some z => rw [show (some z).toList = [z] from rfl, List.mem_singleton] at hw; rw [hw])
      · exact hS' w hw
    obtain ⟨t2, a1, b1⟩ := kk r M1 hq p l e s m args below meth c T'.heap (locs ++ L9) (cells + kc') (slots + ks') mc ms ls C (by omega) (by omega) hM1 hL hSr hP1 hW.2.2.2 k3 hlv T' rfl X'
    refine ⟨t2, st t2 ?_, b1⟩
    have es : (r.map y_tv).toList ++ S.map y_tv = (r.toList ++ S).map y_tv := by
      cases r <;> simp
    show Steps p.tables e below (T'.setTop (F0 m (pc + 3) ls ((r.map y_tv).toList ++ S.map y_tv))) t2
    rw [es]
    exact a1
  · obtain ⟨k1, k2, k3⟩ := vx_keep h0 e1 hS (fun q _ h => h) (fun q h => h) hL9 hF
    have hV : vx_W p l e (y_rm d mc ms) s m args below meth c T'.heap (locs ++ L9) (cells + kc') (slots + ks') (vx_MQ below (y_Qc g Q) (y_XC g Q) args s mc ms (y_A g)) (F0 m pc ls (S.map y_tv)) q := by
      refine vx_out (y_uncov hu C.2.2.2.2.2.2.2.2.1) C.2.2.2.2.1 (by rw [e1]; exact hce) hcv hcl (fun t9 ht9 _ => ⟨⟨M1, kx E M1 hq, ?_⟩, k3.F ht9⟩) k3.2.2 (by omega) (by omega)
      have e9 : t9.heap = t.heap := ht9.trans e1
      exact ⟨by rw [e9]; exact hW.1, hW.2.1, by rw [e9]; exact hW.2.2.1, hW.2.2.2⟩
    obtain ⟨t2, a1, b1⟩ := hV T' rfl X'
    exact ⟨t2, st.trans a1, b1⟩
/-- what a caller needs of a callee's words -/
def y_kB (me : yM0) (n : Nat) : Prop := me.2.2.2.2 = [] ∧ Cond.initialized me.1.cls ∈ yB ∧ Cond.code me.1 me.2.1 me.2.2.1 me.2.2.2.1 ∈ yB ∧ (me.1.cls ≠ "java/lang/invoke/MethodHandle" ∧ me.1.cls ≠ "java/lang/invoke/VarHandle") ∧ (parseMethodDescriptor me.1.desc).map (fun d => d.parameters.length) = some n ∧ me.2.2.1 ≤ 20
def y_kV (me : yM0) (n : Nat) : Prop := y_kB me n ∧ Cond.instanceMethod me.1 ∈ yB ∧ Cond.selects me.1.cls me.1 me.1 ∈ yB
def y_kS (me : yM0) (n : Nat) : Prop := y_kB me n ∧ Cond.static me.1 ∈ yB
theorem y_callB {g : yG} {me me' : yM0} {p : Program} {l : Launch} {s : State} {m : MethodId} {args : Array Value} {meth : Method} {c : Code} {d d' mc ms kc' ks' idx n : Nat} (C : y_Cx g me p l s m args meth c) (kv : y_kB me' n) (hd : d' + 1 ≤ d) (hlink : Cond.methodLink me.1.cls idx me'.1 ∈ yB) :
    CallB (y_rm d mc ms) s args me.1.cls idx me'.1 me'.2.1 me'.2.2.1 me'.2.2.2.1 (y_ws me') (y_rm d' kc' ks') kc' ks' n := by
  obtain ⟨hh, hi, hco, hne, hpa, h20⟩ := kv
  have hts := C.2.2.2.2.2.2.1
  have hws : y_ws me' = Cond.code me'.1 me'.2.1 me'.2.2.1 me'.2.2.2.1 :: yB := by unfold y_ws; rw [hh]; rfl
  rw [hws]
  refine ⟨rfl, rfl, by show 10 + d' + 1 ≤ 10 + d; omega, by show 8 + (me'.2.2.1 + 11) + (200 + 40 * d') ≤ 200 + 40 * d; omega, ?_, List.mem_cons_self, hts _ hco, hts _ hi, hne, ?_, hts _ hlink⟩
  · intro w hw a' U hW
    rcases List.mem_cons.mp hw with h | h
    · subst h; exact word_at hW (yb_good hco) (hts _ hco)
    · exact word_at hW (yb_good h) (hts _ h)
  · intro sig hsig
    rw [hsig] at hpa
    exact (Option.some.inj hpa).symm
theorem y_pre {g : yG} {me : yM0} {p : Program} {l : Launch} {s : State} {m : MethodId} {args : Array Value} {meth : Method} {c : Code} {H : Heap} {locs : List Loc} {M : yMem} {as : List yV} (C : y_Cx g me p l s m args meth c) (hM : y_okM M) (hP : va_P g.1 y_cl (y_tw g M) H) (hD : va_D (y_A g) (y_tw g M)) (hS : va_S (y_A g) s.heap H locs) :
    ∀ U : State, U.heap = H → s.WarmedH U.vm → y_Pc g as M (as.map y_tv).toArray U := by
  intro U hU hW
  refine ⟨rfl, ⟨by rw [hU]; exact Nat.le_trans C.2.2.2.2.2.2.2.2.2.2.1 hS.1, hM, by rw [hU]; exact hP, hD⟩, ?_⟩
  exact y_S.move hW C.2.2.2.2.2.2.2.2.2.1 (by rw [hU]; exact hS.1) (fun a h1 h2 => by rw [hU]; exact hS.2.1 a h1 h2)
section YC
variable {g : yG} {me : yM0} {d kc ks pc : Nat} {L : List (Nat × yV)} {S : List yV} {M : yMem} {Q : yOut → yMem → Prop}
theorem y_catsum (S : List yV) : ((S.map y_tv).map fun v => v.category).sum = (S.map y_cat).sum := by
  rw [List.map_map]
  refine congrArg _ (List.map_congr_left fun v _ => ?_)
  exact y_cat_tv v
/-- a call of an instance's method -/
theorem y_callV {me' : yM0} {d' kc' ks' n idx q a ci N : Nat} {Cn : String} {T : u_T} {fs as S0 : List yV} {Q' : yOut → yMem → Prop} (hC : yC g me' d' kc' ks' (vr a :: as) M Q') (kv : y_kV me' n) (hd : d' + 1 ≤ d) (hn : as.length = n) (hc : y_cl[ci]? = some (Cn, T, N)) (hcn : me'.1.cls = Cn) (hq : M[q]? = some (a, oo ci fs))
    (hlink : Cond.methodLink me.1.cls idx me'.1 ∈ yB) (hst : S0 = as.reverse ++ vr a :: S) (hcat : (S.map y_cat).sum ≤ 8) (hdg : decode me.2.1 pc = .ok (.invokevirtual idx, 3)) (hu : y_unc me pc)
    (kx : ∀ E M1, Q' (.inr E) M1 → Q (.inr E) M1) (kk : ∀ r M1, Q' (.inl r) M1 → Y g me d kc ks (pc + 3) L (r.toList ++ S) M1 Q) : Y g me d (kc + kc') (ks + ks') pc L S0 M Q := by
  intro p l e s m args below meth c H locs cells slots mc ms ls C h1 h2 hM hL hS' hP hD hS hlv
  subst hst
  have hts := C.2.2.2.2.2.2.1
  have hSS : ∀ v ∈ S, y_ok v := fun v hv => hS' v (List.mem_append_right _ (List.mem_cons_of_mem _ hv))
  have hAs : ∀ v ∈ vr a :: as, y_ok v := y_okc trivial (fun v hv => hS' v (List.mem_append_left _ (List.mem_reverse.mpr hv)))
  refine y_behind C h1 h2 hL hSS hS hlv (vx_runV (As := as.map y_tv) (b := a) (C := Cn) (y := me'.1) (index := idx) (n := n) (own := me.1.cls) (Ts := yB) ⟨C.1, C.2.1, C.2.2.1, C.2.2.2.2.2.1, hts⟩ (hC hAs l C.2.2.2.2.2.2.2.1)
    ⟨y_callB C kv.1 hd hlink, hts _ kv.2.1, by rw [← hcn]; exact hts _ kv.2.2⟩
    ⟨y_blind, va_recv C.2.2.2.2.2.2.2.2.2.1.1 hP hc (y_tw_at hq), y_pre (as := vr a :: as) C hM hP hD hS⟩ rfl (by rw [List.length_map]; exact hn) hlv.1 ?_ ?_ hdg ⟨by show cells + kc' ≤ mc; omega, by show slots + ks' ≤ ms; omega⟩) hu kx kk
  · show List.map y_tv (as.reverse ++ vr a :: S) = (as.map y_tv).reverse ++ Value.ref a :: S.map y_tv
    rw [List.map_append, List.map_reverse]; rfl
  · exact lv_room (by rw [y_catsum]; exact hcat)
/-- a call of a static method of this class or another one -/
theorem y_callS {me' : yM0} {d' kc' ks' n idx : Nat} {as S0 : List yV} {Q' : yOut → yMem → Prop} (hC : yC g me' d' kc' ks' as M Q') (kv : y_kS me' n) (hd : d' + 1 ≤ d) (hn : as.length = n)
    (hlink : Cond.methodLink me.1.cls idx me'.1 ∈ yB) (hst : S0 = as.reverse ++ S) (hcat : (S.map y_cat).sum ≤ 8) (hdg : decode me.2.1 pc = .ok (.invokestatic idx, 3)) (hu : y_unc me pc)
    (kx : ∀ E M1, Q' (.inr E) M1 → Q (.inr E) M1) (kk : ∀ r M1, Q' (.inl r) M1 → Y g me d kc ks (pc + 3) L (r.toList ++ S) M1 Q) : Y g me d (kc + kc') (ks + ks') pc L S0 M Q := by
  intro p l e s m args below meth c H locs cells slots mc ms ls C h1 h2 hM hL hS' hP hD hS hlv
  subst hst
  have hts := C.2.2.2.2.2.2.1
  have hSS : ∀ v ∈ S, y_ok v := fun v hv => hS' v (List.mem_append_right _ hv)
  have hAs : ∀ v ∈ as, y_ok v := fun v hv => hS' v (List.mem_append_left _ (List.mem_reverse.mpr hv))
  refine y_behind C h1 h2 hL hSS hS hlv (vx_runS (As := as.map y_tv) (y := me'.1) (index := idx) (n := n) (own := me.1.cls) (Ts := yB) ⟨C.1, C.2.1, C.2.2.1, C.2.2.2.2.2.1, hts⟩ (hC hAs l C.2.2.2.2.2.2.2.1)
    ⟨y_callB C kv.1 hd hlink, hts _ kv.2⟩
    ⟨y_blind, y_pre (as := as) C hM hP hD hS⟩ rfl (by rw [List.length_map]; exact hn) hlv.1 ?_ ?_ hdg ⟨by show cells + kc' ≤ mc; omega, by show slots + ks' ≤ ms; omega⟩) hu kx kk
  · rw [List.map_append, List.map_reverse]
  · exact lv_room (by rw [y_catsum]; exact hcat)
/-- a callee that never throws, as the kit's other contract -/
theorem y_met {g : yG} {me : yM0} {d kc ks : Nat} {as : List yV} {M : yMem} {Q : yOut → yMem → Prop} {l : Launch} (h : vx_Met l me.1 (y_ws me) (y_rm d kc ks) (y_Pc g as M) (y_Qc g Q) (y_XC g Q) kc ks (y_A g)) (hn : ∀ E M1, ¬ Q (.inr E) M1) :
    Met l me.1 (y_ws me) (y_rm d kc ks) (y_Pc g as M) (y_Qc g Q) kc ks (y_A g) := by
  intro p e ha hc hk s m args below hf happ hP hK
  obtain ⟨n, o, h1, h2, h3, h4⟩ := h p e ha hc hk s m args below hf happ hP hK
  refine ⟨n, o, h1, h2, h3, ?_⟩
  rcases h4 with h4 | ⟨q, -, E, ce, L, ⟨⟨M1, hq, -⟩, -⟩, -⟩
  · exact h4
  · exact absurd hq (hn E M1)
/-- a call of a nest mate's static method that never throws -/
theorem y_callSN {me' : yM0} {d' kc' ks' n idx : Nat} {host : String} {as S0 : List yV} {Q' : yOut → yMem → Prop} (hC : yC g me' d' kc' ks' as M Q') (kv : y_kS me' n) (hd : d' + 1 ≤ d) (hn : as.length = n)
    (hlink : (me.1.cls, idx, me'.1, host) ∈ y_nwM) (hst : S0 = as.reverse ++ S) (hcat : (S.map y_cat).sum ≤ 8) (hdg : decode me.2.1 pc = .ok (.invokestatic idx, 3)) (hu : y_unc me pc)
    (kx : ∀ E M1, ¬ Q' (.inr E) M1) (kk : ∀ r M1, Q' (.inl r) M1 → Y g me d kc ks (pc + 3) L (r.toList ++ S) M1 Q) : Y g me d (kc + kc') (ks + ks') pc L S0 M Q := by
  intro p l e s m args below meth c H locs cells slots mc ms ls C h1 h2 hM hL hS' hP hD hS hlv
  subst hst
  have hts := C.2.2.2.2.2.2.1
  have hSS : ∀ v ∈ S, y_ok v := fun v hv => hS' v (List.mem_append_right _ hv)
  have hAs : ∀ v ∈ as, y_ok v := fun v hv => hS' v (List.mem_append_left _ (List.mem_reverse.mpr hv))
  obtain ⟨⟨hh, hi, hco, hne, hpa, h20⟩, hsta⟩ := kv
  have hws : y_ws me' = Cond.code me'.1 me'.2.1 me'.2.2.1 me'.2.2.2.1 :: yB := by unfold y_ws; rw [hh]; rfl
  have hr := va_runSN (As := as.map y_tv) (y := me'.1) (bytes := me'.2.1) (maxL := me'.2.2.1) (ret := me'.2.2.2.1) (index := idx) (n := n) (own := me.1.cls) (host := host) (Ts := yB) (p := p) (l := l) (e := e) (R := y_rm d mc ms) (s := s) (m := m) (args := args) (below := below) (meth := meth) (c := c) (H := H) (locs := locs) (cells := cells) (slots := slots) (rest := S.map y_tv) (g := F0 m pc ls ((as.reverse ++ S).map y_tv)) (rm := y_rm d' kc' ks')
    ⟨C.1, C.2.1, C.2.2.1, C.2.2.2.2.2.1, hts⟩ (by rw [← hws]; exact y_met (hC hAs l C.2.2.2.2.2.2.2.1) kx)
    ⟨⟨⟨rfl, rfl, by show 10 + d' + 1 ≤ 10 + d; omega, by show 8 + (me'.2.2.1 + 11) + (200 + 40 * d') ≤ 200 + 40 * d; omega, (fun w hw a' U hW => by
        rcases List.mem_cons.mp hw with h | h
        · subst h; exact word_at hW (yb_good hco) (hts _ hco)
        · exact word_at hW (yb_good h) (hts _ h)), List.mem_cons_self⟩, hts _ hco, hts _ hi, hne, (fun sig hsig => by rw [hsig] at hpa; exact (Option.some.inj hpa).symm), va_Nw.use rfl (C.2.2.2.2.2.2.2.2.2.1.2.2.2.2.2.1 _ hlink)⟩, hts _ hsta, trivial⟩
    ⟨y_blind, y_pre (as := as) C hM hP hD hS⟩ rfl (by rw [List.length_map]; exact hn) hlv.1 (by rw [List.map_append, List.map_reverse]) (lv_room (by rw [y_catsum]; exact hcat)) hdg ⟨by show cells + kc' ≤ mc; omega, by show slots + ks' ≤ ms; omega⟩
  refine y_behind (a := (as.map y_tv).toArray) C h1 h2 hL hSS hS hlv ?_ hu (fun E M1 h => absurd h (kx E M1)) kk
  intro T hT X
  obtain ⟨v, st₀, t, T', L9, q1, q2, q3, q4, q5, q6, q7⟩ := hr T hT X
  exact Or.inl ⟨v, st₀, t, T', L9, q1, q2, q3, q4, q5, q6, q7⟩
/-- a weaker end -/
theorem Y.imp {Q2 : yOut → yMem → Prop} (h : Y g me d kc ks pc L S M Q) (hq : ∀ o M1, Q o M1 → Q2 o M1) : Y g me d kc ks pc L S M Q2 := by
  intro p l e s m args below meth c H locs cells slots mc ms ls C h1 h2 hM hL hS' hP hD hS hlv T hT X
  obtain ⟨t, a1, o, b1, b2, b3⟩ := h p l e s m args below meth c H locs cells slots mc ms ls C h1 h2 hM hL hS' hP hD hS hlv T hT X
  refine ⟨t, a1, o, b1, b2, ?_⟩
  rcases b3 with ⟨⟨⟨r, M1, e1, e2, e3, e4⟩, e5⟩, e6⟩ | ⟨q, e1, E, ce, L9, ⟨⟨M1, e2, e3⟩, e4⟩, e5⟩
  · exact Or.inl ⟨⟨⟨r, M1, e1, e2, hq _ _ e3, e4⟩, e5⟩, e6⟩
  · exact Or.inr ⟨q, e1, E, ce, L9, ⟨⟨M1, hq _ _ e2, e3⟩, e4⟩, e5⟩
theorem yC.imp {as : List yV} {Q2 : yOut → yMem → Prop} (h : yC g me d kc ks as M Q) (hq : ∀ o M1, Q o M1 → Q2 o M1) : yC g me d kc ks as M Q2 := by
  intro hok l hl p e ha hc hk s m args below hf happ hP hK
  obtain ⟨n, o, h1, h2, h3, h4⟩ := h hok l hl p e ha hc hk s m args below hf happ hP hK
  refine ⟨n, o, h1, h2, h3, ?_⟩
  rcases h4 with ⟨⟨⟨r, M1, e1, e2, e3, e4⟩, e5⟩, e6⟩ | ⟨q, e1, E, ce, L9, ⟨⟨M1, e2, e3⟩, e4⟩, e5⟩
  · exact Or.inl ⟨⟨⟨r, M1, e1, e2, hq _ _ e3, e4⟩, e5⟩, e6⟩
  · exact Or.inr ⟨q, e1, E, ce, L9, ⟨⟨M1, hq _ _ e2, e3⟩, e4⟩, e5⟩
end YC
