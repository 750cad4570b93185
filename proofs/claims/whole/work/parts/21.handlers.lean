/-! ===== methods with handlers: what their calls throw is caught ===== -/
def y_hnd (me : yM0) (pc : Nat) (E : String) (hpc : Nat) : Prop := ∃ (pre suf : List (Nat × Nat × Nat × Nat)) (x : Nat × Nat × Nat × Nat), me.2.2.2.2 = pre ++ x :: suf ∧ (x.1 ≤ pc ∧ pc < x.2.1) ∧ x.2.2.1 = hpc ∧ x.2.2.2 ≠ 0 ∧ Cond.classLink me.1.cls x.2.2.2 E ∈ yB ∧ E ∈ y_exs ∧ ∀ z ∈ pre, z.2.2.2 ≠ 0 ∧ ∃ nm, Cond.classLink me.1.cls z.2.2.2 nm ∈ yB ∧ (E, nm) ∈ y_nce
/-- behind a call in a method with handlers -/
theorem y_behindH {g : yG} {me : yM0} {d kc ks kc' ks' pc : Nat} {L : List (Nat × yV)} {S S0 : List yV} {Q Q' : yOut → yMem → Prop} {a : Array Value} {p : Program} {l : Launch} {e : Env} {s : State} {m : MethodId} {args : Array Value} {below : List Frame} {meth : Method} {c : Code} {H : Heap} {locs : List Loc} {cells slots mc ms : Nat} {ls : Array Slot}
    (C : y_Cx g me p l s m args meth c) (h1 : cells + (kc + kc') ≤ mc) (h2 : slots + (ks + ks') ≤ ms) (hL : ∀ q ∈ L, y_ok q.2) (hS' : ∀ v ∈ S, y_ok v) (hS : va_S (y_A g) s.heap H locs) (hlv : lv_has ls me.2.2.1 (L.map fun q => (q.1, y_tv q.2)))
    (hr : vx_Run p l e (y_rm d mc ms) s m args below meth c H locs cells slots kc' ks' (F0 m pc ls (S0.map y_tv)) (S.map y_tv) (y_Qc g Q' a) (y_XC g Q') (y_A g))
    (kx : ∀ E M1, Q' (.inr E) M1 → ∃ hpc, y_hnd me pc E hpc ∧ ∀ q : Nat, Y g me d kc ks hpc L [vr q] M1 Q) (kk : ∀ r M1, Q' (.inl r) M1 → Y g me d kc ks (pc + 3) L (r.toList ++ S) M1 Q) :
    W p l e (y_rm d mc ms) s m args below meth c H locs cells slots (vx_MQ below (y_Qc g Q) (y_XC g Q) args s mc ms (y_A g)) (F0 m pc ls (S0.map y_tv)) := by
  intro T hT X
  rcases hr T hT X with ⟨v, st₀, t, T', L9, h0, X', hL9, e1, e2, ⟨⟨r, M1, hv, hok, hq, hW⟩, hF⟩, st⟩ | ⟨q, st₀, t, T', L9, E, ce, h0, X', hL9, e1, e2, ⟨⟨M1, hq, hW⟩, hF⟩, hce, hcv, hcl, st⟩
  · cases hv
    obtain ⟨k1, k2, k3⟩ := vx_keep h0 e1 hS (fun q _ h => h) (fun q h => h) hL9 hF
    have hM1 := hW.2.1
    have hP1 : va_P g.1 y_cl (y_tw g M1) T'.heap := by rw [e1]; exact hW.2.2.1
    have hSr : ∀ w ∈ r.toList ++ S, y_ok w := by
      intro w hw
      rcases List.mem_append.mp hw with hw | hw
      · exact hok w (by cases r with
          | none => cases hw
          | some z => rw [show (some z).toList = [z] from rfl, List.mem_singleton] at hw; rw [hw])
      · exact hS' w hw
    obtain ⟨t2, a1, b1⟩ := kk r M1 hq p l e s m args below meth c T'.heap (locs ++ L9) (cells + kc') (slots + ks') mc ms ls C (by omega) (by omega) hM1 hL hSr hP1 hW.2.2.2 k3 hlv T' rfl X'
    refine ⟨t2, st t2 ?_, b1⟩
    have es : (r.map y_tv).toList ++ S.map y_tv = (r.toList ++ S).map y_tv := by
      cases r <;> simp
    show Steps p.tables e below (T'.setTop (F0 m (pc + 3) ls ((r.map y_tv).toList ++ S.map y_tv))) t2
    rw [es]
    exact a1
  · obtain ⟨k1, k2, k3⟩ := vx_keep h0 e1 hS (fun q _ h => h) (fun q h => h) hL9 hF
    obtain ⟨hpc, ⟨pre', suf', x', hsp, ⟨hx1, hx2⟩, hx3, hx4, hx5, hx6, hx7⟩, hY⟩ := kx E M1 hq
    have htab := C.2.2.2.2.2.2.2.2.1
    rw [hsp] at htab
    obtain ⟨pre, rst, q1, q2, q3⟩ := List.map_eq_append_iff.mp htab
    obtain ⟨x, suf, q4, q5, q6⟩ := List.map_eq_cons_iff.mp q3
    have hts := C.2.2.2.2.2.2.1
    have hN := C.2.2.2.2.2.2.2.2.2.1.2.2.2.2.2
    have e3 : x.handlerPc = hpc := by rw [← hx3, ← q5]
    have e4 : x.catchType = x'.2.2.2 := by rw [← q5]
    have hV : vx_W p l e (y_rm d mc ms) s m args below meth c T'.heap (locs ++ L9) (cells + kc') (slots + ks') (vx_MQ below (y_Qc g Q) (y_XC g Q) args s mc ms (y_A g)) (F0 m pc ls (S.map y_tv)) q := by
      refine vx_catch (own := me.1.cls) (name := E) (E := E) C.2.2.2.2.2.1 pre x suf (by rw [q1, q4]) ?_ ?_ (by rw [e4]; exact hx4) (by rw [e4]; exact hts _ hx5) (va_Nw.use rfl (hN.2.2.2.2.1 E hx6)) (by rw [e1]; exact hce) hcv hcl ?_
      · intro z hz
        right
        have hz2 : (z.startPc, z.endPc, z.handlerPc, z.catchType) ∈ pre' := by rw [← q2]; exact List.mem_map.mpr ⟨z, hz, rfl⟩
        obtain ⟨z0, nm, z1, z2⟩ := hx7 _ hz2
        exact ⟨z0, nm, hts _ z1, hN.2.2.2.2.2.1 _ z2⟩
      · show (decide (x.startPc ≤ pc) && decide (pc < x.endPc)) = true
        rw [show x.startPc = x'.1 by rw [← q5], show x.endPc = x'.2.1 by rw [← q5], decide_eq_true hx1, decide_eq_true hx2]; rfl
      · rw [e3]
        exact hY q p l e s m args below meth c T'.heap (locs ++ L9) (cells + kc') (slots + ks') mc ms ls C (by omega) (by omega) hW.2.1 hL (y_okc (v := vr q) trivial (fun _ h => nomatch h)) (by rw [e1]; exact hW.2.2.1) hW.2.2.2 k3 hlv
    obtain ⟨t2, a1, b1⟩ := hV T' rfl X'
    exact ⟨t2, st.trans a1, b1⟩
theorem tableOf_map (hh : List (Nat × Nat × Nat × Nat)) {c : Code} (h : c.exceptionTable.toList.map (fun x => (x.startPc, x.endPc, x.handlerPc, x.catchType)) = hh) : c.exceptionTable.toList.map (fun x => (x.startPc, x.endPc, x.handlerPc, x.catchType)) = hh := h
theorem y_ofH {g : yG} {me : yM0} {d kc ks : Nat} {as : List yV} {M : yMem} {Q : yOut → yMem → Prop} (hpl : plainName me.1.cls = true) (hh : me.2.2.2.2.isEmpty = false) (hcat : ∀ v ∈ as, y_cat v = 1) (hlen : as.length ≤ me.2.2.1) (k : Y g me d kc ks 0 (y_args 0 as) [] M Q) : yC g me d kc ks as M Q := by
  intro hok l hl
  have hws : y_ws me = Cond.codeWith me.1 me.2.1 me.2.2.1 me.2.2.2.1 me.2.2.2.2 :: yB := by unfold y_ws; rw [hh]; rfl
  refine vx_ofWH (cc := me.2.1) (maxL := me.2.2.1) (ret := me.2.2.2.1) (hh := me.2.2.2.2) (ws' := yB) hpl hws ?_
  intro p e s m args below meth c s₁ B hml hP
  obtain ⟨rfl, hW, hSt⟩ := hP
  have hts := atoms_spec (ws := y_ws me) B.pre
  have hcw : (Cond.codeWith me.1 me.2.1 me.2.2.1 me.2.2.2.1 me.2.2.2.2).before (as.map y_tv).toArray s = true := hts _ (by rw [hws]; exact List.mem_cons_self)
  have htab : c.exceptionTable.toList.map (fun x => (x.startPc, x.endPc, x.handlerPc, x.catchType)) = me.2.2.2.2 := by
    obtain ⟨m9, meth9, c9, hn9, h1, h2, -, -, h6, -⟩ := Cond.codeWith_spec hcw
    cases Option.some.inj (hn9.symm.trans B.named)
    cases Option.some.inj (h1.symm.trans B.method)
    cases Option.some.inj (h2.symm.trans (Stand.of_body B).code)
    exact h6
  have C : y_Cx g me p l s m (as.map y_tv).toArray meth c := ⟨B.exec, B.bytes, hml, B.returns, B.notSynchronized, findClass_of_methodNamed B.named, fun w hw => hts w (by rw [hws]; exact List.mem_cons_of_mem _ hw), hl, htab, hSt, hW.1, (name_of_methodNamed B.named B.method).1⟩
  have hlv := lv_entry (as.map y_tv) (n := me.2.2.1) (by rw [y_args_len as hcat]; exact hlen)
  rw [y_args_map as 0 hcat] at hlv
  rw [lg_entry_eq]
  exact k p l e s m _ below meth c s.heap [] 0 0 kc ks _ C (by omega) (by omega) hW.2.1 (y_args_ok as 0 hok) (fun _ h => nomatch h) hW.2.2.1 hW.2.2.2 va_S.rf hlv
section YH
variable {g : yG} {me : yM0} {d kc ks pc : Nat} {L : List (Nat × yV)} {S : List yV} {M : yMem} {Q : yOut → yMem → Prop}
theorem y_callVH {me' : yM0} {d' kc' ks' n idx q a ci N : Nat} {Cn : String} {T : u_T} {fs as S0 : List yV} {Q' : yOut → yMem → Prop} (hC : yC g me' d' kc' ks' (vr a :: as) M Q') (kv : y_kV me' n) (hd : d' + 1 ≤ d) (hn : as.length = n) (hc : y_cl[ci]? = some (Cn, T, N)) (hcn : me'.1.cls = Cn) (hq : M[q]? = some (a, oo ci fs))
    (hlink : Cond.methodLink me.1.cls idx me'.1 ∈ yB) (hst : S0 = as.reverse ++ vr a :: S) (hcat : (S.map y_cat).sum ≤ 8) (hdg : decode me.2.1 pc = .ok (.invokevirtual idx, 3)) (kx : ∀ E M1, Q' (.inr E) M1 → ∃ hpc, y_hnd me pc E hpc ∧ ∀ q : Nat, Y g me d kc ks hpc L [vr q] M1 Q) (kk : ∀ r M1, Q' (.inl r) M1 → Y g me d kc ks (pc + 3) L (r.toList ++ S) M1 Q) : Y g me d (kc + kc') (ks + ks') pc L S0 M Q := by
  intro p l e s m args below meth c H locs cells slots mc ms ls C h1 h2 hM hL hS' hP hD hS hlv
  subst hst
  have hts := C.2.2.2.2.2.2.1
  have hSS : ∀ v ∈ S, y_ok v := fun v hv => hS' v (List.mem_append_right _ (List.mem_cons_of_mem _ hv))
  have hAs : ∀ v ∈ vr a :: as, y_ok v := y_okc trivial (fun v hv => hS' v (List.mem_append_left _ (List.mem_reverse.mpr hv)))
  refine y_behindH C h1 h2 hL hSS hS hlv (vx_runV (As := as.map y_tv) (b := a) (C := Cn) (y := me'.1) (index := idx) (n := n) (own := me.1.cls) (Ts := yB) ⟨C.1, C.2.1, C.2.2.1, C.2.2.2.2.2.1, hts⟩ (hC hAs l C.2.2.2.2.2.2.2.1)
    ⟨y_callB C kv.1 hd hlink, hts _ kv.2.1, by rw [← hcn]; exact hts _ kv.2.2⟩
    ⟨y_blind, va_recv C.2.2.2.2.2.2.2.2.2.1.1 hP hc (y_tw_at hq), y_pre (as := vr a :: as) C hM hP hD hS⟩ rfl (by rw [List.length_map]; exact hn) hlv.1 ?_ ?_ hdg ⟨by show cells + kc' ≤ mc; omega, by show slots + ks' ≤ ms; omega⟩) kx kk
  · show List.map y_tv (as.reverse ++ vr a :: S) = (as.map y_tv).reverse ++ Value.ref a :: S.map y_tv
    rw [List.map_append, List.map_reverse]; rfl
  · exact lv_room (by rw [y_catsum]; exact hcat)
/-- a callee with handlers, static, that never throws -/
def y_kSH (me : yM0) (n : Nat) : Prop := me.2.2.2.2.isEmpty = false ∧ Cond.initialized me.1.cls ∈ yB ∧ Cond.codeWith me.1 me.2.1 me.2.2.1 me.2.2.2.1 me.2.2.2.2 ∈ yB ∧ (me.1.cls ≠ "java/lang/invoke/MethodHandle" ∧ me.1.cls ≠ "java/lang/invoke/VarHandle") ∧ (parseMethodDescriptor me.1.desc).map (fun d => d.parameters.length) = some n ∧ me.2.2.1 ≤ 20 ∧ Cond.static me.1 ∈ yB
theorem y_callSH {me' : yM0} {d' kc' ks' n idx : Nat} {as S0 : List yV} {Q' : yOut → yMem → Prop} (hC : yC g me' d' kc' ks' as M Q') (kv : y_kSH me' n) (hd : d' + 1 ≤ d) (hn : as.length = n)
    (hlink : Cond.methodLink me.1.cls idx me'.1 ∈ yB) (hst : S0 = as.reverse ++ S) (hcat : (S.map y_cat).sum ≤ 8) (hdg : decode me.2.1 pc = .ok (.invokestatic idx, 3)) (hu : y_unc me pc)
    (kx : ∀ E M1, ¬ Q' (.inr E) M1) (kk : ∀ r M1, Q' (.inl r) M1 → Y g me d kc ks (pc + 3) L (r.toList ++ S) M1 Q) : Y g me d (kc + kc') (ks + ks') pc L S0 M Q := by
  intro p l e s m args below meth c H locs cells slots mc ms ls C h1 h2 hM hL hS' hP hD hS hlv
  subst hst
  have hts := C.2.2.2.2.2.2.1
  have hSS : ∀ v ∈ S, y_ok v := fun v hv => hS' v (List.mem_append_right _ hv)
  have hAs : ∀ v ∈ as, y_ok v := fun v hv => hS' v (List.mem_append_left _ (List.mem_reverse.mpr hv))
  obtain ⟨hh, hi, hco, hne, hpa, h20, hsta⟩ := kv
  have hws : y_ws me' = Cond.codeWith me'.1 me'.2.1 me'.2.2.1 me'.2.2.2.1 me'.2.2.2.2 :: yB := by unfold y_ws; rw [hh]; rfl
  have hr := vx_runSW (As := as.map y_tv) (y := me'.1) (bytes := me'.2.1) (maxL := me'.2.2.1) (ret := me'.2.2.2.1) (hh := me'.2.2.2.2) (index := idx) (n := n) (own := me.1.cls) (Ts := yB) (p := p) (l := l) (e := e) (R := y_rm d mc ms) (s := s) (m := m) (args := args) (below := below) (meth := meth) (c := c) (H := H) (locs := locs) (cells := cells) (slots := slots) (rest := S.map y_tv) (g := F0 m pc ls ((as.reverse ++ S).map y_tv)) (rm := y_rm d' kc' ks') (mc := kc') (ms := ks')
    ⟨C.1, C.2.1, C.2.2.1, C.2.2.2.2.2.1, hts⟩ (y_met (hC hAs l C.2.2.2.2.2.2.2.1) kx)
    (vx_cwSW n hts (yG_of (fun w hw9 => by
      rcases List.mem_append.mp hw9 with h | h
      · simp only [List.mem_cons, List.not_mem_nil, or_false] at h
        rcases h with h | h | h
        · rw [h]; exact hlink
        · rw [h]; exact hsta
        · rw [h]; exact hi
      · rw [hws] at h
        rcases List.mem_cons.mp h with h | h
        · rw [h]; exact hco
        · exact h)) hws rfl rfl ⟨hne.1, hne.2, hpa⟩ ⟨by show 10 + d' + 1 ≤ 10 + d; omega, by show 8 + (me'.2.2.1 + 11) + (200 + 40 * d') ≤ 200 + 40 * d; omega⟩)
    ⟨y_blind, y_pre (as := as) C hM hP hD hS⟩ rfl (by rw [List.length_map]; exact hn) hlv.1 (by show (as.reverse ++ S).map y_tv = _; rw [List.map_append, List.map_reverse]) (lv_room (by rw [y_catsum]; exact hcat)) hdg ⟨by show cells + kc' ≤ mc; omega, by show slots + ks' ≤ ms; omega⟩
  refine y_behind (a := (as.map y_tv).toArray) C h1 h2 hL hSS hS hlv ?_ hu (fun E M1 h => absurd h (kx E M1)) kk
  intro T hT X
  obtain ⟨v, st₀, t, T', L9, q1, q2, q3, q4, q5, q6, q7⟩ := hr T hT X
  exact Or.inl ⟨v, st₀, t, T', L9, q1, q2, q3, q4, q5, q6, q7⟩
end YH
section ZH
variable {g : yG} {a : Nat → Nat} {me : yM0} {d kc ks pc : Nat} {L : List (Option zV)} {S : List zV} {μ ν : zM} {o : zO}
theorem z_ofH {as : List zV} {L : List (Option zV)} (hpl : plainName me.1.cls = true) (hh : me.2.2.2.2.isEmpty = false) (hcat : ∀ v ∈ as, zcat v = 1) (hlen : Nat.ble as.length me.2.2.1 = true) (hL : as.map some ++ List.replicate (me.2.2.1 - as.length) none = L) (k : Z g a me d kc ks 0 L [] μ o ν) : zC g a me d kc ks as μ o ν := by
  subst hL
  refine y_ofH hpl hh (fun v hv => ?_) (by rw [List.length_map]; exact Nat.ble_eq.mp hlen) ?_
  · obtain ⟨w, hw, rfl⟩ := List.mem_map.mp hv
    rw [zcat_tr]; exact hcat w hw
  · rw [← zL_args as (me.2.2.1 - as.length) 0]; exact k
theorem z_callVH1 {me' : yM0} {d' kc' ks' KC KS nn idx k c n : Nat} {as S0 : List zV} {μ1 : zM} {v : zV} (p' : Nat) (hdg : decode me.2.1 pc = .ok (.invokevirtual idx, 3)) (hp : pc + 3 = p') (hC : zC g a me' d' kc' ks' (zr k :: as) μ (.inl (some v)) μ1) (kv : y_kV me' nn) (hc : ∃ T N, y_cl[c]? = some (me'.1.cls, T, N)) (hk : zAr k (c + 10) n) (hlink : Cond.methodLink me.1.cls idx me'.1 ∈ yB) (hd : Nat.ble (d' + 1) d = true) (hn : as.length = nn) (hst : as.reverse ++ zr k :: S = S0) (hcat : Nat.ble (zs S) 8 = true) (hkc : kc + kc' = KC) (hks : ks + ks' = KS)
    (kk : Z g a me d kc ks p' L (v :: S) μ1 o ν) : Z g a me d KC KS pc L S0 μ o ν := by
  subst hp hst hkc hks
  obtain ⟨T, N, hc⟩ := hc
  unfold Z
  have e0 : tr g a (zr k) = vr (a k) := congrArg vr (zA_lt hk.1)
  have hC' : yC g me' d' kc' ks' (vr (a k) :: as.map (tr g a)) (lay g a μ) (zQ g a (.inl (some v)) μ1) := by
    have h := hC; unfold zC at h; rw [List.map_cons, e0] at h; exact h
  refine y_callVH (as := as.map (tr g a)) (S := S.map (tr g a)) hC' kv (Nat.ble_eq.mp hd) (by rw [List.length_map]; exact hn) hc rfl (zlayO hk) hlink (by rw [List.map_append, List.map_reverse, List.map_cons, e0]) (by rw [zs_eq]; exact Nat.ble_eq.mp hcat) hdg (fun E M1 h => by cases h.1) (fun r1 M1 h => ?_)
  obtain ⟨h1, rfl⟩ := h
  cases h1
  exact kk
/-- what the callee throws is caught: astore, iconst, ireturn -/
theorem z_callVHX {me' : yM0} {d' kc' ks' KC KS nn idx k c n hpc p2 : Nat} {code : Int} {as S0 : List zV} {e : Nat} (hdg : decode me.2.1 pc = .ok (.invokevirtual idx, 3)) (hC : zC g a me' d' kc' ks' (zr k :: as) μ (.inr e) ν) (kv : y_kV me' nn) (hc : ∃ T N, y_cl[c]? = some (me'.1.cls, T, N)) (hk : zAr k (c + 10) n) (hlink : Cond.methodLink me.1.cls idx me'.1 ∈ yB) (hd : Nat.ble (d' + 1) d = true) (hn : as.length = nn) (hst : as.reverse ++ zr k :: S = S0) (hcat : Nat.ble (zs S) 8 = true) (hkc : kc + kc' = KC) (hks : ks + ks' = KS)
    (hx : y_hnd me pc (zEx.getD e "") hpc) (hst2 : (∃ i : Nat, decode me.2.1 hpc = .ok (.astore i, 2) ∧ i < me.2.2.1 ∧ hpc + 2 = p2) ∨ ∃ i : Fin 4, decode me.2.1 hpc = .ok (.astore_n i, 1) ∧ (i : Nat) < me.2.2.1 ∧ hpc + 1 = p2) (d2 : decode me.2.1 p2 = .ok (.iconst code, 1)) (hcd : y_in code) (d3 : decode me.2.1 (p2 + 1) = .ok (.ireturn, 1)) (hrt : me.2.2.2.1 = some .int) : Z g a me d KC KS pc L S0 μ (.inl (some (zi code))) ν := by
  subst hst hkc hks
  obtain ⟨T, N, hc⟩ := hc
  unfold Z
  have e0 : tr g a (zr k) = vr (a k) := congrArg vr (zA_lt hk.1)
  have hC' : yC g me' d' kc' ks' (vr (a k) :: as.map (tr g a)) (lay g a μ) (zQ g a (.inr e) ν) := by
    have h := hC; unfold zC at h; rw [List.map_cons, e0] at h; exact h
  refine y_callVH (as := as.map (tr g a)) (S := S.map (tr g a)) hC' kv (Nat.ble_eq.mp hd) (by rw [List.length_map]; exact hn) hc rfl (zlayO hk) hlink (by rw [List.map_append, List.map_reverse, List.map_cons, e0]) (by rw [zs_eq]; exact Nat.ble_eq.mp hcat) hdg (fun E M1 h => ?_) (fun r1 M1 h => by cases h.1)
  obtain ⟨h1, rfl⟩ := h
  cases h1
  refine ⟨hpc, hx, fun q => ?_⟩
  have hend : ∀ L' : List (Nat × yV), Y g me d kc ks p2 L' [] (lay g a ν) (zQ g a (.inl (some (zi code))) ν) := fun L' => y_iconst d2 hcd (y_ireturn hrt rfl d3 ⟨rfl, rfl⟩)
  rcases hst2 with ⟨i, h2, h3, rfl⟩ | ⟨i, h2, h3, rfl⟩
  · exact y_astore h2 h3 rfl (hend _)
  · exact y_astore_n h2 rfl h3 rfl (hend _)
theorem z_callSH1 {me' : yM0} {d' kc' ks' KC KS nn idx : Nat} {as S0 : List zV} {μ1 : zM} {v : zV} (p' : Nat) (hdg : decode me.2.1 pc = .ok (.invokestatic idx, 3)) (hp : pc + 3 = p') (hC : zC g a me' d' kc' ks' as μ (.inl (some v)) μ1) (kv : y_kSH me' nn) (hlink : Cond.methodLink me.1.cls idx me'.1 ∈ yB) (hd : Nat.ble (d' + 1) d = true) (hn : as.length = nn) (hst : as.reverse ++ S = S0) (hcat : Nat.ble (zs S) 8 = true) (hh : me.2.2.2.2 = []) (hkc : kc + kc' = KC) (hks : ks + ks' = KS)
    (kk : Z g a me d kc ks p' L (v :: S) μ1 o ν) : Z g a me d KC KS pc L S0 μ o ν := by
  subst hp hst hkc hks
  refine y_callSH (as := as.map (tr g a)) (S := S.map (tr g a)) hC kv (Nat.ble_eq.mp hd) (by rw [List.length_map]; exact hn) hlink (by rw [List.map_append, List.map_reverse]) (by rw [zs_eq]; exact Nat.ble_eq.mp hcat) hdg (y_unc0 hh) (fun E M1 h => by cases h.1) (fun r1 M1 h => ?_)
  obtain ⟨h1, rfl⟩ := h
  cases h1
  exact kk
/-- the law's script -/
theorem z_slen {n : Int} (p' : Nat) (hdg : decode me.2.1 pc = .ok (.arraylength, 1)) (hp : pc + 1 = p') (hn : n = (g.2.2.2.2.1 : Int)) (hin : y_in n) (kk : Z g a me d kc ks p' L (zi n :: S) μ o ν) : Z g a me d kc ks pc L (zr 1050 :: S) μ o ν := by
  subst hp
  exact y_slen hn hin hdg kk
theorem z_sld {i x : Int} (p' : Nat) (hdg : decode me.2.1 pc = .ok (.iaload, 1)) (hp : pc + 1 = p') (hi : 0 ≤ i ∧ i < (g.2.2.2.2.1 : Int)) (hx : g.2.2.2.2.2 i.toNat = x) (hxi : y_in x) (kk : Z g a me d kc ks p' L (zi x :: S) μ o ν) : Z g a me d kc ks pc L (zi i :: zr 1050 :: S) μ o ν := by
  subst hp
  exact y_sld hi.1 hi.2 hx hxi hdg kk
end ZH
