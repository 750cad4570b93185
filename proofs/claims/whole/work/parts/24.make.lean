/-! ===== making: new, arrays, constructors' own rows ===== -/
theorem y_tw_app {g : yG} {M M' : yMem} : y_tw g (M ++ M') = y_tw g M ++ y_tw g M' := by unfold y_tw; rw [List.map_append]
theorem y_atX {X Z : yMem} {a : Nat} {o : yO} : (X ++ (a, o) :: Z)[X.length]? = some (a, o) := by
  rw [List.getElem?_append_right (Nat.le_refl _), Nat.sub_self]; rfl
theorem y_setX {X Z : yMem} {a : Nat} {o o' : yO} : (X ++ (a, o) :: Z).set X.length (a, o') = X ++ (a, o') :: Z := by
  rw [List.set_append_right _ _ (Nat.le_refl _), Nat.sub_self]; rfl
section YMK
variable {g : yG} {me : yM0} {d kc ks pc : Nat} {L : List (Nat × yV)} {S : List yV} {M : yMem} {Q : yOut → yMem → Prop}
theorem y_new {ci N idx : Nat} {Cn : String} {T : u_T} {fs : List yV} (hc : y_cl[ci]? = some (Cn, T, N)) (hfs : ∀ j, j < N → ∃ ty, parseFieldDescriptor (T j).2.2.1 = some ty ∧ defaultValue ty = vp_V (fs.map y_tv) j) (hok : ∀ v ∈ fs, y_ok v)
    (hcl : Cond.classLink me.1.cls idx Cn ∈ yB) (hinst : Cond.instantiable Cn N ∈ yB) (hini : Cond.initialized Cn ∈ yB) (hdg : decode me.2.1 pc = .ok (.new idx, 3)) (kk : ∀ b : Nat, Y g me d kc ks (pc + 3) L (vr b :: S) (M ++ [(b, oo ci fs)]) Q) : Y g me d (kc + 1) (ks + N) pc L S M Q := by
  intro p l e s m args below meth c H locs cells slots mc ms ls C h1 h2 hM hL hS' hP hD hS hlv
  have hts := C.2.2.2.2.2.2.1
  obtain ⟨ty0, hty0, hnm⟩ := y_clty hc
  refine va_new C.1 C.2.1 hts (y_clin hc) ty0 hty0 C.2.2.2.2.2.1 (hts _ hcl) (hts _ hinst) (hts _ hini) (y_CxS C).1 hP hD hS (fun q hq => Nat.le_trans C.2.2.2.2.2.2.2.2.2.2.1 hq) hc (fs := fs.map y_tv) (fun j hj => ?_) (by show cells + 1 ≤ mc; omega) (by show slots + N ≤ ms; omega) hdg (fun q H1 hP1 hD1 hS1 => ?_)
  · obtain ⟨ty, e1, e2⟩ := hfs j hj
    rw [hty0 j hj] at e1
    cases e1; exact e2
  · have e9 : y_tw g M ++ [(q, .inr (ci, fs.map y_tv))] = y_tw g (M ++ [(q, oo ci fs)]) := by rw [y_tw_app]; rfl
    rw [e9] at hP1 hD1
    exact kk q p l e s m args below meth c H1 locs (cells + 1) (slots + N) mc ms ls C (by omega) (by omega) (y_okM_push hM hok) hL (y_okc (v := vr q) trivial hS') hP1 hD1 hS1 hlv
theorem y_newa {t n : Nat} {at_ : ArrayType} {ty : FieldType} {o : yO} {f : vp_A} (hty : newarray.typeOf at_ = ty) (ht : t < 4) (hC : (y_C g)[t]? = some (g.2.1 t, ty)) (hnm : ∀ (s : State) (x y : ClassId), va_RA s x ty → va_RA s y ty → x = y) (ho : y_te g o = .inl (g.2.1 t, f)) (hf : ∀ cA : ClassId, vp_cell cA f = arrV cA n (fun _ => defaultValue ty)) (hok : y_okO o) (hb8 : n * componentBytes ty ≤ 536870912)
    (hw : Cond.arrayClass (newarray.typeOf at_) ∈ yB) (hdg : decode me.2.1 pc = .ok (.newarray at_, 2)) (kk : ∀ b : Nat, Y g me d kc ks (pc + 2) L (vr b :: S) (M ++ [(b, o)]) Q) : Y g me d (kc + 1) (ks + n) pc L (vi (n : Int) :: S) M Q := by
  intro p l e s m args below meth c H locs cells slots mc ms ls C h1 h2 hM hL hS' hP hD hS hlv
  obtain ⟨hv, hS'⟩ := List.forall_mem_cons.mp hS'
  have hts := C.2.2.2.2.2.2.1
  have hK := (y_CxS C).1
  have hn0 : ¬ Int32.ofInt (n : Int) < 0 := by
    rw [show (0 : Int32) = Int32.ofInt 0 from rfl, y_lt hv y_in0]; omega
  refine va_newa C.1 C.2.1 (hts _ hw) hty hK hP hD hS (fun q hq => Nat.le_trans C.2.2.2.2.2.2.2.2.2.2.1 hq) (n := Int32.ofInt (n : Int)) (N' := n) (a0 := f) hf hn0 (by rw [y_clamp hv]; rfl) hb8 (by show cells + 1 ≤ mc; omega) (by show slots + n ≤ ms; omega) hdg (fun q cA H1 hK1 hP1 hD1 hS1 => ?_)
  have hcA : cA = g.2.1 t := hnm s _ _ (hK1.2 6 (cA, ty) rfl).2 (hK.2 t _ hC).2
  subst hcA
  have e9 : y_tw g M ++ [(q, .inl (g.2.1 t, f))] = y_tw g (M ++ [(q, o)]) := by
    rw [y_tw_app]
    show _ = y_tw g M ++ [(q, y_te g o)]
    rw [ho]
  rw [e9] at hP1 hD1
  exact kk q p l e s m args below meth c H1 locs (cells + 1) (slots + n) mc ms ls C (by omega) (by omega) (y_okM_push hM hok) hL (y_okc (v := vr q) trivial hS') hP1 hD1 hS1 hlv
theorem y_RAi (s : State) (x y : ClassId) (h1 : va_RA s x .int) (h2 : va_RA s y .int) : x = y := Option.some.inj ((show s.vm.findClass _ = some x from h1).symm.trans h2)
theorem y_RAc (s : State) (x y : ClassId) (h1 : va_RA s x .char) (h2 : va_RA s y .char) : x = y := Option.some.inj ((show s.vm.findClass _ = some x from h1).symm.trans h2)
theorem y_RAl (s : State) (x y : ClassId) (h1 : va_RA s x .long) (h2 : va_RA s y .long) : x = y := Option.some.inj ((show s.vm.findClass _ = some x from h1).symm.trans h2)
theorem y_RAd (s : State) (x y : ClassId) (h1 : va_RA s x .double) (h2 : va_RA s y .double) : x = y := Option.some.inj ((show s.vm.findClass _ = some x from h1).symm.trans h2)
theorem y_RAa (s : State) (x y : ClassId) (h1 : va_RA s x (.array .int)) (h2 : va_RA s y (.array .int)) : x = y := Option.some.inj ((show s.vm.findClass _ = some x from h1).symm.trans h2)
theorem y_RAo (s : State) (x y : ClassId) (h1 : va_RA s x (.object RX2)) (h2 : va_RA s y (.object RX2)) : x = y := by
  obtain ⟨_, _, _, _, _, e1⟩ := h1
  obtain ⟨_, _, _, _, _, e2⟩ := h2
  exact Option.some.inj (e1.symm.trans e2)
theorem zca_zero (n j : Nat) : (zca n (fun _ => 0)).getD j 0 = 0 := by rw [zca_getD]; split <;> rfl
theorem z0_te (n : Nat) : y_te g (oi (zca n (fun _ => 0))) = .inl (g.2.1 0, n, .inl (fun _ => 0)) := by
  show (Sum.inl (g.2.1 0, (zca n (fun _ => 0)).length, .inl (fun j => Int32.ofInt ((zca n (fun _ => 0)).getD j 0))) : va_E) = _
  rw [zca_len]
  refine congrArg (fun f => (Sum.inl (g.2.1 0, n, .inl f) : va_E)) (funext fun j => ?_)
  rw [zca_zero]; rfl
theorem z0_in : y_in 0 := ⟨by decide, by decide⟩
theorem z0_inC : (0 : Int) ≤ 0 ∧ (0 : Int) ≤ 65535 := by decide
theorem z0_inL : y_inL 0 := ⟨by decide, by decide⟩
theorem y_newI {n : Nat} (hn : n ≤ 100000) (hdg : decode me.2.1 pc = .ok (.newarray .int, 2)) (kk : ∀ b : Nat, Y g me d kc ks (pc + 2) L (vr b :: S) (M ++ [(b, oi (zca n (fun _ => 0)))]) Q) : Y g me d (kc + 1) (ks + n) pc L (vi (n : Int) :: S) M Q := by
  refine y_newa (t := 0) (ty := .int) (o := oi (zca n (fun _ => 0))) (f := (n, .inl (fun _ => 0))) rfl (by decide) rfl y_RAi ?_ (fun _ => rfl) ⟨fun x hx => ?_, by rw [zca_len]; omega⟩ (by show n * 4 ≤ _; omega) (yb 205 (by decide +kernel) rfl) hdg kk
  · show (Sum.inl (g.2.1 0, (zca n (fun _ => 0)).length, .inl (fun j => Int32.ofInt ((zca n (fun _ => 0)).getD j 0))) : va_E) = _
    rw [zca_len]
    refine congrArg (fun f => (Sum.inl (g.2.1 0, n, .inl f) : va_E)) (funext fun j => ?_)
    rw [zca_zero]; rfl
  · unfold zca at hx
    obtain ⟨_, _, rfl⟩ := List.mem_map.mp hx
    exact z0_in
theorem y_newC {n : Nat} (hn : n ≤ 100000) (hdg : decode me.2.1 pc = .ok (.newarray .char, 2)) (kk : ∀ b : Nat, Y g me d kc ks (pc + 2) L (vr b :: S) (M ++ [(b, oc (zca n (fun _ => 0)))]) Q) : Y g me d (kc + 1) (ks + n) pc L (vi (n : Int) :: S) M Q := by
  refine y_newa (t := 1) (ty := .char) (o := oc (zca n (fun _ => 0))) (f := (n, .inl (fun _ => 0))) rfl (by decide) rfl y_RAc ?_ (fun _ => rfl) ⟨fun x hx => ?_, by rw [zca_len]; omega⟩ (by show n * 2 ≤ _; omega) (yb 315 (by decide +kernel) rfl) hdg kk
  · show (Sum.inl (g.2.1 1, (zca n (fun _ => 0)).length, .inl (fun j => Int32.ofInt ((zca n (fun _ => 0)).getD j 0))) : va_E) = _
    rw [zca_len]
    refine congrArg (fun f => (Sum.inl (g.2.1 1, n, .inl f) : va_E)) (funext fun j => ?_)
    rw [zca_zero]; rfl
  · unfold zca at hx
    obtain ⟨_, _, rfl⟩ := List.mem_map.mp hx
    exact z0_inC
theorem y_newL {n : Nat} (hn : n ≤ 100000) (hdg : decode me.2.1 pc = .ok (.newarray .long, 2)) (kk : ∀ b : Nat, Y g me d kc ks (pc + 2) L (vr b :: S) (M ++ [(b, ol (zca n (fun _ => 0)))]) Q) : Y g me d (kc + 1) (ks + n) pc L (vi (n : Int) :: S) M Q := by
  refine y_newa (t := 2) (ty := .long) (o := ol (zca n (fun _ => 0))) (f := (n, .inr (.inl (fun _ => 0)))) rfl (by decide) rfl y_RAl ?_ (fun _ => rfl) ⟨fun x hx => ?_, by rw [zca_len]; omega⟩ (by show n * 8 ≤ _; omega) (yb 1841 (by decide +kernel) rfl) hdg kk
  · show (Sum.inl (g.2.1 2, (zca n (fun _ => 0)).length, .inr (.inl (fun j => Int64.ofInt ((zca n (fun _ => 0)).getD j 0)))) : va_E) = _
    rw [zca_len]
    refine congrArg (fun f => (Sum.inl (g.2.1 2, n, .inr (.inl f)) : va_E)) (funext fun j => ?_)
    rw [zca_zero]; rfl
  · unfold zca at hx
    obtain ⟨_, _, rfl⟩ := List.mem_map.mp hx
    exact z0_inL
theorem y_newD {n : Nat} (hn : n ≤ 100000) (hdg : decode me.2.1 pc = .ok (.newarray .double, 2)) (kk : ∀ b : Nat, Y g me d kc ks (pc + 2) L (vr b :: S) (M ++ [(b, od ((zca n (fun _ => 0)).map fp_u))]) Q) : Y g me d (kc + 1) (ks + n) pc L (vi (n : Int) :: S) M Q := by
  refine y_newa (t := 3) (ty := .double) (o := od ((zca n (fun _ => 0)).map fp_u)) (f := (n, .inr (.inr (.inr (.inl (fun _ => 0)))))) rfl (by decide) rfl y_RAd ?_ (fun _ => rfl) (show ((zca n (fun _ => 0)).map fp_u).length < _ by rw [List.length_map, zca_len]; omega) (by show n * 8 ≤ _; omega) (yb 1842 (by decide +kernel) rfl) hdg kk
  show (Sum.inl (g.2.1 3, ((zca n (fun _ => 0)).map fp_u).length, .inr (.inr (.inr (.inl (fun j => ((zca n (fun _ => 0)).map fp_u).getD j 0))))) : va_E) = _
  rw [List.length_map, zca_len]
  refine congrArg (fun f => (Sum.inl (g.2.1 3, n, .inr (.inr (.inr (.inl f)))) : va_E)) (funext fun j => ?_)
  unfold zca
  rw [List.map_map, List.getD_eq_getElem?_getD, List.getElem?_map]
  by_cases h : j < n
  · rw [List.getElem?_range h]; rfl
  · rw [List.getElem?_eq_none (by rw [List.length_range]; omega)]; rfl
/-- new House[n] -/
theorem y_newQ {n idx : Nat} (hn : n ≤ 100000) (hcl : Cond.classLink me.1.cls idx RX2 ∈ yB) (hdg : decode me.2.1 pc = .ok (.anewarray idx, 3)) (kk : ∀ b : Nat, Y g me d kc ks (pc + 3) L (vr b :: S) (M ++ [(b, oq 4 (List.replicate n none))]) Q) : Y g me d (kc + 1) (ks + n) pc L (vi (n : Int) :: S) M Q := by
  intro p l e s m args below meth c H locs cells slots mc ms ls C h1 h2 hM hL hS' hP hD hS hlv
  obtain ⟨hv, hS'⟩ := List.forall_mem_cons.mp hS'
  have hts := C.2.2.2.2.2.2.1
  have hK := (y_CxS C).1
  have hn0 : ¬ Int32.ofInt (n : Int) < 0 := by
    rw [show (0 : Int32) = Int32.ofInt 0 from rfl, y_lt hv y_in0]; omega
  refine va_newq C.1 C.2.1 C.2.2.2.2.2.1 (hts _ hcl) ((y_CxS C).2.2.2.2.2.2.2.1) hK hP hD hS (fun q hq => Nat.le_trans C.2.2.2.2.2.2.2.2.2.2.1 hq) (n := Int32.ofInt (n : Int)) (N' := n) hn0 (by rw [y_clamp hv]; rfl) (by omega) (by show cells + 1 ≤ mc; omega) (by show slots + n ≤ ms; omega) hdg (fun q cA H1 hK1 hP1 hD1 hS1 => ?_)
  have hcA : cA = g.2.1 4 := y_RAo s _ _ (hK1.2 6 (cA, .object RX2) rfl).2 (hK.2 4 _ rfl).2
  subst hcA
  have e9 : y_tw g M ++ [(q, .inl (g.2.1 4, n, .inr (.inr (.inr (.inr (fun _ => none))))))] = y_tw g (M ++ [(q, oq 4 (List.replicate n none))]) := by
    rw [y_tw_app]
    show _ = y_tw g M ++ [(q, (Sum.inl (g.2.1 4, (List.replicate n (none : Option Nat)).length, .inr (.inr (.inr (.inr (fun j => (List.replicate n (none : Option Nat)).getD j none))))) : va_E))]
    rw [List.length_replicate]
    refine congrArg (fun f => y_tw g M ++ [(q, (Sum.inl (g.2.1 4, n, .inr (.inr (.inr (.inr f)))) : va_E))]) (funext fun j => ?_)
    rw [List.getD_eq_getElem?_getD, List.getElem?_replicate]
    split <;> rfl
  rw [e9] at hP1 hD1
  exact kk q p l e s m args below meth c H1 locs (cells + 1) (slots + n) mc ms ls C (by omega) (by omega) (y_okM_push hM (show (List.replicate n (none : Option Nat)).length < 2147483648 by rw [List.length_replicate]; omega)) hL (y_okc (v := vr q) trivial hS') hP1 hD1 hS1 hlv
theorem y_aastore {q qk a v : Nat} {fs : List (Option Nat)} {vs : List yV} {i : Int} (hq : M[q]? = some (a, oq 4 fs)) (hv9 : M[qk]? = some (v, oo 1 vs)) (h0 : 0 ≤ i) (hn : i < fs.length) (hdg : decode me.2.1 pc = .ok (.aastore, 1)) (kk : Y g me d kc ks (pc + 1) L S (M.set q (a, oq 4 (fs.set i.toNat (some v)))) Q) : Y g me d kc ks pc L (vr v :: vi i :: vr a :: S) M Q := by
  intro p l e s m args below meth c H locs cells slots mc ms ls C h1 h2 hM hL hS' hP hD hS hlv
  obtain ⟨-, hS'⟩ := List.forall_mem_cons.mp hS'
  obtain ⟨hv, hS'⟩ := List.forall_mem_cons.mp hS'
  obtain ⟨-, hS'⟩ := List.forall_mem_cons.mp hS'
  have hK := (y_CxS C).1
  have hlen := y_okM_at hM hq
  refine va_astq (r := (RX2, TX2, 17)) C.1 C.2.1 hK hP hD hS q 4 qk 1 (y_tw_at hq) rfl (y_tw_at hv9) rfl (y_idx hv h0 hn) hdg (fun H1 locs1 hP1 hD1 hS1 => ?_)
  have e9 : ((a, .inl (g.2.1 4, fs.length, .inr (.inr (.inr (.inr (va_up (fun j => fs.getD j none) (Int32.ofInt i).toNatClampNeg (some v))))))) : Nat × va_E) = (a, y_te g (oq 4 (fs.set i.toNat (some v)))) := by
    show _ = (a, (Sum.inl (g.2.1 4, (fs.set i.toNat (some v)).length, .inr (.inr (.inr (.inr (fun j => (fs.set i.toNat (some v)).getD j none))))) : va_E))
    rw [List.length_set, y_clamp hv]
    refine congrArg (fun f => ((a, (Sum.inl (g.2.1 4, fs.length, .inr (.inr (.inr (.inr f)))) : va_E)) : Nat × va_E)) (funext fun j => ?_)
    unfold va_up
    rw [y_getD_set (by omega)]
  rw [e9, y_tw_set] at hP1 hD1
  exact kk p l e s m args below meth c H1 locs1 cells slots mc ms ls C h1 h2 (y_okM_set hM (show (fs.set i.toNat (some v)).length < 2147483648 by rw [List.length_set]; exact hlen)) hL hS' hP1 hD1 hS1 hlv
/-- new int[6][6] -/
theorem y_mna {idx : Nat} (hcl : Cond.classLink me.1.cls idx "[[I" ∈ yB) (hdg : decode me.2.1 pc = .ok (.multianewarray idx 2, 4))
    (kk : ∀ (b : Nat) (r : Nat → Nat), Y g me d kc ks (pc + 4) L (vr b :: S) (M ++ (b, oq 5 ((List.range 6).map fun i => some (r i))) :: (List.range 6).map fun i => (r i, oi (zca 6 (fun _ => 0)))) Q) : Y g me d (kc + 7) (ks + 42) pc L (vi 6 :: vi 6 :: S) M Q := by
  intro p l e s m args below meth c H locs cells slots mc ms ls C h1 h2 hM hL hS' hP hD hS hlv
  obtain ⟨-, hS'⟩ := List.forall_mem_cons.mp hS'
  obtain ⟨-, hS'⟩ := List.forall_mem_cons.mp hS'
  have hts := C.2.2.2.2.2.2.1
  have hK := (y_CxS C).1
  refine va_mna (X := y_tw g M) (L := []) (f := fun _ => .inl (g.2.1 0, 0, .inl (fun _ => 0))) (ty := .int) (cy := g.2.1 0) (N' := 6) (K' := 6) (z := (6, .inl (fun _ => 0))) C.1 C.2.1 C.2.2.2.2.2.1 (hts _ hcl) ((y_CxS C).2.2.2.2.2.2.2.2.1) (hts _ (yb 205 (by decide +kernel) rfl)) (va_nm_int (hK.2 0 _ rfl).2) hK (by show va_P _ _ (y_tw g M ++ []) H; rw [List.append_nil]; exact hP) (by show va_D _ (y_tw g M ++ []); rw [List.append_nil]; exact hD) hS (fun q hq => Nat.le_trans C.2.2.2.2.2.2.2.2.2.2.1 hq) (n := 6) (k := 6) (by decide) (by decide) rfl rfl (by decide) (by decide) (by decide) rfl rfl (by show cells + (1 + 6) ≤ mc; omega) (by show slots + (6 + 6 * 6) ≤ ms; omega) (fun _ => rfl) hdg (fun q r cA H1 hr1 hr2 hK1 hP1 hD1 hS1 => ?_)
  have hcA : cA = g.2.1 5 := y_RAa s _ _ (hK1.2 6 (cA, .array .int) rfl).2 (hK.2 5 _ rfl).2
  subst hcA
  have e9 : (y_tw g M ++ [(q, .inl (g.2.1 5, 6, .inr (.inr (.inr (.inr (fun i => if i < 6 then some (r i) else none))))))]) ++ va_pl ([] ++ (List.range 6).map r) (vr_up (fun _ => .inl (g.2.1 0, 0, .inl (fun _ => 0))) ((List.range 6).map r) (.inl (g.2.1 0, 6, .inl (fun _ => 0)))) = y_tw g (M ++ (q, oq 5 ((List.range 6).map fun i => some (r i))) :: (List.range 6).map fun i => (r i, oi (zca 6 (fun _ => 0)))) := by
    rw [y_tw_app, List.append_assoc]
    refine congrArg (fun z => y_tw g M ++ z) ?_
    have e1 : (fun i => if i < 6 then some (r i) else none) = (fun j => ((List.range 6).map fun i => some (r i)).getD j none) := by
      funext j
      rw [List.getD_eq_getElem?_getD, List.getElem?_map]
      by_cases h : j < 6
      · rw [if_pos h, List.getElem?_range h]; rfl
      · rw [if_neg h, List.getElem?_eq_none (by rw [List.length_range]; omega)]; rfl
    rw [e1]
    show _ = (q, y_te g (oq 5 ((List.range 6).map fun i => some (r i)))) :: y_tw g ((List.range 6).map fun i => (r i, oi (zca 6 (fun _ => 0))))
    refine congrArg (fun z => (q, y_te g (oq 5 ((List.range 6).map fun i => some (r i)))) :: z) ?_
    unfold va_pl y_tw
    rw [List.nil_append, List.map_map, List.map_map]
    apply List.map_congr_left
    intro i hi
    show (r i, vr_up _ _ _ (r i)) = (r i, y_te g (oi (zca 6 (fun _ => 0))))
    rw [vr_up_in (List.mem_map.mpr ⟨i, hi, rfl⟩), z0_te]
  rw [e9] at hP1 hD1
  refine kk q r p l e s m args below meth c H1 locs (cells + 1 + 6) (slots + 6 + 6 * 6) mc ms ls C (by omega) (by omega) (fun x hx => ?_) hL (y_okc (v := vr q) trivial hS') hP1 hD1 hS1 hlv
  rcases List.mem_append.mp hx with hx | hx
  · exact hM x hx
  rcases List.mem_cons.mp hx with hx | hx
  · rw [hx]; exact (by decide : (6 : Nat) < 2147483648)
  · obtain ⟨i, -, rfl⟩ := List.mem_map.mp hx
    refine ⟨fun x hx => ?_, by rw [zca_len]; decide⟩
    unfold zca at hx
    obtain ⟨_, _, rfl⟩ := List.mem_map.mp hx
    exact z0_in
/-- Object.<init> -/
theorem y_objInit {idx a : Nat} (hw1 : Cond.methodLink me.1.cls idx Lib.objectInit ∈ yB) (hw2 : Cond.instanceMethod Lib.objectInit ∈ yB) (hw3 : Cond.code Lib.objectInit ⟨#[0xb1]⟩ 1 none ∈ yB) (hcat : (S.map y_cat).sum ≤ 8) (hdg : decode me.2.1 pc = .ok (.invokespecial idx, 3)) (kk : Y g me d kc ks (pc + 3) L S M Q) : Y g me d kc ks pc L (vr a :: S) M Q := by
  intro p l e s m args below meth c H locs cells slots mc ms ls C h1 h2 hM hL hS' hP hD hS hlv
  obtain ⟨-, hS'⟩ := List.forall_mem_cons.mp hS'
  have hts := C.2.2.2.2.2.2.1
  refine W.objInit C.1 C.2.1 C.2.2.2.2.2.1 (hts _ hw1) (hts _ hw2) (hts _ hw3) rfl (by rw [C.2.2.1]; exact hlv.1) rfl hdg (by show 1 ≤ 10 + d; omega) (by show 2 * 0 + ((S.map y_tv).map fun v => v.category).sum + 12 ≤ 200 + 40 * d; rw [y_catsum]; omega) ?_
  exact W.eq (g2 := F0 m (pc + 3) ls (S.map y_tv)) rfl (kk p l e s m args below meth c H locs cells slots mc ms ls C h1 h2 hM hL hS' hP hD hS hlv)
theorem y_putF {ci N idx q a : Nat} {Cn : String} {T : u_T} {fs : List yV} {v : yV} {ty : FieldType} (hc : y_cl[ci]? = some (Cn, T, N)) (hq : M[q]? = some (a, oo ci fs)) (k : Nat) (hk : k < N) (hlink : Cond.fieldLink me.1.cls idx (T k).1 (T k).2.1 (T k).2.2.1 ∈ yB) (hfin : (T k).2.2.2 = true) (hin2 : me.1.name = "<init>") (hdecl : (T k).1 = me.1.cls) (hty : parseFieldDescriptor (T k).2.2.1 = some ty) (hn : narrow ty (y_tv v) = y_tv v) (hfit : fits ty (y_tv v) = true) (hl : k < fs.length) (hdg : decode me.2.1 pc = .ok (.putfield idx, 3)) (kk : Y g me d kc ks (pc + 3) L S (M.set q (a, oo ci (fs.set k v))) Q) : Y g me d kc ks pc L (v :: vr a :: S) M Q := by
  intro p l e s m args below meth c H locs cells slots mc ms ls C h1 h2 hM hL hS' hP hD hS hlv
  obtain ⟨hv, hS'⟩ := List.forall_mem_cons.mp hS'
  obtain ⟨hw, hS'⟩ := List.forall_mem_cons.mp hS'
  have hO : ∀ v ∈ fs, y_ok v := y_okM_at hM hq
  obtain ⟨ty0, hty0, hnm⟩ := y_clty hc
  refine va_putF C.1 C.2.1 C.2.2.2.2.2.2.1 (y_clin hc) ty0 hty0 hnm C.2.2.2.2.2.1 C.2.2.2.2.2.2.2.2.2.1.1 hP hD hS q (y_tw_at hq) hc k hk (C.2.2.2.2.2.2.1 _ hlink) (fun _ h9 => h9) hfin (C.2.2.2.2.2.2.2.2.2.2.2.trans hin2) hdecl hty hn hfit (by rw [List.length_map]; exact hl) hdg (fun H1 locs1 hP1 hD1 hS1 => ?_)
  rw [← List.map_set] at hP1 hD1
  rw [show (Sum.inr (ci, (fs.set k v).map y_tv) : va_E) = y_te g (oo ci (fs.set k v)) from rfl, y_tw_set] at hP1 hD1
  exact (kk p l e s m args below meth c H1 locs1 cells slots mc ms ls C h1 h2 (y_okM_set hM (show y_okO (oo ci (fs.set k v)) from y_mem_set hO hv)) hL hS' hP1 hD1 hS1 hlv)
/-- a field of the object at hand -/
theorem y_putX {ci N idx a : Nat} {X Z : yMem} {Cn : String} {T : u_T} {fs fs' : List yV} {v : yV} {ty : FieldType} (k : Nat) (hc : y_cl[ci]? = some (Cn, T, N)) (hk : k < N) (hlink : Cond.fieldLink me.1.cls idx (T k).1 (T k).2.1 (T k).2.2.1 ∈ yB) (hin2 : me.1.name = "<init>") (hdecl : (T k).1 = me.1.cls) (hty : parseFieldDescriptor (T k).2.2.1 = some ty) (hn : narrow ty (y_tv v) = y_tv v) (hfit : fits ty (y_tv v) = true) (hl : k < fs.length) (hfs : fs.set k v = fs') (hdg : decode me.2.1 pc = .ok (.putfield idx, 3)) (kk : Y g me d kc ks (pc + 3) L S (X ++ (a, oo ci fs') :: Z) Q) : Y g me d kc ks pc L (v :: vr a :: S) (X ++ (a, oo ci fs) :: Z) Q := by
  subst hfs
  rw [← y_setX (o := oo ci fs)] at kk
  cases hfin : (T k).2.2.2 with
  | true => exact y_putF hc y_atX k hk hlink hfin hin2 hdecl hty hn hfit hl hdg kk
  | false => exact y_putf hc y_atX k hk hlink hfin hty hn hfit hl hdg kk
theorem y_memEq {M' : yMem} (h : M = M') (k : Y g me d kc ks pc L S M' Q) : Y g me d kc ks pc L S M Q := by subst h; exact k
theorem y_monoK {KC KS : Nat} (h1 : kc ≤ KC) (h2 : ks ≤ KS) (k : Y g me d kc ks pc L S M Q) : Y g me d KC KS pc L S M Q := by
  intro p l e s m args below meth c H locs cells slots mc ms ls C h3 h4
  exact k p l e s m args below meth c H locs cells slots mc ms ls C (by omega) (by omega)
/-- a constructor of this class or another one that never throws -/
theorem y_callI {me' : yM0} {d' kc' ks' n idx a : Nat} {as S0 : List yV} {Q' : yOut → yMem → Prop} (hC : yC g me' d' kc' ks' (vr a :: as) M Q') (kv : y_kB me' n) (hI : me'.1.name = "<init>" ∧ Cond.instanceMethod me'.1 ∈ yB) (hret : me'.2.2.2.1 = none) (hd : d' + 1 ≤ d) (hn : as.length = n)
    (hlink : Cond.methodLink me.1.cls idx me'.1 ∈ yB ∨ ∃ host, (me.1.cls, idx, me'.1, host) ∈ y_nwM) (hst : S0 = as.reverse ++ vr a :: S) (hcat : (S.map y_cat).sum ≤ 8) (hdg : decode me.2.1 pc = .ok (.invokespecial idx, 3)) (hu : y_unc me pc)
    (kx : ∀ E M1, ¬ Q' (.inr E) M1) (kk : ∀ r M1, Q' (.inl r) M1 → Y g me d kc ks (pc + 3) L (r.toList ++ S) M1 Q) : Y g me d (kc + kc') (ks + ks') pc L S0 M Q := by
  intro p l e s m args below meth c H locs cells slots mc ms ls C h1 h2 hM hL hS' hP hD hS hlv
  subst hst
  have hts := C.2.2.2.2.2.2.1
  have hSS : ∀ v ∈ S, y_ok v := fun v hv => hS' v (List.mem_append_right _ (List.mem_cons_of_mem _ hv))
  have hAs : ∀ v ∈ vr a :: as, y_ok v := y_okc trivial (fun v hv => hS' v (List.mem_append_left _ (List.mem_reverse.mpr hv)))
  have hmet := y_met (hC hAs l C.2.2.2.2.2.2.2.1) kx
  have hws : y_ws me' = Cond.code me'.1 me'.2.1 me'.2.2.1 none :: yB := by unfold y_ws; rw [kv.1, hret]; rfl
  have hkv := kv
  obtain ⟨hh, hi, hco, hne, hpa, h20⟩ := hkv
  rw [hret] at hco
  have hgd : ∀ w ∈ y_ws me', ∀ (a' : Array Value) (U : State), s.WarmedH U.vm → w.before a' U = true := fun w hw a' U hW => by
    rw [hws] at hw
    rcases List.mem_cons.mp hw with h | h
    · subst h; exact word_at hW (yb_good hco) (hts _ hco)
    · exact word_at hW (yb_good h) (hts _ h)
  have hr : va_Run p l e (y_rm d mc ms) s m args below meth c H locs cells slots kc' ks' (F0 m pc ls ((as.reverse ++ vr a :: S).map y_tv)) (S.map y_tv) (y_Qc g Q' ((vr a :: as).map y_tv).toArray) (y_A g) := by
    have hstk : (F0 m pc ls ((as.reverse ++ vr a :: S).map y_tv)).stack = (as.map y_tv).reverse ++ .ref a :: S.map y_tv := by
      show (as.reverse ++ vr a :: S).map y_tv = _
      rw [List.map_append, List.map_reverse]; rfl
    rcases hlink with hlink | ⟨host, hlink⟩
    · exact va_runI (As := as.map y_tv) (b := a) (y := me'.1) (bytes := me'.2.1) (maxL := me'.2.2.1) (index := idx) (n := n) (own := me.1.cls) (Ts := yB) ⟨C.1, C.2.1, C.2.2.1, C.2.2.2.2.2.1, hts⟩ hmet
        ⟨by have h9 := y_callB (mc := mc) (ms := ms) (kc' := kc') (ks' := ks') C kv hd hlink; rw [hret] at h9; exact h9, hI.1, hts _ hI.2⟩ ⟨y_blind, y_pre (as := vr a :: as) C hM hP hD hS⟩ rfl (by rw [List.length_map]; exact hn) hlv.1 hstk (lv_room (by rw [y_catsum]; exact hcat)) hdg ⟨by show cells + kc' ≤ mc; omega, by show slots + ks' ≤ ms; omega⟩
    · exact va_runIN (As := as.map y_tv) (b := a) (y := me'.1) (bytes := me'.2.1) (maxL := me'.2.2.1) (index := idx) (n := n) (own := me.1.cls) (host := host) (Ts := yB) ⟨C.1, C.2.1, C.2.2.1, C.2.2.2.2.2.1, hts⟩ hmet
        ⟨⟨⟨rfl, rfl, by show 10 + d' + 1 ≤ 10 + d; omega, by show 8 + (me'.2.2.1 + 11) + (200 + 40 * d') ≤ 200 + 40 * d; omega, hgd, by rw [hws]; exact List.mem_cons_self⟩, hts _ hco, hts _ hi, hne, (fun sig hsig => by rw [hsig] at hpa; exact (Option.some.inj hpa).symm), va_Nw.use rfl ((y_CxS C).2.2.2.2.2.1 _ hlink)⟩, hI.1, hts _ hI.2⟩ ⟨y_blind, y_pre (as := vr a :: as) C hM hP hD hS⟩ rfl (by rw [List.length_map]; exact hn) hlv.1 hstk (lv_room (by rw [y_catsum]; exact hcat)) hdg ⟨by show cells + kc' ≤ mc; omega, by show slots + ks' ≤ ms; omega⟩
  refine y_behind (a := ((vr a :: as).map y_tv).toArray) C h1 h2 hL hSS hS hlv ?_ hu (fun E M1 h => absurd h (kx E M1)) kk
  intro T hT X
  obtain ⟨v, st₀, t, T', L9, q1, q2, q3, q4, q5, q6, q7⟩ := hr T hT X
  exact Or.inl ⟨v, st₀, t, T', L9, q1, q2, q3, q4, q5, q6, q7⟩
end YMK
