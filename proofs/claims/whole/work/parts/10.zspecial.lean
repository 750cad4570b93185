/-! ===== rows of Z for constants, copies, throws, switches ===== -/
theorem bnd2_some {α β : Type} {x : Option (α × zM)} {f : α → zM → Option β} {r : β} (h : bnd2 x f = some r) : ∃ v m, x = some (v, m) ∧ f v m = some r := by
  unfold bnd2 at h
  cases x with
  | none => cases h
  | some q => exact ⟨q.1, q.2, rfl, h⟩
theorem bndS_some {α β : Type} {x : Option (Int ⊕ α)} {f : Int → Option β} {k : α → Option β} {r : β} (h : bndS x f k = some r) : (∃ v, x = some (.inl v) ∧ f v = some r) ∨ ∃ t, x = some (.inr t) ∧ k t = some r := by
  unfold bndS at h
  cases x with
  | none => cases h
  | some q =>
    rcases q with v | t
    · exact Or.inl ⟨v, rfl, h⟩
    · exact Or.inr ⟨t, rfl, h⟩
theorem bndS2_some {α β : Type} {x : Option ((Int ⊕ α) × zM)} {f : Int → zM → Option β} {k : α → zM → Option β} {r : β} (h : bndS2 x f k = some r) : (∃ v m, x = some (.inl v, m) ∧ f v m = some r) ∨ ∃ t m, x = some (.inr t, m) ∧ k t m = some r := by
  unfold bndS2 at h
  cases x with
  | none => cases h
  | some q =>
    obtain ⟨q, m⟩ := q
    rcases q with v | t
    · exact Or.inl ⟨v, m, rfl, h⟩
    · exact Or.inr ⟨t, m, rfl, h⟩
theorem bndT_some {β : Type} {x : Option ((Int ⊕ Nat) × zM)} {f : Int → zM → Option β} {k : Nat → zM → Option β} {r : β} (h : bndT x f k = some r) : (∃ v m, x = some (.inl v, m) ∧ f v m = some r) ∨ ∃ t m, x = some (.inr t, m) ∧ k t m = some r := by
  unfold bndT at h
  cases x with
  | none => cases h
  | some q =>
    obtain ⟨q, m⟩ := q
    rcases q with v | t
    · exact Or.inl ⟨v, m, rfl, h⟩
    · exact Or.inr ⟨t, m, rfl, h⟩
theorem zle_nil : zle [] [] := trivial
theorem zle_s {v : zV} {l l' : List (Option zV)} (h : zle l l') : zle (some v :: l) (some v :: l') := ⟨rfl, h⟩
theorem zle_n {w : Option zV} {l l' : List (Option zV)} (h : zle l l') : zle (none :: l) (w :: l') := h
abbrev zkd (e : Int) : zV := zr (1000 + e.toNat)
abbrev zre (e : Int) : zV := zr (1010 + e.toNat)
abbrev zsg (e : Int) : zV := zr (1030 + e.toNat)
theorem y_arraycopy' {g : yG} {me : yM0} {d kc ks pc : Nat} {L : List (Nat × yV)} {S : List yV} {M : yMem} {Q : yOut → yMem → Prop} {q0 q1 a0 a1 n idx : Nat} {xs ys zs : List Int} (hq0 : M[q0]? = some (a0, oi xs)) (hq1 : M[q1]? = some (a1, oi ys)) (hn0 : n ≤ xs.length) (hn1 : n ≤ ys.length) (hzl : zs.length = ys.length) (hz : ∀ j : Nat, zs.getD j 0 = if j < n then xs.getD j 0 else ys.getD j 0)
    (hw1 : Cond.methodLink me.1.cls idx arraycopyName ∈ yB) (hw2 : Cond.native arraycopyName ∈ yB) (hw3 : Cond.static arraycopyName ∈ yB) (hw4 : Cond.initialized "java/lang/System" ∈ yB) (hS2 : (S.map y_cat).sum ≤ 8)
    (hdg : decode me.2.1 pc = .ok (.invokestatic idx, 3)) (kk : Y g me d kc ks (pc + 3) L S (M.set q1 (a1, oi zs)) Q) : Y g me d kc ks pc L (vi (n : Int) :: vi 0 :: vr a1 :: vi 0 :: vr a0 :: S) M Q := by
  intro p l e s m args below meth c H locs cells slots mc ms ls C h1 h2 hM hL hS' hP hD hS hlv
  refine y_arraycopy hq0 hq1 hn0 hn1 hzl hz (fun x hx => ?_) hw1 hw2 hw3 hw4 hS2 hdg kk p l e s m args below meth c H locs cells slots mc ms ls C h1 h2 hM hL hS' hP hD hS hlv
  obtain ⟨j, hj⟩ := List.getElem?_of_mem hx
  have e1 : zs.getD j 0 = x := by rw [List.getD_eq_getElem?_getD, hj]; rfl
  rw [← e1, hz j]
  split
  · exact y_getD_in (y_okM_at hM hq0).1 j
  · exact y_getD_in (y_okM_at hM hq1).1 j
theorem zca_getD (n : Nat) (f : Int → Int) (j : Nat) : (zca n f).getD j 0 = if j < n then f (j : Int) else 0 := by
  unfold zca
  rw [List.getD_eq_getElem?_getD, List.getElem?_map]
  by_cases h : j < n
  · rw [if_pos h, List.getElem?_range h]; rfl
  · rw [if_neg h, List.getElem?_eq_none (by rw [List.length_range]; omega)]; rfl
theorem sw_in8 : ∀ j : Nat, j < 8 → y_in (swKind (j : Int)) := by decide
theorem sw_in6 : ∀ j : Nat, j < 6 → y_in (swRefusal (j : Int)) := by decide
section ZP
variable {g : yG} {a : Nat → Nat} {me : yM0} {d kc ks pc : Nat} {L : List (Option zV)} {S : List zV} {μ ν : zM} {o : zO}
theorem z_conv {o' : zO} {ν' : zM} (ho : o = o') (hv : ν = ν') (k : Z g a me d kc ks pc L S μ o' ν') : Z g a me d kc ks pc L S μ o ν := by subst ho hv; exact k
theorem z_mono {KC KS : Nat} (h1 : kc ≤ KC) (h2 : ks ≤ KS) (k : Z g a me d kc ks pc L S μ o ν) : Z g a me d KC KS pc L S μ o ν := by
  intro p l e s m args below meth c H locs cells slots mc ms ls C h3 h4
  exact k p l e s m args below meth c H locs cells slots mc ms ls C (by omega) (by omega)
theorem tr_kd (e : Int) : tr g a (zkd e) = vr (g.2.2.2.1 e.toNat) := congrArg vr (zA_c _)
theorem tr_re (e : Int) : tr g a (zre e) = vr (g.2.2.2.1 (10 + e.toNat)) := congrArg vr (by rw [show 1010 + e.toNat = 1000 + (10 + e.toNat) by omega, zA_c])
theorem tr_sg (e : Int) : tr g a (zsg e) = vr (g.2.2.2.1 (30 + e.toNat)) := congrArg vr (by rw [show 1030 + e.toNat = 1000 + (30 + e.toNat) by omega, zA_c])
theorem tr_20 : tr g a (zr 1020) = vr (g.2.2.2.1 20) := rfl
theorem tr_21 : tr g a (zr 1021) = vr (g.2.2.2.1 21) := rfl
theorem tr_22 : tr g a (zr 1022) = vr (g.2.2.2.1 22) := rfl
theorem tr_50 : tr g a (zr 1050) = vr (g.2.2.2.1 50) := rfl
theorem z_enumR {idx : Nat} {x : Int} (p' : Nat) (hdg : decode me.2.1 pc = .ok (.getstatic idx, 3)) (hp : pc + 3 = p') (hx : 0 ≤ x ∧ x < 6) (hl : Cond.fieldLink me.1.cls idx RFn (y_rn.getD x.toNat "") "LTenantCensus$Refusal;" ∈ yB) (kk : Z g a me d kc ks p' L (zre x :: S) μ o ν) : Z g a me d kc ks pc L S μ o ν := by
  subst hp
  unfold Z at *
  rw [List.map_cons, tr_re] at kk
  exact y_gets (v := vr _) trivial (y_Zref x.toNat (by omega)) hl hdg kk
theorem z_enumK {idx : Nat} {x : Int} (p' : Nat) (hdg : decode me.2.1 pc = .ok (.getstatic idx, 3)) (hp : pc + 3 = p') (hx : 0 ≤ x ∧ x < 8) (hl : Cond.fieldLink me.1.cls idx KNn (y_kn.getD x.toNat "") "LTenantCensus$Kind;" ∈ yB) (kk : Z g a me d kc ks p' L (zkd x :: S) μ o ν) : Z g a me d kc ks pc L S μ o ν := by
  subst hp
  unfold Z at *
  rw [List.map_cons, tr_kd] at kk
  exact y_gets (v := vr _) trivial (y_Zkind x.toNat (by omega)) hl hdg kk
theorem z_kinds (p' : Nat) (hdg : decode me.2.1 pc = .ok (.getstatic 77, 3)) (hp : pc + 3 = p') (hme : me.1.cls = "TenantCensus$Parser") (kk : Z g a me d kc ks p' L (zr 1020 :: S) μ o ν) : Z g a me d kc ks pc L S μ o ν := by
  subst hp
  unfold Z at *
  rw [List.map_cons, tr_20] at kk
  exact y_getsN (v := vr _) trivial (fun U H h => h.2.2.2.1.1.1) (fun U H h => by rw [hme]; exact h.2.2.2.2.2.2.1) hdg kk
theorem z_swK {idx : Nat} (p' : Nat) (hdg : decode me.2.1 pc = .ok (.getstatic idx, 3)) (hp : pc + 3 = p') (hl : Cond.fieldLink me.1.cls idx T1n "$SwitchMap$TenantCensus$Kind" "[I" ∈ yB) (kk : Z g a me d kc ks p' L (zr 1021 :: S) μ o ν) : Z g a me d kc ks pc L S μ o ν := by
  subst hp
  unfold Z at *
  rw [List.map_cons, tr_21] at kk
  exact y_gets (v := vr _) trivial (fun U H h => h.2.2.2.1.1.2.2.1) hl hdg kk
theorem z_swR {idx : Nat} (p' : Nat) (hdg : decode me.2.1 pc = .ok (.getstatic idx, 3)) (hp : pc + 3 = p') (hl : Cond.fieldLink me.1.cls idx T1n "$SwitchMap$TenantCensus$Refusal" "[I" ∈ yB) (kk : Z g a me d kc ks p' L (zr 1022 :: S) μ o ν) : Z g a me d kc ks pc L S μ o ν := by
  subst hp
  unfold Z at *
  rw [List.map_cons, tr_22] at kk
  exact y_gets (v := vr _) trivial (fun U H h => h.2.2.2.1.1.2.2.2.2.1) hl hdg kk
theorem z_klen (p' : Nat) (hdg : decode me.2.1 pc = .ok (.arraylength, 1)) (hp : pc + 1 = p') (kk : Z g a me d kc ks p' L (zi 8 :: S) μ o ν) : Z g a me d kc ks pc L (zr 1020 :: S) μ o ν := by
  subst hp
  unfold Z at *
  rw [List.map_cons, tr_20]
  exact y_tlen (n := 8) ⟨by decide, by decide⟩ (fun U H h => h.2.2.2.1.1.2.1) hdg kk
theorem z_kald {i : Int} (p' : Nat) (hdg : decode me.2.1 pc = .ok (.aaload, 1)) (hp : pc + 1 = p') (hi : 0 ≤ i ∧ i < 8) (kk : Z g a me d kc ks p' L (zkd i :: S) μ o ν) : Z g a me d kc ks pc L (zi i :: zr 1020 :: S) μ o ν := by
  subst hp
  unfold Z at *
  rw [List.map_cons, tr_kd] at kk
  rw [List.map_cons, List.map_cons, tr_20]
  exact y_tq (n := 8) (f := fun j => .ref (g.2.2.2.1 j)) (fun U H h => h.2.2.2.1.1.2.1) hi.1 hi.2 rfl hdg kk
theorem z_ldK {i : Int} (p' : Nat) (hdg : decode me.2.1 pc = .ok (.iaload, 1)) (hp : pc + 1 = p') (hi : 0 ≤ i ∧ i < 8) (kk : Z g a me d kc ks p' L (zi (swKind i) :: S) μ o ν) : Z g a me d kc ks pc L (zi i :: zr 1021 :: S) μ o ν := by
  subst hp
  unfold Z
  rw [List.map_cons, List.map_cons, tr_21]
  have hi2 := hi.1
  have hi3 := hi.2
  have e : ((i.toNat : Nat) : Int) = i := Int.toNat_of_nonneg hi2
  have h9 := sw_in8 i.toNat (by omega)
  rw [e] at h9
  exact y_ti (n := 8) (x := swKind i) (f := fun j => .int (Int32.ofInt (swKind j))) (fun U H h => h.2.2.2.1.1.2.2.2.1) hi.1 hi.2 (by show Value.int (Int32.ofInt (swKind ((i.toNat : Nat) : Int))) = _; rw [e]) h9 hdg kk
theorem z_ldR {i : Int} (p' : Nat) (hdg : decode me.2.1 pc = .ok (.iaload, 1)) (hp : pc + 1 = p') (hi : 0 ≤ i ∧ i < 6) (kk : Z g a me d kc ks p' L (zi (swRefusal i) :: S) μ o ν) : Z g a me d kc ks pc L (zi i :: zr 1022 :: S) μ o ν := by
  subst hp
  unfold Z
  rw [List.map_cons, List.map_cons, tr_22]
  have hi2 := hi.1
  have hi3 := hi.2
  have e : ((i.toNat : Nat) : Int) = i := Int.toNat_of_nonneg hi2
  have h9 := sw_in6 i.toNat (by omega)
  rw [e] at h9
  exact y_ti (n := 6) (x := swRefusal i) (f := fun j => .int (Int32.ofInt (swRefusal j))) (fun U H h => h.2.2.2.1.1.2.2.2.2.2) hi.1 hi.2 (by show Value.int (Int32.ofInt (swRefusal ((i.toNat : Nat) : Int))) = _; rw [e]) h9 hdg kk
theorem z_form {idx : Nat} {e : Int} (p' : Nat) (hdg : decode me.2.1 pc = .ok (.getfield idx, 3)) (hp : pc + 3 = p') (he : 0 ≤ e ∧ e < 8) (hl : Cond.fieldLink me.1.cls idx KNn "form" "Ljava/lang/String;" ∈ yB) (kk : Z g a me d kc ks p' L (zsg e :: S) μ o ν) : Z g a me d kc ks pc L (zkd e :: S) μ o ν := by
  subst hp
  unfold Z at *
  rw [List.map_cons, tr_sg] at kk
  rw [List.map_cons, tr_kd]
  exact y_getK (v := vr _) trivial (y_form (i := e.toNat) (by omega)) hl hdg kk
theorem z_ordK {idx : Nat} {e : Int} (p' : Nat) (hdg : decode me.2.1 pc = .ok (.invokevirtual idx, 3)) (hp : pc + 3 = p') (he : 0 ≤ e ∧ e < 8)
    (hw : ∀ w ∈ ([.methodLink me.1.cls idx ⟨KNn, "ordinal", "()I"⟩, .sameMethod KNn "java/lang/Enum" "ordinal" "()I", .selects KNn ⟨KNn, "ordinal", "()I"⟩ me_ord.1, .instanceMethod me_ord.1, .initialized me_ord.1.cls, .code me_ord.1 me_ord.2.1 1 (some .int)] : List Cond), w ∈ yB) (hd : Nat.ble 1 d = true) (hcat : Nat.ble (zs S) 8 = true) (hh : me.2.2.2.2 = []) (kk : Z g a me d kc ks p' L (zi e :: S) μ o ν) : Z g a me d kc ks pc L (zkd e :: S) μ o ν := by
  subst hp
  unfold Z at *
  rw [List.map_cons, tr_kd]
  have h2 := he.1
  have h3 := he.2
  have e9 : ((e.toNat : Nat) : Int) = e := Int.toNat_of_nonneg h2
  exact y_ordinal (x := e) (by unfold y_in; omega) (by rw [← e9]; exact y_kind_ord (i := e.toNat) (by omega)) (y_kind_recv (i := e.toNat) (by omega)) hw (Nat.ble_eq.mp hd) (by rw [zs_eq]; exact Nat.ble_eq.mp hcat) hdg (y_unc0 hh) kk
theorem z_ordR {idx : Nat} {e : Int} (p' : Nat) (hdg : decode me.2.1 pc = .ok (.invokevirtual idx, 3)) (hp : pc + 3 = p') (he : 0 ≤ e ∧ e < 6)
    (hw : ∀ w ∈ ([.methodLink me.1.cls idx ⟨RFn, "ordinal", "()I"⟩, .sameMethod RFn "java/lang/Enum" "ordinal" "()I", .selects RFn ⟨RFn, "ordinal", "()I"⟩ me_ord.1, .instanceMethod me_ord.1, .initialized me_ord.1.cls, .code me_ord.1 me_ord.2.1 1 (some .int)] : List Cond), w ∈ yB) (hd : Nat.ble 1 d = true) (hcat : Nat.ble (zs S) 8 = true) (hh : me.2.2.2.2 = []) (kk : Z g a me d kc ks p' L (zi e :: S) μ o ν) : Z g a me d kc ks pc L (zre e :: S) μ o ν := by
  subst hp
  unfold Z at *
  rw [List.map_cons, tr_re]
  have h2 := he.1
  have h3 := he.2
  have e9 : ((e.toNat : Nat) : Int) = e := Int.toNat_of_nonneg h2
  exact y_ordinal (x := e) (by unfold y_in; omega) (by rw [← e9]; exact y_ref_ord (i := e.toNat) (by omega)) (y_ref_recv (i := e.toNat) (by omega)) hw (Nat.ble_eq.mp hd) (by rw [zs_eq]; exact Nat.ble_eq.mp hcat) hdg (y_unc0 hh) kk
theorem z_strlen {idx : Nat} {e : Int} (p' : Nat) (hdg : decode me.2.1 pc = .ok (.invokevirtual idx, 3)) (hp : pc + 3 = p') (he : 0 ≤ e ∧ e < 8) (hl : Cond.methodLink me.1.cls idx me_slen.1 ∈ yB) (hd : Nat.ble 2 d = true) (hcat : Nat.ble (zs S) 8 = true) (hh : me.2.2.2.2 = []) (kk : Z g a me d kc ks p' L (zi (formLen e) :: S) μ o ν) : Z g a me d kc ks pc L (zsg e :: S) μ o ν := by
  subst hp
  unfold Z at *
  rw [List.map_cons, tr_sg]
  have h2 := he.1
  have h3 := he.2
  have e9 : ((e.toNat : Nat) : Int) = e := Int.toNat_of_nonneg h2
  refine y_callR (kc' := 0) (ks' := 0) (as := []) (S := S.map (tr g a)) (c_slen (i := e.toNat) (by omega)) k_slen (Nat.ble_eq.mp hd) rfl (y_str_recv (by omega)) hl rfl (by rw [zs_eq]; exact Nat.ble_eq.mp hcat) hdg (y_unc0 hh) (fun E M1 h => nomatch h.1) (fun r M1 h => ?_)
  obtain ⟨h3, rfl⟩ := h
  cases h3
  rw [e9]; exact kk
theorem z_strat {idx : Nat} {e i : Int} (p' : Nat) (hdg : decode me.2.1 pc = .ok (.invokevirtual idx, 3)) (hp : pc + 3 = p') (he : (0 ≤ e ∧ e < 8) ∧ 0 ≤ i ∧ i < formLen e) (hl : Cond.methodLink me.1.cls idx me_sat.1 ∈ yB) (hd : Nat.ble 4 d = true) (hcat : Nat.ble (zs S) 8 = true) (hh : me.2.2.2.2 = []) (kk : Z g a me d kc ks p' L (zi (formAt e i) :: S) μ o ν) : Z g a me d kc ks pc L (zi i :: zsg e :: S) μ o ν := by
  subst hp
  unfold Z at *
  rw [List.map_cons, List.map_cons, tr_sg]
  have h2 := he.1.1
  have h3 := he.1.2
  have e9 : ((e.toNat : Nat) : Int) = e := Int.toNat_of_nonneg h2
  refine y_callR (kc' := 0) (ks' := 0) (as := [vi i]) (S := S.map (tr g a)) (c_sat (i := e.toNat) (by omega) (k := i) he.2.1 (by rw [e9]; exact he.2.2)) k_sat (Nat.ble_eq.mp hd) rfl (y_str_recv (by omega)) hl rfl (by rw [zs_eq]; exact Nat.ble_eq.mp hcat) hdg (y_unc0 hh) (fun E M1 h => nomatch h.1) (fun r M1 h => ?_)
  obtain ⟨h3, rfl⟩ := h
  cases h3
  rw [e9]; exact kk
theorem y_acmp_P {L : List (Nat × yV)} {S : List yV} {M : yMem} {Q : yOut → yMem → Prop} {x y : Nat} {P : Prop} {off : Int} {tgt : Nat} (hinj : ∀ (U : State) (H : Heap), y_S g U H → x = y → P) (hdg : decode me.2.1 pc = .ok (.if_acmp .ne off, 3)) (ht : (pc : Int) + off = (tgt : Int)) (kt : x ≠ y → Y g me d kc ks tgt L S M Q) (kf : P → Y g me d kc ks (pc + 3) L S M Q) : Y g me d kc ks pc L (vr y :: vr x :: S) M Q := by
  intro p l e s m args below meth c H locs cells slots mc ms ls C h1 h2 hM hL hS' hP hD hS hlv
  exact y_acmp_ne hdg ht kt (fun h => kf (hinj s s.heap (y_CxS C) h)) p l e s m args below meth c H locs cells slots mc ms ls C h1 h2 hM hL hS' hP hD hS hlv
theorem z_acmpR {x y : Int} {off : Int} (p1 p2 : Nat) (hdg : decode me.2.1 pc = .ok (.if_acmp .ne off, 3)) (ht : (pc : Int) + off = (p1 : Int)) (hp : pc + 3 = p2) (hx : 0 ≤ x ∧ x < 6) (hy : 0 ≤ y ∧ y < 6) (kt : x ≠ y → Z g a me d kc ks p1 L S μ o ν) (kf : x = y → Z g a me d kc ks p2 L S μ o ν) : Z g a me d kc ks pc L (zre y :: zre x :: S) μ o ν := by
  subst hp
  unfold Z at *
  rw [List.map_cons, List.map_cons, tr_re, tr_re]
  exact y_acmp_P (P := x = y) (fun U H h e => by have := y_ref_inj h (by omega) (by omega) e; omega) hdg ht (fun h => kt (fun e => h (by rw [e]))) kf
theorem z_acmpK {x y : Int} {off : Int} (p1 p2 : Nat) (hdg : decode me.2.1 pc = .ok (.if_acmp .ne off, 3)) (ht : (pc : Int) + off = (p1 : Int)) (hp : pc + 3 = p2) (hx : 0 ≤ x ∧ x < 8) (hy : 0 ≤ y ∧ y < 8) (kt : x ≠ y → Z g a me d kc ks p1 L S μ o ν) (kf : x = y → Z g a me d kc ks p2 L S μ o ν) : Z g a me d kc ks pc L (zkd y :: zkd x :: S) μ o ν := by
  subst hp
  unfold Z at *
  rw [List.map_cons, List.map_cons, tr_kd, tr_kd]
  exact y_acmp_P (P := x = y) (fun U H h e => by have := y_kind_inj h (by omega) (by omega) e; omega) hdg ht (fun h => kt (fun e => h (by rw [e]))) kf
theorem z_arraycopy {idx k0 k1 n N0 N1 : Nat} {n' : Int} {μ' : zM} (p' : Nat) (hdg : decode me.2.1 pc = .ok (.invokestatic idx, 3)) (hp : pc + 3 = p') (h0 : zAr k0 0 N0) (h1 : zAr k1 0 N1) (hn : (n : Int) = n') (hn0 : Nat.ble n N0 = true) (hn1 : Nat.ble n N1 = true) (hl : Cond.methodLink me.1.cls idx arraycopyName ∈ yB ∧ Cond.native arraycopyName ∈ yB ∧ Cond.static arraycopyName ∈ yB ∧ Cond.initialized "java/lang/System" ∈ yB) (hcat : Nat.ble (zs S) 8 = true) (hm : cpy μ k0 k1 n' = μ') (kk : Z g a me d kc ks p' L S μ' o ν) : Z g a me d kc ks pc L (zi n' :: zi 0 :: zr k1 :: zi 0 :: zr k0 :: S) μ o ν := by
  subst hp hm hn
  have q0 := Nat.ble_eq.mp hn0
  have q1 := Nat.ble_eq.mp hn1
  unfold Z
  rw [List.map_cons, List.map_cons, List.map_cons, List.map_cons, List.map_cons, show tr g a (zr k0) = vr (a k0) from congrArg vr (zA_lt h0.1), show tr g a (zr k1) = vr (a k1) from congrArg vr (zA_lt h1.1)]
  refine y_arraycopy' (zs := zca N1 (fun j => if 0 ≤ j ∧ j < (n : Int) then μ k0 j else μ k1 j)) (zlayA h0) (zlayA h1) (by rw [zca_len]; exact q0) (by rw [zca_len]; exact q1) (by rw [zca_len, zca_len]) (fun j => ?_) hl.1 hl.2.1 hl.2.2.1 hl.2.2.2 (by rw [zs_eq]; exact Nat.ble_eq.mp hcat) hdg ?_
  · rw [zca_getD, zca_getD, zca_getD]
    by_cases c1 : j < n
    · rw [if_pos c1, if_pos (by omega), if_pos (by omega), if_pos (by omega)]
    · rw [if_neg c1]
      by_cases c2 : j < N1
      · rw [if_pos c2, if_pos c2, if_neg (by omega)]
      · rw [if_neg c2, if_neg c2]
  · have h := zmap_set (F := zM1 g a μ) (F' := zM1 g a (cpy μ k0 k1 (n : Int))) (n := zN) (k := k1) (fun j hj => by
      unfold zM1; congr 2
      funext i'; unfold cpy; rw [if_neg hj])
    rw [show zM1 g a (cpy μ k0 k1 (n : Int)) k1 = (a k1, oi (zca N1 (fun j => if 0 ≤ j ∧ j < (n : Int) then μ k0 j else μ k1 j))) by
      unfold zM1
      rw [h1.2]
      show (a k1, oi (zca N1 (cpy μ k0 k1 (n : Int) k1))) = _
      congr 2
      unfold zca
      apply List.map_congr_left
      intro j _
      unfold cpy
      rw [if_pos rfl]] at h
    unfold lay
    rw [h]
    exact kk
theorem z_min {idx : Nat} {x y r : Int} (p' : Nat) (hdg : decode me.2.1 pc = .ok (.invokestatic idx, 3)) (hp : pc + 3 = p') (hr : (if y < x then y else x) = r) (hl : Cond.methodLink me.1.cls idx Lib.Math.min.name ∈ yB ∧ Cond.static Lib.Math.min.name ∈ yB ∧ Cond.initialized "java/lang/Math" ∈ yB ∧ Cond.code Lib.Math.min.name Lib.Math.min.code 2 (some .int) ∈ yB) (hcat : Nat.ble (zs S) 8 = true) (kk : Z g a me d kc ks p' L (zi r :: S) μ o ν) : Z g a me d kc ks pc L (zi y :: zi x :: S) μ o ν := by
  subst hp hr
  exact y_min hl.1 hl.2.1 hl.2.2.1 hl.2.2.2 (by rw [zs_eq]; exact Nat.ble_eq.mp hcat) hdg kk
theorem z_swOut {x dflt lo hi : Int} {offs : Array Int} {len : Nat} (p1 : Nat) (hdg : decode me.2.1 pc = .ok (.tableswitch dflt lo hi offs, len)) (h : x < lo ∨ hi < x) (ht : (pc : Int) + dflt = (p1 : Int)) (kk : Z g a me d kc ks p1 L S μ o ν) : Z g a me d kc ks pc L (zi x :: S) μ o ν := y_swOut hdg h ht kk
theorem z_swIn {x v dflt lo hi off : Int} {offs : Array Int} {len : Nat} (p1 : Nat) (hdg : decode me.2.1 pc = .ok (.tableswitch dflt lo hi offs, len)) (hv : x = v) (h3 : decide (¬ v < lo ∧ ¬ hi < v) = true) (ho : offs[(v - lo).toNat]? = some off) (ht : (pc : Int) + off = (p1 : Int)) (kk : Z g a me d kc ks p1 L S μ o ν) : Z g a me d kc ks pc L (zi x :: S) μ o ν := by
  subst hv
  exact y_swIn hdg (of_decide_eq_true h3).1 (of_decide_eq_true h3).2 ho ht kk
theorem z_throwS {cls text : String} {names : List String} {ik is ic e : Nat} (hcls : Bundle.fit cls = true ∧ (∀ n ∈ names, Bundle.fit n = true) ∧ names.length ≤ 3)
    (hk : Cond.classLink me.1.cls ik cls ∈ yB) (hini : Cond.initialized cls ∈ yB) (hstr : (me.1.cls, is, text) ∈ y_strs) (hex : cls ∈ y_exs) (hat : ∀ w ∈ vx_atS me.1.cls ic cls names, w ∈ yB ∨ w = .castable cls cls ∨ ∃ x ∈ y_dcl, w = .declares x)
    (hh : me.2.2.2.2 = []) (hcat : Nat.ble (zs S) 8 = true)
    (d0 : decode me.2.1 pc = .ok (.new ik, 3)) (d3 : decode me.2.1 (pc + 3) = .ok (.dup, 1)) (d4 : decode me.2.1 (pc + 4) = .ok (.ldc is, 2)) (d6 : decode me.2.1 (pc + 6) = .ok (.invokespecial ic, 3)) (d9 : decode me.2.1 (pc + 9) = .ok (.athrow, 1))
    (he : zEx.getD e "" = cls) (hkc : Nat.ble 1 kc = true) (hks : Nat.ble 6 ks = true) : Z g a me d kc ks pc L S μ (.inr e) μ :=
  y_throwS hcls.1 hcls.2.1 hcls.2.2 hk hini hstr hex hat (y_unc0 hh) (by rw [zs_eq]; exact Nat.ble_eq.mp hcat) d0 d3 d4 d6 d9 ⟨by show (Sum.inr cls : yOut) = .inr (zEx.getD e ""); rw [he], rfl⟩ (Nat.ble_eq.mp hkc) (Nat.ble_eq.mp hks)
theorem z_throwSW {cls text : String} {names : List String} {ik is ic e : Nat} (hcls : Bundle.fit cls = true ∧ (∀ n ∈ names, Bundle.fit n = true) ∧ names.length ≤ 3)
    (hk : Cond.classLink me.1.cls ik cls ∈ yB) (hini : Cond.initialized cls ∈ yB) (hstr : (me.1.cls, is, text) ∈ y_strs) (hex : cls ∈ y_exs) (hat : ∀ w ∈ vx_atS me.1.cls ic cls names, w ∈ yB ∨ w = .castable cls cls ∨ ∃ x ∈ y_dcl, w = .declares x)
    (hh : me.2.2.2.2 = []) (hcat : Nat.ble (zs S) 8 = true)
    (d0 : decode me.2.1 pc = .ok (.new ik, 3)) (d3 : decode me.2.1 (pc + 3) = .ok (.dup, 1)) (d4 : decode me.2.1 (pc + 4) = .ok (.ldc_w is, 3)) (d7 : decode me.2.1 (pc + 7) = .ok (.invokespecial ic, 3)) (d10 : decode me.2.1 (pc + 10) = .ok (.athrow, 1))
    (he : zEx.getD e "" = cls) (hkc : Nat.ble 1 kc = true) (hks : Nat.ble 6 ks = true) : Z g a me d kc ks pc L S μ (.inr e) μ :=
  y_throwSW hcls.1 hcls.2.1 hcls.2.2 hk hini hstr hex hat (y_unc0 hh) (by rw [zs_eq]; exact Nat.ble_eq.mp hcat) d0 d3 d4 d7 d10 ⟨by show (Sum.inr cls : yOut) = .inr (zEx.getD e ""); rw [he], rfl⟩ (Nat.ble_eq.mp hkc) (Nat.ble_eq.mp hks)
theorem z_throwN {cls text : String} {Y1 : String} {names : List String} {ik is ic e : Nat} (hcls : Bundle.fit cls = true ∧ Bundle.fit Y1 = true ∧ (∀ n ∈ names, Bundle.fit n = true) ∧ names.length ≤ 3)
    (hk : Cond.classLink me.1.cls ik cls ∈ yB) (hini : Cond.initialized cls ∈ yB) (hstr : (me.1.cls, is, text) ∈ y_strs) (hex : cls ∈ y_exs) (hat : ∀ w ∈ (xn_atoms me.1.cls ic cls Y1 names).filter vx_no, w ∈ yB ∨ w = .castable cls cls ∨ ∃ x ∈ y_dcl, w = .declares x)
    (hh : me.2.2.2.2 = []) (hcat : Nat.ble (zs S) 8 = true)
    (d0 : decode me.2.1 pc = .ok (.new ik, 3)) (d3 : decode me.2.1 (pc + 3) = .ok (.dup, 1)) (d4 : decode me.2.1 (pc + 4) = .ok (.ldc is, 2)) (d6 : decode me.2.1 (pc + 6) = .ok (.invokespecial ic, 3)) (d9 : decode me.2.1 (pc + 9) = .ok (.athrow, 1))
    (he : zEx.getD e "" = cls) (hkc : Nat.ble 1 kc = true) (hks : Nat.ble 6 ks = true) : Z g a me d kc ks pc L S μ (.inr e) μ :=
  y_throwN hcls.1 hcls.2.1 hcls.2.2.1 hcls.2.2.2 hk hini hstr hex hat (y_unc0 hh) (by rw [zs_eq]; exact Nat.ble_eq.mp hcat) d0 d3 d4 d6 d9 ⟨by show (Sum.inr cls : yOut) = .inr (zEx.getD e ""); rw [he], rfl⟩ (Nat.ble_eq.mp hkc) (Nat.ble_eq.mp hks)
theorem z_throwNW {cls text : String} {Y1 : String} {names : List String} {ik is ic e : Nat} (hcls : Bundle.fit cls = true ∧ Bundle.fit Y1 = true ∧ (∀ n ∈ names, Bundle.fit n = true) ∧ names.length ≤ 3)
    (hk : Cond.classLink me.1.cls ik cls ∈ yB) (hini : Cond.initialized cls ∈ yB) (hstr : (me.1.cls, is, text) ∈ y_strs) (hex : cls ∈ y_exs) (hat : ∀ w ∈ (xn_atoms me.1.cls ic cls Y1 names).filter vx_no, w ∈ yB ∨ w = .castable cls cls ∨ ∃ x ∈ y_dcl, w = .declares x)
    (hh : me.2.2.2.2 = []) (hcat : Nat.ble (zs S) 8 = true)
    (d0 : decode me.2.1 pc = .ok (.new ik, 3)) (d3 : decode me.2.1 (pc + 3) = .ok (.dup, 1)) (d4 : decode me.2.1 (pc + 4) = .ok (.ldc_w is, 3)) (d7 : decode me.2.1 (pc + 7) = .ok (.invokespecial ic, 3)) (d10 : decode me.2.1 (pc + 10) = .ok (.athrow, 1))
    (he : zEx.getD e "" = cls) (hkc : Nat.ble 1 kc = true) (hks : Nat.ble 6 ks = true) : Z g a me d kc ks pc L S μ (.inr e) μ :=
  y_throwNW hcls.1 hcls.2.1 hcls.2.2.1 hcls.2.2.2 hk hini hstr hex hat (y_unc0 hh) (by rw [zs_eq]; exact Nat.ble_eq.mp hcat) d0 d3 d4 d7 d10 ⟨by show (Sum.inr cls : yOut) = .inr (zEx.getD e ""); rw [he], rfl⟩ (Nat.ble_eq.mp hkc) (Nat.ble_eq.mp hks)
/-! calls that give a value, or none -/
theorem z_callV1 {me' : yM0} {d' kc' ks' KC KS nn idx k c n : Nat} {as S0 : List zV} {μ1 : zM} {v : zV} (p' : Nat) (hdg : decode me.2.1 pc = .ok (.invokevirtual idx, 3)) (hp : pc + 3 = p') (hC : zC g a me' d' kc' ks' (zr k :: as) μ (.inl (some v)) μ1) (kv : y_kV me' nn) (hc : ∃ T N, y_cl[c]? = some (me'.1.cls, T, N)) (hk : zAr k (c + 10) n) (hlink : Cond.methodLink me.1.cls idx me'.1 ∈ yB) (hd : Nat.ble (d' + 1) d = true) (hn : as.length = nn) (hst : as.reverse ++ zr k :: S = S0) (hcat : Nat.ble (zs S) 8 = true) (hh : me.2.2.2.2 = []) (hkc : kc + kc' = KC) (hks : ks + ks' = KS)
    (kk : Z g a me d kc ks p' L (v :: S) μ1 o ν) : Z g a me d KC KS pc L S0 μ o ν := z_callV p' hdg hp hC kv hc hk hlink hd hn hst hcat hh hkc hks kk
theorem z_callV0 {me' : yM0} {d' kc' ks' KC KS nn idx k c n : Nat} {as S0 : List zV} {μ1 : zM} (p' : Nat) (hdg : decode me.2.1 pc = .ok (.invokevirtual idx, 3)) (hp : pc + 3 = p') (hC : zC g a me' d' kc' ks' (zr k :: as) μ (.inl none) μ1) (kv : y_kV me' nn) (hc : ∃ T N, y_cl[c]? = some (me'.1.cls, T, N)) (hk : zAr k (c + 10) n) (hlink : Cond.methodLink me.1.cls idx me'.1 ∈ yB) (hd : Nat.ble (d' + 1) d = true) (hn : as.length = nn) (hst : as.reverse ++ zr k :: S = S0) (hcat : Nat.ble (zs S) 8 = true) (hh : me.2.2.2.2 = []) (hkc : kc + kc' = KC) (hks : ks + ks' = KS)
    (kk : Z g a me d kc ks p' L S μ1 o ν) : Z g a me d KC KS pc L S0 μ o ν := z_callV p' hdg hp hC kv hc hk hlink hd hn hst hcat hh hkc hks kk
theorem z_callS1 {me' : yM0} {d' kc' ks' KC KS nn idx : Nat} {as S0 : List zV} {μ1 : zM} {v : zV} (p' : Nat) (hdg : decode me.2.1 pc = .ok (.invokestatic idx, 3)) (hp : pc + 3 = p') (hC : zC g a me' d' kc' ks' as μ (.inl (some v)) μ1) (kv : y_kS me' nn) (hlink : Cond.methodLink me.1.cls idx me'.1 ∈ yB) (hd : Nat.ble (d' + 1) d = true) (hn : as.length = nn) (hst : as.reverse ++ S = S0) (hcat : Nat.ble (zs S) 8 = true) (hh : me.2.2.2.2 = []) (hkc : kc + kc' = KC) (hks : ks + ks' = KS)
    (kk : Z g a me d kc ks p' L (v :: S) μ1 o ν) : Z g a me d KC KS pc L S0 μ o ν := z_callS p' hdg hp hC kv hlink hd hn hst hcat hh hkc hks kk
theorem z_callS0 {me' : yM0} {d' kc' ks' KC KS nn idx : Nat} {as S0 : List zV} {μ1 : zM} (p' : Nat) (hdg : decode me.2.1 pc = .ok (.invokestatic idx, 3)) (hp : pc + 3 = p') (hC : zC g a me' d' kc' ks' as μ (.inl none) μ1) (kv : y_kS me' nn) (hlink : Cond.methodLink me.1.cls idx me'.1 ∈ yB) (hd : Nat.ble (d' + 1) d = true) (hn : as.length = nn) (hst : as.reverse ++ S = S0) (hcat : Nat.ble (zs S) 8 = true) (hh : me.2.2.2.2 = []) (hkc : kc + kc' = KC) (hks : ks + ks' = KS)
    (kk : Z g a me d kc ks p' L S μ1 o ν) : Z g a me d KC KS pc L S0 μ o ν := z_callS p' hdg hp hC kv hlink hd hn hst hcat hh hkc hks kk
theorem z_callN1 {me' : yM0} {d' kc' ks' KC KS nn idx : Nat} {host : String} {as S0 : List zV} {μ1 : zM} {v : zV} (p' : Nat) (hdg : decode me.2.1 pc = .ok (.invokestatic idx, 3)) (hp : pc + 3 = p') (hC : zC g a me' d' kc' ks' as μ (.inl (some v)) μ1) (kv : y_kS me' nn) (hlink : (me.1.cls, idx, me'.1, host) ∈ y_nwM) (hd : Nat.ble (d' + 1) d = true) (hn : as.length = nn) (hst : as.reverse ++ S = S0) (hcat : Nat.ble (zs S) 8 = true) (hh : me.2.2.2.2 = []) (hkc : kc + kc' = KC) (hks : ks + ks' = KS)
    (kk : Z g a me d kc ks p' L (v :: S) μ1 o ν) : Z g a me d KC KS pc L S0 μ o ν := z_callSN p' hdg hp hC kv hlink hd hn hst hcat hh hkc hks kk
theorem z_callN0 {me' : yM0} {d' kc' ks' KC KS nn idx : Nat} {host : String} {as S0 : List zV} {μ1 : zM} (p' : Nat) (hdg : decode me.2.1 pc = .ok (.invokestatic idx, 3)) (hp : pc + 3 = p') (hC : zC g a me' d' kc' ks' as μ (.inl none) μ1) (kv : y_kS me' nn) (hlink : (me.1.cls, idx, me'.1, host) ∈ y_nwM) (hd : Nat.ble (d' + 1) d = true) (hn : as.length = nn) (hst : as.reverse ++ S = S0) (hcat : Nat.ble (zs S) 8 = true) (hh : me.2.2.2.2 = []) (hkc : kc + kc' = KC) (hks : ks + ks' = KS)
    (kk : Z g a me d kc ks p' L S μ1 o ν) : Z g a me d KC KS pc L S0 μ o ν := z_callSN p' hdg hp hC kv hlink hd hn hst hcat hh hkc hks kk
end ZP
