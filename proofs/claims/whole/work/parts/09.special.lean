/-! ===== rows of the constants: statics, enums, texts, the script; throws; switches; copies ===== -/
theorem yG_of {ws : List Cond} (h : ∀ w ∈ ws, w ∈ yB) : GoodIn yB ws := fun w hw => ⟨h w hw, yb_good (h w hw)⟩
theorem y_CxS {g : yG} {me : yM0} {p : Program} {l : Launch} {s : State} {m : MethodId} {args : Array Value} {meth : Method} {c : Code} (C : y_Cx g me p l s m args meth c) : y_S g s s.heap := C.2.2.2.2.2.2.2.2.2.1
section YS
variable {g : yG} {me : yM0} {d kc ks pc : Nat} {L : List (Nat × yV)} {S : List yV} {M : yMem} {Q : yOut → yMem → Prop}
theorem y_gets {Cn n ds : String} {idx : Nat} {v : yV} (hv : y_ok v) (hZ : ∀ (U : State) (H : Heap), y_S g U H → va_Z Cn n ds (y_tv v) (y_A g) U H) (hlink : Cond.fieldLink me.1.cls idx Cn n ds ∈ yB) (hdg : decode me.2.1 pc = .ok (.getstatic idx, 3)) (kk : Y g me d kc ks (pc + 3) L (v :: S) M Q) : Y g me d kc ks pc L S M Q := by
  intro p l e s m args below meth c H locs cells slots mc ms ls C h1 h2 hM hL hS' hP hD hS hlv
  exact va_gets C.1 C.2.1 (hZ s s.heap (y_CxS C)) hS C.2.2.2.2.2.1 (C.2.2.2.2.2.2.1 _ hlink) (fun _ h => h) hdg (kk p l e s m args below meth c H locs cells slots mc ms ls C h1 h2 hM hL (y_okc hv hS') hP hD hS hlv)
theorem y_getsN {Cn n ds host : String} {idx : Nat} {v : yV} (hv : y_ok v) (hZ : ∀ (U : State) (H : Heap), y_S g U H → va_Z Cn n ds (y_tv v) (y_A g) U H) (hlink : ∀ (U : State) (H : Heap), y_S g U H → va_Nw (.fieldLinkNest me.1.cls idx Cn n ds host) U) (hdg : decode me.2.1 pc = .ok (.getstatic idx, 3)) (kk : Y g me d kc ks (pc + 3) L (v :: S) M Q) : Y g me d kc ks pc L S M Q := by
  intro p l e s m args below meth c H locs cells slots mc ms ls C h1 h2 hM hL hS' hP hD hS hlv
  exact va_getsN C.1 C.2.1 (hZ s s.heap (y_CxS C)) hS C.2.2.2.2.2.1 (va_Nw.use rfl (hlink s s.heap (y_CxS C))) (fun _ h => h) hdg (kk p l e s m args below meth c H locs cells slots mc ms ls C h1 h2 hM hL (y_okc hv hS') hP hD hS hlv)
theorem y_getsQ {Cn n ds : String} {idx : Nat} (hZ : ∀ (U : State) (H : Heap), y_S g U H → va_Zq Cn n ds (y_A g) U H) (hlink : Cond.fieldLink me.1.cls idx Cn n ds ∈ yB) (hdg : decode me.2.1 pc = .ok (.getstatic idx, 3)) (kk : ∀ v : Value, v.category = 1 → Y g me d kc ks (pc + 3) L (vv v :: S) M Q) : Y g me d kc ks pc L S M Q := by
  intro p l e s m args below meth c H locs cells slots mc ms ls C h1 h2 hM hL hS' hP hD hS hlv
  rcases hZ s s.heap (y_CxS C) with h | ⟨t, h⟩
  · exact va_gets C.1 C.2.1 h hS C.2.2.2.2.2.1 (C.2.2.2.2.2.2.1 _ hlink) (fun _ h => h) hdg (kk .null rfl p l e s m args below meth c H locs cells slots mc ms ls C h1 h2 hM hL (y_okc (v := vv .null) trivial hS') hP hD hS hlv)
  · exact va_gets C.1 C.2.1 h hS C.2.2.2.2.2.1 (C.2.2.2.2.2.2.1 _ hlink) (fun _ h => h) hdg (kk (.ref t) rfl p l e s m args below meth c H locs cells slots mc ms ls C h1 h2 hM hL (y_okc (v := vv (.ref t)) trivial hS') hP hD hS hlv)
theorem y_tlen {ty : FieldType} {t n : Nat} {f : Nat → Value} (hn : y_in (n : Int)) (hT : ∀ (U : State) (H : Heap), y_S g U H → va_T ty t n f (y_A g) U H) (hdg : decode me.2.1 pc = .ok (.arraylength, 1)) (kk : Y g me d kc ks (pc + 1) L (vi (n : Int) :: S) M Q) : Y g me d kc ks pc L (vr t :: S) M Q := by
  intro p l e s m args below meth c H locs cells slots mc ms ls C h1 h2 hM hL hS' hP hD hS hlv
  obtain ⟨hv, hS'⟩ := List.forall_mem_cons.mp hS'
  exact va_tlen C.1 C.2.1 (hT s s.heap (y_CxS C)) hS (v := Int32.ofInt (n : Int)) rfl hdg (kk p l e s m args below meth c H locs cells slots mc ms ls C h1 h2 hM hL (y_okc hn hS') hP hD hS hlv)
theorem y_ti {t n : Nat} {i x : Int} {f : Nat → Value} (hT : ∀ (U : State) (H : Heap), y_S g U H → va_T .int t n f (y_A g) U H) (h0 : 0 ≤ i) (hn : i < n) (hf : f i.toNat = .int (Int32.ofInt x)) (hx : y_in x) (hdg : decode me.2.1 pc = .ok (.iaload, 1)) (kk : Y g me d kc ks (pc + 1) L (vi x :: S) M Q) : Y g me d kc ks pc L (vi i :: vr t :: S) M Q := by
  intro p l e s m args below meth c H locs cells slots mc ms ls C h1 h2 hM hL hS' hP hD hS hlv
  obtain ⟨hv, hS'⟩ := List.forall_mem_cons.mp hS'
  obtain ⟨hw, hS'⟩ := List.forall_mem_cons.mp hS'
  exact va_ti C.1 C.2.1 (hT s s.heap (y_CxS C)) hS (y_idx hv h0 hn) (v := .int (Int32.ofInt x)) (by rw [y_clamp hv]; exact hf) hdg (kk p l e s m args below meth c H locs cells slots mc ms ls C h1 h2 hM hL (y_okc hx hS') hP hD hS hlv)
theorem y_tb {t n : Nat} {i x : Int} {f : Nat → Value} (hT : ∀ (U : State) (H : Heap), y_S g U H → va_T .byte t n f (y_A g) U H) (h0 : 0 ≤ i) (hn : i < n) (hf : f i.toNat = .int (Int32.ofInt x)) (hx : y_in x) (hdg : decode me.2.1 pc = .ok (.baload, 1)) (kk : Y g me d kc ks (pc + 1) L (vi x :: S) M Q) : Y g me d kc ks pc L (vi i :: vr t :: S) M Q := by
  intro p l e s m args below meth c H locs cells slots mc ms ls C h1 h2 hM hL hS' hP hD hS hlv
  obtain ⟨hv, hS'⟩ := List.forall_mem_cons.mp hS'
  obtain ⟨hw, hS'⟩ := List.forall_mem_cons.mp hS'
  exact va_tb C.1 C.2.1 (hT s s.heap (y_CxS C)) hS (y_idx hv h0 hn) (v := .int (Int32.ofInt x)) (by rw [y_clamp hv]; exact hf) hdg (kk p l e s m args below meth c H locs cells slots mc ms ls C h1 h2 hM hL (y_okc hx hS') hP hD hS hlv)
theorem y_tq {Cn : String} {t n b : Nat} {i : Int} {f : Nat → Value} (hT : ∀ (U : State) (H : Heap), y_S g U H → va_T (.object Cn) t n f (y_A g) U H) (h0 : 0 ≤ i) (hn : i < n) (hf : f i.toNat = .ref b) (hdg : decode me.2.1 pc = .ok (.aaload, 1)) (kk : Y g me d kc ks (pc + 1) L (vr b :: S) M Q) : Y g me d kc ks pc L (vi i :: vr t :: S) M Q := by
  intro p l e s m args below meth c H locs cells slots mc ms ls C h1 h2 hM hL hS' hP hD hS hlv
  obtain ⟨hv, hS'⟩ := List.forall_mem_cons.mp hS'
  obtain ⟨hw, hS'⟩ := List.forall_mem_cons.mp hS'
  exact vb_tq C.1 C.2.1 (hT s s.heap (y_CxS C)) hS (y_idx hv h0 hn) (v := .ref b) (by rw [y_clamp hv]; exact hf) hdg (kk p l e s m args below meth c H locs cells slots mc ms ls C h1 h2 hM hL (y_okc (v := vr b) trivial hS') hP hD hS hlv)
theorem y_getK {o n ds : String} {idx q : Nat} {v : yV} (hv : y_ok v) (hE : ∀ (U : State) (H : Heap), y_S g U H → va_OF o n ds (y_tv v) q (y_A g) U H) (hlink : Cond.fieldLink me.1.cls idx o n ds ∈ yB) (hdg : decode me.2.1 pc = .ok (.getfield idx, 3)) (kk : Y g me d kc ks (pc + 3) L (v :: S) M Q) : Y g me d kc ks pc L (vr q :: S) M Q := by
  intro p l e s m args below meth c H locs cells slots mc ms ls C h1 h2 hM hL hS' hP hD hS hlv
  obtain ⟨hw, hS'⟩ := List.forall_mem_cons.mp hS'
  exact vk_getf C.1 C.2.1 (hE s s.heap (y_CxS C)) hS C.2.2.2.2.2.1 (C.2.2.2.2.2.2.1 _ hlink) (fun _ h => h) hdg (kk p l e s m args below meth c H locs cells slots mc ms ls C h1 h2 hM hL (y_okc hv hS') hP hD hS hlv)
theorem y_acmp_ne {a b : Nat} {off : Int} {tgt : Nat} (hdg : decode me.2.1 pc = .ok (.if_acmp .ne off, 3)) (ht : (pc : Int) + off = (tgt : Int)) (kt : a ≠ b → Y g me d kc ks tgt L S M Q) (kf : a = b → Y g me d kc ks (pc + 3) L S M Q) : Y g me d kc ks pc L (vr b :: vr a :: S) M Q := by
  intro p l e s m args below meth c H locs cells slots mc ms ls C h1 h2 hM hL hS' hP hD hS hlv
  obtain ⟨hv, hS'⟩ := List.forall_mem_cons.mp hS'
  obtain ⟨hw, hS'⟩ := List.forall_mem_cons.mp hS'
  exact lv_acmp_ne (rx := some a) (ry := some b) C.1 C.2.1 hdg ht (fun h => kt (fun e => h (congrArg some e)) p l e s m args below meth c H locs cells slots mc ms ls C h1 h2 hM hL hS' hP hD hS hlv)
    (fun h => kf (Option.some.inj h) p l e s m args below meth c H locs cells slots mc ms ls C h1 h2 hM hL hS' hP hD hS hlv)
theorem y_acmp_eq {a b : Nat} {off : Int} {tgt : Nat} (hdg : decode me.2.1 pc = .ok (.if_acmp .eq off, 3)) (ht : (pc : Int) + off = (tgt : Int)) (kt : a = b → Y g me d kc ks tgt L S M Q) (kf : a ≠ b → Y g me d kc ks (pc + 3) L S M Q) : Y g me d kc ks pc L (vr b :: vr a :: S) M Q := by
  intro p l e s m args below meth c H locs cells slots mc ms ls C h1 h2 hM hL hS' hP hD hS hlv
  obtain ⟨hv, hS'⟩ := List.forall_mem_cons.mp hS'
  obtain ⟨hw, hS'⟩ := List.forall_mem_cons.mp hS'
  exact lv_acmp_eq (rx := some a) (ry := some b) C.1 C.2.1 hdg ht (fun h => kt (Option.some.inj h) p l e s m args below meth c H locs cells slots mc ms ls C h1 h2 hM hL hS' hP hD hS hlv)
    (fun h => kf (fun e => h (congrArg some e)) p l e s m args below meth c H locs cells slots mc ms ls C h1 h2 hM hL hS' hP hD hS hlv)
theorem y_swOut {x dflt lo hi : Int} {offs : Array Int} {len tgt : Nat} (hdg : decode me.2.1 pc = .ok (.tableswitch dflt lo hi offs, len)) (h : x < lo ∨ hi < x) (ht : (pc : Int) + dflt = (tgt : Int)) (kk : Y g me d kc ks tgt L S M Q) : Y g me d kc ks pc L (vi x :: S) M Q := by
  intro p l e s m args below meth c H locs cells slots mc ms ls C h1 h2 hM hL hS' hP hD hS hlv
  obtain ⟨hv, hS'⟩ := List.forall_mem_cons.mp hS'
  exact lv_tableOut C.1 C.2.1 hdg (by rw [y_toInt hv]; exact h) ht (kk p l e s m args below meth c H locs cells slots mc ms ls C h1 h2 hM hL hS' hP hD hS hlv)
theorem y_swIn {x dflt lo hi off : Int} {offs : Array Int} {len tgt : Nat} (hdg : decode me.2.1 pc = .ok (.tableswitch dflt lo hi offs, len)) (h3 : ¬ x < lo) (h4 : ¬ hi < x) (ho : offs[(x - lo).toNat]? = some off) (ht : (pc : Int) + off = (tgt : Int)) (kk : Y g me d kc ks tgt L S M Q) : Y g me d kc ks pc L (vi x :: S) M Q := by
  intro p l e s m args below meth c H locs cells slots mc ms ls C h1 h2 hM hL hS' hP hD hS hlv
  obtain ⟨hv, hS'⟩ := List.forall_mem_cons.mp hS'
  exact lv_tableIn C.1 C.2.1 hdg (by rw [y_toInt hv]; exact h3) (by rw [y_toInt hv]; exact h4) (by rw [y_toInt hv]; exact ho) ht (kk p l e s m args below meth c H locs cells slots mc ms ls C h1 h2 hM hL hS' hP hD hS hlv)
theorem y_aaload5 {q a b : Nat} {fs : List (Option Nat)} {i : Int} (hq : M[q]? = some (a, oq 5 fs)) (h0 : 0 ≤ i) (hn : i < fs.length) (hf : fs.getD i.toNat none = some b) (hdg : decode me.2.1 pc = .ok (.aaload, 1)) (kk : Y g me d kc ks (pc + 1) L (vr b :: S) M Q) : Y g me d kc ks pc L (vi i :: vr a :: S) M Q := by
  intro p l e s m args below meth c H locs cells slots mc ms ls C h1 h2 hM hL hS' hP hD hS hlv
  obtain ⟨hv, hS'⟩ := List.forall_mem_cons.mp hS'
  obtain ⟨hw, hS'⟩ := List.forall_mem_cons.mp hS'
  have hin := y_idx hv h0 hn
  have hlt : (Int32.ofInt i).toNatClampNeg < fs.length := Nat.not_le.mp fun q => hin (Or.inr q)
  refine W.aald (v := va_rf (fs.getD (Int32.ofInt i).toNatClampNeg none)) (ty := .array .int) C.1 C.2.1 (hP q _ (y_tw_at hq)) (((y_CxS C).1.2 5 (g.2.1 5, .array .int) rfl).1 fs.length (fun j => va_rf (fs.getD j none))) rfl (fun q => by cases q) (by show ¬ (Int32.ofInt i < 0 ∨ (arrV _ _ _).slots.size ≤ _); rw [arrV_size]; exact hin) (by show (arrV _ _ _).slots[_]? = _; rw [arrV_read _ _ hlt]) rfl rfl hdg ?_
  rw [y_clamp hv, hf]
  exact kk p l e s m args below meth c H locs cells slots mc ms ls C h1 h2 hM hL (y_okc (v := vr b) trivial hS') hP hD hS hlv
theorem y_slen {n : Int} (hn : n = (g.2.2.2.2.1 : Int)) (hin : y_in n) (hdg : decode me.2.1 pc = .ok (.arraylength, 1)) (kk : Y g me d kc ks (pc + 1) L (vi n :: S) M Q) : Y g me d kc ks pc L (vr (g.2.2.2.1 50) :: S) M Q := by
  intro p l e s m args below meth c H locs cells slots mc ms ls C h1 h2 hM hL hS' hP hD hS hlv
  obtain ⟨hw, hS'⟩ := List.forall_mem_cons.mp hS'
  subst hn
  have h3 := (y_CxS C).2.2.2.1.2.2
  exact va_slen C.1 C.2.1 h3.1 h3.2.2 h3.2.1 hS hdg (kk p l e s m args below meth c H locs cells slots mc ms ls C h1 h2 hM hL (y_okc (v := vi _) hin hS') hP hD hS hlv)
theorem y_sld {i x : Int} (h0 : 0 ≤ i) (hn : i < (g.2.2.2.2.1 : Int)) (hx : g.2.2.2.2.2 i.toNat = x) (hxi : y_in x) (hdg : decode me.2.1 pc = .ok (.iaload, 1)) (kk : Y g me d kc ks (pc + 1) L (vi x :: S) M Q) : Y g me d kc ks pc L (vi i :: vr (g.2.2.2.1 50) :: S) M Q := by
  intro p l e s m args below meth c H locs cells slots mc ms ls C h1 h2 hM hL hS' hP hD hS hlv
  obtain ⟨hv, hS'⟩ := List.forall_mem_cons.mp hS'
  obtain ⟨hw, hS'⟩ := List.forall_mem_cons.mp hS'
  have h3 := (y_CxS C).2.2.2.1.2.2
  refine va_sld C.1 C.2.1 h3.1 h3.2.2 h3.2.1 hS (y_idx hv h0 hn) hdg ?_
  rw [y_clamp hv, hx]
  exact kk p l e s m args below meth c H locs cells slots mc ms ls C h1 h2 hM hL (y_okc (v := vi x) hxi hS') hP hD hS hlv
/-- System.arraycopy of the first n cells of a row of ints -/
theorem y_arraycopy {q0 q1 a0 a1 n idx : Nat} {xs ys zs : List Int} (hq0 : M[q0]? = some (a0, oi xs)) (hq1 : M[q1]? = some (a1, oi ys)) (hn0 : n ≤ xs.length) (hn1 : n ≤ ys.length) (hzl : zs.length = ys.length) (hz : ∀ j : Nat, zs.getD j 0 = if j < n then xs.getD j 0 else ys.getD j 0) (hzi : ∀ x ∈ zs, y_in x)
    (hw1 : Cond.methodLink me.1.cls idx arraycopyName ∈ yB) (hw2 : Cond.native arraycopyName ∈ yB) (hw3 : Cond.static arraycopyName ∈ yB) (hw4 : Cond.initialized "java/lang/System" ∈ yB) (hS2 : (S.map y_cat).sum ≤ 8)
    (hdg : decode me.2.1 pc = .ok (.invokestatic idx, 3)) (kk : Y g me d kc ks (pc + 3) L S (M.set q1 (a1, oi zs)) Q) : Y g me d kc ks pc L (vi (n : Int) :: vi 0 :: vr a1 :: vi 0 :: vr a0 :: S) M Q := by
  intro p l e s m args below meth c H locs cells slots mc ms ls C h1 h2 hM hL hS' hP hD hS hlv
  obtain ⟨hv, hS'⟩ := List.forall_mem_cons.mp hS'
  obtain ⟨-, hS'⟩ := List.forall_mem_cons.mp hS'
  obtain ⟨-, hS'⟩ := List.forall_mem_cons.mp hS'
  obtain ⟨-, hS'⟩ := List.forall_mem_cons.mp hS'
  obtain ⟨-, hS'⟩ := List.forall_mem_cons.mp hS'
  have hts := C.2.2.2.2.2.2.1
  have hK := (y_CxS C).1
  have e0 : (0 : Int32).toNatClampNeg = 0 := rfl
  have en : (Int32.ofInt (n : Int)).toNatClampNeg = n := by rw [y_clamp hv]; rfl
  have hnn : ¬ Int32.ofInt (n : Int) < 0 := by
    rw [show (0 : Int32) = Int32.ofInt 0 from rfl, y_lt hv y_in0]; omega
  have hk := y_okM_at hM hq0
  refine va_copyi (sp := 0) (dp := 0) (n := Int32.ofInt (n : Int)) C.1 C.2.1 (by rw [C.2.2.1]; exact hlv.1.symm) C.2.2.2.2.2.1 (hts _ hw1) (hts _ hw2) (hts _ hw3) (hts _ hw4) hK hP hD hS q0 q1 0 0 (y_tw_at hq0) (y_tw_at hq1) (ty := .int) rfl rfl rfl (by decide) (by decide) hnn (by rw [e0, en]; omega) (by rw [e0, en]; omega) (fun _ _ => rfl) (by show 1 ≤ 10 + d; omega) ?_ hdg ?_
  · rw [y_catsum]
    show _ + (nativeFrameWords "java/lang/System" "arraycopy" 5 + 11) ≤ 200 + 40 * d
    have : nativeFrameWords "java/lang/System" "arraycopy" 5 ≤ 100 := by decide +kernel
    omega
  · intro H1 locs1 hP1 hD1 hS1
    rw [e0, en] at hP1 hD1
    have ez : ((a1, .inl (g.2.1 0, ys.length, .inl (va_cpy (fun j => Int32.ofInt (xs.getD j 0)) (fun j => Int32.ofInt (ys.getD j 0)) 0 0 n))) : Nat × va_E) = (a1, y_te g (oi zs)) := by
      show _ = (a1, (Sum.inl (g.2.1 0, zs.length, .inl (fun j => Int32.ofInt (zs.getD j 0))) : va_E))
      rw [hzl]
      refine congrArg (fun f => ((a1, (Sum.inl (g.2.1 0, ys.length, .inl f) : va_E)) : Nat × va_E)) (funext fun j => ?_)
      unfold va_cpy
      rw [hz j, Nat.zero_add, Nat.zero_add, Nat.sub_zero]
      by_cases hj : j < n
      · rw [if_pos ⟨Nat.zero_le _, hj⟩, if_pos hj]
      · rw [if_neg (fun h => hj h.2), if_neg hj]
    rw [ez, y_tw_set] at hP1 hD1
    exact kk p l e s m args below meth c H1 locs1 cells slots mc ms ls C h1 h2 (y_okM_set hM ⟨hzi, by rw [hzl]; exact (y_okM_at hM hq1).2⟩) hL hS' hP1 hD1 hS1 hlv
/-- Math.min -/
theorem y_min {idx : Nat} {x y : Int} (hw1 : Cond.methodLink me.1.cls idx Lib.Math.min.name ∈ yB) (hw2 : Cond.static Lib.Math.min.name ∈ yB) (hw3 : Cond.initialized "java/lang/Math" ∈ yB) (hw4 : Cond.code Lib.Math.min.name Lib.Math.min.code 2 (some .int) ∈ yB) (hS2 : (S.map y_cat).sum ≤ 8)
    (hdg : decode me.2.1 pc = .ok (.invokestatic idx, 3)) (kk : Y g me d kc ks (pc + 3) L (vi (if y < x then y else x) :: S) M Q) : Y g me d kc ks pc L (vi y :: vi x :: S) M Q := by
  intro p l e s m args below meth c H locs cells slots mc ms ls C h1 h2 hM hL hS' hP hD hS hlv
  obtain ⟨hv, hS'⟩ := List.forall_mem_cons.mp hS'
  obtain ⟨hw, hS'⟩ := List.forall_mem_cons.mp hS'
  have hts := C.2.2.2.2.2.2.1
  refine va_mmin C.1 C.2.1 (by rw [C.2.2.1]; exact hlv.1.symm) C.2.2.2.2.2.1 (hts _ hw1) (hts _ hw2) (hts _ hw3) (hts _ hw4) (by show 1 ≤ 10 + d; omega) (by rw [y_catsum]; show _ ≤ 200 + 40 * d; omega) (by show cells ≤ mc; omega) (by show slots ≤ ms; omega) hdg ?_
  have e9 : (if Int32.ofInt y < Int32.ofInt x then Int32.ofInt y else Int32.ofInt x) = Int32.ofInt (if y < x then y else x) := by
    by_cases h : y < x
    · rw [if_pos ((y_lt hv hw).mpr h), if_pos h]
    · rw [if_neg (fun z => h ((y_lt hv hw).mp z)), if_neg h]
  rw [e9]
  exact kk p l e s m args below meth c H locs cells slots mc ms ls C h1 h2 hM hL (y_okc (v := vi _) (by split <;> assumption) hS') hP hD hS hlv
/-- a call of an instance's method, the receiver known by another way -/
theorem y_callR {me' : yM0} {d' kc' ks' n idx a : Nat} {as S0 : List yV} {Q' : yOut → yMem → Prop} (hC : yC g me' d' kc' ks' (vr a :: as) M Q') (kv : y_kV me' n) (hd : d' + 1 ≤ d) (hn : as.length = n)
    (hrec : ∀ (s : State) (H : Heap) (locs : List Loc), y_S g s s.heap → va_S (y_A g) s.heap H locs → ∃ cell : Cell, H[a]? = some cell ∧ cell.vm.isStatics = false ∧ s.vm.findClass me'.1.cls = some cell.cls)
    (hlink : Cond.methodLink me.1.cls idx me'.1 ∈ yB) (hst : S0 = as.reverse ++ vr a :: S) (hcat : (S.map y_cat).sum ≤ 8) (hdg : decode me.2.1 pc = .ok (.invokevirtual idx, 3)) (hu : y_unc me pc)
    (kx : ∀ E M1, Q' (.inr E) M1 → Q (.inr E) M1) (kk : ∀ r M1, Q' (.inl r) M1 → Y g me d kc ks (pc + 3) L (r.toList ++ S) M1 Q) : Y g me d (kc + kc') (ks + ks') pc L S0 M Q := by
  intro p l e s m args below meth c H locs cells slots mc ms ls C h1 h2 hM hL hS' hP hD hS hlv
  subst hst
  have hts := C.2.2.2.2.2.2.1
  have hSS : ∀ v ∈ S, y_ok v := fun v hv => hS' v (List.mem_append_right _ (List.mem_cons_of_mem _ hv))
  have hAs : ∀ v ∈ vr a :: as, y_ok v := y_okc trivial (fun v hv => hS' v (List.mem_append_left _ (List.mem_reverse.mpr hv)))
  refine y_behind C h1 h2 hL hSS hS hlv (vx_runV (As := as.map y_tv) (b := a) (C := me'.1.cls) (y := me'.1) (index := idx) (n := n) (own := me.1.cls) (Ts := yB) ⟨C.1, C.2.1, C.2.2.1, C.2.2.2.2.2.1, hts⟩ (hC hAs l C.2.2.2.2.2.2.2.1)
    ⟨y_callB C kv.1 hd hlink, hts _ kv.2.1, hts _ kv.2.2⟩
    ⟨y_blind, hrec s H locs (y_CxS C) hS, y_pre (as := vr a :: as) C hM hP hD hS⟩ rfl (by rw [List.length_map]; exact hn) hlv.1 ?_ ?_ hdg ⟨by show cells + kc' ≤ mc; omega, by show slots + ks' ≤ ms; omega⟩) hu kx kk
  · show List.map y_tv (as.reverse ++ vr a :: S) = (as.map y_tv).reverse ++ Value.ref a :: S.map y_tv
    rw [List.map_append, List.map_reverse]; rfl
  · exact lv_room (by rw [y_catsum]; exact hcat)
/-- throw new E("text") -/
theorem y_throwS {cls text : String} {names : List String} {ik is ic : Nat} (hcls : Bundle.fit cls = true) (hnames : ∀ n ∈ names, Bundle.fit n = true) (hlen : names.length ≤ 3)
    (hk : Cond.classLink me.1.cls ik cls ∈ yB) (hini : Cond.initialized cls ∈ yB) (hstr : (me.1.cls, is, text) ∈ y_strs) (hex : cls ∈ y_exs) (hat : ∀ w ∈ vx_atS me.1.cls ic cls names, w ∈ yB ∨ w = .castable cls cls ∨ ∃ x ∈ y_dcl, w = .declares x)
    (hu : y_unc me (pc + 9)) (hS2 : (S.map y_cat).sum ≤ 8)
    (d0 : decode me.2.1 pc = .ok (.new ik, 3)) (d3 : decode me.2.1 (pc + 3) = .ok (.dup, 1)) (d4 : decode me.2.1 (pc + 4) = .ok (.ldc is, 2)) (d6 : decode me.2.1 (pc + 6) = .ok (.invokespecial ic, 3)) (d9 : decode me.2.1 (pc + 9) = .ok (.athrow, 1))
    (hq : Q (.inr cls) M) (hkc : 1 ≤ kc) (hks : 6 ≤ ks) : Y g me d kc ks pc L S M Q := by
  intro p l e s m args below meth c H locs cells slots mc ms ls C h1 h2 hM hL hS' hP hD hS hlv
  have hts := C.2.2.2.2.2.2.1
  have hSS := y_CxS C
  obtain ⟨sa, hsa⟩ := hSS.2.2.2.2.1 _ hstr
  have gw : ∀ w ∈ yB, vx_ot w = true := fun w hw => by
    unfold vx_ot; rw [(List.mem_filter.mp hw).2, Bool.or_true]
  refine vx_throwS (A := y_A g) C.1 C.2.1 C.2.2.2.2.2.2.2.1 C.2.2.2.2.2.1 hcls hnames (hts _ hk) (hts _ hini) hsa (fun w hw => by
    rcases hat w hw with h | h | ⟨x, hx, h⟩
    · exact hts _ h
    · rw [h]; exact va_Nw.use rfl (hSS.2.2.2.2.2.2.2.2.2.1 cls hex)
    · rw [h]; exact va_Nw.use rfl (hSS.2.2.2.2.2.2.2.2.2.2.2 x hx)) ?_ hSS.2.1 hSS.2.2.1 hS (by rw [C.2.2.1]; exact hlv.1) d0 d3 d4 d6 d9 (y_uncov hu C.2.2.2.2.2.2.2.2.1) (by show _ < 10 + d; omega) (by rw [y_catsum]; show _ ≤ 200 + 40 * d; omega) (by show _ ≤ mc; omega) (by show _ ≤ ms; omega) C.2.2.2.2.1 ?_ hS.2.2 (by omega) (by omega)
  · intro w hw
    rcases List.mem_cons.mp hw with h | hw
    · rw [h]; exact gw _ hk
    rcases List.mem_cons.mp hw with h | hw
    · rw [h]; exact gw _ hini
    rcases hat w hw with h | h | ⟨x, hx, h⟩
    · exact gw _ h
    · rw [h]; rfl
    · rw [h]; rfl
  · intro t ht hsz hold
    refine ⟨⟨M, hq, Nat.le_trans C.2.2.2.2.2.2.2.2.2.2.1 (Nat.le_trans hS.1 hsz), hM, ?_, hD⟩, ?_⟩
    · exact hP.kept fun k q hk => hold _ (hP k q hk).lt
    · exact ⟨Nat.le_trans hS.1 hsz, fun q h3 h4 => (hold q (Nat.lt_of_lt_of_le h3 hS.1)).trans (hS.2.1 q h3 h4)⟩
/-- throw new E("text"), a wide index -/
theorem y_throwSW {cls text : String} {names : List String} {ik is ic : Nat} (hcls : Bundle.fit cls = true) (hnames : ∀ n ∈ names, Bundle.fit n = true) (hlen : names.length ≤ 3)
    (hk : Cond.classLink me.1.cls ik cls ∈ yB) (hini : Cond.initialized cls ∈ yB) (hstr : (me.1.cls, is, text) ∈ y_strs) (hex : cls ∈ y_exs) (hat : ∀ w ∈ vx_atS me.1.cls ic cls names, w ∈ yB ∨ w = .castable cls cls ∨ ∃ x ∈ y_dcl, w = .declares x)
    (hu : y_unc me (pc + 10)) (hS2 : (S.map y_cat).sum ≤ 8)
    (d0 : decode me.2.1 pc = .ok (.new ik, 3)) (d3 : decode me.2.1 (pc + 3) = .ok (.dup, 1)) (d4 : decode me.2.1 (pc + 4) = .ok (.ldc_w is, 3)) (d7 : decode me.2.1 (pc + 7) = .ok (.invokespecial ic, 3)) (d10 : decode me.2.1 (pc + 10) = .ok (.athrow, 1))
    (hq : Q (.inr cls) M) (hkc : 1 ≤ kc) (hks : 6 ≤ ks) : Y g me d kc ks pc L S M Q := by
  intro p l e s m args below meth c H locs cells slots mc ms ls C h1 h2 hM hL hS' hP hD hS hlv
  have hts := C.2.2.2.2.2.2.1
  have hSS := y_CxS C
  obtain ⟨sa, hsa⟩ := hSS.2.2.2.2.1 _ hstr
  have gw : ∀ w ∈ yB, vx_ot w = true := fun w hw => by
    unfold vx_ot; rw [(List.mem_filter.mp hw).2, Bool.or_true]
  refine vx_throwSW (A := y_A g) C.1 C.2.1 C.2.2.2.2.2.2.2.1 C.2.2.2.2.2.1 hcls hnames (hts _ hk) (hts _ hini) hsa (fun w hw => by
    rcases hat w hw with h | h | ⟨x, hx, h⟩
    · exact hts _ h
    · rw [h]; exact va_Nw.use rfl (hSS.2.2.2.2.2.2.2.2.2.1 cls hex)
    · rw [h]; exact va_Nw.use rfl (hSS.2.2.2.2.2.2.2.2.2.2.2 x hx)) ?_ hSS.2.1 hSS.2.2.1 hS (by rw [C.2.2.1]; exact hlv.1) d0 d3 d4 d7 d10 (y_uncov hu C.2.2.2.2.2.2.2.2.1) (by show _ < 10 + d; omega) (by rw [y_catsum]; show _ ≤ 200 + 40 * d; omega) (by show _ ≤ mc; omega) (by show _ ≤ ms; omega) C.2.2.2.2.1 ?_ hS.2.2 (by omega) (by omega)
  · intro w hw
    rcases List.mem_cons.mp hw with h | hw
    · rw [h]; exact gw _ hk
    rcases List.mem_cons.mp hw with h | hw
    · rw [h]; exact gw _ hini
    rcases hat w hw with h | h | ⟨x, hx, h⟩
    · exact gw _ h
    · rw [h]; rfl
    · rw [h]; rfl
  · intro t ht hsz hold
    refine ⟨⟨M, hq, Nat.le_trans C.2.2.2.2.2.2.2.2.2.2.1 (Nat.le_trans hS.1 hsz), hM, ?_, hD⟩, ?_⟩
    · exact hP.kept fun k q hk => hold _ (hP k q hk).lt
    · exact ⟨Nat.le_trans hS.1 hsz, fun q h3 h4 => (hold q (Nat.lt_of_lt_of_le h3 hS.1)).trans (hS.2.1 q h3 h4)⟩
end YS

/-! the constants' facts -/
theorem y_Zkind {g : yG} (i : Nat) (hi : i < 8) : ∀ (U : State) (H : Heap), y_S g U H → va_Z KNn (y_kn.getD i "") "LTenantCensus$Kind;" (.ref (g.2.2.2.1 i)) (y_A g) U H := fun _ _ h => (h.2.2.2.1.2.1.1.1 i hi).1
theorem y_Zref {g : yG} (i : Nat) (hi : i < 6) : ∀ (U : State) (H : Heap), y_S g U H → va_Z RFn (y_rn.getD i "") "LTenantCensus$Refusal;" (.ref (g.2.2.2.1 (10 + i))) (y_A g) U H := fun _ _ h => (h.2.2.2.1.2.1.2.1.1 i hi).1
theorem y_kind_inj {g : yG} {U : State} {H : Heap} (h : y_S g U H) {i j : Nat} (hi : i < 8) (hj : j < 8) (e : g.2.2.2.1 i = g.2.2.2.1 j) : i = j := h.2.2.2.1.2.1.1.2 i j hi hj e
theorem y_ref_inj {g : yG} {U : State} {H : Heap} (h : y_S g U H) {i j : Nat} (hi : i < 6) (hj : j < 6) (e : g.2.2.2.1 (10 + i) = g.2.2.2.1 (10 + j)) : i = j := h.2.2.2.1.2.1.2.1.2 i j hi hj e
def me_ord : yM0 := (yJx29ce0_ordinal_8abf5, cJx29ce0_ordinal_8abf5, 1, some .int, [])
def me_slen : yM0 := (yJ0_length_8abf5, cJ0_length_8abf5, 1, some .int, [])
def me_scod : yM0 := (yJ0_coder_7d493, cJ0_coder_7d493, 1, some .byte, [])
def me_sat : yM0 := (yJ0_charAt_5068e, cJ0_charAt_5068e, 2, some .char, [])
def me_slat : yM0 := (yJ0_isLatin1_aae02, cJ0_isLatin1_aae02, 1, some .boolean, [])
def me_schk : yM0 := (yJ0_checkIndex_df160, cJ0_checkIndex_df160, 2, none, [])
def me_lat : yM0 := (yJ1_charAt_3b067, cJ1_charAt_3b067, 2, some .char, [])
def me_pchk : yM0 := (yJ3_checkIndex_8e157, cJ3_checkIndex_8e157, 3, some .int, [])
