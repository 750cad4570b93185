/-! ===== values, objects, memory: the system's cells in whole numbers ===== -/
abbrev yV : Type := Int ⊕ (Int ⊕ Value)
abbrev vi (x : Int) : yV := Sum.inl x
abbrev vl (x : Int) : yV := Sum.inr (Sum.inl x)
abbrev vv (v : Value) : yV := Sum.inr (Sum.inr v)
abbrev vr (a : Nat) : yV := Sum.inr (Sum.inr (Value.ref a))
def y_tv : yV → Value
  | .inl x => .int (Int32.ofInt x)
  | .inr (.inl x) => .long (Int64.ofInt x)
  | .inr (.inr v) => v
abbrev y_in (x : Int) : Prop := -2147483648 ≤ x ∧ x ≤ 2147483647
abbrev y_inL (x : Int) : Prop := -9223372036854775808 ≤ x ∧ x ≤ 9223372036854775807
def y_ok : yV → Prop
  | .inl x => y_in x
  | .inr (.inl x) => y_inL x
  | .inr (.inr _) => True
abbrev yO : Type := List Int ⊕ (List Int ⊕ (List Int ⊕ (List UInt64 ⊕ ((Nat × List (Option Nat)) ⊕ (Nat × List yV)))))
abbrev oi (xs : List Int) : yO := .inl xs
abbrev oc (xs : List Int) : yO := .inr (.inl xs)
abbrev ol (xs : List Int) : yO := .inr (.inr (.inl xs))
abbrev od (xs : List UInt64) : yO := .inr (.inr (.inr (.inl xs)))
abbrev oq (t : Nat) (fs : List (Option Nat)) : yO := .inr (.inr (.inr (.inr (.inl (t, fs)))))
abbrev oo (c : Nat) (fs : List yV) : yO := .inr (.inr (.inr (.inr (.inr (c, fs)))))
/-- the run's constants: the classes' numbers, the array classes, the first new address, the addresses of constant things -/
abbrev yG : Type := va_G × (Nat → ClassId) × Nat × (Nat → Nat) × Nat × (Nat → Int)
def y_C (g : yG) : List (ClassId × FieldType) := [(g.2.1 0, .int), (g.2.1 1, .char), (g.2.1 2, .long), (g.2.1 3, .double), (g.2.1 4, .object RX2), (g.2.1 5, .array .int)]
def y_A (g : yG) : Nat → Prop := fun q => g.2.2.1 ≤ q
def y_te (g : yG) : yO → va_E
  | .inl xs => .inl (g.2.1 0, xs.length, .inl (fun j => Int32.ofInt (xs.getD j 0)))
  | .inr (.inl xs) => .inl (g.2.1 1, xs.length, .inl (fun j => Int32.ofInt (xs.getD j 0)))
  | .inr (.inr (.inl xs)) => .inl (g.2.1 2, xs.length, .inr (.inl (fun j => Int64.ofInt (xs.getD j 0))))
  | .inr (.inr (.inr (.inl xs))) => .inl (g.2.1 3, xs.length, .inr (.inr (.inr (.inl (fun j => xs.getD j 0)))))
  | .inr (.inr (.inr (.inr (.inl (t, fs))))) => .inl (g.2.1 t, fs.length, .inr (.inr (.inr (.inr (fun j => fs.getD j none)))))
  | .inr (.inr (.inr (.inr (.inr (c, fs))))) => .inr (c, fs.map y_tv)
def y_okO : yO → Prop
  | .inl xs => (∀ x ∈ xs, y_in x) ∧ xs.length < 2147483648
  | .inr (.inl xs) => (∀ x ∈ xs, 0 ≤ x ∧ x ≤ 65535) ∧ xs.length < 2147483648
  | .inr (.inr (.inl xs)) => (∀ x ∈ xs, y_inL x) ∧ xs.length < 2147483648
  | .inr (.inr (.inr (.inl xs))) => xs.length < 2147483648
  | .inr (.inr (.inr (.inr (.inl (_, fs))))) => fs.length < 2147483648
  | .inr (.inr (.inr (.inr (.inr (_, fs))))) => ∀ v ∈ fs, y_ok v
abbrev yMem : Type := List (Nat × yO)
def y_tw (g : yG) (M : yMem) : va_W := M.map (fun q => (q.1, y_te g q.2))
def y_okM (M : yMem) : Prop := ∀ q ∈ M, y_okO q.2
theorem y_tw_at {g : yG} {M : yMem} {k a : Nat} {o : yO} (h : M[k]? = some (a, o)) : (y_tw g M)[k]? = some (a, y_te g o) := by
  unfold y_tw; rw [List.getElem?_map, h]; rfl
theorem y_tw_set {g : yG} {M : yMem} {k a : Nat} {o : yO} : (y_tw g M).set k (a, y_te g o) = y_tw g (M.set k (a, o)) := by
  unfold y_tw; rw [List.map_set]
theorem y_okM_at {M : yMem} {k a : Nat} {o : yO} (h : y_okM M) (hk : M[k]? = some (a, o)) : y_okO o := h (a, o) (List.mem_of_getElem? hk)
theorem y_okM_set {M : yMem} {k a : Nat} {o : yO} (h : y_okM M) (ho : y_okO o) : y_okM (M.set k (a, o)) := by
  intro q hq
  rcases List.mem_or_eq_of_mem_set hq with h1 | h1
  · exact h q h1
  · rw [h1]; exact ho
theorem y_okM_push {M : yMem} {a : Nat} {o : yO} (h : y_okM M) (ho : y_okO o) : y_okM (M ++ [(a, o)]) := by
  intro q hq
  rcases List.mem_append.mp hq with h1 | h1
  · exact h q h1
  · rw [List.mem_singleton] at h1; rw [h1]; exact ho
/-! ===== whole numbers and the machine's ===== -/
def wr (x : Int) : Int := (x + 2147483648) % 4294967296 - 2147483648
theorem wr_in (x : Int) : y_in (wr x) := by unfold wr; omega
theorem wr_eq {x : Int} (h : y_in x) : wr x = x := by unfold wr; omega
theorem y_toInt {x : Int} (h : y_in x) : (Int32.ofInt x).toInt = x := by
  have hs : ((Int32.size : Nat) : Int) = 4294967296 := rfl
  rw [Int32.toInt_ofInt, Int.bmod_eq_of_le_mul_two]
  · rw [hs]; omega
  · rw [hs]; omega
theorem y_ofInt_wr (x : Int) : Int32.ofInt (wr x) = Int32.ofInt x := by
  apply Int32.toInt_inj.mp
  rw [y_toInt (wr_in x), Int32.toInt_ofInt, Int.bmod_def]
  unfold wr
  show _ = if x % ((2 ^ 32 : Nat) : Int) < (((2 ^ 32 : Nat) : Int) + 1) / 2 then x % ((2 ^ 32 : Nat) : Int) else x % ((2 ^ 32 : Nat) : Int) - ((2 ^ 32 : Nat) : Int)
  rw [show ((2 ^ 32 : Nat) : Int) = 4294967296 from rfl]
  split <;> omega
theorem y_inj {x y : Int} (hx : y_in x) (hy : y_in y) (h : Int32.ofInt x = Int32.ofInt y) : x = y := by
  have := congrArg Int32.toInt h
  rwa [y_toInt hx, y_toInt hy] at this
theorem y_le {x y : Int} (hx : y_in x) (hy : y_in y) : Int32.ofInt x ≤ Int32.ofInt y ↔ x ≤ y := by
  rw [Int32.le_iff_toInt_le, y_toInt hx, y_toInt hy]
theorem y_lt {x y : Int} (hx : y_in x) (hy : y_in y) : Int32.ofInt x < Int32.ofInt y ↔ x < y := by
  rw [Int32.lt_iff_toInt_lt, y_toInt hx, y_toInt hy]
theorem y_eq {x y : Int} (hx : y_in x) (hy : y_in y) : Int32.ofInt x = Int32.ofInt y ↔ x = y := ⟨y_inj hx hy, fun h => by rw [h]⟩
theorem y_clamp {x : Int} (hx : y_in x) : (Int32.ofInt x).toNatClampNeg = x.toNat := by
  show (Int32.ofInt x).toInt.toNat = _
  rw [y_toInt hx]
theorem y_zero : Int32.ofInt 0 = 0 := rfl
def ga (xs : List Int) (i : Int) : Int := xs.getD i.toNat 0
def sa (xs : List Int) (i : Int) (v : Int) : List Int := xs.set i.toNat v
theorem y_getD_in {xs : List Int} (h : ∀ x ∈ xs, y_in x) (j : Nat) : y_in (xs.getD j 0) := by
  rw [List.getD_eq_getElem?_getD]
  cases hj : xs[j]? with
  | none => exact ⟨by decide, by decide⟩
  | some v => exact h v (List.mem_of_getElem? hj)
theorem y_mem_set {α : Type} {P : α → Prop} {xs : List α} {k : Nat} {v : α} (h : ∀ x ∈ xs, P x) (hv : P v) : ∀ x ∈ xs.set k v, P x := by
  intro x hx
  rcases List.mem_or_eq_of_mem_set hx with h1 | h1
  · exact h x h1
  · rw [h1]; exact hv
/-! ===== the words: all good ones of the tables ===== -/
def yB : List Cond := lw_tbl.filter goodWord
theorem yb {w : Cond} (i : Nat) (h : lw_tbl[i]? = some w) (g : goodWord w = true) : w ∈ yB := List.mem_filter.mpr ⟨List.mem_of_getElem? h, g⟩
theorem yb_good {w : Cond} (h : w ∈ yB) : (w.onTables && w.keeps) = true ∨ ∃ ty, w = .arrayClass ty := good_of_word (List.mem_filter.mp h).2
/-- a method: its name, bytes, number of locals, what it returns -/
abbrev yM0 : Type := MethodName × ByteArray × Nat × Option FieldType × List (Nat × Nat × Nat × Nat)
def y_ws (me : yM0) : List Cond := (bif me.2.2.2.2.isEmpty then .code me.1 me.2.1 me.2.2.1 me.2.2.2.1 else .codeWith me.1 me.2.1 me.2.2.1 me.2.2.2.1 me.2.2.2.2) :: yB
def y_rm (d kc ks : Nat) : Room := { frames := 10 + d, cells := kc, slots := ks, locals := 200 + 40 * d }

/-! ===== the judgement ===== -/
abbrev y_cl : List vw_C := [(RX1, TX1, 3), (RX2, TX2, 17), (RX4, TX4, 5), (RX5, TX5, 7), (RX7, TX7, 3), (RX8, TX8, 2), (RX9, TX9, 12), (RX10, TX10, 24)]
/-- what comes out: a value or none, or an exception's class -/
abbrev yOut : Type := Option yV ⊕ String
/-- the strings that exceptions are made with -/
def y_strs : List (String × Nat × String) := [("TenantCensus", 163, "the flat is vacant"), ("TenantCensus", 202, "no such rank"), ("TenantCensus", 240, "no tenant is evicted in these months"), ("TenantCensus", 261, "nobody lives in a flat"), ("TenantCensus", 267, "there are no flats"), ("TenantCensus", 294, "no such character"), ("TenantCensus", 303, "the program buffer is full"), ("TenantCensus", 315, "the text is not a program"), ("TenantCensus", 330, "a command fails"), ("TenantCensus", 333, "every text was a program"), ("TenantCensus", 335, "no command failed"), ("TenantCensus", 340, "no change can be undone"), ("TenantCensus", 345, "no state was saved"), ("TenantCensus", 360, "no such tenant"), ("TenantCensus", 362, "no such flat"), ("TenantCensus", 364, "an argument is out of range"), ("TenantCensus", 366, "not in this state of the house"), ("TenantCensus", 368, "the tenant cannot afford the flat"), ("TenantCensus", 377, "no such floor"), ("TenantCensus", 379, "the best plan gives no flat to the tenant"), ("TenantCensus", 381, "the tenant lives in no flat")]
/-- the enums' constants, by their names -/
def y_kn : List String := ["FLAT", "TENANT", "IN", "OUT", "RENT", "GIFT", "SETTLE", "MONTH"]
def y_rn : List String := ["NOTHING", "NO_TENANT", "NO_FLAT", "OUT_OF_RANGE", "WRONG_STATE", "TOO_DEAR"]
def y_kF : List (String × String × String × List Int32) := [("java/lang/Enum", "ordinal", "I", [0, 1, 2, 3, 4, 5, 6, 7])]
def y_rF : List (String × String × String × List Int32) := [("java/lang/Enum", "ordinal", "I", [0, 1, 2, 3, 4, 5])]
def y_len : List Nat := formS.map List.length
def y_byt : List (List Int32) := formS.map (List.map Int32.ofInt)
/-- the statics and their arrays -/
def y_K1 (g : yG) (A : Nat → Prop) (U : State) (H : Heap) : Prop :=
  va_Z TCn "KINDS" "[LTenantCensus$Kind;" (.ref (g.2.2.2.1 20)) A U H ∧ va_T (.object KNn) (g.2.2.2.1 20) 8 (fun j => .ref (g.2.2.2.1 j)) A U H ∧
  va_Z T1n "$SwitchMap$TenantCensus$Kind" "[I" (.ref (g.2.2.2.1 21)) A U H ∧ va_T .int (g.2.2.2.1 21) 8 (fun j => .int (Int32.ofInt (swKind j))) A U H ∧
  va_Z T1n "$SwitchMap$TenantCensus$Refusal" "[I" (.ref (g.2.2.2.1 22)) A U H ∧ va_T .int (g.2.2.2.1 22) 6 (fun j => .int (Int32.ofInt (swRefusal j))) A U H
/-- the enums and the strings in them -/
def y_K2 (g : yG) (A : Nat → Prop) (U : State) (H : Heap) : Prop :=
  va_En KNn "LTenantCensus$Kind;" y_kn y_kF (fun i => g.2.2.2.1 i) A U H ∧ va_En RFn "LTenantCensus$Refusal;" y_rn y_rF (fun i => g.2.2.2.1 (10 + i)) A U H ∧
  (∀ i, i < 8 → va_OF KNn "form" "Ljava/lang/String;" (.ref (g.2.2.2.1 (30 + i))) (g.2.2.2.1 i) A U H) ∧ vk_S 8 y_len y_byt (fun i => g.2.2.2.1 (30 + i)) (fun i => g.2.2.2.1 (40 + i)) A U H ∧
  va_Z STn "COMPACT_STRINGS" "Z" (.int 1) A U H ∧ va_Zq PRn "SIOOBE_FORMATTER" "Ljava/util/function/BiFunction;" A U H
/-- the law's script -/
def y_K3 (g : yG) (A : Nat → Prop) (U : State) (H : Heap) : Prop := va_X (g.2.2.2.1 50) g.2.2.2.2.1 (fun j => Int32.ofInt (g.2.2.2.2.2 j)) U H ∧ ¬ A (g.2.2.2.1 50) ∧ g.2.2.2.1 50 < H.size
def y_KA (g : yG) (A : Nat → Prop) (U : State) (H : Heap) : Prop := y_K1 g A U H ∧ y_K2 g A U H ∧ y_K3 g A U H
theorem y_KA.moved {g : yG} {A : Nat → Prop} {u U : State} {H : Heap} (hvm : u.vm.Alike U.vm) (h : y_KA g A u H) : y_KA g A U H := by
  obtain ⟨⟨a1, a2, a3, a4, a5, a6⟩, ⟨b1, b2, b3, b4, b5, b6⟩, c1, c2, c3⟩ := h
  exact ⟨⟨va_Z.moved hvm a1, va_T.moved hvm a2, va_Z.moved hvm a3, va_T.moved hvm a4, va_Z.moved hvm a5, va_T.moved hvm a6⟩,
    ⟨va_En.moved hvm b1, va_En.moved hvm b2, fun i hi => va_OF.moved hvm (b3 i hi), vk_S.moved hvm b4, va_Z.moved hvm b5, va_Zq.moved hvm b6⟩, va_X.moved hvm c1, c2, c3⟩
theorem y_KA.kept {g : yG} {A : Nat → Prop} {U : State} {H H1 : Heap} (h : y_KA g A U H) (hs : H.size ≤ H1.size) (hq : ∀ a : Nat, a < H.size → ¬ A a → H1[a]? = H[a]?) : y_KA g A U H1 := by
  obtain ⟨⟨a1, a2, a3, a4, a5, a6⟩, ⟨b1, b2, b3, b4, b5, b6⟩, c1, c2, c3⟩ := h
  exact ⟨⟨a1.kept hq, a2.kept hq, a3.kept hq, a4.kept hq, a5.kept hq, a6.kept hq⟩,
    ⟨b1.kept hq, b2.kept hq, fun i hi => (b3 i hi).kept hq, b4.kept hq, b5.kept hq, b6.kept hq⟩, c1.kept (hq _ c3 c2), c2, Nat.lt_of_lt_of_le c3 hs⟩
/-- the texts of exceptions -/
def y_R (U : State) : Prop := ∀ q ∈ y_strs, ∃ sa : Nat, vk_R q.1 q.2.1 q.2.2 sa U
def y_nwM : List (String × Nat × MethodName × String) := [("TenantCensus", 11, ⟨"TenantCensus$House", "<init>", "()V"⟩, "TenantCensus"), ("TenantCensus$History", 24, ⟨"TenantCensus$House", "<init>", "()V"⟩, "TenantCensus"), ("TenantCensus", 31, ⟨"TenantCensus$Planner", "<init>", "()V"⟩, "TenantCensus"), ("TenantCensus", 38, ⟨"TenantCensus$Spreader", "<init>", "()V"⟩, "TenantCensus"), ("TenantCensus", 45, ⟨"TenantCensus$Parser", "<init>", "()V"⟩, "TenantCensus"), ("TenantCensus", 52, ⟨"TenantCensus$Text", "<init>", "()V"⟩, "TenantCensus"), ("TenantCensus$Planner", 36, ⟨"TenantCensus", "fill", "([II)V"⟩, "TenantCensus"), ("TenantCensus$Spreader", 48, ⟨"TenantCensus", "fill", "([II)V"⟩, "TenantCensus"), ("TenantCensus$House", 81, ⟨"TenantCensus", "isWithin", "(III)Z"⟩, "TenantCensus")]
def y_nce : List (String × String) := [("java/lang/ArithmeticException", "java/lang/IllegalArgumentException"), ("java/lang/ArithmeticException", "java/lang/IllegalStateException"), ("java/lang/ArithmeticException", "java/lang/IndexOutOfBoundsException"), ("java/lang/ArithmeticException", "java/lang/UnsupportedOperationException"), ("java/lang/ArithmeticException", "java/util/NoSuchElementException"), ("java/lang/IllegalArgumentException", "java/lang/ArithmeticException"), ("java/lang/IllegalArgumentException", "java/lang/IllegalStateException"), ("java/lang/IllegalArgumentException", "java/lang/IndexOutOfBoundsException"), ("java/lang/IllegalArgumentException", "java/lang/UnsupportedOperationException"), ("java/lang/IllegalArgumentException", "java/util/NoSuchElementException"), ("java/lang/IllegalStateException", "java/lang/ArithmeticException"), ("java/lang/IllegalStateException", "java/lang/IllegalArgumentException"), ("java/lang/IllegalStateException", "java/lang/IndexOutOfBoundsException"), ("java/lang/IllegalStateException", "java/lang/UnsupportedOperationException"), ("java/lang/IllegalStateException", "java/util/NoSuchElementException"), ("java/lang/IndexOutOfBoundsException", "java/lang/ArithmeticException"), ("java/lang/IndexOutOfBoundsException", "java/lang/IllegalArgumentException"), ("java/lang/IndexOutOfBoundsException", "java/lang/IllegalStateException"), ("java/lang/IndexOutOfBoundsException", "java/lang/UnsupportedOperationException"), ("java/lang/IndexOutOfBoundsException", "java/util/NoSuchElementException"), ("java/lang/UnsupportedOperationException", "java/lang/ArithmeticException"), ("java/lang/UnsupportedOperationException", "java/lang/IllegalArgumentException"), ("java/lang/UnsupportedOperationException", "java/lang/IllegalStateException"), ("java/lang/UnsupportedOperationException", "java/lang/IndexOutOfBoundsException"), ("java/lang/UnsupportedOperationException", "java/util/NoSuchElementException"), ("java/util/NoSuchElementException", "java/lang/ArithmeticException"), ("java/util/NoSuchElementException", "java/lang/IllegalArgumentException"), ("java/util/NoSuchElementException", "java/lang/IllegalStateException"), ("java/util/NoSuchElementException", "java/lang/IndexOutOfBoundsException"), ("java/util/NoSuchElementException", "java/lang/UnsupportedOperationException")]
def y_exs : List String := ["java/util/NoSuchElementException", "java/lang/IndexOutOfBoundsException", "java/lang/IllegalArgumentException", "java/lang/IllegalStateException", "java/lang/UnsupportedOperationException", "java/lang/ArithmeticException"]
def y_dcl : List MethodName := [⟨"java/lang/Enum", "ordinal", "()I"⟩, ⟨"java/lang/RuntimeException", "<init>", "()V"⟩, ⟨"java/lang/RuntimeException", "<init>", "(Ljava/lang/String;)V"⟩, ⟨"java/lang/Exception", "<init>", "()V"⟩, ⟨"java/lang/Exception", "<init>", "(Ljava/lang/String;)V"⟩, ⟨"java/lang/Throwable", "<init>", "()V"⟩, ⟨"java/lang/Throwable", "<init>", "(Ljava/lang/String;)V"⟩, ⟨"java/lang/IndexOutOfBoundsException", "<init>", "()V"⟩, ⟨"java/lang/IndexOutOfBoundsException", "<init>", "(Ljava/lang/String;)V"⟩]
/-- words of the tables that say more than the tables' rows: nest mates, arrays, casts -/
def y_N (U : State) : Prop := (∀ q ∈ y_nwM, va_Nw (.methodLinkNest q.1 q.2.1 q.2.2.1 q.2.2.2) U) ∧ va_Nw (.fieldLinkNest "TenantCensus$Parser" 77 "TenantCensus" "KINDS" "[LTenantCensus$Kind;" "TenantCensus") U ∧ va_AO "TenantCensus$House" U ∧ va_AOA .int U ∧ (∀ E ∈ y_exs, va_Nw (.castable E E) U) ∧ (∀ q ∈ y_nce, va_Nc q.1 q.2 U) ∧ ∀ x ∈ y_dcl, va_Nw (.declares x) U
theorem y_AOm {s U : State} (hW : s.WarmedH U.vm) (h : va_AOA .int s) : va_AOA .int U := by
  intro A
  have h1 : (Cond.arrayOver (.array .int)).before A (s.setVm U.vm) = true := by rw [Cond.arrayOver_setVmC hW.alike]; exact h A
  simp only [Cond.before, Cond.holds, Cond.value] at h1 ⊢
  exact h1
theorem y_N.move {s U : State} (hW : s.WarmedH U.vm) (h : y_N s) : y_N U :=
  ⟨fun q hq => va_Nw.warmM hW (h.1 q hq), va_Nw.warmF hW h.2.1, va_AO.moved hW.alike h.2.2.1, y_AOm hW h.2.2.2.1, fun E hE => va_Nw.warmC hW (h.2.2.2.2.1 E hE), fun q hq => va_Nc.moved hW.alike (h.2.2.2.2.2.1 q hq), fun x hx => va_Nw.warmD hW (h.2.2.2.2.2.2 x hx)⟩
/-- what is constant: classes, array classes, Throwable's statics, the claim's own constants -/
def y_S (g : yG) (U : State) (H : Heap) : Prop :=
  va_K g.1 y_cl (y_C g) U ∧ vx_Zq Bundle.tN "UNASSIGNED_STACK" Bundle.steD (y_A g) U H ∧ vx_Zq Bundle.tN "SUPPRESSED_SENTINEL" Bundle.listD (y_A g) U H ∧ y_KA g (y_A g) U H ∧ y_R U ∧ y_N U
theorem y_S.move {g : yG} {s U : State} {H : Heap} (hW : s.WarmedH U.vm) (h : y_S g s s.heap) (hs : s.heap.size ≤ H.size) (hq : ∀ a : Nat, a < s.heap.size → ¬ y_A g a → H[a]? = s.heap[a]?) : y_S g U H :=
  ⟨va_K.moved hW.alike h.1, (vx_Zq.moved hW.alike h.2.1).kept hq, (vx_Zq.moved hW.alike h.2.2.1).kept hq, (y_KA.moved hW.alike h.2.2.2.1).kept hs hq, (fun q hq9 => (h.2.2.2.2.1 q hq9).imp fun sa h9 => vk_R.warm hW h9), h.2.2.2.2.2.move hW⟩
/-- the moving part of a state -/
def y_W (g : yG) (M : yMem) (U : State) : Prop := g.2.2.1 ≤ U.heap.size ∧ y_okM M ∧ va_P g.1 y_cl (y_tw g M) U.heap ∧ va_D (y_A g) (y_tw g M)
def y_Pc (g : yG) (as : List yV) (M : yMem) : Array Value → State → Prop := va_Pc (as.map y_tv) (fun U => y_W g M U ∧ y_S g U U.heap)
def y_Qc (g : yG) (Q : yOut → yMem → Prop) : Array Value → State → Outcome → State → Prop := fun _ st oc t =>
  (∃ (r : Option yV) (M : yMem), oc = .returned (r.map y_tv) ∧ (∀ v, r = some v → y_ok v) ∧ Q (.inl r) M ∧ y_W g M t) ∧ va_F (y_A g) st t
def y_XC (g : yG) (Q : yOut → yMem → Prop) : String → State → State → Prop := fun E st t => (∃ M : yMem, Q (.inr E) M ∧ y_W g M t) ∧ va_F (y_A g) st t
/-- a method's contract -/
def yC (g : yG) (me : yM0) (d kc ks : Nat) (as : List yV) (M : yMem) (Q : yOut → yMem → Prop) : Prop :=
  (∀ v ∈ as, y_ok v) → ∀ l : Launch, l.stackTraces = false → vx_Met l me.1 (y_ws me) (y_rm d kc ks) (y_Pc g as M) (y_Qc g Q) (y_XC g Q) kc ks (y_A g)
def y_Cx (g : yG) (me : yM0) (p : Program) (l : Launch) (s : State) (m : MethodId) (args : Array Value) (meth : Method) (c : Code) : Prop :=
  p.tables.exec = Jvm.exec ∧ c.code = me.2.1 ∧ c.maxLocals = me.2.2.1 ∧ meth.sig.returnType = me.2.2.2.1 ∧ meth.locks = false ∧ s.vm.findClass me.1.cls = some m.cls ∧ (∀ w ∈ yB, w.before args s = true) ∧ l.stackTraces = false ∧ c.exceptionTable.toList.map (fun x => (x.startPc, x.endPc, x.handlerPc, x.catchType)) = me.2.2.2.2 ∧ y_S g s s.heap ∧ g.2.2.1 ≤ s.heap.size ∧ meth.name = me.1.name
/-- from this point of the body the method ends with Q -/
def Y (g : yG) (me : yM0) (d kc ks pc : Nat) (L : List (Nat × yV)) (S : List yV) (M : yMem) (Q : yOut → yMem → Prop) : Prop :=
  ∀ (p : Program) (l : Launch) (e : Env) (s : State) (m : MethodId) (args : Array Value) (below : List Frame) (meth : Method) (c : Code) (H : Heap) (locs : List Loc) (cells slots mc ms : Nat) (ls : Array Slot),
    y_Cx g me p l s m args meth c → cells + kc ≤ mc → slots + ks ≤ ms → y_okM M → (∀ q ∈ L, y_ok q.2) → (∀ v ∈ S, y_ok v) → va_P g.1 y_cl (y_tw g M) H → va_D (y_A g) (y_tw g M) → va_S (y_A g) s.heap H locs → lv_has ls me.2.2.1 (L.map fun q => (q.1, y_tv q.2)) →
    W p l e (y_rm d mc ms) s m args below meth c H locs cells slots (vx_MQ below (y_Qc g Q) (y_XC g Q) args s mc ms (y_A g)) (F0 m pc ls (S.map y_tv))
section YR
variable {g : yG} {me : yM0} {d kc ks pc : Nat} {L : List (Nat × yV)} {S : List yV} {M : yMem} {Q : yOut → yMem → Prop}
theorem y_okc {v : yV} {S : List yV} (hv : y_ok v) (h : ∀ v ∈ S, y_ok v) : ∀ w ∈ v :: S, y_ok w := List.forall_mem_cons.mpr ⟨hv, h⟩
/-! locals -/
def y_get (i : Nat) : List (Nat × yV) → Option yV
  | [] => none
  | (j, w) :: L => bif j == i then some w else y_get i L
theorem y_get_mem {i : Nat} {v : yV} : ∀ {L : List (Nat × yV)}, y_get i L = some v → (i, v) ∈ L
  | (j, w) :: L, h => by
    unfold y_get at h
    cases hj : (j == i) with
    | true =>
      rw [hj] at h
      rw [beq_iff_eq] at hj
      subst hj
      cases h
      exact List.mem_cons_self
    | false =>
      rw [hj] at h
      exact List.mem_cons_of_mem _ (y_get_mem h)
theorem y_lv {ls : Array Slot} {n i : Nat} {v : yV} (h : lv_has ls n (L.map fun q => (q.1, y_tv q.2))) (hg : y_get i L = some v) : ls[i]? = some (.val (y_tv v)) :=
  h.2.2 (i, y_tv v) (List.mem_map.mpr ⟨(i, v), y_get_mem hg, rfl⟩)
theorem y_iload_n {k : Fin 4} {i : Nat} {x : Int} (hdg : decode me.2.1 pc = .ok (.iload_n k, 1)) (hi : (k : Nat) = i) (hl : y_get i L = some (vi x)) (kk : Y g me d kc ks (pc + 1) L (vi x :: S) M Q) : Y g me d kc ks pc L S M Q := by
  intro p l e s m args below meth c H locs cells slots mc ms ls C h1 h2 hM hL hS' hP hD hS hlv
  exact lv_iload_n C.1 C.2.1 hdg hi (y_lv hlv hl) (kk p l e s m args below meth c H locs cells slots mc ms ls C h1 h2 hM hL (y_okc (hL _ (y_get_mem hl)) hS') hP hD hS hlv)
theorem y_iload {i : Nat} {x : Int} (hdg : decode me.2.1 pc = .ok (.iload i, 2)) (hl : y_get i L = some (vi x)) (kk : Y g me d kc ks (pc + 2) L (vi x :: S) M Q) : Y g me d kc ks pc L S M Q := by
  intro p l e s m args below meth c H locs cells slots mc ms ls C h1 h2 hM hL hS' hP hD hS hlv
  exact lv_iload C.1 C.2.1 hdg (y_lv hlv hl) (kk p l e s m args below meth c H locs cells slots mc ms ls C h1 h2 hM hL (y_okc (hL _ (y_get_mem hl)) hS') hP hD hS hlv)
theorem y_aload_n {k : Fin 4} {i : Nat} {x : Nat} (hdg : decode me.2.1 pc = .ok (.aload_n k, 1)) (hi : (k : Nat) = i) (hl : y_get i L = some (vr x)) (kk : Y g me d kc ks (pc + 1) L (vr x :: S) M Q) : Y g me d kc ks pc L S M Q := by
  intro p l e s m args below meth c H locs cells slots mc ms ls C h1 h2 hM hL hS' hP hD hS hlv
  exact lv_aload_n C.1 C.2.1 hdg hi (y_lv hlv hl) (kk p l e s m args below meth c H locs cells slots mc ms ls C h1 h2 hM hL (y_okc (hL _ (y_get_mem hl)) hS') hP hD hS hlv)
theorem y_aload {i : Nat} {x : Nat} (hdg : decode me.2.1 pc = .ok (.aload i, 2)) (hl : y_get i L = some (vr x)) (kk : Y g me d kc ks (pc + 2) L (vr x :: S) M Q) : Y g me d kc ks pc L S M Q := by
  intro p l e s m args below meth c H locs cells slots mc ms ls C h1 h2 hM hL hS' hP hD hS hlv
  exact lv_aload C.1 C.2.1 hdg (y_lv hlv hl) (kk p l e s m args below meth c H locs cells slots mc ms ls C h1 h2 hM hL (y_okc (hL _ (y_get_mem hl)) hS') hP hD hS hlv)
def y_cat : yV → Nat
  | .inl _ => 1
  | .inr (.inl _) => 2
  | .inr (.inr v) => v.category
theorem y_cat_tv (v : yV) : (y_tv v).category = y_cat v := by
  rcases v with x | x | x <;> rfl
/-- the locals behind a store of one slot -/
def y_st (i : Nat) (v : yV) (L : List (Nat × yV)) : List (Nat × yV) := (i, v) :: L.filter (fun q => !(q.1 == i) && !(q.1 + 1 == i && y_cat q.2 == 2))
theorem y_st_map (i : Nat) (v : yV) (L : List (Nat × yV)) : (i, y_tv v) :: (L.map fun q => (q.1, y_tv q.2)).filter (fun q => !(q.1 == i) && !(q.1 + 1 == i && q.2.category == 2)) = (y_st i v L).map fun q => (q.1, y_tv q.2) := by
  unfold y_st
  rw [List.map_cons, List.filter_map]
  refine congrArg _ (congrArg _ ?_)
  apply List.filter_congr
  intro q _
  show _ = (!(q.1 == i) && !(q.1 + 1 == i && y_cat q.2 == 2))
  rw [← y_cat_tv]
  rfl
theorem y_st_ok {i : Nat} {v : yV} {L L' : List (Nat × yV)} (h : ∀ q ∈ L, y_ok q.2) (hv : y_ok v) (he : y_st i v L = L') : ∀ q ∈ L', y_ok q.2 := by
  subst he
  intro q hq
  rcases List.mem_cons.mp hq with h1 | h1
  · rw [h1]; exact hv
  · exact h q (List.mem_filter.mp h1).1
theorem y_istore_n {k : Fin 4} {i : Nat} {x : Int} {L' : List (Nat × yV)} (hdg : decode me.2.1 pc = .ok (.istore_n k, 1)) (hi : (k : Nat) = i) (hn : i < me.2.2.1) (hl : y_st i (vi x) L = L') (kk : Y g me d kc ks (pc + 1) L' S M Q) : Y g me d kc ks pc L (vi x :: S) M Q := by
  intro p l e s m args below meth c H locs cells slots mc ms ls C h1 h2 hM hL hS' hP hD hS hlv
  obtain ⟨hv, hS'⟩ := List.forall_mem_cons.mp hS'
  exact lv_istore_n C.1 C.2.1 hdg hi hlv hn (y_st_map i (vi x) L) (fun ls' hl' => kk p l e s m args below meth c H locs cells slots mc ms ls' C h1 h2 hM (y_st_ok hL hv hl) hS' hP hD hS (by rw [← hl]; exact hl'))
theorem y_istore {i : Nat} {x : Int} {L' : List (Nat × yV)} (hdg : decode me.2.1 pc = .ok (.istore i, 2)) (hn : i < me.2.2.1) (hl : y_st i (vi x) L = L') (kk : Y g me d kc ks (pc + 2) L' S M Q) : Y g me d kc ks pc L (vi x :: S) M Q := by
  intro p l e s m args below meth c H locs cells slots mc ms ls C h1 h2 hM hL hS' hP hD hS hlv
  obtain ⟨hv, hS'⟩ := List.forall_mem_cons.mp hS'
  exact lv_istore C.1 C.2.1 hdg hlv hn (y_st_map i (vi x) L) (fun ls' hl' => kk p l e s m args below meth c H locs cells slots mc ms ls' C h1 h2 hM (y_st_ok hL hv hl) hS' hP hD hS (by rw [← hl]; exact hl'))
theorem y_astore_n {k : Fin 4} {i : Nat} {x : Nat} {L' : List (Nat × yV)} (hdg : decode me.2.1 pc = .ok (.astore_n k, 1)) (hi : (k : Nat) = i) (hn : i < me.2.2.1) (hl : y_st i (vr x) L = L') (kk : Y g me d kc ks (pc + 1) L' S M Q) : Y g me d kc ks pc L (vr x :: S) M Q := by
  intro p l e s m args below meth c H locs cells slots mc ms ls C h1 h2 hM hL hS' hP hD hS hlv
  obtain ⟨hv, hS'⟩ := List.forall_mem_cons.mp hS'
  exact lv_astore_n C.1 C.2.1 hdg hi hlv hn (y_st_map i (vr x) L) (fun ls' hl' => kk p l e s m args below meth c H locs cells slots mc ms ls' C h1 h2 hM (y_st_ok hL hv hl) hS' hP hD hS (by rw [← hl]; exact hl'))
theorem y_astore {i : Nat} {x : Nat} {L' : List (Nat × yV)} (hdg : decode me.2.1 pc = .ok (.astore i, 2)) (hn : i < me.2.2.1) (hl : y_st i (vr x) L = L') (kk : Y g me d kc ks (pc + 2) L' S M Q) : Y g me d kc ks pc L (vr x :: S) M Q := by
  intro p l e s m args below meth c H locs cells slots mc ms ls C h1 h2 hM hL hS' hP hD hS hlv
  obtain ⟨hv, hS'⟩ := List.forall_mem_cons.mp hS'
  exact lv_astore C.1 C.2.1 hdg hlv hn (y_st_map i (vr x) L) (fun ls' hl' => kk p l e s m args below meth c H locs cells slots mc ms ls' C h1 h2 hM (y_st_ok hL hv hl) hS' hP hD hS (by rw [← hl]; exact hl'))
/-! constants -/
theorem y_iconst {n : Int} (hdg : decode me.2.1 pc = .ok (.iconst n, 1)) (hn : y_in n) (kk : Y g me d kc ks (pc + 1) L (vi n :: S) M Q) : Y g me d kc ks pc L S M Q := by
  intro p l e s m args below meth c H locs cells slots mc ms ls C h1 h2 hM hL hS' hP hD hS hlv
  exact lv_iconst C.1 C.2.1 hdg rfl (kk p l e s m args below meth c H locs cells slots mc ms ls C h1 h2 hM hL (y_okc hn hS') hP hD hS hlv)
theorem y_bipush {n : Int} (hdg : decode me.2.1 pc = .ok (.bipush n, 2)) (hv : (Int8.ofInt n).toInt32 = Int32.ofInt n) (hn : y_in n) (kk : Y g me d kc ks (pc + 2) L (vi n :: S) M Q) : Y g me d kc ks pc L S M Q := by
  intro p l e s m args below meth c H locs cells slots mc ms ls C h1 h2 hM hL hS' hP hD hS hlv
  exact lv_bipush C.1 C.2.1 hdg hv (kk p l e s m args below meth c H locs cells slots mc ms ls C h1 h2 hM hL (y_okc hn hS') hP hD hS hlv)
/-! whole numbers -/
theorem y_iadd {a b : Int} (hdg : decode me.2.1 pc = .ok (.iadd, 1)) (kk : Y g me d kc ks (pc + 1) L (vi (wr (a + b)) :: S) M Q) : Y g me d kc ks pc L (vi b :: vi a :: S) M Q := by
  intro p l e s m args below meth c H locs cells slots mc ms ls C h1 h2 hM hL hS' hP hD hS hlv
  obtain ⟨hv, hS'⟩ := List.forall_mem_cons.mp hS'
  obtain ⟨hw, hS'⟩ := List.forall_mem_cons.mp hS'
  refine lv_iadd C.1 C.2.1 hdg ?_
  rw [← Int32.ofInt_add, ← y_ofInt_wr]
  exact (kk p l e s m args below meth c H locs cells slots mc ms ls C h1 h2 hM hL (y_okc (wr_in _) hS') hP hD hS hlv)
theorem y_icmp_ge {a b : Int} {off : Int} {tgt : Nat} (hdg : decode me.2.1 pc = .ok (.if_icmp .ge off, 3)) (ht : (pc : Int) + off = (tgt : Int)) (kt : b ≤ a → Y g me d kc ks tgt L S M Q) (kf : a < b → Y g me d kc ks (pc + 3) L S M Q) : Y g me d kc ks pc L (vi b :: vi a :: S) M Q := by
  intro p l e s m args below meth c H locs cells slots mc ms ls C h1 h2 hM hL hS' hP hD hS hlv
  obtain ⟨hv, hS'⟩ := List.forall_mem_cons.mp hS'
  obtain ⟨hw, hS'⟩ := List.forall_mem_cons.mp hS'
  exact lv_icmp_ge C.1 C.2.1 hdg ht (fun h => kt ((y_le hv hw).mp h) p l e s m args below meth c H locs cells slots mc ms ls C h1 h2 hM hL hS' hP hD hS hlv)
    (fun h => kf (by have := (not_congr (y_le hv hw)).mp h; omega) p l e s m args below meth c H locs cells slots mc ms ls C h1 h2 hM hL hS' hP hD hS hlv)
end YR
