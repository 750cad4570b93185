/-! ===== the start: what the statement and the tables say of it is what the judgement asks ===== -/
def lw_nar : List Cond := flatC (Jvm.Cond.and given_1 narrow_1)
def y_si : List Nat := [52, 58, 61, 64, 67, 70, 73, 76]
section NST
variable {s : State} {args : Array Value} {A : Nat → Prop}
theorem ns_arr {ty : FieldType} (hR : ∀ c : ClassId, s.vm.findClass ("[" ++ ty.toString) = some c → va_RA s c ty) (h : (Cond.arrayClass ty).before args s = true) : ∃ cA, ArrOfT s cA ty ∧ va_RA s cA ty := by
  obtain ⟨cA, kA, comp, h1, h2, h3⟩ := Cond.arrayClass_spec h
  exact ⟨cA, fun n z => ⟨(fun k h => by cases h), kA, h2, comp, h3⟩, hR cA h1⟩
theorem ns_arrH (h : (Cond.arrayOver (.object RX2)).before args s = true) : ∃ cA, ArrOfT s cA (.object RX2) ∧ va_RA s cA (.object RX2) := by
  obtain ⟨comp, cA, kA, f1, f2, f3, f4, f5⟩ := Cond.arrayOver_spec h
  exact ⟨cA, fun n z => ⟨(fun k h => by cases h), kA, f3, comp, f4⟩, kA, comp, f3, f4, f1, f5⟩
theorem ns_arrA (h : (Cond.arrayOver (.array .int)).before args s = true) : ∃ cA, ArrOfT s cA (.array .int) ∧ va_RA s cA (.array .int) := by
  obtain ⟨comp, cA, kA, f1, f2, f3, f4⟩ := Cond.arrayOver_specA h
  exact ⟨cA, fun n z => ⟨(fun k h => by cases h), kA, f2, comp, f3⟩, f4⟩
theorem ns_inst : ∀ q ∈ y_cl, Cond.instantiable q.1 q.2.2 ∈ yB :=
  List.forall_mem_cons.mpr ⟨yb 207 (by decide +kernel) rfl, List.forall_mem_cons.mpr ⟨yb 129 (by decide +kernel) rfl, List.forall_mem_cons.mpr ⟨yb 273 (by decide +kernel) rfl, List.forall_mem_cons.mpr ⟨yb 227 (by decide +kernel) rfl, List.forall_mem_cons.mpr ⟨yb 257 (by decide +kernel) rfl, List.forall_mem_cons.mpr ⟨yb 300 (by decide +kernel) rfl, List.forall_mem_cons.mpr ⟨yb 121 (by decide +kernel) rfl, List.forall_mem_cons.mpr ⟨yb 1315 (by decide +kernel) rfl, fun _ h => nomatch h⟩⟩⟩⟩⟩⟩⟩⟩
theorem ns_cls (hts : ∀ w ∈ yB, w.before args s = true) : ∃ D : va_G, ∀ (c : Nat) (q : vw_C), y_cl[c]? = some q → u_Kn s q.1 q.2.1 q.2.2 (D.1 c) (D.2 c) := by
  have h : ∀ c : Nat, ∃ x : ClassId × (Nat → Nat), ∀ q : vw_C, y_cl[c]? = some q → u_Kn s q.1 q.2.1 q.2.2 x.1 x.2 := by
    intro c
    cases hc : y_cl[c]? with
    | none => exact ⟨(0, fun _ => 0), fun q h => nomatch h⟩
    | some q =>
      obtain ⟨cC, iS, k⟩ := u_known hts (y_clin (Cn := q.1) (T := q.2.1) (N := q.2.2) hc) (hts _ (ns_inst q (List.mem_of_getElem? hc)))
      exact ⟨(cC, iS), fun q9 h9 => by cases h9; exact k⟩
  obtain ⟨f, hf⟩ := Classical.axiomOfChoice h
  exact ⟨(fun c => (f c).1, fun c => (f c).2), fun c q hq => hf c q hq⟩
theorem en_congr {E d : String} {nm : List String} {F : List (String × String × String × List Int32)} {ad ad' : Nat → Nat} {U : State} {H : Heap} (h : va_En E d nm F ad A U H) (he : ∀ i, i < nm.length → ad' i = ad i) : va_En E d nm F ad' A U H :=
  ⟨fun i hi => by rw [he i hi]; exact h.1 i hi, fun i j hi hj h9 => h.2 i j hi hj (by rw [← he i hi, ← he j hj]; exact h9)⟩
theorem t_congr {ty : FieldType} {t N : Nat} {f f' : Nat → Value} {U : State} {H : Heap} (h : va_T ty t N f A U H) (he : ∀ j, j < N → f' j = f j) : va_T ty t N f' A U H := by
  obtain ⟨cell, h1, h2, h3, h4, h5, h6, h7⟩ := h
  exact ⟨cell, h1, h2, h3, h4, h5, fun j hj => by rw [he j hj]; exact h6 j hj, h7⟩
theorem s_congr {N : Nat} {len : List Nat} {byt : List (List Int32)} {adK adV aK aV : Nat → Nat} {U : State} {H : Heap} (h : vk_S N len byt adK adV A U H) (h1 : ∀ i, i < N → aK i = adK i) (h2 : ∀ i, i < N → aV i = adV i) : vk_S N len byt aK aV A U H :=
  ⟨fun i hi => by rw [h1 i hi, h2 i hi]; exact h.1 i hi, fun i j hi hj h9 => h.2 i j hi hj (by rw [← h1 i hi, ← h1 j hj]; exact h9)⟩
theorem of_uniq {o n d : String} {v w : Value} {t : Nat} {U : State} {H : Heap} (h1 : va_OF o n d v t A U H) (h2 : va_OF o n d w t A U H) : v = w := by
  obtain ⟨c1, k1, i1, f1, e1, a1, -, a2, -, a3, -⟩ := h1
  obtain ⟨c2, k2, i2, f2, e2, b1, -, b2, -, b3, -⟩ := h2
  rw [a1] at b1; cases b1
  rw [a2] at b2; cases b2
  rw [a3] at b3; cases b3
  rfl
theorem ns_len : ∀ i, i < 8 → ∀ j, j < 8 → (y_len.getD i 0 = y_len.getD j 0 → (∀ k, k < y_len.getD i 0 → (y_byt.getD i []).getD k 0 = (y_byt.getD j []).getD k 0) → i = j) := by decide +kernel
theorem ns_l31 : ∀ i, i < 8 → y_len.getD i 0 < 2 ^ 31 := by decide +kernel
theorem ns_s1_ : ∀ i, i < 8 → lw_nar[([837, 849, 867, 877, 886, 898, 818, 828] : List Nat).getD i 0]? = some (Cond.exactly (.string KNn (y_si.getD i 0)) "java/lang/String") := by decide +kernel
theorem ns_s1 : ∀ i, i < 8 → Cond.exactly (.string KNn (y_si.getD i 0)) "java/lang/String" ∈ lw_nar := fun i hi => List.mem_of_getElem? (ns_s1_ i hi)
theorem ns_s2_ : ∀ i, i < 8 → lw_nar[([838, 850, 868, 878, 887, 899, 819, 829] : List Nat).getD i 0]? = some (Cond.eq (.field (.string KNn (y_si.getD i 0)) "java/lang/String" "coder" "B") (.int 0)) := by decide +kernel
theorem ns_s2 : ∀ i, i < 8 → Cond.eq (.field (.string KNn (y_si.getD i 0)) "java/lang/String" "coder" "B") (.int 0) ∈ lw_nar := fun i hi => List.mem_of_getElem? (ns_s2_ i hi)
theorem ns_s3_ : ∀ i, i < 8 → lw_nar[([839, 851, 869, 879, 888, 900, 820, 830] : List Nat).getD i 0]? = some (Cond.arrayOf (.field (.string KNn (y_si.getD i 0)) "java/lang/String" "value" "[B") .byte) := by decide +kernel
theorem ns_s3 : ∀ i, i < 8 → Cond.arrayOf (.field (.string KNn (y_si.getD i 0)) "java/lang/String" "value" "[B") .byte ∈ lw_nar := fun i hi => List.mem_of_getElem? (ns_s3_ i hi)
theorem ns_s4_ : ∀ i, i < 8 → lw_nar[([840, 852, 870, 880, 889, 901, 821, 831] : List Nat).getD i 0]? = some (Cond.eq (.length (.field (.string KNn (y_si.getD i 0)) "java/lang/String" "value" "[B")) (.int (Int32.ofNat (y_len.getD i 0)))) := by decide +kernel
theorem ns_s4 : ∀ i, i < 8 → Cond.eq (.length (.field (.string KNn (y_si.getD i 0)) "java/lang/String" "value" "[B")) (.int (Int32.ofNat (y_len.getD i 0))) ∈ lw_nar := fun i hi => List.mem_of_getElem? (ns_s4_ i hi)
theorem ns_s5_ : ∀ i, i < 8 → ∀ j, j < y_len.getD i 0 → lw_nar[(([[841, 842, 843, 844, 845, 846, 847, 848], [853, 854, 855, 856, 857, 858, 859, 860, 861, 862, 863, 864, 865, 866], [871, 872, 873, 874, 875, 876], [881, 882, 883, 884, 885], [890, 891, 892, 893, 894, 895, 896, 897], [902, 903, 904, 905, 906, 907, 908, 909], [822, 823, 824, 825, 826, 827], [832, 833, 834, 835, 836]] : List (List Nat)).getD i []).getD j 0]? = some (Cond.eq (.elem (.field (.string KNn (y_si.getD i 0)) "java/lang/String" "value" "[B") (.int (Int32.ofNat j))) (.int ((y_byt.getD i []).getD j 0))) := by decide +kernel
theorem ns_s5 : ∀ i, i < 8 → ∀ j, j < y_len.getD i 0 → Cond.eq (.elem (.field (.string KNn (y_si.getD i 0)) "java/lang/String" "value" "[B") (.int (Int32.ofNat j))) (.int ((y_byt.getD i []).getD j 0)) ∈ lw_nar := fun i hi j hj => List.mem_of_getElem? (ns_s5_ i hi j hj)
theorem ns_str (hn : ∀ w ∈ lw_nar, w.before args s = true) (hA : ∀ a : Nat, a < s.heap.size → ¬ A a) : ∃ adK adV : Nat → Nat, vk_S 8 y_len y_byt adK adV A s s.heap ∧ ∀ i, i < 8 → (Term.string KNn (y_si.getD i 0)).eval args s none [] s = some (.ref (adK i)) := by
  have h0 : ∀ i : Nat, ∃ q : Nat × Nat, i < 8 → (Term.string KNn (y_si.getD i 0)).eval args s none [] s = some (.ref q.1) ∧ va_O "java/lang/String" q.1 A s s.heap ∧ va_OF "java/lang/String" "coder" "B" (.int 0) q.1 A s s.heap ∧ va_OF "java/lang/String" "value" "[B" (.ref q.2) q.1 A s s.heap ∧ va_T .byte q.2 (y_len.getD i 0) (fun j => .int ((y_byt.getD i []).getD j 0)) A s s.heap := by
    intro i
    by_cases hi : i < 8
    · obtain ⟨a, -, -, -, q1, -⟩ := Cond.exactly_spec (args := args) (first := s) (o := none) (s := s) (idx := []) (hn _ (ns_s1 i hi))
      obtain ⟨t, ht, hT⟩ := va_Tof (f := fun j => .int ((y_byt.getD i []).getD j 0)) (A := A) (ns_l31 i hi) (hn _ (ns_s3 i hi)) (va_eqt (hn _ (ns_s4 i hi))) (fun j hj => va_eqt (hn _ (ns_s5 i hi j hj))) hA
      exact ⟨(a, t), fun _ => ⟨q1, va_Oof (hn _ (ns_s1 i hi)) q1 hA, vk_OFof q1 (va_eqt (hn _ (ns_s2 i hi))) hA, vk_OFof q1 ht hA, hT⟩⟩
    · exact ⟨(0, 0), fun h => absurd h hi⟩
  obtain ⟨ad, had⟩ := Classical.axiomOfChoice h0
  refine ⟨fun i => (ad i).1, fun i => (ad i).2, ⟨fun i hi => (had i hi).2, fun i j hi hj h9 => ?_⟩, fun i hi => (had i hi).1⟩
  obtain ⟨-, -, -, u1, u2⟩ := had i hi
  obtain ⟨-, -, -, w1, w2⟩ := had j hj
  have h9' : (ad i).1 = (ad j).1 := h9
  rw [h9'] at u1
  have h8 : (ad i).2 = (ad j).2 := Value.ref.inj (of_uniq u1 w1)
  rw [h8] at u2
  obtain ⟨c1, a1, -, -, a4, a5, a6, -⟩ := u2
  obtain ⟨c2, b1, -, -, b4, b5, b6, -⟩ := w2
  rw [a1] at b1; cases b1
  have hl : y_len.getD i 0 = y_len.getD j 0 := by
    have h7 := congrArg Int32.toInt (a5.symm.trans b5)
    have z1 := ns_l31 i hi
    have z2 := ns_l31 j hj
    rw [Int32.toInt_ofNat_of_lt z1, Int32.toInt_ofNat_of_lt z2] at h7
    omega
  refine ns_len i hi j hj hl (fun k hk => ?_)
  have q1 := a6 k hk
  rw [b6 k (by omega)] at q1
  exact (Value.int.inj (Option.some.inj q1)).symm
theorem ns_k1_ : ∀ i, i < 8 → lw_tbl[([1869, 1870, 1871, 1872, 1873, 1874, 279, 1247] : List Nat).getD i 0]? = some (Cond.laysStatic KNn (y_kn.getD i "") "LTenantCensus$Kind;") := by decide +kernel
theorem ns_k1 : ∀ i, i < 8 → Cond.laysStatic KNn (y_kn.getD i "") "LTenantCensus$Kind;" ∈ lw_tbl := fun i hi => List.mem_of_getElem? (ns_k1_ i hi)
theorem ns_k2_ : ∀ i, i < 8 → lw_nar[([90, 101, 113, 126, 140, 155, 4, 69] : List Nat).getD i 0]? = some (Cond.exactly (.static KNn (y_kn.getD i "") "LTenantCensus$Kind;") KNn) := by decide +kernel
theorem ns_k2 : ∀ i, i < 8 → Cond.exactly (.static KNn (y_kn.getD i "") "LTenantCensus$Kind;") KNn ∈ lw_nar := fun i hi => List.mem_of_getElem? (ns_k2_ i hi)
theorem ns_k3_ : ∀ i, i < 8 → lw_nar[([91, 102, 114, 127, 141, 156, 5, 70] : List Nat).getD i 0]? = some (Cond.eq (.field (.static KNn (y_kn.getD i "") "LTenantCensus$Kind;") "java/lang/Enum" "ordinal" "I") (.int (([0, 1, 2, 3, 4, 5, 6, 7] : List Int32).getD i 0))) := by decide +kernel
theorem ns_k3 : ∀ i, i < 8 → Cond.eq (.field (.static KNn (y_kn.getD i "") "LTenantCensus$Kind;") "java/lang/Enum" "ordinal" "I") (.int (([0, 1, 2, 3, 4, 5, 6, 7] : List Int32).getD i 0)) ∈ lw_nar := fun i hi => List.mem_of_getElem? (ns_k3_ i hi)
theorem ns_k4_ : ∀ i, i < 8 → ∀ j, j < 8 → i ≠ j → (lw_nar[(([[0, 112, 124, 137, 151, 166, 93, 100], [112, 0, 125, 138, 152, 167, 104, 111], [124, 125, 0, 139, 153, 168, 116, 123], [137, 138, 139, 0, 154, 169, 129, 136], [151, 152, 153, 154, 0, 170, 143, 150], [166, 167, 168, 169, 170, 0, 158, 165], [93, 104, 116, 129, 143, 158, 0, 72], [100, 111, 123, 136, 150, 165, 72, 0]] : List (List Nat)).getD i []).getD j 0]? = some (Cond.not (.eq (.static KNn (y_kn.getD i "") "LTenantCensus$Kind;") (.static KNn (y_kn.getD j "") "LTenantCensus$Kind;"))) ∨ lw_nar[(([[0, 112, 124, 137, 151, 166, 93, 100], [112, 0, 125, 138, 152, 167, 104, 111], [124, 125, 0, 139, 153, 168, 116, 123], [137, 138, 139, 0, 154, 169, 129, 136], [151, 152, 153, 154, 0, 170, 143, 150], [166, 167, 168, 169, 170, 0, 158, 165], [93, 104, 116, 129, 143, 158, 0, 72], [100, 111, 123, 136, 150, 165, 72, 0]] : List (List Nat)).getD i []).getD j 0]? = some (Cond.not (.eq (.static KNn (y_kn.getD j "") "LTenantCensus$Kind;") (.static KNn (y_kn.getD i "") "LTenantCensus$Kind;")))) := by decide +kernel
theorem ns_r1_ : ∀ i, i < 6 → lw_tbl[([626, 807, 849, 622, 624, 852] : List Nat).getD i 0]? = some (Cond.laysStatic RFn (y_rn.getD i "") "LTenantCensus$Refusal;") := by decide +kernel
theorem ns_r1 : ∀ i, i < 6 → Cond.laysStatic RFn (y_rn.getD i "") "LTenantCensus$Refusal;" ∈ lw_tbl := fun i hi => List.mem_of_getElem? (ns_r1_ i hi)
theorem ns_r2_ : ∀ i, i < 6 → lw_nar[([14, 30, 36, 7, 10, 43] : List Nat).getD i 0]? = some (Cond.exactly (.static RFn (y_rn.getD i "") "LTenantCensus$Refusal;") RFn) := by decide +kernel
theorem ns_r2 : ∀ i, i < 6 → Cond.exactly (.static RFn (y_rn.getD i "") "LTenantCensus$Refusal;") RFn ∈ lw_nar := fun i hi => List.mem_of_getElem? (ns_r2_ i hi)
theorem ns_r3_ : ∀ i, i < 6 → lw_nar[([15, 31, 37, 8, 11, 44] : List Nat).getD i 0]? = some (Cond.eq (.field (.static RFn (y_rn.getD i "") "LTenantCensus$Refusal;") "java/lang/Enum" "ordinal" "I") (.int (([0, 1, 2, 3, 4, 5] : List Int32).getD i 0))) := by decide +kernel
theorem ns_r3 : ∀ i, i < 6 → Cond.eq (.field (.static RFn (y_rn.getD i "") "LTenantCensus$Refusal;") "java/lang/Enum" "ordinal" "I") (.int (([0, 1, 2, 3, 4, 5] : List Int32).getD i 0)) ∈ lw_nar := fun i hi => List.mem_of_getElem? (ns_r3_ i hi)
theorem ns_r4_ : ∀ i, i < 6 → ∀ j, j < 6 → i ≠ j → (lw_nar[(([[0, 35, 41, 17, 18, 48], [35, 0, 42, 33, 34, 49], [41, 42, 0, 39, 40, 50], [17, 33, 39, 0, 13, 46], [18, 34, 40, 13, 0, 47], [48, 49, 50, 46, 47, 0]] : List (List Nat)).getD i []).getD j 0]? = some (Cond.not (.eq (.static RFn (y_rn.getD i "") "LTenantCensus$Refusal;") (.static RFn (y_rn.getD j "") "LTenantCensus$Refusal;"))) ∨ lw_nar[(([[0, 35, 41, 17, 18, 48], [35, 0, 42, 33, 34, 49], [41, 42, 0, 39, 40, 50], [17, 33, 39, 0, 13, 46], [18, 34, 40, 13, 0, 47], [48, 49, 50, 46, 47, 0]] : List (List Nat)).getD i []).getD j 0]? = some (Cond.not (.eq (.static RFn (y_rn.getD j "") "LTenantCensus$Refusal;") (.static RFn (y_rn.getD i "") "LTenantCensus$Refusal;")))) := by decide +kernel
theorem ns_f_ : ∀ i, i < 8 → lw_nar[([92, 103, 115, 128, 142, 157, 6, 71] : List Nat).getD i 0]? = some (Cond.eq (.field (.static KNn (y_kn.getD i "") "LTenantCensus$Kind;") KNn "form" "Ljava/lang/String;") (.string KNn (y_si.getD i 0))) := by decide +kernel
theorem ns_f : ∀ i, i < 8 → Cond.eq (.field (.static KNn (y_kn.getD i "") "LTenantCensus$Kind;") KNn "form" "Ljava/lang/String;") (.string KNn (y_si.getD i 0)) ∈ lw_nar := fun i hi => List.mem_of_getElem? (ns_f_ i hi)
theorem ns_a_ : ∀ i, i < 8 → lw_nar[([56, 57, 58, 59, 60, 61, 62, 63] : List Nat).getD i 0]? = some (Cond.eq (.elem (.static TCn "KINDS" "[LTenantCensus$Kind;") (.int (Int32.ofNat i))) (.static KNn (y_kn.getD i "") "LTenantCensus$Kind;")) := by decide +kernel
theorem ns_a : ∀ i, i < 8 → Cond.eq (.elem (.static TCn "KINDS" "[LTenantCensus$Kind;") (.int (Int32.ofNat i))) (.static KNn (y_kn.getD i "") "LTenantCensus$Kind;") ∈ lw_nar := fun i hi => List.mem_of_getElem? (ns_a_ i hi)
theorem ns_a0 : Cond.arrayOf (.static TCn "KINDS" "[LTenantCensus$Kind;") (.object KNn) ∈ lw_nar := List.mem_of_getElem? (i := 53) (by decide +kernel)
theorem ns_a1 : Cond.eq (.length (.static TCn "KINDS" "[LTenantCensus$Kind;")) (.int (Int32.ofNat 8)) ∈ lw_nar := List.mem_of_getElem? (i := 54) (by decide +kernel)
theorem ns_swKind0 : Cond.arrayOf (.static T1n "$SwitchMap$TenantCensus$Kind" "[I") .int ∈ lw_nar := List.mem_of_getElem? (i := 80) (by decide +kernel)
theorem ns_swKind1 : Cond.eq (.length (.static T1n "$SwitchMap$TenantCensus$Kind" "[I")) (.int (Int32.ofNat 8)) ∈ lw_nar := List.mem_of_getElem? (i := 81) (by decide +kernel)
theorem ns_swKind2_ : ∀ i, i < 8 → lw_nar[([82, 83, 84, 85, 86, 87, 88, 89] : List Nat).getD i 0]? = some (Cond.eq (.elem (.static T1n "$SwitchMap$TenantCensus$Kind" "[I") (.int (Int32.ofNat i))) (.int (Int32.ofInt (swKind (i : Int))))) := by decide +kernel
theorem ns_swKind2 : ∀ i, i < 8 → Cond.eq (.elem (.static T1n "$SwitchMap$TenantCensus$Kind" "[I") (.int (Int32.ofNat i))) (.int (Int32.ofInt (swKind (i : Int)))) ∈ lw_nar := fun i hi => List.mem_of_getElem? (ns_swKind2_ i hi)
theorem ns_swRefusal0 : Cond.arrayOf (.static T1n "$SwitchMap$TenantCensus$Refusal" "[I") .int ∈ lw_nar := List.mem_of_getElem? (i := 20) (by decide +kernel)
theorem ns_swRefusal1 : Cond.eq (.length (.static T1n "$SwitchMap$TenantCensus$Refusal" "[I")) (.int (Int32.ofNat 6)) ∈ lw_nar := List.mem_of_getElem? (i := 21) (by decide +kernel)
theorem ns_swRefusal2_ : ∀ i, i < 6 → lw_nar[([22, 23, 24, 25, 26, 27] : List Nat).getD i 0]? = some (Cond.eq (.elem (.static T1n "$SwitchMap$TenantCensus$Refusal" "[I") (.int (Int32.ofNat i))) (.int (Int32.ofInt (swRefusal (i : Int))))) := by decide +kernel
theorem ns_swRefusal2 : ∀ i, i < 6 → Cond.eq (.elem (.static T1n "$SwitchMap$TenantCensus$Refusal" "[I") (.int (Int32.ofNat i))) (.int (Int32.ofInt (swRefusal (i : Int)))) ∈ lw_nar := fun i hi => List.mem_of_getElem? (ns_swRefusal2_ i hi)
theorem ns_l_K : Cond.laysStatic "TenantCensus" "KINDS" "[LTenantCensus$Kind;" ∈ lw_tbl := List.mem_of_getElem? (i := 1177) (by decide +kernel)
theorem ns_l_1k : Cond.laysStatic "TenantCensus$1" "$SwitchMap$TenantCensus$Kind" "[I" ∈ lw_tbl := List.mem_of_getElem? (i := 1264) (by decide +kernel)
theorem ns_l_1r : Cond.laysStatic "TenantCensus$1" "$SwitchMap$TenantCensus$Refusal" "[I" ∈ lw_tbl := List.mem_of_getElem? (i := 631) (by decide +kernel)
theorem ns_l_us : Cond.laysStatic "java/lang/Throwable" "UNASSIGNED_STACK" "[Ljava/lang/StackTraceElement;" ∈ lw_tbl := List.mem_of_getElem? (i := 665) (by decide +kernel)
theorem ns_l_ss : Cond.laysStatic "java/lang/Throwable" "SUPPRESSED_SENTINEL" "Ljava/util/List;" ∈ lw_tbl := List.mem_of_getElem? (i := 667) (by decide +kernel)
theorem ns_l_cs : Cond.laysStatic "java/lang/String" "COMPACT_STRINGS" "Z" ∈ lw_tbl := List.mem_of_getElem? (i := 1187) (by decide +kernel)
theorem ns_l_sf : Cond.laysStatic "jdk/internal/util/Preconditions" "SIOOBE_FORMATTER" "Ljava/util/function/BiFunction;" ∈ lw_tbl := List.mem_of_getElem? (i := 1195) (by decide +kernel)
theorem ns_i_T : Cond.initialized "TenantCensus" ∈ lw_tbl := List.mem_of_getElem? (i := 92) (by decide +kernel)
theorem ns_i_1 : Cond.initialized "TenantCensus$1" ∈ lw_tbl := List.mem_of_getElem? (i := 103) (by decide +kernel)
theorem ns_i_th : Cond.initialized "java/lang/Throwable" ∈ lw_tbl := List.mem_of_getElem? (i := 104) (by decide +kernel)
theorem ns_i_st : Cond.initialized "java/lang/String" ∈ lw_tbl := List.mem_of_getElem? (i := 115) (by decide +kernel)
theorem ns_i_pr : Cond.initialized "jdk/internal/util/Preconditions" ∈ lw_tbl := List.mem_of_getElem? (i := 118) (by decide +kernel)
theorem ns_i_k : Cond.initialized "TenantCensus$Kind" ∈ lw_tbl := List.mem_of_getElem? (i := 99) (by decide +kernel)
theorem ns_i_r : Cond.initialized "TenantCensus$Refusal" ∈ lw_tbl := List.mem_of_getElem? (i := 102) (by decide +kernel)
theorem ns_q_us : Cond.isRef (.static "java/lang/Throwable" "UNASSIGNED_STACK" "[Ljava/lang/StackTraceElement;") ∈ lw_nar := List.mem_of_getElem? (i := 28) (by decide +kernel)
theorem ns_q_ss : Cond.isRef (.static "java/lang/Throwable" "SUPPRESSED_SENTINEL" "Ljava/util/List;") ∈ lw_nar := List.mem_of_getElem? (i := 29) (by decide +kernel)
theorem ns_q_sf : Cond.isRef (.static "jdk/internal/util/Preconditions" "SIOOBE_FORMATTER" "Ljava/util/function/BiFunction;") ∈ lw_nar := List.mem_of_getElem? (i := 65) (by decide +kernel)
theorem ns_q_cs : Cond.eq (.static "java/lang/String" "COMPACT_STRINGS" "Z") (.int 1) ∈ lw_nar := List.mem_of_getElem? (i := 64) (by decide +kernel)
theorem ns_t_ : ∀ i, i < 21 → lw_tbl[([955, 1009, 1081, 1104, 1117, 1136, 1144, 1252, 1273, 1281, 1289, 1297, 1309, 683, 719, 735, 751, 767, 1032, 1055, 992] : List Nat).getD i 0]? = some (.stringRef (y_strs.getD i ("", 0, "")).1 (y_strs.getD i ("", 0, "")).2.1 (y_strs.getD i ("", 0, "")).2.2) := by decide +kernel
theorem ns_u_ : ∀ i, i < 21 → lw_nar[([402, 455, 533, 573, 599, 621, 642, 672, 701, 720, 748, 769, 796, 266, 284, 300, 331, 365, 471, 488, 424] : List Nat).getD i 0]? = some (.exactly (.string (y_strs.getD i ("", 0, "")).1 (y_strs.getD i ("", 0, "")).2.1) "java/lang/String") := by decide +kernel
theorem ns_tn : y_strs.length = 21 := by decide
theorem ns_n1_ : ∀ i, i < 9 → lw_tbl[([130, 214, 228, 258, 274, 301, 382, 468, 561] : List Nat).getD i 0]? = some (.methodLinkNest (y_nwM.getD i ("", 0, ⟨"", "", ""⟩, "")).1 (y_nwM.getD i ("", 0, ⟨"", "", ""⟩, "")).2.1 (y_nwM.getD i ("", 0, ⟨"", "", ""⟩, "")).2.2.1 (y_nwM.getD i ("", 0, ⟨"", "", ""⟩, "")).2.2.2) := by decide +kernel
theorem ns_n2 : Cond.fieldLinkNest "TenantCensus$Parser" 77 "TenantCensus" "KINDS" "[LTenantCensus$Kind;" "TenantCensus" ∈ lw_tbl := List.mem_of_getElem? (i := 1176) (by decide +kernel)
theorem ns_n3 : Cond.arrayOver (.object RX2) ∈ lw_tbl := List.mem_of_getElem? (i := 213) (by decide +kernel)
theorem ns_n4 : Cond.arrayOver (.array .int) ∈ lw_tbl := List.mem_of_getElem? (i := 233) (by decide +kernel)
theorem ns_n5_ : ∀ i, i < 6 → lw_tbl[([640, 712, 728, 744, 760, 1097] : List Nat).getD i 0]? = some (.castable (y_exs.getD i "") (y_exs.getD i "")) := by decide +kernel
theorem ns_n6_ : ∀ i, i < 30 → lw_nar[([186, 202, 233, 249, 218, 262, 199, 230, 246, 214, 263, 183, 231, 247, 215, 261, 182, 198, 245, 213, 264, 184, 200, 232, 216, 260, 181, 197, 229, 244] : List Nat).getD i 0]? = some (.not (.castable (y_nce.getD i ("", "")).1 (y_nce.getD i ("", "")).2)) := by decide +kernel
theorem ns_n7_ : ∀ i, i < 9 → lw_tbl[([634, 641, 642, 643, 644, 645, 646, 831, 832] : List Nat).getD i 0]? = some (.declares (y_dcl.getD i ⟨"", "", ""⟩)) := by decide +kernel
theorem ns_c_i : Cond.arrayClass .int ∈ lw_tbl := List.mem_of_getElem? (i := 205) (by decide +kernel)
theorem ns_c_c : Cond.arrayClass .char ∈ lw_tbl := List.mem_of_getElem? (i := 315) (by decide +kernel)
theorem ns_c_l : Cond.arrayClass .long ∈ lw_tbl := List.mem_of_getElem? (i := 1841) (by decide +kernel)
theorem ns_c_d : Cond.arrayClass .double ∈ lw_tbl := List.mem_of_getElem? (i := 1842) (by decide +kernel)
end NST
