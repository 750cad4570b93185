/-! ===== the constructors (laid by wip/whole/tools/make.py) ===== -/
theorem y_appX {X Z B : yMem} {a : Nat} {o : yO} : (X ++ (a, o) :: Z) ++ B = X ++ (a, o) :: (Z ++ B) := by rw [List.append_assoc]; rfl
theorem y_atX1 {X Z : yMem} {p : Nat × yO} {r : Nat} {o : yO} : (X ++ p :: (r, o) :: Z)[X.length + 1]? = some (r, o) := by
  rw [List.getElem?_append_right (by omega), show X.length + 1 - X.length = 1 by omega]; rfl
theorem y_setX1 {X Z : yMem} {p : Nat × yO} {r : Nat} {o o' : yO} : (X ++ p :: (r, o) :: Z).set (X.length + 1) (r, o') = X ++ p :: (r, o') :: Z := by
  rw [List.set_append_right _ _ (by omega), show X.length + 1 - X.length = 1 by omega]; rfl
theorem y_one {x : yV} (h : y_cat x = 1) : ∀ v ∈ [x], y_cat v = 1 := fun v hv => by rw [List.mem_singleton.mp hv]; exact h
abbrev z0 (n : Nat) : yO := oi (zca n (fun _ => 0))
abbrev z0c (n : Nat) : yO := oc (zca n (fun _ => 0))
def dRX1 : List yV := [vv .null, vi 0, vi 0]
theorem dRX1_ok : ∀ v ∈ dRX1, y_ok v := by
  intro v hv
  simp only [dRX1, List.mem_cons, List.not_mem_nil, or_false] at hv
  rcases hv with rfl | rfl | rfl <;> first | trivial | exact ⟨by decide, by decide⟩
theorem dRX1_d : ∀ j, j < 3 → ∃ ty, parseFieldDescriptor (TX1 j).2.2.1 = some ty ∧ defaultValue ty = vp_V (dRX1.map y_tv) j := fun j hj => ⟨tyX1 j, tyX1_ok j hj, (show ∀ j, j < 3 → defaultValue (tyX1 j) = vp_V (dRX1.map y_tv) j by decide) j hj⟩
def miRX1 : yM0 := (yX1_init, cX1_init, 2, none, [])
theorem kiRX1 : y_kB miRX1 0 := ⟨rfl, (yb 94 (by decide +kernel) rfl), (yb 210 (by decide +kernel) rfl), ⟨by decide, by decide⟩, by decide +kernel, by decide⟩
theorem kjRX1 : miRX1.1.name = "<init>" ∧ Cond.instanceMethod miRX1.1 ∈ yB := ⟨rfl, (yb 209 (by decide +kernel) rfl)⟩
def dRX2 : List yV := [vi 0, vv .null, vv .null, vi 0, vi 0, vv .null, vv .null, vv .null, vv .null, vv .null, vv .null, vv .null, vi 0, vi 0, vi 0, vl 0, vl 0]
theorem dRX2_ok : ∀ v ∈ dRX2, y_ok v := by
  intro v hv
  simp only [dRX2, List.mem_cons, List.not_mem_nil, or_false] at hv
  rcases hv with rfl | rfl | rfl | rfl | rfl | rfl | rfl | rfl | rfl | rfl | rfl | rfl | rfl | rfl | rfl | rfl | rfl <;> first | trivial | exact ⟨by decide, by decide⟩
theorem dRX2_d : ∀ j, j < 17 → ∃ ty, parseFieldDescriptor (TX2 j).2.2.1 = some ty ∧ defaultValue ty = vp_V (dRX2.map y_tv) j := fun j hj => ⟨tyX2 j, tyX2_ok j hj, (show ∀ j, j < 17 → defaultValue (tyX2 j) = vp_V (dRX2.map y_tv) j by decide) j hj⟩
def miRX2 : yM0 := (yX2_init, cX2_init, 1, none, [])
theorem kiRX2 : y_kB miRX2 0 := ⟨rfl, (yb 93 (by decide +kernel) rfl), (yb 132 (by decide +kernel) rfl), ⟨by decide, by decide⟩, by decide +kernel, by decide⟩
theorem kjRX2 : miRX2.1.name = "<init>" ∧ Cond.instanceMethod miRX2.1 ∈ yB := ⟨rfl, (yb 131 (by decide +kernel) rfl)⟩
def dRX4 : List yV := [vi 0, vv .null, vv .null, vi 0, vi 0]
theorem dRX4_ok : ∀ v ∈ dRX4, y_ok v := by
  intro v hv
  simp only [dRX4, List.mem_cons, List.not_mem_nil, or_false] at hv
  rcases hv with rfl | rfl | rfl | rfl | rfl <;> first | trivial | exact ⟨by decide, by decide⟩
theorem dRX4_d : ∀ j, j < 5 → ∃ ty, parseFieldDescriptor (TX4 j).2.2.1 = some ty ∧ defaultValue ty = vp_V (dRX4.map y_tv) j := fun j hj => ⟨tyX4 j, tyX4_ok j hj, (show ∀ j, j < 5 → defaultValue (tyX4 j) = vp_V (dRX4.map y_tv) j by decide) j hj⟩
def miRX4 : yM0 := (yX4_init, cX4_init, 1, none, [])
theorem kiRX4 : y_kB miRX4 0 := ⟨rfl, (yb 97 (by decide +kernel) rfl), (yb 276 (by decide +kernel) rfl), ⟨by decide, by decide⟩, by decide +kernel, by decide⟩
theorem kjRX4 : miRX4.1.name = "<init>" ∧ Cond.instanceMethod miRX4.1 ∈ yB := ⟨rfl, (yb 275 (by decide +kernel) rfl)⟩
def dRX5 : List yV := [vv .null, vv .null, vv .null, vv .null, vv .null, vv .null, vi 0]
theorem dRX5_ok : ∀ v ∈ dRX5, y_ok v := by
  intro v hv
  simp only [dRX5, List.mem_cons, List.not_mem_nil, or_false] at hv
  rcases hv with rfl | rfl | rfl | rfl | rfl | rfl | rfl <;> first | trivial | exact ⟨by decide, by decide⟩
theorem dRX5_d : ∀ j, j < 7 → ∃ ty, parseFieldDescriptor (TX5 j).2.2.1 = some ty ∧ defaultValue ty = vp_V (dRX5.map y_tv) j := fun j hj => ⟨tyX5 j, tyX5_ok j hj, (show ∀ j, j < 7 → defaultValue (tyX5 j) = vp_V (dRX5.map y_tv) j by decide) j hj⟩
def miRX5 : yM0 := (yX5_init, cX5_init, 1, none, [])
theorem kiRX5 : y_kB miRX5 0 := ⟨rfl, (yb 95 (by decide +kernel) rfl), (yb 230 (by decide +kernel) rfl), ⟨by decide, by decide⟩, by decide +kernel, by decide⟩
theorem kjRX5 : miRX5.1.name = "<init>" ∧ Cond.instanceMethod miRX5.1 ∈ yB := ⟨rfl, (yb 229 (by decide +kernel) rfl)⟩
def dRX7 : List yV := [vv .null, vv .null, vv .null]
theorem dRX7_ok : ∀ v ∈ dRX7, y_ok v := by
  intro v hv
  simp only [dRX7, List.mem_cons, List.not_mem_nil, or_false] at hv
  rcases hv with rfl | rfl | rfl <;> first | trivial | exact ⟨by decide, by decide⟩
theorem dRX7_d : ∀ j, j < 3 → ∃ ty, parseFieldDescriptor (TX7 j).2.2.1 = some ty ∧ defaultValue ty = vp_V (dRX7.map y_tv) j := fun j hj => ⟨tyX7 j, tyX7_ok j hj, (show ∀ j, j < 3 → defaultValue (tyX7 j) = vp_V (dRX7.map y_tv) j by decide) j hj⟩
def miRX7 : yM0 := (yX7_init, cX7_init, 1, none, [])
theorem kiRX7 : y_kB miRX7 0 := ⟨rfl, (yb 96 (by decide +kernel) rfl), (yb 260 (by decide +kernel) rfl), ⟨by decide, by decide⟩, by decide +kernel, by decide⟩
theorem kjRX7 : miRX7.1.name = "<init>" ∧ Cond.instanceMethod miRX7.1 ∈ yB := ⟨rfl, (yb 259 (by decide +kernel) rfl)⟩
def dRX8 : List yV := [vv .null, vi 0]
theorem dRX8_ok : ∀ v ∈ dRX8, y_ok v := by
  intro v hv
  simp only [dRX8, List.mem_cons, List.not_mem_nil, or_false] at hv
  rcases hv with rfl | rfl <;> first | trivial | exact ⟨by decide, by decide⟩
theorem dRX8_d : ∀ j, j < 2 → ∃ ty, parseFieldDescriptor (TX8 j).2.2.1 = some ty ∧ defaultValue ty = vp_V (dRX8.map y_tv) j := fun j hj => ⟨tyX8 j, tyX8_ok j hj, (show ∀ j, j < 2 → defaultValue (tyX8 j) = vp_V (dRX8.map y_tv) j by decide) j hj⟩
def miRX8 : yM0 := (yX8_init, cX8_init, 1, none, [])
theorem kiRX8 : y_kB miRX8 0 := ⟨rfl, (yb 100 (by decide +kernel) rfl), (yb 303 (by decide +kernel) rfl), ⟨by decide, by decide⟩, by decide +kernel, by decide⟩
theorem kjRX8 : miRX8.1.name = "<init>" ∧ Cond.instanceMethod miRX8.1 ∈ yB := ⟨rfl, (yb 302 (by decide +kernel) rfl)⟩
def dRX9 : List yV := [vv .null, vv .null, vv .null, vv .null, vv .null, vv .null, vv .null, vv .null, vv .null, vi 0, vi 0, vi 0]
theorem dRX9_ok : ∀ v ∈ dRX9, y_ok v := by
  intro v hv
  simp only [dRX9, List.mem_cons, List.not_mem_nil, or_false] at hv
  rcases hv with rfl | rfl | rfl | rfl | rfl | rfl | rfl | rfl | rfl | rfl | rfl | rfl <;> first | trivial | exact ⟨by decide, by decide⟩
theorem dRX9_d : ∀ j, j < 12 → ∃ ty, parseFieldDescriptor (TX9 j).2.2.1 = some ty ∧ defaultValue ty = vp_V (dRX9.map y_tv) j := fun j hj => ⟨tyX9 j, tyX9_ok j hj, (show ∀ j, j < 12 → defaultValue (tyX9 j) = vp_V (dRX9.map y_tv) j by decide) j hj⟩
def miRX9 : yM0 := (yX9_init, cX9_init, 1, none, [])
theorem kiRX9 : y_kB miRX9 0 := ⟨rfl, (yb 92 (by decide +kernel) rfl), (yb 124 (by decide +kernel) rfl), ⟨by decide, by decide⟩, by decide +kernel, by decide⟩
theorem kjRX9 : miRX9.1.name = "<init>" ∧ Cond.instanceMethod miRX9.1 ∈ yB := ⟨rfl, (yb 123 (by decide +kernel) rfl)⟩
def dRX10 : List yV := [vi 0, vv .null, vv .null, vv .null, vv .null, vv .null, vi 0, vi 0, vi 0, vv .null, vv .null, vv .null, vv .null, vv .null, vv .null, vi 0, vv .null, vi 0, vi 0, vi 0, vi 0, vv .null, vi 0, vi 0]
theorem dRX10_ok : ∀ v ∈ dRX10, y_ok v := by
  intro v hv
  simp only [dRX10, List.mem_cons, List.not_mem_nil, or_false] at hv
  rcases hv with rfl | rfl | rfl | rfl | rfl | rfl | rfl | rfl | rfl | rfl | rfl | rfl | rfl | rfl | rfl | rfl | rfl | rfl | rfl | rfl | rfl | rfl | rfl | rfl <;> first | trivial | exact ⟨by decide, by decide⟩
theorem dRX10_d : ∀ j, j < 24 → ∃ ty, parseFieldDescriptor (TX10 j).2.2.1 = some ty ∧ defaultValue ty = vp_V (dRX10.map y_tv) j := fun j hj => ⟨tyX10 j, tyX10_ok j hj, (show ∀ j, j < 24 → defaultValue (tyX10 j) = vp_V (dRX10.map y_tv) j by decide) j hj⟩
def miRX10 : yM0 := (yX10_init, cX10_init, 1, none, [])
theorem kiRX10 : y_kB miRX10 0 := ⟨rfl, (yb 101 (by decide +kernel) rfl), (yb 1318 (by decide +kernel) rfl), ⟨by decide, by decide⟩, by decide +kernel, by decide⟩
theorem kjRX10 : miRX10.1.name = "<init>" ∧ Cond.instanceMethod miRX10.1 ∈ yB := ⟨rfl, (yb 1317 (by decide +kernel) rfl)⟩
def hsB (a : Nat) (b : Nat → Nat) : yMem := (a, oo 1 [vi 0, vr (b 0), vr (b 1), vi 0, vi 0, vr (b 2), vr (b 3), vr (b 4), vr (b 5), vr (b 6), vr (b 7), vr (b 8), vi 0, vi 0, vi 0, vl 0, vl 0]) :: [(b 0, z0 6), (b 1, z0 6), (b 2, z0 6), (b 3, z0 6), (b 4, z0 6), (b 5, z0 6), (b 6, z0 6), (b 7, z0 6), (b 8, z0 6)]
set_option maxRecDepth 100000 in
set_option maxHeartbeats 4000000 in
theorem c_House {g : yG} {X : yMem} {a : Nat} : yC g miRX2 0 9 54 [vr a] (X ++ [(a, oo 1 dRX2)]) (fun o M' => o = .inl none ∧ ∃ b : Nat → Nat, M' = X ++ hsB a b) := by
  refine y_of (by decide +kernel) rfl (y_one rfl) (Nat.le_of_ble_eq_true rfl) ?_
  refine y_aload_n (i := 0) dX2_init_0 rfl rfl ?_
  refine y_objInit (yb 133 (by decide +kernel) rfl) (yb 126 (by decide +kernel) rfl) (yb 127 (by decide +kernel) rfl) (Nat.zero_le _) dX2_init_1 ?_
  refine y_aload_n (i := 0) dX2_init_4 rfl rfl ?_
  refine y_iconst dX2_init_5 (by decide) ?_
  refine y_putX (ty := .int) (fs' := [vi 0, vv .null, vv .null, vi 0, vi 0, vv .null, vv .null, vv .null, vv .null, vv .null, vv .null, vv .null, vi 0, vi 0, vi 0, vl 0, vl 0]) 0 rfl (by decide) (yb 134 (by decide +kernel) rfl) rfl rfl (by decide +kernel) rfl rfl (Nat.le_of_ble_eq_true rfl) rfl dX2_init_6 ?_
  refine y_aload_n (i := 0) dX2_init_9 rfl rfl ?_
  refine y_bipush dX2_init_10 (by decide) (by decide) ?_
  refine y_newI (n := 6) (by decide) dX2_init_12 (fun b1 => ?_)
  refine y_memEq y_appX ?_
  refine y_putX (ty := (.array .int)) (fs' := [vi 0, vr b1, vv .null, vi 0, vi 0, vv .null, vv .null, vv .null, vv .null, vv .null, vv .null, vv .null, vi 0, vi 0, vi 0, vl 0, vl 0]) 1 rfl (by decide) (yb 137 (by decide +kernel) rfl) rfl rfl (by decide +kernel) rfl rfl (Nat.le_of_ble_eq_true rfl) rfl dX2_init_14 ?_
  refine y_aload_n (i := 0) dX2_init_17 rfl rfl ?_
  refine y_bipush dX2_init_18 (by decide) (by decide) ?_
  refine y_newI (n := 6) (by decide) dX2_init_20 (fun b2 => ?_)
  refine y_memEq y_appX ?_
  refine y_putX (ty := (.array .int)) (fs' := [vi 0, vr b1, vr b2, vi 0, vi 0, vv .null, vv .null, vv .null, vv .null, vv .null, vv .null, vv .null, vi 0, vi 0, vi 0, vl 0, vl 0]) 2 rfl (by decide) (yb 139 (by decide +kernel) rfl) rfl rfl (by decide +kernel) rfl rfl (Nat.le_of_ble_eq_true rfl) rfl dX2_init_22 ?_
  refine y_aload_n (i := 0) dX2_init_25 rfl rfl ?_
  refine y_iconst dX2_init_26 (by decide) ?_
  refine y_putX (ty := .int) (fs' := [vi 0, vr b1, vr b2, vi 0, vi 0, vv .null, vv .null, vv .null, vv .null, vv .null, vv .null, vv .null, vi 0, vi 0, vi 0, vl 0, vl 0]) 3 rfl (by decide) (yb 141 (by decide +kernel) rfl) rfl rfl (by decide +kernel) rfl rfl (Nat.le_of_ble_eq_true rfl) rfl dX2_init_27 ?_
  refine y_aload_n (i := 0) dX2_init_30 rfl rfl ?_
  refine y_iconst dX2_init_31 (by decide) ?_
  refine y_putX (ty := .int) (fs' := [vi 0, vr b1, vr b2, vi 0, vi 0, vv .null, vv .null, vv .null, vv .null, vv .null, vv .null, vv .null, vi 0, vi 0, vi 0, vl 0, vl 0]) 4 rfl (by decide) (yb 145 (by decide +kernel) rfl) rfl rfl (by decide +kernel) rfl rfl (Nat.le_of_ble_eq_true rfl) rfl dX2_init_32 ?_
  refine y_aload_n (i := 0) dX2_init_35 rfl rfl ?_
  refine y_bipush dX2_init_36 (by decide) (by decide) ?_
  refine y_newI (n := 6) (by decide) dX2_init_38 (fun b3 => ?_)
  refine y_memEq y_appX ?_
  refine y_putX (ty := (.array .int)) (fs' := [vi 0, vr b1, vr b2, vi 0, vi 0, vr b3, vv .null, vv .null, vv .null, vv .null, vv .null, vv .null, vi 0, vi 0, vi 0, vl 0, vl 0]) 5 rfl (by decide) (yb 146 (by decide +kernel) rfl) rfl rfl (by decide +kernel) rfl rfl (Nat.le_of_ble_eq_true rfl) rfl dX2_init_40 ?_
  refine y_aload_n (i := 0) dX2_init_43 rfl rfl ?_
  refine y_bipush dX2_init_44 (by decide) (by decide) ?_
  refine y_newI (n := 6) (by decide) dX2_init_46 (fun b4 => ?_)
  refine y_memEq y_appX ?_
  refine y_putX (ty := (.array .int)) (fs' := [vi 0, vr b1, vr b2, vi 0, vi 0, vr b3, vr b4, vv .null, vv .null, vv .null, vv .null, vv .null, vi 0, vi 0, vi 0, vl 0, vl 0]) 6 rfl (by decide) (yb 148 (by decide +kernel) rfl) rfl rfl (by decide +kernel) rfl rfl (Nat.le_of_ble_eq_true rfl) rfl dX2_init_48 ?_
  refine y_aload_n (i := 0) dX2_init_51 rfl rfl ?_
  refine y_bipush dX2_init_52 (by decide) (by decide) ?_
  refine y_newI (n := 6) (by decide) dX2_init_54 (fun b5 => ?_)
  refine y_memEq y_appX ?_
  refine y_putX (ty := (.array .int)) (fs' := [vi 0, vr b1, vr b2, vi 0, vi 0, vr b3, vr b4, vr b5, vv .null, vv .null, vv .null, vv .null, vi 0, vi 0, vi 0, vl 0, vl 0]) 7 rfl (by decide) (yb 151 (by decide +kernel) rfl) rfl rfl (by decide +kernel) rfl rfl (Nat.le_of_ble_eq_true rfl) rfl dX2_init_56 ?_
  refine y_aload_n (i := 0) dX2_init_59 rfl rfl ?_
  refine y_bipush dX2_init_60 (by decide) (by decide) ?_
  refine y_newI (n := 6) (by decide) dX2_init_62 (fun b6 => ?_)
  refine y_memEq y_appX ?_
  refine y_putX (ty := (.array .int)) (fs' := [vi 0, vr b1, vr b2, vi 0, vi 0, vr b3, vr b4, vr b5, vr b6, vv .null, vv .null, vv .null, vi 0, vi 0, vi 0, vl 0, vl 0]) 8 rfl (by decide) (yb 152 (by decide +kernel) rfl) rfl rfl (by decide +kernel) rfl rfl (Nat.le_of_ble_eq_true rfl) rfl dX2_init_64 ?_
  refine y_aload_n (i := 0) dX2_init_67 rfl rfl ?_
  refine y_bipush dX2_init_68 (by decide) (by decide) ?_
  refine y_newI (n := 6) (by decide) dX2_init_70 (fun b7 => ?_)
  refine y_memEq y_appX ?_
  refine y_putX (ty := (.array .int)) (fs' := [vi 0, vr b1, vr b2, vi 0, vi 0, vr b3, vr b4, vr b5, vr b6, vr b7, vv .null, vv .null, vi 0, vi 0, vi 0, vl 0, vl 0]) 9 rfl (by decide) (yb 153 (by decide +kernel) rfl) rfl rfl (by decide +kernel) rfl rfl (Nat.le_of_ble_eq_true rfl) rfl dX2_init_72 ?_
  refine y_aload_n (i := 0) dX2_init_75 rfl rfl ?_
  refine y_bipush dX2_init_76 (by decide) (by decide) ?_
  refine y_newI (n := 6) (by decide) dX2_init_78 (fun b8 => ?_)
  refine y_memEq y_appX ?_
  refine y_putX (ty := (.array .int)) (fs' := [vi 0, vr b1, vr b2, vi 0, vi 0, vr b3, vr b4, vr b5, vr b6, vr b7, vr b8, vv .null, vi 0, vi 0, vi 0, vl 0, vl 0]) 10 rfl (by decide) (yb 155 (by decide +kernel) rfl) rfl rfl (by decide +kernel) rfl rfl (Nat.le_of_ble_eq_true rfl) rfl dX2_init_80 ?_
  refine y_aload_n (i := 0) dX2_init_83 rfl rfl ?_
  refine y_bipush dX2_init_84 (by decide) (by decide) ?_
  refine y_newI (n := 6) (by decide) dX2_init_86 (fun b9 => ?_)
  refine y_memEq y_appX ?_
  refine y_putX (ty := (.array .int)) (fs' := [vi 0, vr b1, vr b2, vi 0, vi 0, vr b3, vr b4, vr b5, vr b6, vr b7, vr b8, vr b9, vi 0, vi 0, vi 0, vl 0, vl 0]) 11 rfl (by decide) (yb 157 (by decide +kernel) rfl) rfl rfl (by decide +kernel) rfl rfl (Nat.le_of_ble_eq_true rfl) rfl dX2_init_88 ?_
  refine y_aload_n (i := 0) dX2_init_91 rfl rfl ?_
  refine y_iconst dX2_init_92 (by decide) ?_
  refine y_putX (ty := .int) (fs' := [vi 0, vr b1, vr b2, vi 0, vi 0, vr b3, vr b4, vr b5, vr b6, vr b7, vr b8, vr b9, vi 0, vi 0, vi 0, vl 0, vl 0]) 12 rfl (by decide) (yb 161 (by decide +kernel) rfl) rfl rfl (by decide +kernel) rfl rfl (Nat.le_of_ble_eq_true rfl) rfl dX2_init_93 ?_
  refine y_aload_n (i := 0) dX2_init_96 rfl rfl ?_
  refine y_iconst dX2_init_97 (by decide) ?_
  refine y_putX (ty := .int) (fs' := [vi 0, vr b1, vr b2, vi 0, vi 0, vr b3, vr b4, vr b5, vr b6, vr b7, vr b8, vr b9, vi 0, vi 0, vi 0, vl 0, vl 0]) 13 rfl (by decide) (yb 163 (by decide +kernel) rfl) rfl rfl (by decide +kernel) rfl rfl (Nat.le_of_ble_eq_true rfl) rfl dX2_init_98 ?_
  refine y_aload_n (i := 0) dX2_init_101 rfl rfl ?_
  refine y_iconst dX2_init_102 (by decide) ?_
  refine y_putX (ty := .int) (fs' := [vi 0, vr b1, vr b2, vi 0, vi 0, vr b3, vr b4, vr b5, vr b6, vr b7, vr b8, vr b9, vi 0, vi 0, vi 0, vl 0, vl 0]) 14 rfl (by decide) (yb 165 (by decide +kernel) rfl) rfl rfl (by decide +kernel) rfl rfl (Nat.le_of_ble_eq_true rfl) rfl dX2_init_103 ?_
  refine y_aload_n (i := 0) dX2_init_106 rfl rfl ?_
  refine y_lconst (x := 0) dX2_init_107 (by decide) (by decide) ?_
  refine y_putX (ty := .long) (fs' := [vi 0, vr b1, vr b2, vi 0, vi 0, vr b3, vr b4, vr b5, vr b6, vr b7, vr b8, vr b9, vi 0, vi 0, vi 0, vl 0, vl 0]) 15 rfl (by decide) (yb 167 (by decide +kernel) rfl) rfl rfl (by decide +kernel) rfl rfl (Nat.le_of_ble_eq_true rfl) rfl dX2_init_108 ?_
  refine y_aload_n (i := 0) dX2_init_111 rfl rfl ?_
  refine y_lconst (x := 0) dX2_init_112 (by decide) (by decide) ?_
  refine y_putX (ty := .long) (fs' := [vi 0, vr b1, vr b2, vi 0, vi 0, vr b3, vr b4, vr b5, vr b6, vr b7, vr b8, vr b9, vi 0, vi 0, vi 0, vl 0, vl 0]) 16 rfl (by decide) (yb 169 (by decide +kernel) rfl) rfl rfl (by decide +kernel) rfl rfl (Nat.le_of_ble_eq_true rfl) rfl dX2_init_113 ?_
  exact y_return rfl dX2_init_116 ⟨rfl, fun i => [b1, b2, b3, b4, b5, b6, b7, b8, b9].getD i 0, rfl⟩
set_option maxRecDepth 100000 in
set_option maxHeartbeats 4000000 in
theorem c_Text {g : yG} {X : yMem} {a : Nat} : yC g miRX8 0 1 128 [vr a] (X ++ [(a, oo 5 dRX8)]) (fun o M' => o = .inl none ∧ ∃ b1 : Nat, M' = X ++ (a, oo 5 [vr b1, vi 0]) :: [(b1, z0c 128)]) := by
  refine y_of (by decide +kernel) rfl (y_one rfl) (Nat.le_of_ble_eq_true rfl) ?_
  refine y_aload_n (i := 0) dX8_init_0 rfl rfl ?_
  refine y_objInit (yb 304 (by decide +kernel) rfl) (yb 126 (by decide +kernel) rfl) (yb 127 (by decide +kernel) rfl) (Nat.zero_le _) dX8_init_1 ?_
  refine y_aload_n (i := 0) dX8_init_4 rfl rfl ?_
  refine y_sipush dX8_init_5 (by decide) (by decide) ?_
  refine y_newC (n := 128) (by decide) dX8_init_8 (fun b1 => ?_)
  refine y_memEq y_appX ?_
  refine y_putX (ty := (.array .char)) (fs' := [vr b1, vi 0]) 0 rfl (by decide) (yb 305 (by decide +kernel) rfl) rfl rfl (by decide +kernel) rfl rfl (Nat.le_of_ble_eq_true rfl) rfl dX8_init_10 ?_
  refine y_aload_n (i := 0) dX8_init_13 rfl rfl ?_
  refine y_iconst dX8_init_14 (by decide) ?_
  refine y_putX (ty := .int) (fs' := [vr b1, vi 0]) 1 rfl (by decide) (yb 307 (by decide +kernel) rfl) rfl rfl (by decide +kernel) rfl rfl (Nat.le_of_ble_eq_true rfl) rfl dX8_init_15 ?_
  exact y_return rfl dX8_init_18 ⟨rfl, b1, rfl⟩
set_option maxRecDepth 100000 in
set_option maxHeartbeats 4000000 in
theorem c_Parser {g : yG} {X : yMem} {a : Nat} : yC g miRX4 0 1 4 [vr a] (X ++ [(a, oo 2 dRX4)]) (fun o M' => o = .inl none ∧ ∃ b1 : Nat, M' = X ++ (a, oo 2 [vi 0, vr (g.2.2.2.1 6), vr b1, vi 0, vi 0]) :: [(b1, z0 4)]) := by
  refine y_of (by decide +kernel) rfl (y_one rfl) (Nat.le_of_ble_eq_true rfl) ?_
  refine y_aload_n (i := 0) dX4_init_0 rfl rfl ?_
  refine y_objInit (yb 277 (by decide +kernel) rfl) (yb 126 (by decide +kernel) rfl) (yb 127 (by decide +kernel) rfl) (Nat.zero_le _) dX4_init_1 ?_
  refine y_aload_n (i := 0) dX4_init_4 rfl rfl ?_
  refine y_iconst dX4_init_5 (by decide) ?_
  refine y_putX (ty := .int) (fs' := [vi 0, vv .null, vv .null, vi 0, vi 0]) 0 rfl (by decide) (yb 280 (by decide +kernel) rfl) rfl rfl (by decide +kernel) rfl rfl (Nat.le_of_ble_eq_true rfl) rfl dX4_init_6 ?_
  refine y_aload_n (i := 0) dX4_init_9 rfl rfl ?_
  refine y_gets (v := vr (g.2.2.2.1 6)) trivial (y_Zkind 6 (by decide)) (yb 278 (by decide +kernel) rfl) dX4_init_10 ?_
  refine y_putX (ty := (.object "TenantCensus$Kind")) (fs' := [vi 0, vr (g.2.2.2.1 6), vv .null, vi 0, vi 0]) 1 rfl (by decide) (yb 282 (by decide +kernel) rfl) rfl rfl (by decide +kernel) rfl rfl (Nat.le_of_ble_eq_true rfl) rfl dX4_init_13 ?_
  refine y_aload_n (i := 0) dX4_init_16 rfl rfl ?_
  refine y_iconst dX4_init_17 (by decide) ?_
  refine y_newI (n := 4) (by decide) dX4_init_18 (fun b1 => ?_)
  refine y_memEq y_appX ?_
  refine y_putX (ty := (.array .int)) (fs' := [vi 0, vr (g.2.2.2.1 6), vr b1, vi 0, vi 0]) 2 rfl (by decide) (yb 284 (by decide +kernel) rfl) rfl rfl (by decide +kernel) rfl rfl (Nat.le_of_ble_eq_true rfl) rfl dX4_init_20 ?_
  refine y_aload_n (i := 0) dX4_init_23 rfl rfl ?_
  refine y_iconst dX4_init_24 (by decide) ?_
  refine y_putX (ty := .int) (fs' := [vi 0, vr (g.2.2.2.1 6), vr b1, vi 0, vi 0]) 3 rfl (by decide) (yb 286 (by decide +kernel) rfl) rfl rfl (by decide +kernel) rfl rfl (Nat.le_of_ble_eq_true rfl) rfl dX4_init_25 ?_
  refine y_aload_n (i := 0) dX4_init_28 rfl rfl ?_
  refine y_iconst dX4_init_29 (by decide) ?_
  refine y_putX (ty := .boolean) (fs' := [vi 0, vr (g.2.2.2.1 6), vr b1, vi 0, vi 0]) 4 rfl (by decide) (yb 287 (by decide +kernel) rfl) rfl rfl (by decide +kernel) rfl rfl (Nat.le_of_ble_eq_true rfl) rfl dX4_init_30 ?_
  exact y_return rfl dX4_init_33 ⟨rfl, b1, rfl⟩
set_option maxRecDepth 100000 in
set_option maxHeartbeats 4000000 in
theorem c_Spreader {g : yG} {X : yMem} {a : Nat} : yC g miRX7 0 3 134 [vr a] (X ++ [(a, oo 4 dRX7)]) (fun o M' => o = .inl none ∧ ∃ b1 : Nat, ∃ b2 : Nat, ∃ b3 : Nat, M' = X ++ (a, oo 4 [vr b1, vr b2, vr b3]) :: [(b1, z0 6), (b2, z0 64), (b3, z0 64)]) := by
  refine y_of (by decide +kernel) rfl (y_one rfl) (Nat.le_of_ble_eq_true rfl) ?_
  refine y_aload_n (i := 0) dX7_init_0 rfl rfl ?_
  refine y_objInit (yb 261 (by decide +kernel) rfl) (yb 126 (by decide +kernel) rfl) (yb 127 (by decide +kernel) rfl) (Nat.zero_le _) dX7_init_1 ?_
  refine y_aload_n (i := 0) dX7_init_4 rfl rfl ?_
  refine y_bipush dX7_init_5 (by decide) (by decide) ?_
  refine y_newI (n := 6) (by decide) dX7_init_7 (fun b1 => ?_)
  refine y_memEq y_appX ?_
  refine y_putX (ty := (.array .int)) (fs' := [vr b1, vv .null, vv .null]) 0 rfl (by decide) (yb 262 (by decide +kernel) rfl) rfl rfl (by decide +kernel) rfl rfl (Nat.le_of_ble_eq_true rfl) rfl dX7_init_9 ?_
  refine y_aload_n (i := 0) dX7_init_12 rfl rfl ?_
  refine y_bipush dX7_init_13 (by decide) (by decide) ?_
  refine y_newI (n := 64) (by decide) dX7_init_15 (fun b2 => ?_)
  refine y_memEq y_appX ?_
  refine y_putX (ty := (.array .int)) (fs' := [vr b1, vr b2, vv .null]) 1 rfl (by decide) (yb 263 (by decide +kernel) rfl) rfl rfl (by decide +kernel) rfl rfl (Nat.le_of_ble_eq_true rfl) rfl dX7_init_17 ?_
  refine y_aload_n (i := 0) dX7_init_20 rfl rfl ?_
  refine y_bipush dX7_init_21 (by decide) (by decide) ?_
  refine y_newI (n := 64) (by decide) dX7_init_23 (fun b3 => ?_)
  refine y_memEq y_appX ?_
  refine y_putX (ty := (.array .int)) (fs' := [vr b1, vr b2, vr b3]) 2 rfl (by decide) (yb 264 (by decide +kernel) rfl) rfl rfl (by decide +kernel) rfl rfl (Nat.le_of_ble_eq_true rfl) rfl dX7_init_25 ?_
  exact y_return rfl dX7_init_28 ⟨rfl, b1, b2, b3, rfl⟩
set_option maxRecDepth 100000 in
set_option maxHeartbeats 4000000 in
theorem c_Planner {g : yG} {X : yMem} {a : Nat} : yC g miRX5 0 18 108 [vr a] (X ++ [(a, oo 3 dRX5)]) (fun o M' => o = .inl none ∧ ∃ b1 : Nat, ∃ r1 : Nat → Nat, ∃ b2 : Nat, ∃ r2 : Nat → Nat, ∃ b3 : Nat, ∃ b4 : Nat, ∃ b5 : Nat, ∃ b6 : Nat, M' = X ++ (a, oo 3 [vr b1, vr b2, vr b3, vr b4, vr b5, vr b6, vi 0]) :: (((b1, oq 5 ((List.range 6).map fun i => some (r1 i))) :: (List.range 6).map (fun i => (r1 i, z0 6))) ++ (((b2, oq 5 ((List.range 6).map fun i => some (r2 i))) :: (List.range 6).map (fun i => (r2 i, z0 6))) ++ [(b3, z0 6), (b4, z0 6), (b5, z0 6), (b6, z0 6)]))) := by
  refine y_of (by decide +kernel) rfl (y_one rfl) (Nat.le_of_ble_eq_true rfl) ?_
  refine y_aload_n (i := 0) dX5_init_0 rfl rfl ?_
  refine y_objInit (yb 231 (by decide +kernel) rfl) (yb 126 (by decide +kernel) rfl) (yb 127 (by decide +kernel) rfl) (Nat.zero_le _) dX5_init_1 ?_
  refine y_aload_n (i := 0) dX5_init_4 rfl rfl ?_
  refine y_bipush dX5_init_5 (by decide) (by decide) ?_
  refine y_bipush dX5_init_7 (by decide) (by decide) ?_
  refine y_mna (yb 232 (by decide +kernel) rfl) dX5_init_9 (fun b1 r1 => ?_)
  refine y_memEq y_appX ?_
  refine y_putX (ty := (.array (.array .int))) (fs' := [vr b1, vv .null, vv .null, vv .null, vv .null, vv .null, vi 0]) 0 rfl (by decide) (yb 234 (by decide +kernel) rfl) rfl rfl (by decide +kernel) rfl rfl (Nat.le_of_ble_eq_true rfl) rfl dX5_init_13 ?_
  refine y_aload_n (i := 0) dX5_init_16 rfl rfl ?_
  refine y_bipush dX5_init_17 (by decide) (by decide) ?_
  refine y_bipush dX5_init_19 (by decide) (by decide) ?_
  refine y_mna (yb 232 (by decide +kernel) rfl) dX5_init_21 (fun b2 r2 => ?_)
  refine y_memEq y_appX ?_
  refine y_putX (ty := (.array (.array .int))) (fs' := [vr b1, vr b2, vv .null, vv .null, vv .null, vv .null, vi 0]) 1 rfl (by decide) (yb 235 (by decide +kernel) rfl) rfl rfl (by decide +kernel) rfl rfl (Nat.le_of_ble_eq_true rfl) rfl dX5_init_25 ?_
  refine y_aload_n (i := 0) dX5_init_28 rfl rfl ?_
  refine y_bipush dX5_init_29 (by decide) (by decide) ?_
  refine y_newI (n := 6) (by decide) dX5_init_31 (fun b3 => ?_)
  refine y_memEq y_appX ?_
  refine y_putX (ty := (.array .int)) (fs' := [vr b1, vr b2, vr b3, vv .null, vv .null, vv .null, vi 0]) 2 rfl (by decide) (yb 236 (by decide +kernel) rfl) rfl rfl (by decide +kernel) rfl rfl (Nat.le_of_ble_eq_true rfl) rfl dX5_init_33 ?_
  refine y_aload_n (i := 0) dX5_init_36 rfl rfl ?_
  refine y_bipush dX5_init_37 (by decide) (by decide) ?_
  refine y_newI (n := 6) (by decide) dX5_init_39 (fun b4 => ?_)
  refine y_memEq y_appX ?_
  refine y_putX (ty := (.array .int)) (fs' := [vr b1, vr b2, vr b3, vr b4, vv .null, vv .null, vi 0]) 3 rfl (by decide) (yb 237 (by decide +kernel) rfl) rfl rfl (by decide +kernel) rfl rfl (Nat.le_of_ble_eq_true rfl) rfl dX5_init_41 ?_
  refine y_aload_n (i := 0) dX5_init_44 rfl rfl ?_
  refine y_bipush dX5_init_45 (by decide) (by decide) ?_
  refine y_newI (n := 6) (by decide) dX5_init_47 (fun b5 => ?_)
  refine y_memEq y_appX ?_
  refine y_putX (ty := (.array .int)) (fs' := [vr b1, vr b2, vr b3, vr b4, vr b5, vv .null, vi 0]) 4 rfl (by decide) (yb 238 (by decide +kernel) rfl) rfl rfl (by decide +kernel) rfl rfl (Nat.le_of_ble_eq_true rfl) rfl dX5_init_49 ?_
  refine y_aload_n (i := 0) dX5_init_52 rfl rfl ?_
  refine y_bipush dX5_init_53 (by decide) (by decide) ?_
  refine y_newI (n := 6) (by decide) dX5_init_55 (fun b6 => ?_)
  refine y_memEq y_appX ?_
  refine y_putX (ty := (.array .int)) (fs' := [vr b1, vr b2, vr b3, vr b4, vr b5, vr b6, vi 0]) 5 rfl (by decide) (yb 239 (by decide +kernel) rfl) rfl rfl (by decide +kernel) rfl rfl (Nat.le_of_ble_eq_true rfl) rfl dX5_init_57 ?_
  refine y_aload_n (i := 0) dX5_init_60 rfl rfl ?_
  refine y_iconst dX5_init_61 (by decide) ?_
  refine y_putX (ty := .int) (fs' := [vr b1, vr b2, vr b3, vr b4, vr b5, vr b6, vi 0]) 6 rfl (by decide) (yb 240 (by decide +kernel) rfl) rfl rfl (by decide +kernel) rfl rfl (Nat.le_of_ble_eq_true rfl) rfl dX5_init_62 ?_
  exact y_return rfl dX5_init_65 ⟨rfl, b1, r1, b2, r2, b3, b4, b5, b6, by simp [List.append_assoc]⟩
set_option maxRecDepth 100000 in
set_option maxHeartbeats 4000000 in
theorem hist_loop {g : yG} {X : yMem} {a r : Nat} {Q : yOut → yMem → Prop} (hQ : ∀ hs : List (Nat × (Nat → Nat)), hs.length = 8 → Q (.inl none) (X ++ (a, oo 0 [vr r, vi 0, vi 0]) :: (r, oq 4 (hs.map (fun q => some q.1))) :: hs.flatMap (fun q => hsB q.1 q.2))) :
    ∀ (n : Nat) (hs : List (Nat × (Nat → Nat))), hs.length + n = 8 → Y g miRX1 1 (10 * n) (71 * n) 25 [(1, vi (hs.length : Int)), (0, vr a)] [] (X ++ (a, oo 0 [vr r, vi 0, vi 0]) :: (r, oq 4 (hs.map (fun q => some q.1) ++ List.replicate n none)) :: hs.flatMap (fun q => hsB q.1 q.2)) Q := by
  intro n
  induction n with
  | zero =>
    intro hs h8
    rw [Nat.add_zero] at h8
    refine y_iload_n (i := 1) dX1_init_25 rfl rfl ?_
    refine y_aload_n (i := 0) dX1_init_26 rfl rfl ?_
    refine y_getf (ci := 0) (v := vr r) rfl y_atX 0 (by decide) (yb 215 (by decide +kernel) rfl) rfl dX1_init_27 ?_
    refine y_alenQ (cA := 0) (t := 4) (ty := .object RX2) y_atX1 rfl dX1_init_30 ?_
    refine y_icmp_ge (tgt := 53) dX1_init_31 rfl (fun _ => ?_) (fun h => ?_)
    · refine y_return rfl dX1_init_53 ?_
      rw [List.replicate_zero, List.append_nil]
      exact hQ hs h8
    · rw [List.length_append, List.length_map, List.length_replicate, h8] at h
      exact absurd h (by decide)
  | succ n ih =>
    intro hs h8
    refine y_iload_n (i := 1) dX1_init_25 rfl rfl ?_
    refine y_aload_n (i := 0) dX1_init_26 rfl rfl ?_
    refine y_getf (ci := 0) (v := vr r) rfl y_atX 0 (by decide) (yb 215 (by decide +kernel) rfl) rfl dX1_init_27 ?_
    refine y_alenQ (cA := 0) (t := 4) (ty := .object RX2) y_atX1 rfl dX1_init_30 ?_
    refine y_icmp_ge (tgt := 53) dX1_init_31 rfl (fun h => ?_) (fun _ => ?_)
    · rw [List.length_append, List.length_map, List.length_replicate] at h
      omega
    refine y_aload_n (i := 0) dX1_init_34 rfl rfl ?_
    refine y_getf (ci := 0) (v := vr r) rfl y_atX 0 (by decide) (yb 215 (by decide +kernel) rfl) rfl dX1_init_35 ?_
    refine y_iload_n (i := 1) dX1_init_38 rfl rfl ?_
    show Y g miRX1 1 ((10 * n + 9) + 1) ((71 * n + 54) + 17) _ _ _ _ Q
    refine y_new (ci := 1) (fs := dRX2) rfl dRX2_d dRX2_ok (yb 212 (by decide +kernel) rfl) (yb 129 (by decide +kernel) rfl) (yb 93 (by decide +kernel) rfl) dX1_init_39 (fun h => ?_)
    refine y_dup dX1_init_42 rfl ?_
    refine y_callI (as := []) (S := [vr h, vi (hs.length : Int), vr r]) (c_House (a := h)) kiRX2 kjRX2 rfl (by decide) rfl (Or.inr ⟨_, (by decide +kernel : (RX1, 24, miRX2.1, "TenantCensus") ∈ y_nwM)⟩) rfl (Nat.le_of_ble_eq_true rfl) dX1_init_43 (y_unc0 rfl) (fun E M1 h => nomatch h.1) (fun r0 M1 h => ?_)
    obtain ⟨hz9, b, rfl⟩ := h
    cases hz9
    refine y_memEq y_appX ?_
    rw [List.cons_append]
    refine y_aastore (q := X.length + 1) (qk := X.length + 2 + (hs.flatMap (fun q => hsB q.1 q.2)).length) (vs := [vi 0, vr (b 0), vr (b 1), vi 0, vi 0, vr (b 2), vr (b 3), vr (b 4), vr (b 5), vr (b 6), vr (b 7), vr (b 8), vi 0, vi 0, vi 0, vl 0, vl 0]) y_atX1 ?_ (by omega) (by rw [List.length_append, List.length_map, List.length_replicate]; omega) dX1_init_46 ?_
    · rw [List.getElem?_append_right (by omega), show X.length + 2 + (hs.flatMap (fun q => hsB q.1 q.2)).length - X.length = (hs.flatMap (fun q => hsB q.1 q.2)).length + 1 + 1 by omega]
      rw [List.getElem?_cons_succ, List.getElem?_cons_succ, List.getElem?_append_right (Nat.le_refl _), Nat.sub_self]
      rfl
    rw [y_setX1]
    refine y_iinc (i := 1) (L' := [(1, vi (((hs ++ [(h, b)]).length : Nat) : Int)), (0, vr a)]) dX1_init_47 rfl (by decide) ?_ ?_
    · rw [wr_eq (by unfold y_in; omega), List.length_append]
      rfl
    refine y_goto (tgt := 25) dX1_init_50 rfl ?_
    have e := ih (hs ++ [(h, b)]) (by rw [List.length_append]; show hs.length + 1 + n = 8; omega)
    have e1 : (hs.map (fun q : Nat × (Nat → Nat) => some q.1) ++ List.replicate (n + 1) none).set (hs.length : Int).toNat (some h) = (hs ++ [(h, b)]).map (fun q : Nat × (Nat → Nat) => some q.1) ++ List.replicate n none := by
      rw [Int.toNat_natCast, List.set_append_right _ _ (by rw [List.length_map]; exact Nat.le_refl _), List.length_map, Nat.sub_self, List.map_append, List.append_assoc]
      rfl
    have e2 : (hs ++ [(h, b)]).flatMap (fun q => hsB q.1 q.2) = hs.flatMap (fun q => hsB q.1 q.2) ++ hsB h b := by
      rw [List.flatMap_append]
      simp
    rw [e2] at e
    rw [e1]
    exact e
set_option maxRecDepth 100000 in
set_option maxHeartbeats 4000000 in
theorem c_History {g : yG} {X : yMem} {a : Nat} : yC g miRX1 1 81 576 [vr a] (X ++ [(a, oo 0 dRX1)]) (fun o M' => o = .inl none ∧ ∃ r : Nat, ∃ hs : List (Nat × (Nat → Nat)), ∃ _ : hs.length = 8, M' = X ++ (a, oo 0 [vr r, vi 0, vi 0]) :: (r, oq 4 (hs.map (fun q => some q.1))) :: hs.flatMap (fun q => hsB q.1 q.2)) := by
  refine y_of (by decide +kernel) rfl (y_one rfl) (Nat.le_of_ble_eq_true rfl) ?_
  refine y_aload_n (i := 0) dX1_init_0 rfl rfl ?_
  refine y_objInit (yb 211 (by decide +kernel) rfl) (yb 126 (by decide +kernel) rfl) (yb 127 (by decide +kernel) rfl) (Nat.zero_le _) dX1_init_1 ?_
  refine y_aload_n (i := 0) dX1_init_4 rfl rfl ?_
  refine y_bipush dX1_init_5 (by decide) (by decide) ?_
  refine y_newQ (n := 8) (kc := 80) (ks := 568) (by decide) (yb 212 (by decide +kernel) rfl) dX1_init_7 (fun r => ?_)
  refine y_memEq y_appX ?_
  refine y_putX (ty := (.array (.object "TenantCensus$House"))) (fs' := [vr r, vi 0, vi 0]) 0 rfl (by decide) (yb 215 (by decide +kernel) rfl) rfl rfl (by decide +kernel) rfl rfl (Nat.le_of_ble_eq_true rfl) rfl dX1_init_10 ?_
  refine y_aload_n (i := 0) dX1_init_13 rfl rfl ?_
  refine y_iconst dX1_init_14 (by decide) ?_
  refine y_putX (ty := .int) (fs' := [vr r, vi 0, vi 0]) 1 rfl (by decide) (yb 216 (by decide +kernel) rfl) rfl rfl (by decide +kernel) rfl rfl (Nat.le_of_ble_eq_true rfl) rfl dX1_init_15 ?_
  refine y_aload_n (i := 0) dX1_init_18 rfl rfl ?_
  refine y_iconst dX1_init_19 (by decide) ?_
  refine y_putX (ty := .int) (fs' := [vr r, vi 0, vi 0]) 2 rfl (by decide) (yb 217 (by decide +kernel) rfl) rfl rfl (by decide +kernel) rfl rfl (Nat.le_of_ble_eq_true rfl) rfl dX1_init_20 ?_
  refine y_iconst dX1_init_23 (by decide) ?_
  refine y_istore_n (i := 1) (L' := [(1, vi 0), (0, vr a)]) dX1_init_24 rfl (by decide) rfl ?_
  exact hist_loop (fun hs h8 => ⟨rfl, r, hs, h8, rfl⟩) 8 [] rfl
set_option maxRecDepth 100000 in
set_option maxHeartbeats 4000000 in
theorem c_TenantCensusModel {g : yG} {X : yMem} {a : Nat} : yC g miRX10 0 13 958 [vr a] (X ++ [(a, oo 7 dRX10)]) (fun o M' => o = .inl none ∧ ∃ b1 : Nat, ∃ b2 : Nat, ∃ b3 : Nat, ∃ b4 : Nat, ∃ b5 : Nat, ∃ b6 : Nat, ∃ b7 : Nat, ∃ b8 : Nat, ∃ b9 : Nat, ∃ b10 : Nat, ∃ b11 : Nat, ∃ b12 : Nat, ∃ b13 : Nat, M' = X ++ (a, oo 7 [vi 0, vr b1, vr b2, vr b3, vr b4, vr b5, vi 0, vi 0, vi 0, vr b6, vr b7, vr b8, vr b9, vr b10, vr b11, vi 0, vr b12, vi 0, vi 0, vi (-1), vi (-1), vr b13, vi 0, vi 0]) :: [(b1, z0 62), (b2, z0 496), (b3, z0 62), (b4, z0 62), (b5, z0 62), (b6, z0 6), (b7, z0 6), (b8, z0 6), (b9, z0 6), (b10, z0 6), (b11, z0c 120), (b12, z0c 60), (b13, z0 4)]) := by
  refine y_of (by decide +kernel) rfl (y_one rfl) (Nat.le_of_ble_eq_true rfl) ?_
  refine y_aload_n (i := 0) dX10_init_0 rfl rfl ?_
  refine y_objInit (yb 1319 (by decide +kernel) rfl) (yb 126 (by decide +kernel) rfl) (yb 127 (by decide +kernel) rfl) (Nat.zero_le _) dX10_init_1 ?_
  refine y_aload_n (i := 0) dX10_init_4 rfl rfl ?_
  refine y_bipush dX10_init_5 (by decide) (by decide) ?_
  refine y_newI (n := 62) (by decide) dX10_init_7 (fun b1 => ?_)
  refine y_memEq y_appX ?_
  refine y_putX (ty := (.array .int)) (fs' := [vi 0, vr b1, vv .null, vv .null, vv .null, vv .null, vi 0, vi 0, vi 0, vv .null, vv .null, vv .null, vv .null, vv .null, vv .null, vi 0, vv .null, vi 0, vi 0, vi 0, vi 0, vv .null, vi 0, vi 0]) 1 rfl (by decide) (yb 1321 (by decide +kernel) rfl) rfl rfl (by decide +kernel) rfl rfl (Nat.le_of_ble_eq_true rfl) rfl dX10_init_9 ?_
  refine y_aload_n (i := 0) dX10_init_12 rfl rfl ?_
  refine y_sipush dX10_init_13 (by decide) (by decide) ?_
  refine y_newI (n := 496) (by decide) dX10_init_16 (fun b2 => ?_)
  refine y_memEq y_appX ?_
  refine y_putX (ty := (.array .int)) (fs' := [vi 0, vr b1, vr b2, vv .null, vv .null, vv .null, vi 0, vi 0, vi 0, vv .null, vv .null, vv .null, vv .null, vv .null, vv .null, vi 0, vv .null, vi 0, vi 0, vi 0, vi 0, vv .null, vi 0, vi 0]) 2 rfl (by decide) (yb 1322 (by decide +kernel) rfl) rfl rfl (by decide +kernel) rfl rfl (Nat.le_of_ble_eq_true rfl) rfl dX10_init_18 ?_
  refine y_aload_n (i := 0) dX10_init_21 rfl rfl ?_
  refine y_bipush dX10_init_22 (by decide) (by decide) ?_
  refine y_newI (n := 62) (by decide) dX10_init_24 (fun b3 => ?_)
  refine y_memEq y_appX ?_
  refine y_putX (ty := (.array .int)) (fs' := [vi 0, vr b1, vr b2, vr b3, vv .null, vv .null, vi 0, vi 0, vi 0, vv .null, vv .null, vv .null, vv .null, vv .null, vv .null, vi 0, vv .null, vi 0, vi 0, vi 0, vi 0, vv .null, vi 0, vi 0]) 3 rfl (by decide) (yb 1323 (by decide +kernel) rfl) rfl rfl (by decide +kernel) rfl rfl (Nat.le_of_ble_eq_true rfl) rfl dX10_init_26 ?_
  refine y_aload_n (i := 0) dX10_init_29 rfl rfl ?_
  refine y_bipush dX10_init_30 (by decide) (by decide) ?_
  refine y_newI (n := 62) (by decide) dX10_init_32 (fun b4 => ?_)
  refine y_memEq y_appX ?_
  refine y_putX (ty := (.array .int)) (fs' := [vi 0, vr b1, vr b2, vr b3, vr b4, vv .null, vi 0, vi 0, vi 0, vv .null, vv .null, vv .null, vv .null, vv .null, vv .null, vi 0, vv .null, vi 0, vi 0, vi 0, vi 0, vv .null, vi 0, vi 0]) 4 rfl (by decide) (yb 1324 (by decide +kernel) rfl) rfl rfl (by decide +kernel) rfl rfl (Nat.le_of_ble_eq_true rfl) rfl dX10_init_34 ?_
  refine y_aload_n (i := 0) dX10_init_37 rfl rfl ?_
  refine y_bipush dX10_init_38 (by decide) (by decide) ?_
  refine y_newI (n := 62) (by decide) dX10_init_40 (fun b5 => ?_)
  refine y_memEq y_appX ?_
  refine y_putX (ty := (.array .int)) (fs' := [vi 0, vr b1, vr b2, vr b3, vr b4, vr b5, vi 0, vi 0, vi 0, vv .null, vv .null, vv .null, vv .null, vv .null, vv .null, vi 0, vv .null, vi 0, vi 0, vi 0, vi 0, vv .null, vi 0, vi 0]) 5 rfl (by decide) (yb 1325 (by decide +kernel) rfl) rfl rfl (by decide +kernel) rfl rfl (Nat.le_of_ble_eq_true rfl) rfl dX10_init_42 ?_
  refine y_aload_n (i := 0) dX10_init_45 rfl rfl ?_
  refine y_bipush dX10_init_46 (by decide) (by decide) ?_
  refine y_newI (n := 6) (by decide) dX10_init_48 (fun b6 => ?_)
  refine y_memEq y_appX ?_
  refine y_putX (ty := (.array .int)) (fs' := [vi 0, vr b1, vr b2, vr b3, vr b4, vr b5, vi 0, vi 0, vi 0, vr b6, vv .null, vv .null, vv .null, vv .null, vv .null, vi 0, vv .null, vi 0, vi 0, vi 0, vi 0, vv .null, vi 0, vi 0]) 9 rfl (by decide) (yb 1329 (by decide +kernel) rfl) rfl rfl (by decide +kernel) rfl rfl (Nat.le_of_ble_eq_true rfl) rfl dX10_init_50 ?_
  refine y_aload_n (i := 0) dX10_init_53 rfl rfl ?_
  refine y_bipush dX10_init_54 (by decide) (by decide) ?_
  refine y_newI (n := 6) (by decide) dX10_init_56 (fun b7 => ?_)
  refine y_memEq y_appX ?_
  refine y_putX (ty := (.array .int)) (fs' := [vi 0, vr b1, vr b2, vr b3, vr b4, vr b5, vi 0, vi 0, vi 0, vr b6, vr b7, vv .null, vv .null, vv .null, vv .null, vi 0, vv .null, vi 0, vi 0, vi 0, vi 0, vv .null, vi 0, vi 0]) 10 rfl (by decide) (yb 1330 (by decide +kernel) rfl) rfl rfl (by decide +kernel) rfl rfl (Nat.le_of_ble_eq_true rfl) rfl dX10_init_58 ?_
  refine y_aload_n (i := 0) dX10_init_61 rfl rfl ?_
  refine y_bipush dX10_init_62 (by decide) (by decide) ?_
  refine y_newI (n := 6) (by decide) dX10_init_64 (fun b8 => ?_)
  refine y_memEq y_appX ?_
  refine y_putX (ty := (.array .int)) (fs' := [vi 0, vr b1, vr b2, vr b3, vr b4, vr b5, vi 0, vi 0, vi 0, vr b6, vr b7, vr b8, vv .null, vv .null, vv .null, vi 0, vv .null, vi 0, vi 0, vi 0, vi 0, vv .null, vi 0, vi 0]) 11 rfl (by decide) (yb 1331 (by decide +kernel) rfl) rfl rfl (by decide +kernel) rfl rfl (Nat.le_of_ble_eq_true rfl) rfl dX10_init_66 ?_
  refine y_aload_n (i := 0) dX10_init_69 rfl rfl ?_
  refine y_bipush dX10_init_70 (by decide) (by decide) ?_
  refine y_newI (n := 6) (by decide) dX10_init_72 (fun b9 => ?_)
  refine y_memEq y_appX ?_
  refine y_putX (ty := (.array .int)) (fs' := [vi 0, vr b1, vr b2, vr b3, vr b4, vr b5, vi 0, vi 0, vi 0, vr b6, vr b7, vr b8, vr b9, vv .null, vv .null, vi 0, vv .null, vi 0, vi 0, vi 0, vi 0, vv .null, vi 0, vi 0]) 12 rfl (by decide) (yb 1332 (by decide +kernel) rfl) rfl rfl (by decide +kernel) rfl rfl (Nat.le_of_ble_eq_true rfl) rfl dX10_init_74 ?_
  refine y_aload_n (i := 0) dX10_init_77 rfl rfl ?_
  refine y_bipush dX10_init_78 (by decide) (by decide) ?_
  refine y_newI (n := 6) (by decide) dX10_init_80 (fun b10 => ?_)
  refine y_memEq y_appX ?_
  refine y_putX (ty := (.array .int)) (fs' := [vi 0, vr b1, vr b2, vr b3, vr b4, vr b5, vi 0, vi 0, vi 0, vr b6, vr b7, vr b8, vr b9, vr b10, vv .null, vi 0, vv .null, vi 0, vi 0, vi 0, vi 0, vv .null, vi 0, vi 0]) 13 rfl (by decide) (yb 1333 (by decide +kernel) rfl) rfl rfl (by decide +kernel) rfl rfl (Nat.le_of_ble_eq_true rfl) rfl dX10_init_82 ?_
  refine y_aload_n (i := 0) dX10_init_85 rfl rfl ?_
  refine y_bipush dX10_init_86 (by decide) (by decide) ?_
  refine y_newC (n := 120) (by decide) dX10_init_88 (fun b11 => ?_)
  refine y_memEq y_appX ?_
  refine y_putX (ty := (.array .char)) (fs' := [vi 0, vr b1, vr b2, vr b3, vr b4, vr b5, vi 0, vi 0, vi 0, vr b6, vr b7, vr b8, vr b9, vr b10, vr b11, vi 0, vv .null, vi 0, vi 0, vi 0, vi 0, vv .null, vi 0, vi 0]) 14 rfl (by decide) (yb 1334 (by decide +kernel) rfl) rfl rfl (by decide +kernel) rfl rfl (Nat.le_of_ble_eq_true rfl) rfl dX10_init_90 ?_
  refine y_aload_n (i := 0) dX10_init_93 rfl rfl ?_
  refine y_bipush dX10_init_94 (by decide) (by decide) ?_
  refine y_newC (n := 60) (by decide) dX10_init_96 (fun b12 => ?_)
  refine y_memEq y_appX ?_
  refine y_putX (ty := (.array .char)) (fs' := [vi 0, vr b1, vr b2, vr b3, vr b4, vr b5, vi 0, vi 0, vi 0, vr b6, vr b7, vr b8, vr b9, vr b10, vr b11, vi 0, vr b12, vi 0, vi 0, vi 0, vi 0, vv .null, vi 0, vi 0]) 16 rfl (by decide) (yb 1336 (by decide +kernel) rfl) rfl rfl (by decide +kernel) rfl rfl (Nat.le_of_ble_eq_true rfl) rfl dX10_init_98 ?_
  refine y_aload_n (i := 0) dX10_init_101 rfl rfl ?_
  refine y_iconst dX10_init_102 (by decide) ?_
  refine y_putX (ty := .int) (fs' := [vi 0, vr b1, vr b2, vr b3, vr b4, vr b5, vi 0, vi 0, vi 0, vr b6, vr b7, vr b8, vr b9, vr b10, vr b11, vi 0, vr b12, vi 0, vi 0, vi (-1), vi 0, vv .null, vi 0, vi 0]) 19 rfl (by decide) (yb 1339 (by decide +kernel) rfl) rfl rfl (by decide +kernel) rfl rfl (Nat.le_of_ble_eq_true rfl) rfl dX10_init_103 ?_
  refine y_aload_n (i := 0) dX10_init_106 rfl rfl ?_
  refine y_iconst dX10_init_107 (by decide) ?_
  refine y_putX (ty := .int) (fs' := [vi 0, vr b1, vr b2, vr b3, vr b4, vr b5, vi 0, vi 0, vi 0, vr b6, vr b7, vr b8, vr b9, vr b10, vr b11, vi 0, vr b12, vi 0, vi 0, vi (-1), vi (-1), vv .null, vi 0, vi 0]) 20 rfl (by decide) (yb 1340 (by decide +kernel) rfl) rfl rfl (by decide +kernel) rfl rfl (Nat.le_of_ble_eq_true rfl) rfl dX10_init_108 ?_
  refine y_aload_n (i := 0) dX10_init_111 rfl rfl ?_
  refine y_iconst dX10_init_112 (by decide) ?_
  refine y_newI (n := 4) (by decide) dX10_init_113 (fun b13 => ?_)
  refine y_memEq y_appX ?_
  refine y_putX (ty := (.array .int)) (fs' := [vi 0, vr b1, vr b2, vr b3, vr b4, vr b5, vi 0, vi 0, vi 0, vr b6, vr b7, vr b8, vr b9, vr b10, vr b11, vi 0, vr b12, vi 0, vi 0, vi (-1), vi (-1), vr b13, vi 0, vi 0]) 21 rfl (by decide) (yb 1341 (by decide +kernel) rfl) rfl rfl (by decide +kernel) rfl rfl (Nat.le_of_ble_eq_true rfl) rfl dX10_init_115 ?_
  exact y_return rfl dX10_init_118 ⟨rfl, b1, b2, b3, b4, b5, b6, b7, b8, b9, b10, b11, b12, b13, rfl⟩
set_option maxRecDepth 100000 in
set_option maxHeartbeats 4000000 in
theorem c_TenantCensus {g : yG} {X : yMem} {a : Nat} : yC g miRX9 2 141 1313 [vr a] (X ++ [(a, oo 6 dRX9)]) (fun o M' => o = .inl none ∧ ∃ h1 : Nat, ∃ b_h1 : Nat → Nat, ∃ h2 : Nat, ∃ b_h2 : Nat → Nat, ∃ h3 : Nat, ∃ b_h3 : Nat → Nat, ∃ h4 : Nat, ∃ r_h4 : Nat, ∃ hs_h4 : List (Nat × (Nat → Nat)), ∃ hl_h4 : hs_h4.length = 8, ∃ h5 : Nat, ∃ b1_h5 : Nat, ∃ r1_h5 : Nat → Nat, ∃ b2_h5 : Nat, ∃ r2_h5 : Nat → Nat, ∃ b3_h5 : Nat, ∃ b4_h5 : Nat, ∃ b5_h5 : Nat, ∃ b6_h5 : Nat, ∃ h6 : Nat, ∃ b1_h6 : Nat, ∃ b2_h6 : Nat, ∃ b3_h6 : Nat, ∃ h7 : Nat, ∃ b1_h7 : Nat, ∃ h8 : Nat, ∃ b1_h8 : Nat, ∃ h9 : Nat, ∃ b1_h9 : Nat, M' = X ++ (a, oo 6 [vr h1, vr h2, vr h3, vr h4, vr h5, vr h6, vr h7, vr h8, vr h9, vi 0, vi (-1), vi (-1)]) :: ((((((((([] ++ (hsB h1 b_h1)) ++ (hsB h2 b_h2)) ++ (hsB h3 b_h3)) ++ ((h4, oo 0 [vr r_h4, vi 0, vi 0]) :: (r_h4, oq 4 (hs_h4.map (fun q => some q.1))) :: hs_h4.flatMap (fun q => hsB q.1 q.2))) ++ ((h5, oo 3 [vr b1_h5, vr b2_h5, vr b3_h5, vr b4_h5, vr b5_h5, vr b6_h5, vi 0]) :: (((b1_h5, oq 5 ((List.range 6).map fun i => some (r1_h5 i))) :: (List.range 6).map (fun i => (r1_h5 i, z0 6))) ++ (((b2_h5, oq 5 ((List.range 6).map fun i => some (r2_h5 i))) :: (List.range 6).map (fun i => (r2_h5 i, z0 6))) ++ [(b3_h5, z0 6), (b4_h5, z0 6), (b5_h5, z0 6), (b6_h5, z0 6)])))) ++ ((h6, oo 4 [vr b1_h6, vr b2_h6, vr b3_h6]) :: [(b1_h6, z0 6), (b2_h6, z0 64), (b3_h6, z0 64)])) ++ ((h7, oo 2 [vi 0, vr (g.2.2.2.1 6), vr b1_h7, vi 0, vi 0]) :: [(b1_h7, z0 4)])) ++ ((h8, oo 5 [vr b1_h8, vi 0]) :: [(b1_h8, z0c 128)])) ++ ((h9, oo 5 [vr b1_h9, vi 0]) :: [(b1_h9, z0c 128)]))) := by
  refine y_of (by decide +kernel) rfl (y_one rfl) (Nat.le_of_ble_eq_true rfl) ?_
  refine y_aload_n (i := 0) dX9_init_0 rfl rfl ?_
  refine y_objInit (yb 125 (by decide +kernel) rfl) (yb 126 (by decide +kernel) rfl) (yb 127 (by decide +kernel) rfl) (Nat.zero_le _) dX9_init_1 ?_
  refine y_aload_n (i := 0) dX9_init_4 rfl rfl ?_
  refine y_new (ci := 1) (fs := dRX2) rfl dRX2_d dRX2_ok (yb 128 (by decide +kernel) rfl) (yb 129 (by decide +kernel) rfl) (yb 93 (by decide +kernel) rfl) dX9_init_5 (fun h1 => ?_)
  refine y_dup dX9_init_8 rfl ?_
  refine y_callI (as := []) (S := [vr h1, vr a]) (c_House (a := h1)) kiRX2 kjRX2 rfl (by decide) rfl (Or.inr ⟨_, (by decide +kernel : (RX9, 11, miRX2.1, "TenantCensus") ∈ y_nwM)⟩) rfl (Nat.le_of_ble_eq_true rfl) dX9_init_9 (y_unc0 rfl) (fun E M1 h => nomatch h.1) (fun r0 M1 h => ?_)
  obtain ⟨hz9, b_h1, rfl⟩ := h
  cases hz9
  refine y_memEq y_appX ?_
  refine y_putX (ty := (.object "TenantCensus$House")) (fs' := [vr h1, vv .null, vv .null, vv .null, vv .null, vv .null, vv .null, vv .null, vv .null, vi 0, vi 0, vi 0]) 0 rfl (by decide) (yb 316 (by decide +kernel) rfl) rfl rfl (by decide +kernel) rfl rfl (Nat.le_of_ble_eq_true rfl) rfl dX9_init_12 ?_
  refine y_aload_n (i := 0) dX9_init_15 rfl rfl ?_
  refine y_new (ci := 1) (fs := dRX2) rfl dRX2_d dRX2_ok (yb 128 (by decide +kernel) rfl) (yb 129 (by decide +kernel) rfl) (yb 93 (by decide +kernel) rfl) dX9_init_16 (fun h2 => ?_)
  refine y_dup dX9_init_19 rfl ?_
  refine y_callI (as := []) (S := [vr h2, vr a]) (c_House (a := h2)) kiRX2 kjRX2 rfl (by decide) rfl (Or.inr ⟨_, (by decide +kernel : (RX9, 11, miRX2.1, "TenantCensus") ∈ y_nwM)⟩) rfl (Nat.le_of_ble_eq_true rfl) dX9_init_20 (y_unc0 rfl) (fun E M1 h => nomatch h.1) (fun r0 M1 h => ?_)
  obtain ⟨hz9, b_h2, rfl⟩ := h
  cases hz9
  refine y_memEq y_appX ?_
  refine y_putX (ty := (.object "TenantCensus$House")) (fs' := [vr h1, vr h2, vv .null, vv .null, vv .null, vv .null, vv .null, vv .null, vv .null, vi 0, vi 0, vi 0]) 1 rfl (by decide) (yb 317 (by decide +kernel) rfl) rfl rfl (by decide +kernel) rfl rfl (Nat.le_of_ble_eq_true rfl) rfl dX9_init_23 ?_
  refine y_aload_n (i := 0) dX9_init_26 rfl rfl ?_
  refine y_new (ci := 1) (fs := dRX2) rfl dRX2_d dRX2_ok (yb 128 (by decide +kernel) rfl) (yb 129 (by decide +kernel) rfl) (yb 93 (by decide +kernel) rfl) dX9_init_27 (fun h3 => ?_)
  refine y_dup dX9_init_30 rfl ?_
  refine y_callI (as := []) (S := [vr h3, vr a]) (c_House (a := h3)) kiRX2 kjRX2 rfl (by decide) rfl (Or.inr ⟨_, (by decide +kernel : (RX9, 11, miRX2.1, "TenantCensus") ∈ y_nwM)⟩) rfl (Nat.le_of_ble_eq_true rfl) dX9_init_31 (y_unc0 rfl) (fun E M1 h => nomatch h.1) (fun r0 M1 h => ?_)
  obtain ⟨hz9, b_h3, rfl⟩ := h
  cases hz9
  refine y_memEq y_appX ?_
  refine y_putX (ty := (.object "TenantCensus$House")) (fs' := [vr h1, vr h2, vr h3, vv .null, vv .null, vv .null, vv .null, vv .null, vv .null, vi 0, vi 0, vi 0]) 2 rfl (by decide) (yb 318 (by decide +kernel) rfl) rfl rfl (by decide +kernel) rfl rfl (Nat.le_of_ble_eq_true rfl) rfl dX9_init_34 ?_
  refine y_aload_n (i := 0) dX9_init_37 rfl rfl ?_
  refine y_new (ci := 0) (fs := dRX1) rfl dRX1_d dRX1_ok (yb 206 (by decide +kernel) rfl) (yb 207 (by decide +kernel) rfl) (yb 94 (by decide +kernel) rfl) dX9_init_38 (fun h4 => ?_)
  refine y_dup dX9_init_41 rfl ?_
  refine y_callI (as := []) (S := [vr h4, vr a]) (c_History (a := h4)) kiRX1 kjRX1 rfl (by decide) rfl (Or.inl (yb 208 (by decide +kernel) rfl)) rfl (Nat.le_of_ble_eq_true rfl) dX9_init_42 (y_unc0 rfl) (fun E M1 h => nomatch h.1) (fun r0 M1 h => ?_)
  obtain ⟨hz9, r_h4, hs_h4, hl_h4, rfl⟩ := h
  cases hz9
  refine y_memEq y_appX ?_
  refine y_putX (ty := (.object "TenantCensus$History")) (fs' := [vr h1, vr h2, vr h3, vr h4, vv .null, vv .null, vv .null, vv .null, vv .null, vi 0, vi 0, vi 0]) 3 rfl (by decide) (yb 319 (by decide +kernel) rfl) rfl rfl (by decide +kernel) rfl rfl (Nat.le_of_ble_eq_true rfl) rfl dX9_init_45 ?_
  refine y_aload_n (i := 0) dX9_init_48 rfl rfl ?_
  refine y_new (ci := 3) (fs := dRX5) rfl dRX5_d dRX5_ok (yb 226 (by decide +kernel) rfl) (yb 227 (by decide +kernel) rfl) (yb 95 (by decide +kernel) rfl) dX9_init_49 (fun h5 => ?_)
  refine y_dup dX9_init_52 rfl ?_
  refine y_callI (as := []) (S := [vr h5, vr a]) (c_Planner (a := h5)) kiRX5 kjRX5 rfl (by decide) rfl (Or.inr ⟨_, (by decide +kernel : (RX9, 31, miRX5.1, "TenantCensus") ∈ y_nwM)⟩) rfl (Nat.le_of_ble_eq_true rfl) dX9_init_53 (y_unc0 rfl) (fun E M1 h => nomatch h.1) (fun r0 M1 h => ?_)
  obtain ⟨hz9, b1_h5, r1_h5, b2_h5, r2_h5, b3_h5, b4_h5, b5_h5, b6_h5, rfl⟩ := h
  cases hz9
  refine y_memEq y_appX ?_
  refine y_putX (ty := (.object "TenantCensus$Planner")) (fs' := [vr h1, vr h2, vr h3, vr h4, vr h5, vv .null, vv .null, vv .null, vv .null, vi 0, vi 0, vi 0]) 4 rfl (by decide) (yb 320 (by decide +kernel) rfl) rfl rfl (by decide +kernel) rfl rfl (Nat.le_of_ble_eq_true rfl) rfl dX9_init_56 ?_
  refine y_aload_n (i := 0) dX9_init_59 rfl rfl ?_
  refine y_new (ci := 4) (fs := dRX7) rfl dRX7_d dRX7_ok (yb 256 (by decide +kernel) rfl) (yb 257 (by decide +kernel) rfl) (yb 96 (by decide +kernel) rfl) dX9_init_60 (fun h6 => ?_)
  refine y_dup dX9_init_63 rfl ?_
  refine y_callI (as := []) (S := [vr h6, vr a]) (c_Spreader (a := h6)) kiRX7 kjRX7 rfl (by decide) rfl (Or.inr ⟨_, (by decide +kernel : (RX9, 38, miRX7.1, "TenantCensus") ∈ y_nwM)⟩) rfl (Nat.le_of_ble_eq_true rfl) dX9_init_64 (y_unc0 rfl) (fun E M1 h => nomatch h.1) (fun r0 M1 h => ?_)
  obtain ⟨hz9, b1_h6, b2_h6, b3_h6, rfl⟩ := h
  cases hz9
  refine y_memEq y_appX ?_
  refine y_putX (ty := (.object "TenantCensus$Spreader")) (fs' := [vr h1, vr h2, vr h3, vr h4, vr h5, vr h6, vv .null, vv .null, vv .null, vi 0, vi 0, vi 0]) 5 rfl (by decide) (yb 321 (by decide +kernel) rfl) rfl rfl (by decide +kernel) rfl rfl (Nat.le_of_ble_eq_true rfl) rfl dX9_init_67 ?_
  refine y_aload_n (i := 0) dX9_init_70 rfl rfl ?_
  refine y_new (ci := 2) (fs := dRX4) rfl dRX4_d dRX4_ok (yb 272 (by decide +kernel) rfl) (yb 273 (by decide +kernel) rfl) (yb 97 (by decide +kernel) rfl) dX9_init_71 (fun h7 => ?_)
  refine y_dup dX9_init_74 rfl ?_
  refine y_callI (as := []) (S := [vr h7, vr a]) (c_Parser (a := h7)) kiRX4 kjRX4 rfl (by decide) rfl (Or.inr ⟨_, (by decide +kernel : (RX9, 45, miRX4.1, "TenantCensus") ∈ y_nwM)⟩) rfl (Nat.le_of_ble_eq_true rfl) dX9_init_75 (y_unc0 rfl) (fun E M1 h => nomatch h.1) (fun r0 M1 h => ?_)
  obtain ⟨hz9, b1_h7, rfl⟩ := h
  cases hz9
  refine y_memEq y_appX ?_
  refine y_putX (ty := (.object "TenantCensus$Parser")) (fs' := [vr h1, vr h2, vr h3, vr h4, vr h5, vr h6, vr h7, vv .null, vv .null, vi 0, vi 0, vi 0]) 6 rfl (by decide) (yb 322 (by decide +kernel) rfl) rfl rfl (by decide +kernel) rfl rfl (Nat.le_of_ble_eq_true rfl) rfl dX9_init_78 ?_
  refine y_aload_n (i := 0) dX9_init_81 rfl rfl ?_
  refine y_new (ci := 5) (fs := dRX8) rfl dRX8_d dRX8_ok (yb 299 (by decide +kernel) rfl) (yb 300 (by decide +kernel) rfl) (yb 100 (by decide +kernel) rfl) dX9_init_82 (fun h8 => ?_)
  refine y_dup dX9_init_85 rfl ?_
  refine y_callI (as := []) (S := [vr h8, vr a]) (c_Text (a := h8)) kiRX8 kjRX8 rfl (by decide) rfl (Or.inr ⟨_, (by decide +kernel : (RX9, 52, miRX8.1, "TenantCensus") ∈ y_nwM)⟩) rfl (Nat.le_of_ble_eq_true rfl) dX9_init_86 (y_unc0 rfl) (fun E M1 h => nomatch h.1) (fun r0 M1 h => ?_)
  obtain ⟨hz9, b1_h8, rfl⟩ := h
  cases hz9
  refine y_memEq y_appX ?_
  refine y_putX (ty := (.object "TenantCensus$Text")) (fs' := [vr h1, vr h2, vr h3, vr h4, vr h5, vr h6, vr h7, vr h8, vv .null, vi 0, vi 0, vi 0]) 7 rfl (by decide) (yb 323 (by decide +kernel) rfl) rfl rfl (by decide +kernel) rfl rfl (Nat.le_of_ble_eq_true rfl) rfl dX9_init_89 ?_
  refine y_aload_n (i := 0) dX9_init_92 rfl rfl ?_
  refine y_new (ci := 5) (fs := dRX8) rfl dRX8_d dRX8_ok (yb 299 (by decide +kernel) rfl) (yb 300 (by decide +kernel) rfl) (yb 100 (by decide +kernel) rfl) dX9_init_93 (fun h9 => ?_)
  refine y_dup dX9_init_96 rfl ?_
  refine y_callI (as := []) (S := [vr h9, vr a]) (c_Text (a := h9)) kiRX8 kjRX8 rfl (by decide) rfl (Or.inr ⟨_, (by decide +kernel : (RX9, 52, miRX8.1, "TenantCensus") ∈ y_nwM)⟩) rfl (Nat.le_of_ble_eq_true rfl) dX9_init_97 (y_unc0 rfl) (fun E M1 h => nomatch h.1) (fun r0 M1 h => ?_)
  obtain ⟨hz9, b1_h9, rfl⟩ := h
  cases hz9
  refine y_memEq y_appX ?_
  refine y_putX (ty := (.object "TenantCensus$Text")) (fs' := [vr h1, vr h2, vr h3, vr h4, vr h5, vr h6, vr h7, vr h8, vr h9, vi 0, vi 0, vi 0]) 8 rfl (by decide) (yb 324 (by decide +kernel) rfl) rfl rfl (by decide +kernel) rfl rfl (Nat.le_of_ble_eq_true rfl) rfl dX9_init_100 ?_
  refine y_aload_n (i := 0) dX9_init_103 rfl rfl ?_
  refine y_iconst dX9_init_104 (by decide) ?_
  refine y_putX (ty := .boolean) (fs' := [vr h1, vr h2, vr h3, vr h4, vr h5, vr h6, vr h7, vr h8, vr h9, vi 0, vi 0, vi 0]) 9 rfl (by decide) (yb 325 (by decide +kernel) rfl) rfl rfl (by decide +kernel) rfl rfl (Nat.le_of_ble_eq_true rfl) rfl dX9_init_105 ?_
  refine y_aload_n (i := 0) dX9_init_108 rfl rfl ?_
  refine y_iconst dX9_init_109 (by decide) ?_
  refine y_putX (ty := .int) (fs' := [vr h1, vr h2, vr h3, vr h4, vr h5, vr h6, vr h7, vr h8, vr h9, vi 0, vi (-1), vi 0]) 10 rfl (by decide) (yb 326 (by decide +kernel) rfl) rfl rfl (by decide +kernel) rfl rfl (Nat.le_of_ble_eq_true rfl) rfl dX9_init_110 ?_
  refine y_aload_n (i := 0) dX9_init_113 rfl rfl ?_
  refine y_iconst dX9_init_114 (by decide) ?_
  refine y_putX (ty := .int) (fs' := [vr h1, vr h2, vr h3, vr h4, vr h5, vr h6, vr h7, vr h8, vr h9, vi 0, vi (-1), vi (-1)]) 11 rfl (by decide) (yb 327 (by decide +kernel) rfl) rfl rfl (by decide +kernel) rfl rfl (Nat.le_of_ble_eq_true rfl) rfl dX9_init_115 ?_
  exact y_return rfl dX9_init_118 ⟨rfl, h1, b_h1, h2, b_h2, h3, b_h3, h4, r_h4, hs_h4, hl_h4, h5, b1_h5, r1_h5, b2_h5, r2_h5, b3_h5, b4_h5, b5_h5, b6_h5, h6, b1_h6, b2_h6, b3_h6, h7, b1_h7, h8, b1_h8, h9, b1_h9, rfl⟩
