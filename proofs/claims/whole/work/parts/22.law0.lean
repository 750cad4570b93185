/-! ===== the law: its helpers, its loop (laid by wip/whole/tools/proofs.py) ===== -/
theorem ar_156 : zAr 156 2 1 := by decide +kernel
theorem ar_157 : zAr 157 3 1 := by decide +kernel
def mL_addFlat : yM0 := (yL_addFlat, cL_addFlat, 5, some .int, [(0, 10, 13, 13), (0, 10, 17, 15)])
def mL_addTenant : yM0 := (yL_addTenant, cL_addTenant, 7, some .int, [(0, 14, 17, 13), (0, 14, 21, 15)])
def mL_removeTenant : yM0 := (yL_removeTenant, cL_removeTenant, 4, some .int, [(0, 9, 12, 25), (0, 9, 15, 15)])
def mL_moveIn : yM0 := (yL_moveIn, cL_moveIn, 5, some .int, [(0, 10, 13, 25), (0, 10, 17, 30), (0, 10, 21, 15), (0, 10, 25, 32)])
def mL_moveOut : yM0 := (yL_moveOut, cL_moveOut, 4, some .int, [(0, 9, 12, 25), (0, 9, 15, 15)])
def mL_setRent : yM0 := (yL_setRent, cL_setRent, 5, some .int, [(0, 10, 13, 30), (0, 10, 17, 13)])
def mL_give : yM0 := (yL_give, cL_give, 5, some .int, [(0, 10, 13, 25), (0, 10, 17, 13)])
def mL_pass : yM0 := (yL_pass, cL_pass, 4, some .int, [(0, 9, 12, 13)])
def mL_floorOf : yM0 := (yL_floorOf, cL_floorOf, 4, some .int, [(0, 9, 12, 30)])
def mL_rentOf : yM0 := (yL_rentOf, cL_rentOf, 4, some .int, [(0, 9, 12, 30)])
def mL_tenantIn : yM0 := (yL_tenantIn, cL_tenantIn, 4, some .int, [(0, 9, 12, 30), (0, 9, 15, 25)])
def mL_weightOf : yM0 := (yL_weightOf, cL_weightOf, 4, some .int, [(0, 9, 12, 25)])
def mL_purseOf : yM0 := (yL_purseOf, cL_purseOf, 4, some .int, [(0, 9, 12, 25)])
def mL_noticesOf : yM0 := (yL_noticesOf, cL_noticesOf, 4, some .int, [(0, 9, 12, 25)])
def mL_flatOf : yM0 := (yL_flatOf, cL_flatOf, 4, some .int, [(0, 9, 12, 25)])
def mL_burden : yM0 := (yL_burden, cL_burden, 5, some .int, [(0, 10, 13, 25), (0, 10, 17, 30)])
def mL_flatByRank : yM0 := (yL_flatByRank, cL_flatByRank, 5, some .int, [(0, 10, 13, 25)])
def mL_tenantByPurse : yM0 := (yL_tenantByPurse, cL_tenantByPurse, 4, some .int, [(0, 9, 12, 25)])
def mL_creak : yM0 := (yL_creak, cL_creak, 4, some .int, [(0, 9, 12, 30)])
def mL_possibleFloors : yM0 := (yL_possibleFloors, cL_possibleFloors, 4, some .int, [(0, 9, 12, 25)])
def mL_plannedFlat : yM0 := (yL_plannedFlat, cL_plannedFlat, 4, some .int, [(0, 9, 12, 25)])
def mL_plannedFlatByPlans : yM0 := (yL_plannedFlatByPlans, cL_plannedFlatByPlans, 4, some .int, [(0, 9, 12, 25)])
def mL_chainLength : yM0 := (yL_chainLength, cL_chainLength, 4, some .int, [(0, 9, 12, 25)])
def mL_monthsUntilEviction : yM0 := (yL_monthsUntilEviction, cL_monthsUntilEviction, 3, some .int, [(0, 8, 11, 25)])
def mL_meanBurden : yM0 := (yL_meanBurden, cL_meanBurden, 3, some .int, [(0, 7, 10, 99)])
def mL_occupancy : yM0 := (yL_occupancy, cL_occupancy, 3, some .int, [(0, 8, 11, 99)])
def mL_writeFloor : yM0 := (yL_writeFloor, cL_writeFloor, 4, some .int, [(0, 9, 12, 30)])
def mL_charAt : yM0 := (yL_charAt, cL_charAt, 4, some .int, [(0, 9, 12, 30)])
def mL_type : yM0 := (yL_type, cL_type, 4, some .int, [(0, 9, 12, 15)])
def mL_run : yM0 := (yL_run, cL_run, 3, some .int, [(0, 8, 11, 13), (0, 8, 14, 32)])
def mL_errorPosition : yM0 := (yL_errorPosition, cL_errorPosition, 3, some .int, [(0, 8, 11, 25)])
def mL_failedCommand : yM0 := (yL_failedCommand, cL_failedCommand, 3, some .int, [(0, 8, 11, 25)])
def mL_undo : yM0 := (yL_undo, cL_undo, 3, some .int, [(0, 8, 11, 15)])
def mL_restore : yM0 := (yL_restore, cL_restore, 3, some .int, [(0, 8, 11, 15)])
def mL_law : yM0 := (⟨RL, "law", "([I)Z"⟩, cL_law, 9, some .boolean, [])
theorem kL_addFlat : y_kSH mL_addFlat 4 := ⟨rfl, (yb 91 (by decide +kernel) rfl), (yb 610 (by decide +kernel) rfl), ⟨by decide, by decide⟩, by decide +kernel, by decide, (yb 609 (by decide +kernel) rfl)⟩
theorem pl_RL : plainName RL = true := by decide +kernel
theorem kX9_addFlat : y_kV mX9_addFlat 2 := ⟨⟨rfl, (yb 92 (by decide +kernel) rfl), (yb 616 (by decide +kernel) rfl), ⟨by decide, by decide⟩, by decide +kernel, by decide⟩, (yb 614 (by decide +kernel) rfl), (yb 615 (by decide +kernel) rfl)⟩
theorem l_RL_7 : Cond.methodLink RL 7 mX9_addFlat.1 ∈ yB := (yb 613 (by decide +kernel) rfl)
theorem hL_addFlat_0 : y_hnd mL_addFlat 5 "java/lang/IllegalArgumentException" 13 := ⟨[], [(0, 10, 17, 15)], (0, 10, 13, 13), rfl, ⟨by decide, by decide⟩, rfl, by decide, (yb 611 (by decide +kernel) rfl), by decide +kernel, fun _ h => nomatch h⟩
theorem hL_addFlat_1 : y_hnd mL_addFlat 5 "java/lang/IllegalStateException" 17 := ⟨[(0, 10, 13, 13)], [], (0, 10, 17, 15), rfl, ⟨by decide, by decide⟩, rfl, by decide, (yb 612 (by decide +kernel) rfl), by decide +kernel, List.forall_mem_cons.mpr ⟨⟨by decide, "java/lang/IllegalArgumentException", (yb 611 (by decide +kernel) rfl), by decide +kernel⟩, fun _ h => nomatch h⟩⟩
theorem kL_addTenant : y_kSH mL_addTenant 6 := ⟨rfl, (yb 91 (by decide +kernel) rfl), (yb 780 (by decide +kernel) rfl), ⟨by decide, by decide⟩, by decide +kernel, by decide, (yb 779 (by decide +kernel) rfl)⟩
theorem kX9_addTenant : y_kV mX9_addTenant 4 := ⟨⟨rfl, (yb 92 (by decide +kernel) rfl), (yb 784 (by decide +kernel) rfl), ⟨by decide, by decide⟩, by decide +kernel, by decide⟩, (yb 782 (by decide +kernel) rfl), (yb 783 (by decide +kernel) rfl)⟩
theorem l_RL_17 : Cond.methodLink RL 17 mX9_addTenant.1 ∈ yB := (yb 781 (by decide +kernel) rfl)
theorem hL_addTenant_0 : y_hnd mL_addTenant 9 "java/lang/IllegalArgumentException" 17 := ⟨[], [(0, 14, 21, 15)], (0, 14, 17, 13), rfl, ⟨by decide, by decide⟩, rfl, by decide, (yb 611 (by decide +kernel) rfl), by decide +kernel, fun _ h => nomatch h⟩
theorem hL_addTenant_1 : y_hnd mL_addTenant 9 "java/lang/IllegalStateException" 21 := ⟨[(0, 14, 17, 13)], [], (0, 14, 21, 15), rfl, ⟨by decide, by decide⟩, rfl, by decide, (yb 612 (by decide +kernel) rfl), by decide +kernel, List.forall_mem_cons.mpr ⟨⟨by decide, "java/lang/IllegalArgumentException", (yb 611 (by decide +kernel) rfl), by decide +kernel⟩, fun _ h => nomatch h⟩⟩
theorem kL_removeTenant : y_kSH mL_removeTenant 3 := ⟨rfl, (yb 91 (by decide +kernel) rfl), (yb 795 (by decide +kernel) rfl), ⟨by decide, by decide⟩, by decide +kernel, by decide, (yb 794 (by decide +kernel) rfl)⟩
theorem kX9_removeTenant : y_kV mX9_removeTenant 1 := ⟨⟨rfl, (yb 92 (by decide +kernel) rfl), (yb 800 (by decide +kernel) rfl), ⟨by decide, by decide⟩, by decide +kernel, by decide⟩, (yb 798 (by decide +kernel) rfl), (yb 799 (by decide +kernel) rfl)⟩
theorem l_RL_21 : Cond.methodLink RL 21 mX9_removeTenant.1 ∈ yB := (yb 797 (by decide +kernel) rfl)
theorem hL_removeTenant_0 : y_hnd mL_removeTenant 4 "java/util/NoSuchElementException" 12 := ⟨[], [(0, 9, 15, 15)], (0, 9, 12, 25), rfl, ⟨by decide, by decide⟩, rfl, by decide, (yb 796 (by decide +kernel) rfl), by decide +kernel, fun _ h => nomatch h⟩
theorem hL_removeTenant_1 : y_hnd mL_removeTenant 4 "java/lang/IllegalStateException" 15 := ⟨[(0, 9, 12, 25)], [], (0, 9, 15, 15), rfl, ⟨by decide, by decide⟩, rfl, by decide, (yb 612 (by decide +kernel) rfl), by decide +kernel, List.forall_mem_cons.mpr ⟨⟨by decide, "java/util/NoSuchElementException", (yb 796 (by decide +kernel) rfl), by decide +kernel⟩, fun _ h => nomatch h⟩⟩
theorem kL_moveIn : y_kSH mL_moveIn 4 := ⟨rfl, (yb 91 (by decide +kernel) rfl), (yb 817 (by decide +kernel) rfl), ⟨by decide, by decide⟩, by decide +kernel, by decide, (yb 816 (by decide +kernel) rfl)⟩
theorem kX9_moveIn : y_kV mX9_moveIn 2 := ⟨⟨rfl, (yb 92 (by decide +kernel) rfl), (yb 843 (by decide +kernel) rfl), ⟨by decide, by decide⟩, by decide +kernel, by decide⟩, (yb 841 (by decide +kernel) rfl), (yb 842 (by decide +kernel) rfl)⟩
theorem l_RL_27 : Cond.methodLink RL 27 mX9_moveIn.1 ∈ yB := (yb 840 (by decide +kernel) rfl)
theorem hL_moveIn_0 : y_hnd mL_moveIn 5 "java/util/NoSuchElementException" 13 := ⟨[], [(0, 10, 17, 30), (0, 10, 21, 15), (0, 10, 25, 32)], (0, 10, 13, 25), rfl, ⟨by decide, by decide⟩, rfl, by decide, (yb 796 (by decide +kernel) rfl), by decide +kernel, fun _ h => nomatch h⟩
theorem hL_moveIn_1 : y_hnd mL_moveIn 5 "java/lang/IndexOutOfBoundsException" 17 := ⟨[(0, 10, 13, 25)], [(0, 10, 21, 15), (0, 10, 25, 32)], (0, 10, 17, 30), rfl, ⟨by decide, by decide⟩, rfl, by decide, (yb 818 (by decide +kernel) rfl), by decide +kernel, List.forall_mem_cons.mpr ⟨⟨by decide, "java/util/NoSuchElementException", (yb 796 (by decide +kernel) rfl), by decide +kernel⟩, fun _ h => nomatch h⟩⟩
theorem hL_moveIn_2 : y_hnd mL_moveIn 5 "java/lang/IllegalStateException" 21 := ⟨[(0, 10, 13, 25), (0, 10, 17, 30)], [(0, 10, 25, 32)], (0, 10, 21, 15), rfl, ⟨by decide, by decide⟩, rfl, by decide, (yb 612 (by decide +kernel) rfl), by decide +kernel, List.forall_mem_cons.mpr ⟨⟨by decide, "java/util/NoSuchElementException", (yb 796 (by decide +kernel) rfl), by decide +kernel⟩, List.forall_mem_cons.mpr ⟨⟨by decide, "java/lang/IndexOutOfBoundsException", (yb 818 (by decide +kernel) rfl), by decide +kernel⟩, fun _ h => nomatch h⟩⟩⟩
theorem hL_moveIn_3 : y_hnd mL_moveIn 5 "java/lang/UnsupportedOperationException" 25 := ⟨[(0, 10, 13, 25), (0, 10, 17, 30), (0, 10, 21, 15)], [], (0, 10, 25, 32), rfl, ⟨by decide, by decide⟩, rfl, by decide, (yb 839 (by decide +kernel) rfl), by decide +kernel, List.forall_mem_cons.mpr ⟨⟨by decide, "java/util/NoSuchElementException", (yb 796 (by decide +kernel) rfl), by decide +kernel⟩, List.forall_mem_cons.mpr ⟨⟨by decide, "java/lang/IndexOutOfBoundsException", (yb 818 (by decide +kernel) rfl), by decide +kernel⟩, List.forall_mem_cons.mpr ⟨⟨by decide, "java/lang/IllegalStateException", (yb 612 (by decide +kernel) rfl), by decide +kernel⟩, fun _ h => nomatch h⟩⟩⟩⟩
theorem kL_moveOut : y_kSH mL_moveOut 3 := ⟨rfl, (yb 91 (by decide +kernel) rfl), (yb 859 (by decide +kernel) rfl), ⟨by decide, by decide⟩, by decide +kernel, by decide, (yb 858 (by decide +kernel) rfl)⟩
theorem kX9_moveOut : y_kV mX9_moveOut 1 := ⟨⟨rfl, (yb 92 (by decide +kernel) rfl), (yb 863 (by decide +kernel) rfl), ⟨by decide, by decide⟩, by decide +kernel, by decide⟩, (yb 861 (by decide +kernel) rfl), (yb 862 (by decide +kernel) rfl)⟩
theorem l_RL_34 : Cond.methodLink RL 34 mX9_moveOut.1 ∈ yB := (yb 860 (by decide +kernel) rfl)
theorem hL_moveOut_0 : y_hnd mL_moveOut 4 "java/util/NoSuchElementException" 12 := ⟨[], [(0, 9, 15, 15)], (0, 9, 12, 25), rfl, ⟨by decide, by decide⟩, rfl, by decide, (yb 796 (by decide +kernel) rfl), by decide +kernel, fun _ h => nomatch h⟩
theorem hL_moveOut_1 : y_hnd mL_moveOut 4 "java/lang/IllegalStateException" 15 := ⟨[(0, 9, 12, 25)], [], (0, 9, 15, 15), rfl, ⟨by decide, by decide⟩, rfl, by decide, (yb 612 (by decide +kernel) rfl), by decide +kernel, List.forall_mem_cons.mpr ⟨⟨by decide, "java/util/NoSuchElementException", (yb 796 (by decide +kernel) rfl), by decide +kernel⟩, fun _ h => nomatch h⟩⟩
theorem kL_setRent : y_kSH mL_setRent 4 := ⟨rfl, (yb 91 (by decide +kernel) rfl), (yb 879 (by decide +kernel) rfl), ⟨by decide, by decide⟩, by decide +kernel, by decide, (yb 878 (by decide +kernel) rfl)⟩
theorem kX9_setRent : y_kV mX9_setRent 2 := ⟨⟨rfl, (yb 92 (by decide +kernel) rfl), (yb 883 (by decide +kernel) rfl), ⟨by decide, by decide⟩, by decide +kernel, by decide⟩, (yb 881 (by decide +kernel) rfl), (yb 882 (by decide +kernel) rfl)⟩
theorem l_RL_37 : Cond.methodLink RL 37 mX9_setRent.1 ∈ yB := (yb 880 (by decide +kernel) rfl)
theorem hL_setRent_0 : y_hnd mL_setRent 5 "java/lang/IndexOutOfBoundsException" 13 := ⟨[], [(0, 10, 17, 13)], (0, 10, 13, 30), rfl, ⟨by decide, by decide⟩, rfl, by decide, (yb 818 (by decide +kernel) rfl), by decide +kernel, fun _ h => nomatch h⟩
theorem hL_setRent_1 : y_hnd mL_setRent 5 "java/lang/IllegalArgumentException" 17 := ⟨[(0, 10, 13, 30)], [], (0, 10, 17, 13), rfl, ⟨by decide, by decide⟩, rfl, by decide, (yb 611 (by decide +kernel) rfl), by decide +kernel, List.forall_mem_cons.mpr ⟨⟨by decide, "java/lang/IndexOutOfBoundsException", (yb 818 (by decide +kernel) rfl), by decide +kernel⟩, fun _ h => nomatch h⟩⟩
theorem kL_give : y_kSH mL_give 4 := ⟨rfl, (yb 91 (by decide +kernel) rfl), (yb 894 (by decide +kernel) rfl), ⟨by decide, by decide⟩, by decide +kernel, by decide, (yb 893 (by decide +kernel) rfl)⟩
theorem kX9_give : y_kV mX9_give 2 := ⟨⟨rfl, (yb 92 (by decide +kernel) rfl), (yb 898 (by decide +kernel) rfl), ⟨by decide, by decide⟩, by decide +kernel, by decide⟩, (yb 896 (by decide +kernel) rfl), (yb 897 (by decide +kernel) rfl)⟩
theorem l_RL_40 : Cond.methodLink RL 40 mX9_give.1 ∈ yB := (yb 895 (by decide +kernel) rfl)
theorem hL_give_0 : y_hnd mL_give 5 "java/util/NoSuchElementException" 13 := ⟨[], [(0, 10, 17, 13)], (0, 10, 13, 25), rfl, ⟨by decide, by decide⟩, rfl, by decide, (yb 796 (by decide +kernel) rfl), by decide +kernel, fun _ h => nomatch h⟩
theorem hL_give_1 : y_hnd mL_give 5 "java/lang/IllegalArgumentException" 17 := ⟨[(0, 10, 13, 25)], [], (0, 10, 17, 13), rfl, ⟨by decide, by decide⟩, rfl, by decide, (yb 611 (by decide +kernel) rfl), by decide +kernel, List.forall_mem_cons.mpr ⟨⟨by decide, "java/util/NoSuchElementException", (yb 796 (by decide +kernel) rfl), by decide +kernel⟩, fun _ h => nomatch h⟩⟩
theorem kL_pass : y_kSH mL_pass 3 := ⟨rfl, (yb 91 (by decide +kernel) rfl), (yb 909 (by decide +kernel) rfl), ⟨by decide, by decide⟩, by decide +kernel, by decide, (yb 908 (by decide +kernel) rfl)⟩
theorem kX9_pass : y_kV mX9_pass 1 := ⟨⟨rfl, (yb 92 (by decide +kernel) rfl), (yb 913 (by decide +kernel) rfl), ⟨by decide, by decide⟩, by decide +kernel, by decide⟩, (yb 911 (by decide +kernel) rfl), (yb 912 (by decide +kernel) rfl)⟩
theorem l_RL_43 : Cond.methodLink RL 43 mX9_pass.1 ∈ yB := (yb 910 (by decide +kernel) rfl)
theorem hL_pass_0 : y_hnd mL_pass 4 "java/lang/IllegalArgumentException" 12 := ⟨[], [], (0, 9, 12, 13), rfl, ⟨by decide, by decide⟩, rfl, by decide, (yb 611 (by decide +kernel) rfl), by decide +kernel, fun _ h => nomatch h⟩
theorem kL_floorOf : y_kSH mL_floorOf 3 := ⟨rfl, (yb 91 (by decide +kernel) rfl), (yb 930 (by decide +kernel) rfl), ⟨by decide, by decide⟩, by decide +kernel, by decide, (yb 929 (by decide +kernel) rfl)⟩
theorem kX9_floorOf : y_kV mX9_floorOf 1 := ⟨⟨rfl, (yb 92 (by decide +kernel) rfl), (yb 934 (by decide +kernel) rfl), ⟨by decide, by decide⟩, by decide +kernel, by decide⟩, (yb 932 (by decide +kernel) rfl), (yb 933 (by decide +kernel) rfl)⟩
theorem l_RL_46 : Cond.methodLink RL 46 mX9_floorOf.1 ∈ yB := (yb 931 (by decide +kernel) rfl)
theorem hL_floorOf_0 : y_hnd mL_floorOf 4 "java/lang/IndexOutOfBoundsException" 12 := ⟨[], [], (0, 9, 12, 30), rfl, ⟨by decide, by decide⟩, rfl, by decide, (yb 818 (by decide +kernel) rfl), by decide +kernel, fun _ h => nomatch h⟩
theorem kL_rentOf : y_kSH mL_rentOf 3 := ⟨rfl, (yb 91 (by decide +kernel) rfl), (yb 942 (by decide +kernel) rfl), ⟨by decide, by decide⟩, by decide +kernel, by decide, (yb 941 (by decide +kernel) rfl)⟩
theorem kX9_rentOf : y_kV mX9_rentOf 1 := ⟨⟨rfl, (yb 92 (by decide +kernel) rfl), (yb 946 (by decide +kernel) rfl), ⟨by decide, by decide⟩, by decide +kernel, by decide⟩, (yb 944 (by decide +kernel) rfl), (yb 945 (by decide +kernel) rfl)⟩
theorem l_RL_49 : Cond.methodLink RL 49 mX9_rentOf.1 ∈ yB := (yb 943 (by decide +kernel) rfl)
theorem hL_rentOf_0 : y_hnd mL_rentOf 4 "java/lang/IndexOutOfBoundsException" 12 := ⟨[], [], (0, 9, 12, 30), rfl, ⟨by decide, by decide⟩, rfl, by decide, (yb 818 (by decide +kernel) rfl), by decide +kernel, fun _ h => nomatch h⟩
theorem kL_tenantIn : y_kSH mL_tenantIn 3 := ⟨rfl, (yb 91 (by decide +kernel) rfl), (yb 949 (by decide +kernel) rfl), ⟨by decide, by decide⟩, by decide +kernel, by decide, (yb 948 (by decide +kernel) rfl)⟩
theorem kX9_tenantIn : y_kV mX9_tenantIn 1 := ⟨⟨rfl, (yb 92 (by decide +kernel) rfl), (yb 953 (by decide +kernel) rfl), ⟨by decide, by decide⟩, by decide +kernel, by decide⟩, (yb 951 (by decide +kernel) rfl), (yb 952 (by decide +kernel) rfl)⟩
theorem l_RL_52 : Cond.methodLink RL 52 mX9_tenantIn.1 ∈ yB := (yb 950 (by decide +kernel) rfl)
theorem hL_tenantIn_0 : y_hnd mL_tenantIn 4 "java/lang/IndexOutOfBoundsException" 12 := ⟨[], [(0, 9, 15, 25)], (0, 9, 12, 30), rfl, ⟨by decide, by decide⟩, rfl, by decide, (yb 818 (by decide +kernel) rfl), by decide +kernel, fun _ h => nomatch h⟩
theorem hL_tenantIn_1 : y_hnd mL_tenantIn 4 "java/util/NoSuchElementException" 15 := ⟨[(0, 9, 12, 30)], [], (0, 9, 15, 25), rfl, ⟨by decide, by decide⟩, rfl, by decide, (yb 796 (by decide +kernel) rfl), by decide +kernel, List.forall_mem_cons.mpr ⟨⟨by decide, "java/lang/IndexOutOfBoundsException", (yb 818 (by decide +kernel) rfl), by decide +kernel⟩, fun _ h => nomatch h⟩⟩
theorem kL_weightOf : y_kSH mL_weightOf 3 := ⟨rfl, (yb 91 (by decide +kernel) rfl), (yb 958 (by decide +kernel) rfl), ⟨by decide, by decide⟩, by decide +kernel, by decide, (yb 957 (by decide +kernel) rfl)⟩
theorem kX9_weightOf : y_kV mX9_weightOf 1 := ⟨⟨rfl, (yb 92 (by decide +kernel) rfl), (yb 962 (by decide +kernel) rfl), ⟨by decide, by decide⟩, by decide +kernel, by decide⟩, (yb 960 (by decide +kernel) rfl), (yb 961 (by decide +kernel) rfl)⟩
theorem l_RL_55 : Cond.methodLink RL 55 mX9_weightOf.1 ∈ yB := (yb 959 (by decide +kernel) rfl)
theorem hL_weightOf_0 : y_hnd mL_weightOf 4 "java/util/NoSuchElementException" 12 := ⟨[], [], (0, 9, 12, 25), rfl, ⟨by decide, by decide⟩, rfl, by decide, (yb 796 (by decide +kernel) rfl), by decide +kernel, fun _ h => nomatch h⟩
theorem kL_purseOf : y_kSH mL_purseOf 3 := ⟨rfl, (yb 91 (by decide +kernel) rfl), (yb 969 (by decide +kernel) rfl), ⟨by decide, by decide⟩, by decide +kernel, by decide, (yb 968 (by decide +kernel) rfl)⟩
theorem kX9_purseOf : y_kV mX9_purseOf 1 := ⟨⟨rfl, (yb 92 (by decide +kernel) rfl), (yb 973 (by decide +kernel) rfl), ⟨by decide, by decide⟩, by decide +kernel, by decide⟩, (yb 971 (by decide +kernel) rfl), (yb 972 (by decide +kernel) rfl)⟩
theorem l_RL_58 : Cond.methodLink RL 58 mX9_purseOf.1 ∈ yB := (yb 970 (by decide +kernel) rfl)
theorem hL_purseOf_0 : y_hnd mL_purseOf 4 "java/util/NoSuchElementException" 12 := ⟨[], [], (0, 9, 12, 25), rfl, ⟨by decide, by decide⟩, rfl, by decide, (yb 796 (by decide +kernel) rfl), by decide +kernel, fun _ h => nomatch h⟩
theorem kL_noticesOf : y_kSH mL_noticesOf 3 := ⟨rfl, (yb 91 (by decide +kernel) rfl), (yb 976 (by decide +kernel) rfl), ⟨by decide, by decide⟩, by decide +kernel, by decide, (yb 975 (by decide +kernel) rfl)⟩
theorem kX9_noticesOf : y_kV mX9_noticesOf 1 := ⟨⟨rfl, (yb 92 (by decide +kernel) rfl), (yb 980 (by decide +kernel) rfl), ⟨by decide, by decide⟩, by decide +kernel, by decide⟩, (yb 978 (by decide +kernel) rfl), (yb 979 (by decide +kernel) rfl)⟩
theorem l_RL_61 : Cond.methodLink RL 61 mX9_noticesOf.1 ∈ yB := (yb 977 (by decide +kernel) rfl)
theorem hL_noticesOf_0 : y_hnd mL_noticesOf 4 "java/util/NoSuchElementException" 12 := ⟨[], [], (0, 9, 12, 25), rfl, ⟨by decide, by decide⟩, rfl, by decide, (yb 796 (by decide +kernel) rfl), by decide +kernel, fun _ h => nomatch h⟩
theorem kL_flatOf : y_kSH mL_flatOf 3 := ⟨rfl, (yb 91 (by decide +kernel) rfl), (yb 983 (by decide +kernel) rfl), ⟨by decide, by decide⟩, by decide +kernel, by decide, (yb 982 (by decide +kernel) rfl)⟩
theorem kX9_flatOf : y_kV mX9_flatOf 1 := ⟨⟨rfl, (yb 92 (by decide +kernel) rfl), (yb 987 (by decide +kernel) rfl), ⟨by decide, by decide⟩, by decide +kernel, by decide⟩, (yb 985 (by decide +kernel) rfl), (yb 986 (by decide +kernel) rfl)⟩
theorem l_RL_64 : Cond.methodLink RL 64 mX9_flatOf.1 ∈ yB := (yb 984 (by decide +kernel) rfl)
theorem hL_flatOf_0 : y_hnd mL_flatOf 4 "java/util/NoSuchElementException" 12 := ⟨[], [], (0, 9, 12, 25), rfl, ⟨by decide, by decide⟩, rfl, by decide, (yb 796 (by decide +kernel) rfl), by decide +kernel, fun _ h => nomatch h⟩
theorem kL_burden : y_kSH mL_burden 4 := ⟨rfl, (yb 91 (by decide +kernel) rfl), (yb 995 (by decide +kernel) rfl), ⟨by decide, by decide⟩, by decide +kernel, by decide, (yb 994 (by decide +kernel) rfl)⟩
theorem kX9_burden : y_kV mX9_burden 2 := ⟨⟨rfl, (yb 92 (by decide +kernel) rfl), (yb 999 (by decide +kernel) rfl), ⟨by decide, by decide⟩, by decide +kernel, by decide⟩, (yb 997 (by decide +kernel) rfl), (yb 998 (by decide +kernel) rfl)⟩
theorem l_RL_67 : Cond.methodLink RL 67 mX9_burden.1 ∈ yB := (yb 996 (by decide +kernel) rfl)
theorem hL_burden_0 : y_hnd mL_burden 5 "java/util/NoSuchElementException" 13 := ⟨[], [(0, 10, 17, 30)], (0, 10, 13, 25), rfl, ⟨by decide, by decide⟩, rfl, by decide, (yb 796 (by decide +kernel) rfl), by decide +kernel, fun _ h => nomatch h⟩
theorem hL_burden_1 : y_hnd mL_burden 5 "java/lang/IndexOutOfBoundsException" 17 := ⟨[(0, 10, 13, 25)], [], (0, 10, 17, 30), rfl, ⟨by decide, by decide⟩, rfl, by decide, (yb 818 (by decide +kernel) rfl), by decide +kernel, List.forall_mem_cons.mpr ⟨⟨by decide, "java/util/NoSuchElementException", (yb 796 (by decide +kernel) rfl), by decide +kernel⟩, fun _ h => nomatch h⟩⟩
theorem kL_flatByRank : y_kSH mL_flatByRank 4 := ⟨rfl, (yb 91 (by decide +kernel) rfl), (yb 1003 (by decide +kernel) rfl), ⟨by decide, by decide⟩, by decide +kernel, by decide, (yb 1002 (by decide +kernel) rfl)⟩
theorem kX9_flatByRank : y_kV mX9_flatByRank 2 := ⟨⟨rfl, (yb 92 (by decide +kernel) rfl), (yb 1007 (by decide +kernel) rfl), ⟨by decide, by decide⟩, by decide +kernel, by decide⟩, (yb 1005 (by decide +kernel) rfl), (yb 1006 (by decide +kernel) rfl)⟩
theorem l_RL_70 : Cond.methodLink RL 70 mX9_flatByRank.1 ∈ yB := (yb 1004 (by decide +kernel) rfl)
theorem hL_flatByRank_0 : y_hnd mL_flatByRank 5 "java/util/NoSuchElementException" 13 := ⟨[], [], (0, 10, 13, 25), rfl, ⟨by decide, by decide⟩, rfl, by decide, (yb 796 (by decide +kernel) rfl), by decide +kernel, fun _ h => nomatch h⟩
theorem kL_tenantByPurse : y_kSH mL_tenantByPurse 3 := ⟨rfl, (yb 91 (by decide +kernel) rfl), (yb 1012 (by decide +kernel) rfl), ⟨by decide, by decide⟩, by decide +kernel, by decide, (yb 1011 (by decide +kernel) rfl)⟩
theorem kX9_tenantByPurse : y_kV mX9_tenantByPurse 1 := ⟨⟨rfl, (yb 92 (by decide +kernel) rfl), (yb 1016 (by decide +kernel) rfl), ⟨by decide, by decide⟩, by decide +kernel, by decide⟩, (yb 1014 (by decide +kernel) rfl), (yb 1015 (by decide +kernel) rfl)⟩
theorem l_RL_73 : Cond.methodLink RL 73 mX9_tenantByPurse.1 ∈ yB := (yb 1013 (by decide +kernel) rfl)
theorem hL_tenantByPurse_0 : y_hnd mL_tenantByPurse 4 "java/util/NoSuchElementException" 12 := ⟨[], [], (0, 9, 12, 25), rfl, ⟨by decide, by decide⟩, rfl, by decide, (yb 796 (by decide +kernel) rfl), by decide +kernel, fun _ h => nomatch h⟩
theorem kL_creak : y_kSH mL_creak 3 := ⟨rfl, (yb 91 (by decide +kernel) rfl), (yb 1023 (by decide +kernel) rfl), ⟨by decide, by decide⟩, by decide +kernel, by decide, (yb 1022 (by decide +kernel) rfl)⟩
theorem kX9_creak : y_kV mX9_creak 1 := ⟨⟨rfl, (yb 92 (by decide +kernel) rfl), (yb 1027 (by decide +kernel) rfl), ⟨by decide, by decide⟩, by decide +kernel, by decide⟩, (yb 1025 (by decide +kernel) rfl), (yb 1026 (by decide +kernel) rfl)⟩
theorem l_RL_76 : Cond.methodLink RL 76 mX9_creak.1 ∈ yB := (yb 1024 (by decide +kernel) rfl)
theorem hL_creak_0 : y_hnd mL_creak 4 "java/lang/IndexOutOfBoundsException" 12 := ⟨[], [], (0, 9, 12, 30), rfl, ⟨by decide, by decide⟩, rfl, by decide, (yb 818 (by decide +kernel) rfl), by decide +kernel, fun _ h => nomatch h⟩
theorem kL_possibleFloors : y_kSH mL_possibleFloors 3 := ⟨rfl, (yb 91 (by decide +kernel) rfl), (yb 1036 (by decide +kernel) rfl), ⟨by decide, by decide⟩, by decide +kernel, by decide, (yb 1035 (by decide +kernel) rfl)⟩
theorem kX9_possibleFloors : y_kV mX9_possibleFloors 1 := ⟨⟨rfl, (yb 92 (by decide +kernel) rfl), (yb 1040 (by decide +kernel) rfl), ⟨by decide, by decide⟩, by decide +kernel, by decide⟩, (yb 1038 (by decide +kernel) rfl), (yb 1039 (by decide +kernel) rfl)⟩
theorem l_RL_79 : Cond.methodLink RL 79 mX9_possibleFloors.1 ∈ yB := (yb 1037 (by decide +kernel) rfl)
theorem hL_possibleFloors_0 : y_hnd mL_possibleFloors 4 "java/util/NoSuchElementException" 12 := ⟨[], [], (0, 9, 12, 25), rfl, ⟨by decide, by decide⟩, rfl, by decide, (yb 796 (by decide +kernel) rfl), by decide +kernel, fun _ h => nomatch h⟩
theorem kL_plannedFlat : y_kSH mL_plannedFlat 3 := ⟨rfl, (yb 91 (by decide +kernel) rfl), (yb 1047 (by decide +kernel) rfl), ⟨by decide, by decide⟩, by decide +kernel, by decide, (yb 1046 (by decide +kernel) rfl)⟩
theorem kX9_plannedFlat : y_kV mX9_plannedFlat 1 := ⟨⟨rfl, (yb 92 (by decide +kernel) rfl), (yb 1051 (by decide +kernel) rfl), ⟨by decide, by decide⟩, by decide +kernel, by decide⟩, (yb 1049 (by decide +kernel) rfl), (yb 1050 (by decide +kernel) rfl)⟩
theorem l_RL_82 : Cond.methodLink RL 82 mX9_plannedFlat.1 ∈ yB := (yb 1048 (by decide +kernel) rfl)
theorem hL_plannedFlat_0 : y_hnd mL_plannedFlat 4 "java/util/NoSuchElementException" 12 := ⟨[], [], (0, 9, 12, 25), rfl, ⟨by decide, by decide⟩, rfl, by decide, (yb 796 (by decide +kernel) rfl), by decide +kernel, fun _ h => nomatch h⟩
theorem kL_plannedFlatByPlans : y_kSH mL_plannedFlatByPlans 3 := ⟨rfl, (yb 91 (by decide +kernel) rfl), (yb 1058 (by decide +kernel) rfl), ⟨by decide, by decide⟩, by decide +kernel, by decide, (yb 1057 (by decide +kernel) rfl)⟩
theorem kX9_plannedFlatByPlans : y_kV mX9_plannedFlatByPlans 1 := ⟨⟨rfl, (yb 92 (by decide +kernel) rfl), (yb 1062 (by decide +kernel) rfl), ⟨by decide, by decide⟩, by decide +kernel, by decide⟩, (yb 1060 (by decide +kernel) rfl), (yb 1061 (by decide +kernel) rfl)⟩
theorem l_RL_85 : Cond.methodLink RL 85 mX9_plannedFlatByPlans.1 ∈ yB := (yb 1059 (by decide +kernel) rfl)
theorem hL_plannedFlatByPlans_0 : y_hnd mL_plannedFlatByPlans 4 "java/util/NoSuchElementException" 12 := ⟨[], [], (0, 9, 12, 25), rfl, ⟨by decide, by decide⟩, rfl, by decide, (yb 796 (by decide +kernel) rfl), by decide +kernel, fun _ h => nomatch h⟩
theorem kL_chainLength : y_kSH mL_chainLength 3 := ⟨rfl, (yb 91 (by decide +kernel) rfl), (yb 1069 (by decide +kernel) rfl), ⟨by decide, by decide⟩, by decide +kernel, by decide, (yb 1068 (by decide +kernel) rfl)⟩
theorem kX9_chainLength : y_kV mX9_chainLength 1 := ⟨⟨rfl, (yb 92 (by decide +kernel) rfl), (yb 1073 (by decide +kernel) rfl), ⟨by decide, by decide⟩, by decide +kernel, by decide⟩, (yb 1071 (by decide +kernel) rfl), (yb 1072 (by decide +kernel) rfl)⟩
theorem l_RL_88 : Cond.methodLink RL 88 mX9_chainLength.1 ∈ yB := (yb 1070 (by decide +kernel) rfl)
theorem hL_chainLength_0 : y_hnd mL_chainLength 4 "java/util/NoSuchElementException" 12 := ⟨[], [], (0, 9, 12, 25), rfl, ⟨by decide, by decide⟩, rfl, by decide, (yb 796 (by decide +kernel) rfl), by decide +kernel, fun _ h => nomatch h⟩
theorem kL_monthsUntilEviction : y_kSH mL_monthsUntilEviction 2 := ⟨rfl, (yb 91 (by decide +kernel) rfl), (yb 1076 (by decide +kernel) rfl), ⟨by decide, by decide⟩, by decide +kernel, by decide, (yb 1075 (by decide +kernel) rfl)⟩
theorem kX9_monthsUntilEviction : y_kV mX9_monthsUntilEviction 0 := ⟨⟨rfl, (yb 92 (by decide +kernel) rfl), (yb 1080 (by decide +kernel) rfl), ⟨by decide, by decide⟩, by decide +kernel, by decide⟩, (yb 1078 (by decide +kernel) rfl), (yb 1079 (by decide +kernel) rfl)⟩
theorem l_RL_91 : Cond.methodLink RL 91 mX9_monthsUntilEviction.1 ∈ yB := (yb 1077 (by decide +kernel) rfl)
theorem hL_monthsUntilEviction_0 : y_hnd mL_monthsUntilEviction 3 "java/util/NoSuchElementException" 11 := ⟨[], [], (0, 8, 11, 25), rfl, ⟨by decide, by decide⟩, rfl, by decide, (yb 796 (by decide +kernel) rfl), by decide +kernel, fun _ h => nomatch h⟩
theorem kL_meanBurden : y_kSH mL_meanBurden 2 := ⟨rfl, (yb 91 (by decide +kernel) rfl), (yb 1084 (by decide +kernel) rfl), ⟨by decide, by decide⟩, by decide +kernel, by decide, (yb 1083 (by decide +kernel) rfl)⟩
theorem kX9_meanBurden : y_kV mX9_meanBurden 0 := ⟨⟨rfl, (yb 92 (by decide +kernel) rfl), (yb 1102 (by decide +kernel) rfl), ⟨by decide, by decide⟩, by decide +kernel, by decide⟩, (yb 1100 (by decide +kernel) rfl), (yb 1101 (by decide +kernel) rfl)⟩
theorem l_RL_95 : Cond.methodLink RL 95 mX9_meanBurden.1 ∈ yB := (yb 1099 (by decide +kernel) rfl)
theorem hL_meanBurden_0 : y_hnd mL_meanBurden 3 "java/lang/ArithmeticException" 10 := ⟨[], [], (0, 7, 10, 99), rfl, ⟨by decide, by decide⟩, rfl, by decide, (yb 1085 (by decide +kernel) rfl), by decide +kernel, fun _ h => nomatch h⟩
theorem kL_occupancy : y_kSH mL_occupancy 2 := ⟨rfl, (yb 91 (by decide +kernel) rfl), (yb 1112 (by decide +kernel) rfl), ⟨by decide, by decide⟩, by decide +kernel, by decide, (yb 1111 (by decide +kernel) rfl)⟩
theorem kX9_occupancy : y_kV mX9_occupancy 0 := ⟨⟨rfl, (yb 92 (by decide +kernel) rfl), (yb 1116 (by decide +kernel) rfl), ⟨by decide, by decide⟩, by decide +kernel, by decide⟩, (yb 1114 (by decide +kernel) rfl), (yb 1115 (by decide +kernel) rfl)⟩
theorem l_RL_101 : Cond.methodLink RL 101 mX9_occupancy.1 ∈ yB := (yb 1113 (by decide +kernel) rfl)
theorem hL_occupancy_0 : y_hnd mL_occupancy 3 "java/lang/ArithmeticException" 11 := ⟨[], [], (0, 8, 11, 99), rfl, ⟨by decide, by decide⟩, rfl, by decide, (yb 1085 (by decide +kernel) rfl), by decide +kernel, fun _ h => nomatch h⟩
theorem kL_writeFloor : y_kSH mL_writeFloor 3 := ⟨rfl, (yb 91 (by decide +kernel) rfl), (yb 1120 (by decide +kernel) rfl), ⟨by decide, by decide⟩, by decide +kernel, by decide, (yb 1119 (by decide +kernel) rfl)⟩
theorem kX9_writeFloor : y_kV mX9_writeFloor 1 := ⟨⟨rfl, (yb 92 (by decide +kernel) rfl), (yb 1124 (by decide +kernel) rfl), ⟨by decide, by decide⟩, by decide +kernel, by decide⟩, (yb 1122 (by decide +kernel) rfl), (yb 1123 (by decide +kernel) rfl)⟩
theorem l_RL_105 : Cond.methodLink RL 105 mX9_writeFloor.1 ∈ yB := (yb 1121 (by decide +kernel) rfl)
theorem hL_writeFloor_0 : y_hnd mL_writeFloor 4 "java/lang/IndexOutOfBoundsException" 12 := ⟨[], [], (0, 9, 12, 30), rfl, ⟨by decide, by decide⟩, rfl, by decide, (yb 818 (by decide +kernel) rfl), by decide +kernel, fun _ h => nomatch h⟩
theorem kL_charAt : y_kSH mL_charAt 3 := ⟨rfl, (yb 91 (by decide +kernel) rfl), (yb 1131 (by decide +kernel) rfl), ⟨by decide, by decide⟩, by decide +kernel, by decide, (yb 1130 (by decide +kernel) rfl)⟩
theorem kX9_charAt : y_kV mX9_charAt 1 := ⟨⟨rfl, (yb 92 (by decide +kernel) rfl), (yb 1135 (by decide +kernel) rfl), ⟨by decide, by decide⟩, by decide +kernel, by decide⟩, (yb 1133 (by decide +kernel) rfl), (yb 1134 (by decide +kernel) rfl)⟩
theorem l_RL_108 : Cond.methodLink RL 108 mX9_charAt.1 ∈ yB := (yb 1132 (by decide +kernel) rfl)
theorem hL_charAt_0 : y_hnd mL_charAt 4 "java/lang/IndexOutOfBoundsException" 12 := ⟨[], [], (0, 9, 12, 30), rfl, ⟨by decide, by decide⟩, rfl, by decide, (yb 818 (by decide +kernel) rfl), by decide +kernel, fun _ h => nomatch h⟩
theorem kL_type : y_kSH mL_type 3 := ⟨rfl, (yb 91 (by decide +kernel) rfl), (yb 1139 (by decide +kernel) rfl), ⟨by decide, by decide⟩, by decide +kernel, by decide, (yb 1138 (by decide +kernel) rfl)⟩
theorem kX9_type : y_kV mX9_type 1 := ⟨⟨rfl, (yb 92 (by decide +kernel) rfl), (yb 1143 (by decide +kernel) rfl), ⟨by decide, by decide⟩, by decide +kernel, by decide⟩, (yb 1141 (by decide +kernel) rfl), (yb 1142 (by decide +kernel) rfl)⟩
theorem l_RL_112 : Cond.methodLink RL 112 mX9_type.1 ∈ yB := (yb 1140 (by decide +kernel) rfl)
theorem hL_type_0 : y_hnd mL_type 4 "java/lang/IllegalStateException" 12 := ⟨[], [], (0, 9, 12, 15), rfl, ⟨by decide, by decide⟩, rfl, by decide, (yb 612 (by decide +kernel) rfl), by decide +kernel, fun _ h => nomatch h⟩
theorem kL_run : y_kSH mL_run 2 := ⟨rfl, (yb 91 (by decide +kernel) rfl), (yb 1147 (by decide +kernel) rfl), ⟨by decide, by decide⟩, by decide +kernel, by decide, (yb 1146 (by decide +kernel) rfl)⟩
theorem kX9_run : y_kV mX9_run 0 := ⟨⟨rfl, (yb 92 (by decide +kernel) rfl), (yb 1151 (by decide +kernel) rfl), ⟨by decide, by decide⟩, by decide +kernel, by decide⟩, (yb 1149 (by decide +kernel) rfl), (yb 1150 (by decide +kernel) rfl)⟩
theorem l_RL_116 : Cond.methodLink RL 116 mX9_run.1 ∈ yB := (yb 1148 (by decide +kernel) rfl)
theorem hL_run_0 : y_hnd mL_run 3 "java/lang/IllegalArgumentException" 11 := ⟨[], [(0, 8, 14, 32)], (0, 8, 11, 13), rfl, ⟨by decide, by decide⟩, rfl, by decide, (yb 611 (by decide +kernel) rfl), by decide +kernel, fun _ h => nomatch h⟩
theorem hL_run_1 : y_hnd mL_run 3 "java/lang/UnsupportedOperationException" 14 := ⟨[(0, 8, 11, 13)], [], (0, 8, 14, 32), rfl, ⟨by decide, by decide⟩, rfl, by decide, (yb 839 (by decide +kernel) rfl), by decide +kernel, List.forall_mem_cons.mpr ⟨⟨by decide, "java/lang/IllegalArgumentException", (yb 611 (by decide +kernel) rfl), by decide +kernel⟩, fun _ h => nomatch h⟩⟩
theorem kL_errorPosition : y_kSH mL_errorPosition 2 := ⟨rfl, (yb 91 (by decide +kernel) rfl), (yb 1276 (by decide +kernel) rfl), ⟨by decide, by decide⟩, by decide +kernel, by decide, (yb 1275 (by decide +kernel) rfl)⟩
theorem kX9_errorPosition : y_kV mX9_errorPosition 0 := ⟨⟨rfl, (yb 92 (by decide +kernel) rfl), (yb 1280 (by decide +kernel) rfl), ⟨by decide, by decide⟩, by decide +kernel, by decide⟩, (yb 1278 (by decide +kernel) rfl), (yb 1279 (by decide +kernel) rfl)⟩
theorem l_RL_119 : Cond.methodLink RL 119 mX9_errorPosition.1 ∈ yB := (yb 1277 (by decide +kernel) rfl)
theorem hL_errorPosition_0 : y_hnd mL_errorPosition 3 "java/util/NoSuchElementException" 11 := ⟨[], [], (0, 8, 11, 25), rfl, ⟨by decide, by decide⟩, rfl, by decide, (yb 796 (by decide +kernel) rfl), by decide +kernel, fun _ h => nomatch h⟩
theorem kL_failedCommand : y_kSH mL_failedCommand 2 := ⟨rfl, (yb 91 (by decide +kernel) rfl), (yb 1284 (by decide +kernel) rfl), ⟨by decide, by decide⟩, by decide +kernel, by decide, (yb 1283 (by decide +kernel) rfl)⟩
theorem kX9_failedCommand : y_kV mX9_failedCommand 0 := ⟨⟨rfl, (yb 92 (by decide +kernel) rfl), (yb 1288 (by decide +kernel) rfl), ⟨by decide, by decide⟩, by decide +kernel, by decide⟩, (yb 1286 (by decide +kernel) rfl), (yb 1287 (by decide +kernel) rfl)⟩
theorem l_RL_122 : Cond.methodLink RL 122 mX9_failedCommand.1 ∈ yB := (yb 1285 (by decide +kernel) rfl)
theorem hL_failedCommand_0 : y_hnd mL_failedCommand 3 "java/util/NoSuchElementException" 11 := ⟨[], [], (0, 8, 11, 25), rfl, ⟨by decide, by decide⟩, rfl, by decide, (yb 796 (by decide +kernel) rfl), by decide +kernel, fun _ h => nomatch h⟩
theorem kL_undo : y_kSH mL_undo 2 := ⟨rfl, (yb 91 (by decide +kernel) rfl), (yb 1292 (by decide +kernel) rfl), ⟨by decide, by decide⟩, by decide +kernel, by decide, (yb 1291 (by decide +kernel) rfl)⟩
theorem kX9_undo : y_kV mX9_undo 0 := ⟨⟨rfl, (yb 92 (by decide +kernel) rfl), (yb 1296 (by decide +kernel) rfl), ⟨by decide, by decide⟩, by decide +kernel, by decide⟩, (yb 1294 (by decide +kernel) rfl), (yb 1295 (by decide +kernel) rfl)⟩
theorem l_RL_125 : Cond.methodLink RL 125 mX9_undo.1 ∈ yB := (yb 1293 (by decide +kernel) rfl)
theorem hL_undo_0 : y_hnd mL_undo 3 "java/lang/IllegalStateException" 11 := ⟨[], [], (0, 8, 11, 15), rfl, ⟨by decide, by decide⟩, rfl, by decide, (yb 612 (by decide +kernel) rfl), by decide +kernel, fun _ h => nomatch h⟩
theorem kL_restore : y_kSH mL_restore 2 := ⟨rfl, (yb 91 (by decide +kernel) rfl), (yb 1304 (by decide +kernel) rfl), ⟨by decide, by decide⟩, by decide +kernel, by decide, (yb 1303 (by decide +kernel) rfl)⟩
theorem kX9_restore : y_kV mX9_restore 0 := ⟨⟨rfl, (yb 92 (by decide +kernel) rfl), (yb 1308 (by decide +kernel) rfl), ⟨by decide, by decide⟩, by decide +kernel, by decide⟩, (yb 1306 (by decide +kernel) rfl), (yb 1307 (by decide +kernel) rfl)⟩
theorem l_RL_128 : Cond.methodLink RL 128 mX9_restore.1 ∈ yB := (yb 1305 (by decide +kernel) rfl)
theorem hL_restore_0 : y_hnd mL_restore 3 "java/lang/IllegalStateException" 11 := ⟨[], [], (0, 8, 11, 15), rfl, ⟨by decide, by decide⟩, rfl, by decide, (yb 612 (by decide +kernel) rfl), by decide +kernel, fun _ h => nomatch h⟩
theorem l_RL_135 : Cond.methodLink RL 135 mL_addFlat.1 ∈ yB := (yb 608 (by decide +kernel) rfl)
theorem kX10_addFlat : y_kV mX10_addFlat 2 := ⟨⟨rfl, (yb 101 (by decide +kernel) rfl), (yb 1400 (by decide +kernel) rfl), ⟨by decide, by decide⟩, by decide +kernel, by decide⟩, (yb 1398 (by decide +kernel) rfl), (yb 1399 (by decide +kernel) rfl)⟩
theorem l_RL_140 : Cond.methodLink RL 140 mX10_addFlat.1 ∈ yB := (yb 1397 (by decide +kernel) rfl)
theorem kX10_thrown : y_kV mX10_thrown 0 := ⟨⟨rfl, (yb 101 (by decide +kernel) rfl), (yb 1396 (by decide +kernel) rfl), ⟨by decide, by decide⟩, by decide +kernel, by decide⟩, (yb 1394 (by decide +kernel) rfl), (yb 1395 (by decide +kernel) rfl)⟩
theorem l_RL_141 : Cond.methodLink RL 141 mX10_thrown.1 ∈ yB := (yb 1393 (by decide +kernel) rfl)
theorem l_RL_144 : Cond.methodLink RL 144 mL_addTenant.1 ∈ yB := (yb 778 (by decide +kernel) rfl)
theorem kX10_addTenant : y_kV mX10_addTenant 4 := ⟨⟨rfl, (yb 101 (by decide +kernel) rfl), (yb 1431 (by decide +kernel) rfl), ⟨by decide, by decide⟩, by decide +kernel, by decide⟩, (yb 1429 (by decide +kernel) rfl), (yb 1430 (by decide +kernel) rfl)⟩
theorem l_RL_147 : Cond.methodLink RL 147 mX10_addTenant.1 ∈ yB := (yb 1428 (by decide +kernel) rfl)
theorem l_RL_148 : Cond.methodLink RL 148 mL_removeTenant.1 ∈ yB := (yb 793 (by decide +kernel) rfl)
theorem kX10_removeTenant : y_kV mX10_removeTenant 1 := ⟨⟨rfl, (yb 101 (by decide +kernel) rfl), (yb 1447 (by decide +kernel) rfl), ⟨by decide, by decide⟩, by decide +kernel, by decide⟩, (yb 1445 (by decide +kernel) rfl), (yb 1446 (by decide +kernel) rfl)⟩
theorem l_RL_151 : Cond.methodLink RL 151 mX10_removeTenant.1 ∈ yB := (yb 1444 (by decide +kernel) rfl)
theorem l_RL_152 : Cond.methodLink RL 152 mL_moveIn.1 ∈ yB := (yb 815 (by decide +kernel) rfl)
theorem kX10_moveIn : y_kV mX10_moveIn 2 := ⟨⟨rfl, (yb 101 (by decide +kernel) rfl), (yb 1459 (by decide +kernel) rfl), ⟨by decide, by decide⟩, by decide +kernel, by decide⟩, (yb 1457 (by decide +kernel) rfl), (yb 1458 (by decide +kernel) rfl)⟩
theorem l_RL_154 : Cond.methodLink RL 154 mX10_moveIn.1 ∈ yB := (yb 1456 (by decide +kernel) rfl)
theorem l_RL_155 : Cond.methodLink RL 155 mL_moveOut.1 ∈ yB := (yb 857 (by decide +kernel) rfl)
theorem kX10_moveOut : y_kV mX10_moveOut 1 := ⟨⟨rfl, (yb 101 (by decide +kernel) rfl), (yb 1491 (by decide +kernel) rfl), ⟨by decide, by decide⟩, by decide +kernel, by decide⟩, (yb 1489 (by decide +kernel) rfl), (yb 1490 (by decide +kernel) rfl)⟩
theorem l_RL_157 : Cond.methodLink RL 157 mX10_moveOut.1 ∈ yB := (yb 1488 (by decide +kernel) rfl)
theorem l_RL_158 : Cond.methodLink RL 158 mL_setRent.1 ∈ yB := (yb 877 (by decide +kernel) rfl)
theorem kX10_setRent : y_kV mX10_setRent 2 := ⟨⟨rfl, (yb 101 (by decide +kernel) rfl), (yb 1515 (by decide +kernel) rfl), ⟨by decide, by decide⟩, by decide +kernel, by decide⟩, (yb 1513 (by decide +kernel) rfl), (yb 1514 (by decide +kernel) rfl)⟩
theorem l_RL_160 : Cond.methodLink RL 160 mX10_setRent.1 ∈ yB := (yb 1512 (by decide +kernel) rfl)
theorem l_RL_161 : Cond.methodLink RL 161 mL_give.1 ∈ yB := (yb 892 (by decide +kernel) rfl)
theorem kX10_give : y_kV mX10_give 2 := ⟨⟨rfl, (yb 101 (by decide +kernel) rfl), (yb 1527 (by decide +kernel) rfl), ⟨by decide, by decide⟩, by decide +kernel, by decide⟩, (yb 1525 (by decide +kernel) rfl), (yb 1526 (by decide +kernel) rfl)⟩
theorem l_RL_163 : Cond.methodLink RL 163 mX10_give.1 ∈ yB := (yb 1524 (by decide +kernel) rfl)
theorem kX9_settle : y_kV mX9_settle 0 := ⟨⟨rfl, (yb 92 (by decide +kernel) rfl), (yb 356 (by decide +kernel) rfl), ⟨by decide, by decide⟩, by decide +kernel, by decide⟩, (yb 354 (by decide +kernel) rfl), (yb 355 (by decide +kernel) rfl)⟩
theorem l_RL_164 : Cond.methodLink RL 164 mX9_settle.1 ∈ yB := (yb 353 (by decide +kernel) rfl)
theorem kX10_settle : y_kV mX10_settle 0 := ⟨⟨rfl, (yb 101 (by decide +kernel) rfl), (yb 1539 (by decide +kernel) rfl), ⟨by decide, by decide⟩, by decide +kernel, by decide⟩, (yb 1537 (by decide +kernel) rfl), (yb 1538 (by decide +kernel) rfl)⟩
theorem l_RL_167 : Cond.methodLink RL 167 mX10_settle.1 ∈ yB := (yb 1536 (by decide +kernel) rfl)
theorem l_RL_168 : Cond.methodLink RL 168 mL_pass.1 ∈ yB := (yb 907 (by decide +kernel) rfl)
theorem kX10_pass : y_kV mX10_pass 1 := ⟨⟨rfl, (yb 101 (by decide +kernel) rfl), (yb 1563 (by decide +kernel) rfl), ⟨by decide, by decide⟩, by decide +kernel, by decide⟩, (yb 1561 (by decide +kernel) rfl), (yb 1562 (by decide +kernel) rfl)⟩
theorem l_RL_170 : Cond.methodLink RL 170 mX10_pass.1 ∈ yB := (yb 1560 (by decide +kernel) rfl)
theorem kX9_flats : y_kV mX9_flats 0 := ⟨⟨rfl, (yb 92 (by decide +kernel) rfl), (yb 416 (by decide +kernel) rfl), ⟨by decide, by decide⟩, by decide +kernel, by decide⟩, (yb 414 (by decide +kernel) rfl), (yb 415 (by decide +kernel) rfl)⟩
theorem l_RL_171 : Cond.methodLink RL 171 mX9_flats.1 ∈ yB := (yb 413 (by decide +kernel) rfl)
theorem kX10_flats : y_kV mX10_flats 0 := ⟨⟨rfl, (yb 101 (by decide +kernel) rfl), (yb 1578 (by decide +kernel) rfl), ⟨by decide, by decide⟩, by decide +kernel, by decide⟩, (yb 1576 (by decide +kernel) rfl), (yb 1577 (by decide +kernel) rfl)⟩
theorem l_RL_174 : Cond.methodLink RL 174 mX10_flats.1 ∈ yB := (yb 1575 (by decide +kernel) rfl)
theorem l_RL_175 : Cond.methodLink RL 175 mL_floorOf.1 ∈ yB := (yb 928 (by decide +kernel) rfl)
theorem kX10_floorOf : y_kV mX10_floorOf 1 := ⟨⟨rfl, (yb 101 (by decide +kernel) rfl), (yb 1586 (by decide +kernel) rfl), ⟨by decide, by decide⟩, by decide +kernel, by decide⟩, (yb 1584 (by decide +kernel) rfl), (yb 1585 (by decide +kernel) rfl)⟩
theorem l_RL_177 : Cond.methodLink RL 177 mX10_floorOf.1 ∈ yB := (yb 1583 (by decide +kernel) rfl)
theorem l_RL_178 : Cond.methodLink RL 178 mL_rentOf.1 ∈ yB := (yb 940 (by decide +kernel) rfl)
theorem kX10_rentOf : y_kV mX10_rentOf 1 := ⟨⟨rfl, (yb 101 (by decide +kernel) rfl), (yb 1590 (by decide +kernel) rfl), ⟨by decide, by decide⟩, by decide +kernel, by decide⟩, (yb 1588 (by decide +kernel) rfl), (yb 1589 (by decide +kernel) rfl)⟩
theorem l_RL_180 : Cond.methodLink RL 180 mX10_rentOf.1 ∈ yB := (yb 1587 (by decide +kernel) rfl)
theorem l_RL_181 : Cond.methodLink RL 181 mL_tenantIn.1 ∈ yB := (yb 947 (by decide +kernel) rfl)
theorem kX10_tenantIn : y_kV mX10_tenantIn 1 := ⟨⟨rfl, (yb 101 (by decide +kernel) rfl), (yb 1594 (by decide +kernel) rfl), ⟨by decide, by decide⟩, by decide +kernel, by decide⟩, (yb 1592 (by decide +kernel) rfl), (yb 1593 (by decide +kernel) rfl)⟩
theorem l_RL_183 : Cond.methodLink RL 183 mX10_tenantIn.1 ∈ yB := (yb 1591 (by decide +kernel) rfl)
theorem kX9_vacantFlats : y_kV mX9_vacantFlats 0 := ⟨⟨rfl, (yb 92 (by decide +kernel) rfl), (yb 420 (by decide +kernel) rfl), ⟨by decide, by decide⟩, by decide +kernel, by decide⟩, (yb 418 (by decide +kernel) rfl), (yb 419 (by decide +kernel) rfl)⟩
theorem l_RL_184 : Cond.methodLink RL 184 mX9_vacantFlats.1 ∈ yB := (yb 417 (by decide +kernel) rfl)
theorem kX10_vacantFlats : y_kV mX10_vacantFlats 0 := ⟨⟨rfl, (yb 101 (by decide +kernel) rfl), (yb 1598 (by decide +kernel) rfl), ⟨by decide, by decide⟩, by decide +kernel, by decide⟩, (yb 1596 (by decide +kernel) rfl), (yb 1597 (by decide +kernel) rfl)⟩
theorem l_RL_187 : Cond.methodLink RL 187 mX10_vacantFlats.1 ∈ yB := (yb 1595 (by decide +kernel) rfl)
theorem kX9_tenants : y_kV mX9_tenants 0 := ⟨⟨rfl, (yb 92 (by decide +kernel) rfl), (yb 428 (by decide +kernel) rfl), ⟨by decide, by decide⟩, by decide +kernel, by decide⟩, (yb 426 (by decide +kernel) rfl), (yb 427 (by decide +kernel) rfl)⟩
theorem l_RL_188 : Cond.methodLink RL 188 mX9_tenants.1 ∈ yB := (yb 425 (by decide +kernel) rfl)
theorem kX10_tenants : y_kV mX10_tenants 0 := ⟨⟨rfl, (yb 101 (by decide +kernel) rfl), (yb 1602 (by decide +kernel) rfl), ⟨by decide, by decide⟩, by decide +kernel, by decide⟩, (yb 1600 (by decide +kernel) rfl), (yb 1601 (by decide +kernel) rfl)⟩
theorem l_RL_191 : Cond.methodLink RL 191 mX10_tenants.1 ∈ yB := (yb 1599 (by decide +kernel) rfl)
theorem kX9_isPresent : y_kV mX9_isPresent 1 := ⟨⟨rfl, (yb 92 (by decide +kernel) rfl), (yb 432 (by decide +kernel) rfl), ⟨by decide, by decide⟩, by decide +kernel, by decide⟩, (yb 430 (by decide +kernel) rfl), (yb 431 (by decide +kernel) rfl)⟩
theorem l_RL_192 : Cond.methodLink RL 192 mX9_isPresent.1 ∈ yB := (yb 429 (by decide +kernel) rfl)
theorem kX10_isPresent : y_kV mX10_isPresent 1 := ⟨⟨rfl, (yb 101 (by decide +kernel) rfl), (yb 1606 (by decide +kernel) rfl), ⟨by decide, by decide⟩, by decide +kernel, by decide⟩, (yb 1604 (by decide +kernel) rfl), (yb 1605 (by decide +kernel) rfl)⟩
theorem l_RL_196 : Cond.methodLink RL 196 mX10_isPresent.1 ∈ yB := (yb 1603 (by decide +kernel) rfl)
theorem l_RL_197 : Cond.methodLink RL 197 mL_weightOf.1 ∈ yB := (yb 956 (by decide +kernel) rfl)
theorem kX10_weightOf : y_kV mX10_weightOf 1 := ⟨⟨rfl, (yb 101 (by decide +kernel) rfl), (yb 1610 (by decide +kernel) rfl), ⟨by decide, by decide⟩, by decide +kernel, by decide⟩, (yb 1608 (by decide +kernel) rfl), (yb 1609 (by decide +kernel) rfl)⟩
theorem l_RL_199 : Cond.methodLink RL 199 mX10_weightOf.1 ∈ yB := (yb 1607 (by decide +kernel) rfl)
theorem l_RL_200 : Cond.methodLink RL 200 mL_purseOf.1 ∈ yB := (yb 967 (by decide +kernel) rfl)
theorem kX10_purseOf : y_kV mX10_purseOf 1 := ⟨⟨rfl, (yb 101 (by decide +kernel) rfl), (yb 1618 (by decide +kernel) rfl), ⟨by decide, by decide⟩, by decide +kernel, by decide⟩, (yb 1616 (by decide +kernel) rfl), (yb 1617 (by decide +kernel) rfl)⟩
theorem l_RL_202 : Cond.methodLink RL 202 mX10_purseOf.1 ∈ yB := (yb 1615 (by decide +kernel) rfl)
theorem l_RL_203 : Cond.methodLink RL 203 mL_noticesOf.1 ∈ yB := (yb 974 (by decide +kernel) rfl)
theorem kX10_noticesOf : y_kV mX10_noticesOf 1 := ⟨⟨rfl, (yb 101 (by decide +kernel) rfl), (yb 1622 (by decide +kernel) rfl), ⟨by decide, by decide⟩, by decide +kernel, by decide⟩, (yb 1620 (by decide +kernel) rfl), (yb 1621 (by decide +kernel) rfl)⟩
theorem l_RL_205 : Cond.methodLink RL 205 mX10_noticesOf.1 ∈ yB := (yb 1619 (by decide +kernel) rfl)
theorem l_RL_206 : Cond.methodLink RL 206 mL_flatOf.1 ∈ yB := (yb 981 (by decide +kernel) rfl)
theorem kX10_flatOf : y_kV mX10_flatOf 1 := ⟨⟨rfl, (yb 101 (by decide +kernel) rfl), (yb 1626 (by decide +kernel) rfl), ⟨by decide, by decide⟩, by decide +kernel, by decide⟩, (yb 1624 (by decide +kernel) rfl), (yb 1625 (by decide +kernel) rfl)⟩
theorem l_RL_208 : Cond.methodLink RL 208 mX10_flatOf.1 ∈ yB := (yb 1623 (by decide +kernel) rfl)
theorem l_RL_209 : Cond.methodLink RL 209 mL_burden.1 ∈ yB := (yb 993 (by decide +kernel) rfl)
theorem kX10_burden : y_kV mX10_burden 2 := ⟨⟨rfl, (yb 101 (by decide +kernel) rfl), (yb 1630 (by decide +kernel) rfl), ⟨by decide, by decide⟩, by decide +kernel, by decide⟩, (yb 1628 (by decide +kernel) rfl), (yb 1629 (by decide +kernel) rfl)⟩
theorem l_RL_211 : Cond.methodLink RL 211 mX10_burden.1 ∈ yB := (yb 1627 (by decide +kernel) rfl)
theorem l_RL_212 : Cond.methodLink RL 212 mL_flatByRank.1 ∈ yB := (yb 1001 (by decide +kernel) rfl)
theorem kX10_flatByRank : y_kV mX10_flatByRank 2 := ⟨⟨rfl, (yb 101 (by decide +kernel) rfl), (yb 1634 (by decide +kernel) rfl), ⟨by decide, by decide⟩, by decide +kernel, by decide⟩, (yb 1632 (by decide +kernel) rfl), (yb 1633 (by decide +kernel) rfl)⟩
theorem l_RL_214 : Cond.methodLink RL 214 mX10_flatByRank.1 ∈ yB := (yb 1631 (by decide +kernel) rfl)
theorem l_RL_215 : Cond.methodLink RL 215 mL_tenantByPurse.1 ∈ yB := (yb 1010 (by decide +kernel) rfl)
theorem kX10_tenantByPurse : y_kV mX10_tenantByPurse 1 := ⟨⟨rfl, (yb 101 (by decide +kernel) rfl), (yb 1638 (by decide +kernel) rfl), ⟨by decide, by decide⟩, by decide +kernel, by decide⟩, (yb 1636 (by decide +kernel) rfl), (yb 1637 (by decide +kernel) rfl)⟩
theorem l_RL_217 : Cond.methodLink RL 217 mX10_tenantByPurse.1 ∈ yB := (yb 1635 (by decide +kernel) rfl)
theorem l_RL_218 : Cond.methodLink RL 218 mL_creak.1 ∈ yB := (yb 1021 (by decide +kernel) rfl)
theorem kX10_creak : y_kV mX10_creak 1 := ⟨⟨rfl, (yb 101 (by decide +kernel) rfl), (yb 1642 (by decide +kernel) rfl), ⟨by decide, by decide⟩, by decide +kernel, by decide⟩, (yb 1640 (by decide +kernel) rfl), (yb 1641 (by decide +kernel) rfl)⟩
theorem l_RL_220 : Cond.methodLink RL 220 mX10_creak.1 ∈ yB := (yb 1639 (by decide +kernel) rfl)
theorem kX9_censuses : y_kV mX9_censuses 0 := ⟨⟨rfl, (yb 92 (by decide +kernel) rfl), (yb 440 (by decide +kernel) rfl), ⟨by decide, by decide⟩, by decide +kernel, by decide⟩, (yb 438 (by decide +kernel) rfl), (yb 439 (by decide +kernel) rfl)⟩
theorem l_RL_221 : Cond.methodLink RL 221 mX9_censuses.1 ∈ yB := (yb 437 (by decide +kernel) rfl)
theorem l_RL_224 : Cond.methodLink RL 224 mX10_censuses.1 ∈ yB := (yb 1647 (by decide +kernel) rfl)
theorem kX9_censusesBySets : y_kV mX9_censusesBySets 0 := ⟨⟨rfl, (yb 92 (by decide +kernel) rfl), (yb 459 (by decide +kernel) rfl), ⟨by decide, by decide⟩, by decide +kernel, by decide⟩, (yb 457 (by decide +kernel) rfl), (yb 458 (by decide +kernel) rfl)⟩
theorem l_RL_225 : Cond.methodLink RL 225 mX9_censusesBySets.1 ∈ yB := (yb 456 (by decide +kernel) rfl)
theorem kX10_censusesBySets : y_kV mX10_censusesBySets 0 := ⟨⟨rfl, (yb 101 (by decide +kernel) rfl), (yb 1662 (by decide +kernel) rfl), ⟨by decide, by decide⟩, by decide +kernel, by decide⟩, (yb 1660 (by decide +kernel) rfl), (yb 1661 (by decide +kernel) rfl)⟩
theorem l_RL_228 : Cond.methodLink RL 228 mX10_censusesBySets.1 ∈ yB := (yb 1659 (by decide +kernel) rfl)
theorem l_RL_229 : Cond.methodLink RL 229 mL_possibleFloors.1 ∈ yB := (yb 1034 (by decide +kernel) rfl)
theorem kX10_possibleFloors : y_kV mX10_possibleFloors 1 := ⟨⟨rfl, (yb 101 (by decide +kernel) rfl), (yb 1667 (by decide +kernel) rfl), ⟨by decide, by decide⟩, by decide +kernel, by decide⟩, (yb 1665 (by decide +kernel) rfl), (yb 1666 (by decide +kernel) rfl)⟩
theorem l_RL_231 : Cond.methodLink RL 231 mX10_possibleFloors.1 ∈ yB := (yb 1664 (by decide +kernel) rfl)
theorem l_RL_232 : Cond.methodLink RL 232 mL_plannedFlat.1 ∈ yB := (yb 1045 (by decide +kernel) rfl)
theorem l_RL_234 : Cond.methodLink RL 234 mX10_plannedFlat.1 ∈ yB := (yb 1668 (by decide +kernel) rfl)
theorem l_RL_235 : Cond.methodLink RL 235 mL_plannedFlatByPlans.1 ∈ yB := (yb 1056 (by decide +kernel) rfl)
theorem kX10_plannedFlatByPlans : y_kV mX10_plannedFlatByPlans 1 := ⟨⟨rfl, (yb 101 (by decide +kernel) rfl), (yb 1675 (by decide +kernel) rfl), ⟨by decide, by decide⟩, by decide +kernel, by decide⟩, (yb 1673 (by decide +kernel) rfl), (yb 1674 (by decide +kernel) rfl)⟩
theorem l_RL_237 : Cond.methodLink RL 237 mX10_plannedFlatByPlans.1 ∈ yB := (yb 1672 (by decide +kernel) rfl)
theorem kX9_stablePlans : y_kV mX9_stablePlans 0 := ⟨⟨rfl, (yb 92 (by decide +kernel) rfl), (yb 479 (by decide +kernel) rfl), ⟨by decide, by decide⟩, by decide +kernel, by decide⟩, (yb 477 (by decide +kernel) rfl), (yb 478 (by decide +kernel) rfl)⟩
theorem l_RL_238 : Cond.methodLink RL 238 mX9_stablePlans.1 ∈ yB := (yb 476 (by decide +kernel) rfl)
theorem kX10_stablePlans : y_kV mX10_stablePlans 0 := ⟨⟨rfl, (yb 101 (by decide +kernel) rfl), (yb 1680 (by decide +kernel) rfl), ⟨by decide, by decide⟩, by decide +kernel, by decide⟩, (yb 1678 (by decide +kernel) rfl), (yb 1679 (by decide +kernel) rfl)⟩
theorem l_RL_241 : Cond.methodLink RL 241 mX10_stablePlans.1 ∈ yB := (yb 1677 (by decide +kernel) rfl)
theorem kX9_isStable : y_kV mX9_isStable 0 := ⟨⟨rfl, (yb 92 (by decide +kernel) rfl), (yb 524 (by decide +kernel) rfl), ⟨by decide, by decide⟩, by decide +kernel, by decide⟩, (yb 522 (by decide +kernel) rfl), (yb 523 (by decide +kernel) rfl)⟩
theorem l_RL_242 : Cond.methodLink RL 242 mX9_isStable.1 ∈ yB := (yb 521 (by decide +kernel) rfl)
theorem kX10_isStable : y_kV mX10_isStable 0 := ⟨⟨rfl, (yb 101 (by decide +kernel) rfl), (yb 1692 (by decide +kernel) rfl), ⟨by decide, by decide⟩, by decide +kernel, by decide⟩, (yb 1690 (by decide +kernel) rfl), (yb 1691 (by decide +kernel) rfl)⟩
theorem l_RL_246 : Cond.methodLink RL 246 mX10_isStable.1 ∈ yB := (yb 1689 (by decide +kernel) rfl)
theorem l_RL_247 : Cond.methodLink RL 247 mL_chainLength.1 ∈ yB := (yb 1067 (by decide +kernel) rfl)
theorem kX10_chainLength : y_kV mX10_chainLength 1 := ⟨⟨rfl, (yb 101 (by decide +kernel) rfl), (yb 1696 (by decide +kernel) rfl), ⟨by decide, by decide⟩, by decide +kernel, by decide⟩, (yb 1694 (by decide +kernel) rfl), (yb 1695 (by decide +kernel) rfl)⟩
theorem l_RL_249 : Cond.methodLink RL 249 mX10_chainLength.1 ∈ yB := (yb 1693 (by decide +kernel) rfl)
theorem l_RL_250 : Cond.methodLink RL 250 mL_monthsUntilEviction.1 ∈ yB := (yb 1074 (by decide +kernel) rfl)
theorem kX10_monthsUntilEviction : y_kV mX10_monthsUntilEviction 0 := ⟨⟨rfl, (yb 101 (by decide +kernel) rfl), (yb 1708 (by decide +kernel) rfl), ⟨by decide, by decide⟩, by decide +kernel, by decide⟩, (yb 1706 (by decide +kernel) rfl), (yb 1707 (by decide +kernel) rfl)⟩
theorem l_RL_253 : Cond.methodLink RL 253 mX10_monthsUntilEviction.1 ∈ yB := (yb 1705 (by decide +kernel) rfl)
theorem kX9_month : y_kV mX9_month 0 := ⟨⟨rfl, (yb 92 (by decide +kernel) rfl), (yb 532 (by decide +kernel) rfl), ⟨by decide, by decide⟩, by decide +kernel, by decide⟩, (yb 530 (by decide +kernel) rfl), (yb 531 (by decide +kernel) rfl)⟩
theorem l_RL_254 : Cond.methodLink RL 254 mX9_month.1 ∈ yB := (yb 529 (by decide +kernel) rfl)
theorem kX10_month : y_kV mX10_month 0 := ⟨⟨rfl, (yb 101 (by decide +kernel) rfl), (yb 1712 (by decide +kernel) rfl), ⟨by decide, by decide⟩, by decide +kernel, by decide⟩, (yb 1710 (by decide +kernel) rfl), (yb 1711 (by decide +kernel) rfl)⟩
theorem l_RL_257 : Cond.methodLink RL 257 mX10_month.1 ∈ yB := (yb 1709 (by decide +kernel) rfl)
theorem kX9_received : y_kV mX9_received 0 := ⟨⟨rfl, (yb 92 (by decide +kernel) rfl), (yb 536 (by decide +kernel) rfl), ⟨by decide, by decide⟩, by decide +kernel, by decide⟩, (yb 534 (by decide +kernel) rfl), (yb 535 (by decide +kernel) rfl)⟩
theorem l_RL_258 : Cond.methodLink RL 258 mX9_received.1 ∈ yB := (yb 533 (by decide +kernel) rfl)
theorem kX10_received : y_kV mX10_received 0 := ⟨⟨rfl, (yb 101 (by decide +kernel) rfl), (yb 1716 (by decide +kernel) rfl), ⟨by decide, by decide⟩, by decide +kernel, by decide⟩, (yb 1714 (by decide +kernel) rfl), (yb 1715 (by decide +kernel) rfl)⟩
theorem l_RL_262 : Cond.methodLink RL 262 mX10_received.1 ∈ yB := (yb 1713 (by decide +kernel) rfl)
theorem kX9_receivedByParts : y_kV mX9_receivedByParts 0 := ⟨⟨rfl, (yb 92 (by decide +kernel) rfl), (yb 540 (by decide +kernel) rfl), ⟨by decide, by decide⟩, by decide +kernel, by decide⟩, (yb 538 (by decide +kernel) rfl), (yb 539 (by decide +kernel) rfl)⟩
theorem l_RL_263 : Cond.methodLink RL 263 mX9_receivedByParts.1 ∈ yB := (yb 537 (by decide +kernel) rfl)
theorem kX10_receivedByParts : y_kV mX10_receivedByParts 0 := ⟨⟨rfl, (yb 101 (by decide +kernel) rfl), (yb 1720 (by decide +kernel) rfl), ⟨by decide, by decide⟩, by decide +kernel, by decide⟩, (yb 1718 (by decide +kernel) rfl), (yb 1719 (by decide +kernel) rfl)⟩
theorem l_RL_266 : Cond.methodLink RL 266 mX10_receivedByParts.1 ∈ yB := (yb 1717 (by decide +kernel) rfl)
theorem kX9_paidRents : y_kV mX9_paidRents 0 := ⟨⟨rfl, (yb 92 (by decide +kernel) rfl), (yb 548 (by decide +kernel) rfl), ⟨by decide, by decide⟩, by decide +kernel, by decide⟩, (yb 546 (by decide +kernel) rfl), (yb 547 (by decide +kernel) rfl)⟩
theorem l_RL_267 : Cond.methodLink RL 267 mX9_paidRents.1 ∈ yB := (yb 545 (by decide +kernel) rfl)
theorem kX10_paidRents : y_kV mX10_paidRents 0 := ⟨⟨rfl, (yb 101 (by decide +kernel) rfl), (yb 1728 (by decide +kernel) rfl), ⟨by decide, by decide⟩, by decide +kernel, by decide⟩, (yb 1726 (by decide +kernel) rfl), (yb 1727 (by decide +kernel) rfl)⟩
theorem l_RL_270 : Cond.methodLink RL 270 mX10_paidRents.1 ∈ yB := (yb 1725 (by decide +kernel) rfl)
theorem kX9_evictions : y_kV mX9_evictions 0 := ⟨⟨rfl, (yb 92 (by decide +kernel) rfl), (yb 552 (by decide +kernel) rfl), ⟨by decide, by decide⟩, by decide +kernel, by decide⟩, (yb 550 (by decide +kernel) rfl), (yb 551 (by decide +kernel) rfl)⟩
theorem l_RL_271 : Cond.methodLink RL 271 mX9_evictions.1 ∈ yB := (yb 549 (by decide +kernel) rfl)
theorem kX10_evictions : y_kV mX10_evictions 0 := ⟨⟨rfl, (yb 101 (by decide +kernel) rfl), (yb 1732 (by decide +kernel) rfl), ⟨by decide, by decide⟩, by decide +kernel, by decide⟩, (yb 1730 (by decide +kernel) rfl), (yb 1731 (by decide +kernel) rfl)⟩
theorem l_RL_274 : Cond.methodLink RL 274 mX10_evictions.1 ∈ yB := (yb 1729 (by decide +kernel) rfl)
theorem l_RL_275 : Cond.methodLink RL 275 mL_meanBurden.1 ∈ yB := (yb 1082 (by decide +kernel) rfl)
theorem kX10_meanBurden : y_kV mX10_meanBurden 0 := ⟨⟨rfl, (yb 101 (by decide +kernel) rfl), (yb 1736 (by decide +kernel) rfl), ⟨by decide, by decide⟩, by decide +kernel, by decide⟩, (yb 1734 (by decide +kernel) rfl), (yb 1735 (by decide +kernel) rfl)⟩
theorem l_RL_278 : Cond.methodLink RL 278 mX10_meanBurden.1 ∈ yB := (yb 1733 (by decide +kernel) rfl)
theorem l_RL_279 : Cond.methodLink RL 279 mL_occupancy.1 ∈ yB := (yb 1110 (by decide +kernel) rfl)
theorem kX10_occupancy : y_kV mX10_occupancy 0 := ⟨⟨rfl, (yb 101 (by decide +kernel) rfl), (yb 1740 (by decide +kernel) rfl), ⟨by decide, by decide⟩, by decide +kernel, by decide⟩, (yb 1738 (by decide +kernel) rfl), (yb 1739 (by decide +kernel) rfl)⟩
theorem l_RL_281 : Cond.methodLink RL 281 mX10_occupancy.1 ∈ yB := (yb 1737 (by decide +kernel) rfl)
theorem kX9_isConsistent : y_kV mX9_isConsistent 0 := ⟨⟨rfl, (yb 92 (by decide +kernel) rfl), (yb 556 (by decide +kernel) rfl), ⟨by decide, by decide⟩, by decide +kernel, by decide⟩, (yb 554 (by decide +kernel) rfl), (yb 555 (by decide +kernel) rfl)⟩
theorem l_RL_282 : Cond.methodLink RL 282 mX9_isConsistent.1 ∈ yB := (yb 553 (by decide +kernel) rfl)
theorem kX10_isConsistent : y_kV mX10_isConsistent 0 := ⟨⟨rfl, (yb 101 (by decide +kernel) rfl), (yb 1744 (by decide +kernel) rfl), ⟨by decide, by decide⟩, by decide +kernel, by decide⟩, (yb 1742 (by decide +kernel) rfl), (yb 1743 (by decide +kernel) rfl)⟩
theorem l_RL_285 : Cond.methodLink RL 285 mX10_isConsistent.1 ∈ yB := (yb 1741 (by decide +kernel) rfl)
theorem l_RL_286 : Cond.methodLink RL 286 mL_writeFloor.1 ∈ yB := (yb 1118 (by decide +kernel) rfl)
theorem kX10_writeFloor : y_kV mX10_writeFloor 1 := ⟨⟨rfl, (yb 101 (by decide +kernel) rfl), (yb 1748 (by decide +kernel) rfl), ⟨by decide, by decide⟩, by decide +kernel, by decide⟩, (yb 1746 (by decide +kernel) rfl), (yb 1747 (by decide +kernel) rfl)⟩
theorem l_RL_288 : Cond.methodLink RL 288 mX10_writeFloor.1 ∈ yB := (yb 1745 (by decide +kernel) rfl)
theorem kX9_writePlan : y_kV mX9_writePlan 0 := ⟨⟨rfl, (yb 92 (by decide +kernel) rfl), (yb 589 (by decide +kernel) rfl), ⟨by decide, by decide⟩, by decide +kernel, by decide⟩, (yb 587 (by decide +kernel) rfl), (yb 588 (by decide +kernel) rfl)⟩
theorem l_RL_289 : Cond.methodLink RL 289 mX9_writePlan.1 ∈ yB := (yb 586 (by decide +kernel) rfl)
theorem kX10_writePlan : y_kV mX10_writePlan 0 := ⟨⟨rfl, (yb 101 (by decide +kernel) rfl), (yb 1760 (by decide +kernel) rfl), ⟨by decide, by decide⟩, by decide +kernel, by decide⟩, (yb 1758 (by decide +kernel) rfl), (yb 1759 (by decide +kernel) rfl)⟩
theorem l_RL_292 : Cond.methodLink RL 292 mX10_writePlan.1 ∈ yB := (yb 1757 (by decide +kernel) rfl)
theorem l_RL_293 : Cond.methodLink RL 293 mL_charAt.1 ∈ yB := (yb 1129 (by decide +kernel) rfl)
theorem kX10_charAt : y_kV mX10_charAt 1 := ⟨⟨rfl, (yb 101 (by decide +kernel) rfl), (yb 1764 (by decide +kernel) rfl), ⟨by decide, by decide⟩, by decide +kernel, by decide⟩, (yb 1762 (by decide +kernel) rfl), (yb 1763 (by decide +kernel) rfl)⟩
theorem l_RL_295 : Cond.methodLink RL 295 mX10_charAt.1 ∈ yB := (yb 1761 (by decide +kernel) rfl)
theorem l_RL_296 : Cond.methodLink RL 296 mL_type.1 ∈ yB := (yb 1137 (by decide +kernel) rfl)
theorem kX10_type : y_kV mX10_type 1 := ⟨⟨rfl, (yb 101 (by decide +kernel) rfl), (yb 1768 (by decide +kernel) rfl), ⟨by decide, by decide⟩, by decide +kernel, by decide⟩, (yb 1766 (by decide +kernel) rfl), (yb 1767 (by decide +kernel) rfl)⟩
theorem l_RL_299 : Cond.methodLink RL 299 mX10_type.1 ∈ yB := (yb 1765 (by decide +kernel) rfl)
theorem l_RL_300 : Cond.methodLink RL 300 mL_run.1 ∈ yB := (yb 1145 (by decide +kernel) rfl)
theorem kX10_run : y_kV mX10_run 0 := ⟨⟨rfl, (yb 101 (by decide +kernel) rfl), (yb 1772 (by decide +kernel) rfl), ⟨by decide, by decide⟩, by decide +kernel, by decide⟩, (yb 1770 (by decide +kernel) rfl), (yb 1771 (by decide +kernel) rfl)⟩
theorem l_RL_302 : Cond.methodLink RL 302 mX10_run.1 ∈ yB := (yb 1769 (by decide +kernel) rfl)
theorem l_RL_303 : Cond.methodLink RL 303 mL_errorPosition.1 ∈ yB := (yb 1274 (by decide +kernel) rfl)
theorem kX10_errorPosition : y_kV mX10_errorPosition 0 := ⟨⟨rfl, (yb 101 (by decide +kernel) rfl), (yb 1824 (by decide +kernel) rfl), ⟨by decide, by decide⟩, by decide +kernel, by decide⟩, (yb 1822 (by decide +kernel) rfl), (yb 1823 (by decide +kernel) rfl)⟩
theorem l_RL_305 : Cond.methodLink RL 305 mX10_errorPosition.1 ∈ yB := (yb 1821 (by decide +kernel) rfl)
theorem l_RL_306 : Cond.methodLink RL 306 mL_failedCommand.1 ∈ yB := (yb 1282 (by decide +kernel) rfl)
theorem kX10_failedCommand : y_kV mX10_failedCommand 0 := ⟨⟨rfl, (yb 101 (by decide +kernel) rfl), (yb 1828 (by decide +kernel) rfl), ⟨by decide, by decide⟩, by decide +kernel, by decide⟩, (yb 1826 (by decide +kernel) rfl), (yb 1827 (by decide +kernel) rfl)⟩
theorem l_RL_308 : Cond.methodLink RL 308 mX10_failedCommand.1 ∈ yB := (yb 1825 (by decide +kernel) rfl)
theorem l_RL_309 : Cond.methodLink RL 309 mL_undo.1 ∈ yB := (yb 1290 (by decide +kernel) rfl)
theorem kX10_undo : y_kV mX10_undo 0 := ⟨⟨rfl, (yb 101 (by decide +kernel) rfl), (yb 1832 (by decide +kernel) rfl), ⟨by decide, by decide⟩, by decide +kernel, by decide⟩, (yb 1830 (by decide +kernel) rfl), (yb 1831 (by decide +kernel) rfl)⟩
theorem l_RL_311 : Cond.methodLink RL 311 mX10_undo.1 ∈ yB := (yb 1829 (by decide +kernel) rfl)
theorem kX9_save : y_kV mX9_save 0 := ⟨⟨rfl, (yb 92 (by decide +kernel) rfl), (yb 606 (by decide +kernel) rfl), ⟨by decide, by decide⟩, by decide +kernel, by decide⟩, (yb 604 (by decide +kernel) rfl), (yb 605 (by decide +kernel) rfl)⟩
theorem l_RL_312 : Cond.methodLink RL 312 mX9_save.1 ∈ yB := (yb 603 (by decide +kernel) rfl)
theorem kX10_save : y_kV mX10_save 0 := ⟨⟨rfl, (yb 101 (by decide +kernel) rfl), (yb 1836 (by decide +kernel) rfl), ⟨by decide, by decide⟩, by decide +kernel, by decide⟩, (yb 1834 (by decide +kernel) rfl), (yb 1835 (by decide +kernel) rfl)⟩
theorem l_RL_315 : Cond.methodLink RL 315 mX10_save.1 ∈ yB := (yb 1833 (by decide +kernel) rfl)
theorem l_RL_316 : Cond.methodLink RL 316 mL_restore.1 ∈ yB := (yb 1302 (by decide +kernel) rfl)
theorem kX10_restore : y_kV mX10_restore 0 := ⟨⟨rfl, (yb 101 (by decide +kernel) rfl), (yb 1840 (by decide +kernel) rfl), ⟨by decide, by decide⟩, by decide +kernel, by decide⟩, (yb 1838 (by decide +kernel) rfl), (yb 1839 (by decide +kernel) rfl)⟩
theorem l_RL_318 : Cond.methodLink RL 318 mX10_restore.1 ∈ yB := (yb 1837 (by decide +kernel) rfl)
set_option maxRecDepth 100000 in
set_option maxHeartbeats 4000000 in
theorem Q_qL_addFlat {g : yG} {a : Nat → Nat} {μ : zM} {v1 : Int} {v2 : Int} {r : Int} {ν : zM} (hq : qL_addFlat μ v1 v2 = some (r, ν)) : zC g a mL_addFlat 4 1 6 [zr 0, zi v1, zi v2, zr 156] μ (.inl (some (zi r))) ν := by
  unfold qL_addFlat at hq
  refine z_ofH (L := [some (zr 0), some (zi v1), some (zi v2), some (zr 156), none]) pl_RL rfl (zc_of rfl) rfl rfl ?_
  refine z_aload_n 1 dL_addFlat_0 rfl rfl ?_
  refine z_iconst 2 dL_addFlat_1 rfl (by decide) ?_
  refine z_aload_n 3 dL_addFlat_2 rfl rfl ?_
  refine z_iload_n 4 dL_addFlat_3 rfl rfl ?_
  refine z_iload_n 5 dL_addFlat_4 rfl rfl ?_
  rcases bndT_some hq with ⟨x1, m1, h1, hq⟩ | ⟨e1, m1, h1, hq⟩
  · refine z_callVH1 (as := [zi v1, zi v2]) (S := [zi 0, zr 156]) (kc := 0) (ks := 0) 8 dL_addFlat_5 rfl (Q_qT_addFlat h1) kX9_addFlat ⟨_, _, rfl⟩ ar_0 l_RL_7 rfl rfl rfl rfl rfl rfl ?_
    cases hq
    refine z_i2l 9 dL_addFlat_8 rfl ?_
    refine z_lastore 10 dL_addFlat_9 rfl ar_156 ⟨by decide, by decide⟩ rfl ?_
    refine z_goto 21 dL_addFlat_10 rfl ?_
    refine z_iconst 22 dL_addFlat_21 rfl (by decide) ?_
    exact z_ireturn rfl dL_addFlat_22
  · by_cases he0 : e1 = 2
    · subst he0
      replace hq := z_ip hq rfl
      cases hq
      exact z_callVHX (as := [zi v1, zi v2]) (S := [zi 0, zr 156]) (kc := 0) (ks := 0) dL_addFlat_5 (Q_qT_addFlat h1) kX9_addFlat ⟨_, _, rfl⟩ ar_0 l_RL_7 rfl rfl rfl rfl rfl rfl hL_addFlat_0 (Or.inl ⟨_, dL_addFlat_13, by decide, rfl⟩) dL_addFlat_15 (by decide) dL_addFlat_16 rfl
    · replace hq := z_in hq he0
      by_cases he1 : e1 = 3
      · subst he1
        replace hq := z_ip hq rfl
        cases hq
        exact z_callVHX (as := [zi v1, zi v2]) (S := [zi 0, zr 156]) (kc := 0) (ks := 0) dL_addFlat_5 (Q_qT_addFlat h1) kX9_addFlat ⟨_, _, rfl⟩ ar_0 l_RL_7 rfl rfl rfl rfl rfl rfl hL_addFlat_1 (Or.inl ⟨_, dL_addFlat_17, by decide, rfl⟩) dL_addFlat_19 (by decide) dL_addFlat_20 rfl
      · replace hq := z_in hq he1
        cases hq
set_option maxRecDepth 100000 in
set_option maxHeartbeats 4000000 in
theorem Q_qL_addTenant {g : yG} {a : Nat → Nat} {μ : zM} {v1 : Int} {v2 : Int} {v3 : Int} {v4 : Int} {r : Int} {ν : zM} (hq : qL_addTenant μ v1 v2 v3 v4 = some (r, ν)) : zC g a mL_addTenant 4 1 6 [zr 0, zi v1, zi v2, zi v3, zi v4, zr 156] μ (.inl (some (zi r))) ν := by
  unfold qL_addTenant at hq
  refine z_ofH (L := [some (zr 0), some (zi v1), some (zi v2), some (zi v3), some (zi v4), some (zr 156), none]) pl_RL rfl (zc_of rfl) rfl rfl ?_
  refine z_aload 2 dL_addTenant_0 rfl rfl ?_
  refine z_iconst 3 dL_addTenant_2 rfl (by decide) ?_
  refine z_aload_n 4 dL_addTenant_3 rfl rfl ?_
  refine z_iload_n 5 dL_addTenant_4 rfl rfl ?_
  refine z_iload_n 6 dL_addTenant_5 rfl rfl ?_
  refine z_iload_n 7 dL_addTenant_6 rfl rfl ?_
  refine z_iload 9 dL_addTenant_7 rfl rfl ?_
  rcases bndT_some hq with ⟨x1, m1, h1, hq⟩ | ⟨e1, m1, h1, hq⟩
  · refine z_callVH1 (as := [zi v1, zi v2, zi v3, zi v4]) (S := [zi 0, zr 156]) (kc := 0) (ks := 0) 12 dL_addTenant_9 rfl (Q_qT_addTenant h1) kX9_addTenant ⟨_, _, rfl⟩ ar_0 l_RL_17 rfl rfl rfl rfl rfl rfl ?_
    cases hq
    refine z_i2l 13 dL_addTenant_12 rfl ?_
    refine z_lastore 14 dL_addTenant_13 rfl ar_156 ⟨by decide, by decide⟩ rfl ?_
    refine z_goto 25 dL_addTenant_14 rfl ?_
    refine z_iconst 26 dL_addTenant_25 rfl (by decide) ?_
    exact z_ireturn rfl dL_addTenant_26
  · by_cases he0 : e1 = 2
    · subst he0
      replace hq := z_ip hq rfl
      cases hq
      exact z_callVHX (as := [zi v1, zi v2, zi v3, zi v4]) (S := [zi 0, zr 156]) (kc := 0) (ks := 0) dL_addTenant_9 (Q_qT_addTenant h1) kX9_addTenant ⟨_, _, rfl⟩ ar_0 l_RL_17 rfl rfl rfl rfl rfl rfl hL_addTenant_0 (Or.inl ⟨_, dL_addTenant_17, by decide, rfl⟩) dL_addTenant_19 (by decide) dL_addTenant_20 rfl
    · replace hq := z_in hq he0
      by_cases he1 : e1 = 3
      · subst he1
        replace hq := z_ip hq rfl
        cases hq
        exact z_callVHX (as := [zi v1, zi v2, zi v3, zi v4]) (S := [zi 0, zr 156]) (kc := 0) (ks := 0) dL_addTenant_9 (Q_qT_addTenant h1) kX9_addTenant ⟨_, _, rfl⟩ ar_0 l_RL_17 rfl rfl rfl rfl rfl rfl hL_addTenant_1 (Or.inl ⟨_, dL_addTenant_21, by decide, rfl⟩) dL_addTenant_23 (by decide) dL_addTenant_24 rfl
      · replace hq := z_in hq he1
        cases hq
set_option maxRecDepth 100000 in
set_option maxHeartbeats 4000000 in
theorem Q_qL_removeTenant {g : yG} {a : Nat → Nat} {μ : zM} {v1 : Int} {r : Int} {ν : zM} (hq : qL_removeTenant μ v1 = some (r, ν)) : zC g a mL_removeTenant 4 1 6 [zr 0, zi v1, zr 156] μ (.inl (some (zi r))) ν := by
  unfold qL_removeTenant at hq
  refine z_ofH (L := [some (zr 0), some (zi v1), some (zr 156), none]) pl_RL rfl (zc_of rfl) rfl rfl ?_
  refine z_aload_n 1 dL_removeTenant_0 rfl rfl ?_
  refine z_iconst 2 dL_removeTenant_1 rfl (by decide) ?_
  refine z_aload_n 3 dL_removeTenant_2 rfl rfl ?_
  refine z_iload_n 4 dL_removeTenant_3 rfl rfl ?_
  rcases bndT_some hq with ⟨x1, m1, h1, hq⟩ | ⟨e1, m1, h1, hq⟩
  · refine z_callVH1 (as := [zi v1]) (S := [zi 0, zr 156]) (kc := 0) (ks := 0) 7 dL_removeTenant_4 rfl (Q_qT_removeTenant h1) kX9_removeTenant ⟨_, _, rfl⟩ ar_0 l_RL_21 rfl rfl rfl rfl rfl rfl ?_
    cases hq
    refine z_i2l 8 dL_removeTenant_7 rfl ?_
    refine z_lastore 9 dL_removeTenant_8 rfl ar_156 ⟨by decide, by decide⟩ rfl ?_
    refine z_goto 18 dL_removeTenant_9 rfl ?_
    refine z_iconst 19 dL_removeTenant_18 rfl (by decide) ?_
    exact z_ireturn rfl dL_removeTenant_19
  · by_cases he0 : e1 = 0
    · subst he0
      replace hq := z_ip hq rfl
      cases hq
      exact z_callVHX (as := [zi v1]) (S := [zi 0, zr 156]) (kc := 0) (ks := 0) dL_removeTenant_4 (Q_qT_removeTenant h1) kX9_removeTenant ⟨_, _, rfl⟩ ar_0 l_RL_21 rfl rfl rfl rfl rfl rfl hL_removeTenant_0 (Or.inr ⟨_, dL_removeTenant_12, by decide, rfl⟩) dL_removeTenant_13 (by decide) dL_removeTenant_14 rfl
    · replace hq := z_in hq he0
      by_cases he1 : e1 = 3
      · subst he1
        replace hq := z_ip hq rfl
        cases hq
        exact z_callVHX (as := [zi v1]) (S := [zi 0, zr 156]) (kc := 0) (ks := 0) dL_removeTenant_4 (Q_qT_removeTenant h1) kX9_removeTenant ⟨_, _, rfl⟩ ar_0 l_RL_21 rfl rfl rfl rfl rfl rfl hL_removeTenant_1 (Or.inr ⟨_, dL_removeTenant_15, by decide, rfl⟩) dL_removeTenant_16 (by decide) dL_removeTenant_17 rfl
      · replace hq := z_in hq he1
        cases hq
set_option maxRecDepth 100000 in
set_option maxHeartbeats 4000000 in
theorem Q_qL_moveIn {g : yG} {a : Nat → Nat} {μ : zM} {v1 : Int} {v2 : Int} {r : Int} {ν : zM} (hq : qL_moveIn μ v1 v2 = some (r, ν)) : zC g a mL_moveIn 4 1 6 [zr 0, zi v1, zi v2, zr 156] μ (.inl (some (zi r))) ν := by
  unfold qL_moveIn at hq
  refine z_ofH (L := [some (zr 0), some (zi v1), some (zi v2), some (zr 156), none]) pl_RL rfl (zc_of rfl) rfl rfl ?_
  refine z_aload_n 1 dL_moveIn_0 rfl rfl ?_
  refine z_iconst 2 dL_moveIn_1 rfl (by decide) ?_
  refine z_aload_n 3 dL_moveIn_2 rfl rfl ?_
  refine z_iload_n 4 dL_moveIn_3 rfl rfl ?_
  refine z_iload_n 5 dL_moveIn_4 rfl rfl ?_
  rcases bndT_some hq with ⟨x1, m1, h1, hq⟩ | ⟨e1, m1, h1, hq⟩
  · refine z_callVH1 (as := [zi v1, zi v2]) (S := [zi 0, zr 156]) (kc := 0) (ks := 0) 8 dL_moveIn_5 rfl (Q_qT_moveIn h1) kX9_moveIn ⟨_, _, rfl⟩ ar_0 l_RL_27 rfl rfl rfl rfl rfl rfl ?_
    cases hq
    refine z_i2l 9 dL_moveIn_8 rfl ?_
    refine z_lastore 10 dL_moveIn_9 rfl ar_156 ⟨by decide, by decide⟩ rfl ?_
    refine z_goto 29 dL_moveIn_10 rfl ?_
    refine z_iconst 30 dL_moveIn_29 rfl (by decide) ?_
    exact z_ireturn rfl dL_moveIn_30
  · by_cases he0 : e1 = 0
    · subst he0
      replace hq := z_ip hq rfl
      cases hq
      exact z_callVHX (as := [zi v1, zi v2]) (S := [zi 0, zr 156]) (kc := 0) (ks := 0) dL_moveIn_5 (Q_qT_moveIn h1) kX9_moveIn ⟨_, _, rfl⟩ ar_0 l_RL_27 rfl rfl rfl rfl rfl rfl hL_moveIn_0 (Or.inl ⟨_, dL_moveIn_13, by decide, rfl⟩) dL_moveIn_15 (by decide) dL_moveIn_16 rfl
    · replace hq := z_in hq he0
      by_cases he1 : e1 = 1
      · subst he1
        replace hq := z_ip hq rfl
        cases hq
        exact z_callVHX (as := [zi v1, zi v2]) (S := [zi 0, zr 156]) (kc := 0) (ks := 0) dL_moveIn_5 (Q_qT_moveIn h1) kX9_moveIn ⟨_, _, rfl⟩ ar_0 l_RL_27 rfl rfl rfl rfl rfl rfl hL_moveIn_1 (Or.inl ⟨_, dL_moveIn_17, by decide, rfl⟩) dL_moveIn_19 (by decide) dL_moveIn_20 rfl
      · replace hq := z_in hq he1
        by_cases he2 : e1 = 3
        · subst he2
          replace hq := z_ip hq rfl
          cases hq
          exact z_callVHX (as := [zi v1, zi v2]) (S := [zi 0, zr 156]) (kc := 0) (ks := 0) dL_moveIn_5 (Q_qT_moveIn h1) kX9_moveIn ⟨_, _, rfl⟩ ar_0 l_RL_27 rfl rfl rfl rfl rfl rfl hL_moveIn_2 (Or.inl ⟨_, dL_moveIn_21, by decide, rfl⟩) dL_moveIn_23 (by decide) dL_moveIn_24 rfl
        · replace hq := z_in hq he2
          by_cases he3 : e1 = 4
          · subst he3
            replace hq := z_ip hq rfl
            cases hq
            exact z_callVHX (as := [zi v1, zi v2]) (S := [zi 0, zr 156]) (kc := 0) (ks := 0) dL_moveIn_5 (Q_qT_moveIn h1) kX9_moveIn ⟨_, _, rfl⟩ ar_0 l_RL_27 rfl rfl rfl rfl rfl rfl hL_moveIn_3 (Or.inl ⟨_, dL_moveIn_25, by decide, rfl⟩) dL_moveIn_27 (by decide) dL_moveIn_28 rfl
          · replace hq := z_in hq he3
            cases hq
set_option maxRecDepth 100000 in
set_option maxHeartbeats 4000000 in
theorem Q_qL_moveOut {g : yG} {a : Nat → Nat} {μ : zM} {v1 : Int} {r : Int} {ν : zM} (hq : qL_moveOut μ v1 = some (r, ν)) : zC g a mL_moveOut 5 1 6 [zr 0, zi v1, zr 156] μ (.inl (some (zi r))) ν := by
  unfold qL_moveOut at hq
  refine z_ofH (L := [some (zr 0), some (zi v1), some (zr 156), none]) pl_RL rfl (zc_of rfl) rfl rfl ?_
  refine z_aload_n 1 dL_moveOut_0 rfl rfl ?_
  refine z_iconst 2 dL_moveOut_1 rfl (by decide) ?_
  refine z_aload_n 3 dL_moveOut_2 rfl rfl ?_
  refine z_iload_n 4 dL_moveOut_3 rfl rfl ?_
  rcases bndT_some hq with ⟨x1, m1, h1, hq⟩ | ⟨e1, m1, h1, hq⟩
  · refine z_callVH1 (as := [zi v1]) (S := [zi 0, zr 156]) (kc := 0) (ks := 0) 7 dL_moveOut_4 rfl (Q_qT_moveOut h1) kX9_moveOut ⟨_, _, rfl⟩ ar_0 l_RL_34 rfl rfl rfl rfl rfl rfl ?_
    cases hq
    refine z_i2l 8 dL_moveOut_7 rfl ?_
    refine z_lastore 9 dL_moveOut_8 rfl ar_156 ⟨by decide, by decide⟩ rfl ?_
    refine z_goto 18 dL_moveOut_9 rfl ?_
    refine z_iconst 19 dL_moveOut_18 rfl (by decide) ?_
    exact z_ireturn rfl dL_moveOut_19
  · by_cases he0 : e1 = 0
    · subst he0
      replace hq := z_ip hq rfl
      cases hq
      exact z_callVHX (as := [zi v1]) (S := [zi 0, zr 156]) (kc := 0) (ks := 0) dL_moveOut_4 (Q_qT_moveOut h1) kX9_moveOut ⟨_, _, rfl⟩ ar_0 l_RL_34 rfl rfl rfl rfl rfl rfl hL_moveOut_0 (Or.inr ⟨_, dL_moveOut_12, by decide, rfl⟩) dL_moveOut_13 (by decide) dL_moveOut_14 rfl
    · replace hq := z_in hq he0
      by_cases he1 : e1 = 3
      · subst he1
        replace hq := z_ip hq rfl
        cases hq
        exact z_callVHX (as := [zi v1]) (S := [zi 0, zr 156]) (kc := 0) (ks := 0) dL_moveOut_4 (Q_qT_moveOut h1) kX9_moveOut ⟨_, _, rfl⟩ ar_0 l_RL_34 rfl rfl rfl rfl rfl rfl hL_moveOut_1 (Or.inr ⟨_, dL_moveOut_15, by decide, rfl⟩) dL_moveOut_16 (by decide) dL_moveOut_17 rfl
      · replace hq := z_in hq he1
        cases hq
set_option maxRecDepth 100000 in
set_option maxHeartbeats 4000000 in
theorem Q_qL_setRent {g : yG} {a : Nat → Nat} {μ : zM} {v1 : Int} {v2 : Int} {r : Int} {ν : zM} (hq : qL_setRent μ v1 v2 = some (r, ν)) : zC g a mL_setRent 4 1 6 [zr 0, zi v1, zi v2, zr 156] μ (.inl (some (zi r))) ν := by
  unfold qL_setRent at hq
  refine z_ofH (L := [some (zr 0), some (zi v1), some (zi v2), some (zr 156), none]) pl_RL rfl (zc_of rfl) rfl rfl ?_
  refine z_aload_n 1 dL_setRent_0 rfl rfl ?_
  refine z_iconst 2 dL_setRent_1 rfl (by decide) ?_
  refine z_aload_n 3 dL_setRent_2 rfl rfl ?_
  refine z_iload_n 4 dL_setRent_3 rfl rfl ?_
  refine z_iload_n 5 dL_setRent_4 rfl rfl ?_
  rcases bndT_some hq with ⟨x1, m1, h1, hq⟩ | ⟨e1, m1, h1, hq⟩
  · refine z_callVH1 (as := [zi v1, zi v2]) (S := [zi 0, zr 156]) (kc := 0) (ks := 0) 8 dL_setRent_5 rfl (Q_qT_setRent h1) kX9_setRent ⟨_, _, rfl⟩ ar_0 l_RL_37 rfl rfl rfl rfl rfl rfl ?_
    cases hq
    refine z_i2l 9 dL_setRent_8 rfl ?_
    refine z_lastore 10 dL_setRent_9 rfl ar_156 ⟨by decide, by decide⟩ rfl ?_
    refine z_goto 21 dL_setRent_10 rfl ?_
    refine z_iconst 22 dL_setRent_21 rfl (by decide) ?_
    exact z_ireturn rfl dL_setRent_22
  · by_cases he0 : e1 = 1
    · subst he0
      replace hq := z_ip hq rfl
      cases hq
      exact z_callVHX (as := [zi v1, zi v2]) (S := [zi 0, zr 156]) (kc := 0) (ks := 0) dL_setRent_5 (Q_qT_setRent h1) kX9_setRent ⟨_, _, rfl⟩ ar_0 l_RL_37 rfl rfl rfl rfl rfl rfl hL_setRent_0 (Or.inl ⟨_, dL_setRent_13, by decide, rfl⟩) dL_setRent_15 (by decide) dL_setRent_16 rfl
    · replace hq := z_in hq he0
      by_cases he1 : e1 = 2
      · subst he1
        replace hq := z_ip hq rfl
        cases hq
        exact z_callVHX (as := [zi v1, zi v2]) (S := [zi 0, zr 156]) (kc := 0) (ks := 0) dL_setRent_5 (Q_qT_setRent h1) kX9_setRent ⟨_, _, rfl⟩ ar_0 l_RL_37 rfl rfl rfl rfl rfl rfl hL_setRent_1 (Or.inl ⟨_, dL_setRent_17, by decide, rfl⟩) dL_setRent_19 (by decide) dL_setRent_20 rfl
      · replace hq := z_in hq he1
        cases hq
set_option maxRecDepth 100000 in
set_option maxHeartbeats 4000000 in
theorem Q_qL_give {g : yG} {a : Nat → Nat} {μ : zM} {v1 : Int} {v2 : Int} {r : Int} {ν : zM} (hq : qL_give μ v1 v2 = some (r, ν)) : zC g a mL_give 4 1 6 [zr 0, zi v1, zi v2, zr 156] μ (.inl (some (zi r))) ν := by
  unfold qL_give at hq
  refine z_ofH (L := [some (zr 0), some (zi v1), some (zi v2), some (zr 156), none]) pl_RL rfl (zc_of rfl) rfl rfl ?_
  refine z_aload_n 1 dL_give_0 rfl rfl ?_
  refine z_iconst 2 dL_give_1 rfl (by decide) ?_
  refine z_aload_n 3 dL_give_2 rfl rfl ?_
  refine z_iload_n 4 dL_give_3 rfl rfl ?_
  refine z_iload_n 5 dL_give_4 rfl rfl ?_
  rcases bndT_some hq with ⟨x1, m1, h1, hq⟩ | ⟨e1, m1, h1, hq⟩
  · refine z_callVH1 (as := [zi v1, zi v2]) (S := [zi 0, zr 156]) (kc := 0) (ks := 0) 8 dL_give_5 rfl (Q_qT_give h1) kX9_give ⟨_, _, rfl⟩ ar_0 l_RL_40 rfl rfl rfl rfl rfl rfl ?_
    cases hq
    refine z_i2l 9 dL_give_8 rfl ?_
    refine z_lastore 10 dL_give_9 rfl ar_156 ⟨by decide, by decide⟩ rfl ?_
    refine z_goto 21 dL_give_10 rfl ?_
    refine z_iconst 22 dL_give_21 rfl (by decide) ?_
    exact z_ireturn rfl dL_give_22
  · by_cases he0 : e1 = 0
    · subst he0
      replace hq := z_ip hq rfl
      cases hq
      exact z_callVHX (as := [zi v1, zi v2]) (S := [zi 0, zr 156]) (kc := 0) (ks := 0) dL_give_5 (Q_qT_give h1) kX9_give ⟨_, _, rfl⟩ ar_0 l_RL_40 rfl rfl rfl rfl rfl rfl hL_give_0 (Or.inl ⟨_, dL_give_13, by decide, rfl⟩) dL_give_15 (by decide) dL_give_16 rfl
    · replace hq := z_in hq he0
      by_cases he1 : e1 = 2
      · subst he1
        replace hq := z_ip hq rfl
        cases hq
        exact z_callVHX (as := [zi v1, zi v2]) (S := [zi 0, zr 156]) (kc := 0) (ks := 0) dL_give_5 (Q_qT_give h1) kX9_give ⟨_, _, rfl⟩ ar_0 l_RL_40 rfl rfl rfl rfl rfl rfl hL_give_1 (Or.inl ⟨_, dL_give_17, by decide, rfl⟩) dL_give_19 (by decide) dL_give_20 rfl
      · replace hq := z_in hq he1
        cases hq
set_option maxRecDepth 100000 in
set_option maxHeartbeats 4000000 in
theorem Q_qL_pass {g : yG} {a : Nat → Nat} {μ : zM} {v1 : Int} {r : Int} {ν : zM} (hq : qL_pass μ v1 = some (r, ν)) : zC g a mL_pass 7 1 6 [zr 0, zi v1, zr 156] μ (.inl (some (zi r))) ν := by
  unfold qL_pass at hq
  refine z_ofH (L := [some (zr 0), some (zi v1), some (zr 156), none]) pl_RL rfl (zc_of rfl) rfl rfl ?_
  refine z_aload_n 1 dL_pass_0 rfl rfl ?_
  refine z_iconst 2 dL_pass_1 rfl (by decide) ?_
  refine z_aload_n 3 dL_pass_2 rfl rfl ?_
  refine z_iload_n 4 dL_pass_3 rfl rfl ?_
  rcases bndT_some hq with ⟨x1, m1, h1, hq⟩ | ⟨e1, m1, h1, hq⟩
  · refine z_callVH1 (as := [zi v1]) (S := [zi 0, zr 156]) (kc := 0) (ks := 0) 7 dL_pass_4 rfl (Q_qT_pass h1) kX9_pass ⟨_, _, rfl⟩ ar_0 l_RL_43 rfl rfl rfl rfl rfl rfl ?_
    cases hq
    refine z_i2l 8 dL_pass_7 rfl ?_
    refine z_lastore 9 dL_pass_8 rfl ar_156 ⟨by decide, by decide⟩ rfl ?_
    refine z_goto 15 dL_pass_9 rfl ?_
    refine z_iconst 16 dL_pass_15 rfl (by decide) ?_
    exact z_ireturn rfl dL_pass_16
  · by_cases he0 : e1 = 2
    · subst he0
      replace hq := z_ip hq rfl
      cases hq
      exact z_callVHX (as := [zi v1]) (S := [zi 0, zr 156]) (kc := 0) (ks := 0) dL_pass_4 (Q_qT_pass h1) kX9_pass ⟨_, _, rfl⟩ ar_0 l_RL_43 rfl rfl rfl rfl rfl rfl hL_pass_0 (Or.inr ⟨_, dL_pass_12, by decide, rfl⟩) dL_pass_13 (by decide) dL_pass_14 rfl
    · replace hq := z_in hq he0
      cases hq
set_option maxRecDepth 100000 in
set_option maxHeartbeats 4000000 in
theorem Q_qL_floorOf {g : yG} {a : Nat → Nat} {μ : zM} {v1 : Int} {r : Int} {ν : zM} (hq : qL_floorOf μ v1 = some (r, ν)) : zC g a mL_floorOf 3 1 6 [zr 0, zi v1, zr 156] μ (.inl (some (zi r))) ν := by
  unfold qL_floorOf at hq
  refine z_ofH (L := [some (zr 0), some (zi v1), some (zr 156), none]) pl_RL rfl (zc_of rfl) rfl rfl ?_
  refine z_aload_n 1 dL_floorOf_0 rfl rfl ?_
  refine z_iconst 2 dL_floorOf_1 rfl (by decide) ?_
  refine z_aload_n 3 dL_floorOf_2 rfl rfl ?_
  refine z_iload_n 4 dL_floorOf_3 rfl rfl ?_
  rcases bndT_some hq with ⟨x1, m1, h1, hq⟩ | ⟨e1, m1, h1, hq⟩
  · refine z_callVH1 (as := [zi v1]) (S := [zi 0, zr 156]) (kc := 0) (ks := 0) 7 dL_floorOf_4 rfl (Q_qT_floorOf h1) kX9_floorOf ⟨_, _, rfl⟩ ar_0 l_RL_46 rfl rfl rfl rfl rfl rfl ?_
    cases hq
    refine z_i2l 8 dL_floorOf_7 rfl ?_
    refine z_lastore 9 dL_floorOf_8 rfl ar_156 ⟨by decide, by decide⟩ rfl ?_
    refine z_goto 15 dL_floorOf_9 rfl ?_
    refine z_iconst 16 dL_floorOf_15 rfl (by decide) ?_
    exact z_ireturn rfl dL_floorOf_16
  · by_cases he0 : e1 = 1
    · subst he0
      replace hq := z_ip hq rfl
      cases hq
      exact z_callVHX (as := [zi v1]) (S := [zi 0, zr 156]) (kc := 0) (ks := 0) dL_floorOf_4 (Q_qT_floorOf h1) kX9_floorOf ⟨_, _, rfl⟩ ar_0 l_RL_46 rfl rfl rfl rfl rfl rfl hL_floorOf_0 (Or.inr ⟨_, dL_floorOf_12, by decide, rfl⟩) dL_floorOf_13 (by decide) dL_floorOf_14 rfl
    · replace hq := z_in hq he0
      cases hq
set_option maxRecDepth 100000 in
set_option maxHeartbeats 4000000 in
theorem Q_qL_rentOf {g : yG} {a : Nat → Nat} {μ : zM} {v1 : Int} {r : Int} {ν : zM} (hq : qL_rentOf μ v1 = some (r, ν)) : zC g a mL_rentOf 3 1 6 [zr 0, zi v1, zr 156] μ (.inl (some (zi r))) ν := by
  unfold qL_rentOf at hq
  refine z_ofH (L := [some (zr 0), some (zi v1), some (zr 156), none]) pl_RL rfl (zc_of rfl) rfl rfl ?_
  refine z_aload_n 1 dL_rentOf_0 rfl rfl ?_
  refine z_iconst 2 dL_rentOf_1 rfl (by decide) ?_
  refine z_aload_n 3 dL_rentOf_2 rfl rfl ?_
  refine z_iload_n 4 dL_rentOf_3 rfl rfl ?_
  rcases bndT_some hq with ⟨x1, m1, h1, hq⟩ | ⟨e1, m1, h1, hq⟩
  · refine z_callVH1 (as := [zi v1]) (S := [zi 0, zr 156]) (kc := 0) (ks := 0) 7 dL_rentOf_4 rfl (Q_qT_rentOf h1) kX9_rentOf ⟨_, _, rfl⟩ ar_0 l_RL_49 rfl rfl rfl rfl rfl rfl ?_
    cases hq
    refine z_i2l 8 dL_rentOf_7 rfl ?_
    refine z_lastore 9 dL_rentOf_8 rfl ar_156 ⟨by decide, by decide⟩ rfl ?_
    refine z_goto 15 dL_rentOf_9 rfl ?_
    refine z_iconst 16 dL_rentOf_15 rfl (by decide) ?_
    exact z_ireturn rfl dL_rentOf_16
  · by_cases he0 : e1 = 1
    · subst he0
      replace hq := z_ip hq rfl
      cases hq
      exact z_callVHX (as := [zi v1]) (S := [zi 0, zr 156]) (kc := 0) (ks := 0) dL_rentOf_4 (Q_qT_rentOf h1) kX9_rentOf ⟨_, _, rfl⟩ ar_0 l_RL_49 rfl rfl rfl rfl rfl rfl hL_rentOf_0 (Or.inr ⟨_, dL_rentOf_12, by decide, rfl⟩) dL_rentOf_13 (by decide) dL_rentOf_14 rfl
    · replace hq := z_in hq he0
      cases hq
set_option maxRecDepth 100000 in
set_option maxHeartbeats 4000000 in
theorem Q_qL_tenantIn {g : yG} {a : Nat → Nat} {μ : zM} {v1 : Int} {r : Int} {ν : zM} (hq : qL_tenantIn μ v1 = some (r, ν)) : zC g a mL_tenantIn 3 2 12 [zr 0, zi v1, zr 156] μ (.inl (some (zi r))) ν := by
  unfold qL_tenantIn at hq
  refine z_ofH (L := [some (zr 0), some (zi v1), some (zr 156), none]) pl_RL rfl (zc_of rfl) rfl rfl ?_
  refine z_aload_n 1 dL_tenantIn_0 rfl rfl ?_
  refine z_iconst 2 dL_tenantIn_1 rfl (by decide) ?_
  refine z_aload_n 3 dL_tenantIn_2 rfl rfl ?_
  refine z_iload_n 4 dL_tenantIn_3 rfl rfl ?_
  rcases bndT_some hq with ⟨x1, m1, h1, hq⟩ | ⟨e1, m1, h1, hq⟩
  · refine z_callVH1 (as := [zi v1]) (S := [zi 0, zr 156]) (kc := 0) (ks := 0) 7 dL_tenantIn_4 rfl (Q_qT_tenantIn h1) kX9_tenantIn ⟨_, _, rfl⟩ ar_0 l_RL_52 rfl rfl rfl rfl rfl rfl ?_
    cases hq
    refine z_i2l 8 dL_tenantIn_7 rfl ?_
    refine z_lastore 9 dL_tenantIn_8 rfl ar_156 ⟨by decide, by decide⟩ rfl ?_
    refine z_goto 18 dL_tenantIn_9 rfl ?_
    refine z_iconst 19 dL_tenantIn_18 rfl (by decide) ?_
    exact z_ireturn rfl dL_tenantIn_19
  · by_cases he0 : e1 = 1
    · subst he0
      replace hq := z_ip hq rfl
      cases hq
      exact z_callVHX (as := [zi v1]) (S := [zi 0, zr 156]) (kc := 0) (ks := 0) dL_tenantIn_4 (Q_qT_tenantIn h1) kX9_tenantIn ⟨_, _, rfl⟩ ar_0 l_RL_52 rfl rfl rfl rfl rfl rfl hL_tenantIn_0 (Or.inr ⟨_, dL_tenantIn_12, by decide, rfl⟩) dL_tenantIn_13 (by decide) dL_tenantIn_14 rfl
    · replace hq := z_in hq he0
      by_cases he1 : e1 = 0
      · subst he1
        replace hq := z_ip hq rfl
        cases hq
        exact z_callVHX (as := [zi v1]) (S := [zi 0, zr 156]) (kc := 0) (ks := 0) dL_tenantIn_4 (Q_qT_tenantIn h1) kX9_tenantIn ⟨_, _, rfl⟩ ar_0 l_RL_52 rfl rfl rfl rfl rfl rfl hL_tenantIn_1 (Or.inr ⟨_, dL_tenantIn_15, by decide, rfl⟩) dL_tenantIn_16 (by decide) dL_tenantIn_17 rfl
      · replace hq := z_in hq he1
        cases hq
set_option maxRecDepth 100000 in
set_option maxHeartbeats 4000000 in
theorem Q_qL_weightOf {g : yG} {a : Nat → Nat} {μ : zM} {v1 : Int} {r : Int} {ν : zM} (hq : qL_weightOf μ v1 = some (r, ν)) : zC g a mL_weightOf 3 1 6 [zr 0, zi v1, zr 156] μ (.inl (some (zi r))) ν := by
  unfold qL_weightOf at hq
  refine z_ofH (L := [some (zr 0), some (zi v1), some (zr 156), none]) pl_RL rfl (zc_of rfl) rfl rfl ?_
  refine z_aload_n 1 dL_weightOf_0 rfl rfl ?_
  refine z_iconst 2 dL_weightOf_1 rfl (by decide) ?_
  refine z_aload_n 3 dL_weightOf_2 rfl rfl ?_
  refine z_iload_n 4 dL_weightOf_3 rfl rfl ?_
  rcases bndT_some hq with ⟨x1, m1, h1, hq⟩ | ⟨e1, m1, h1, hq⟩
  · refine z_callVH1 (as := [zi v1]) (S := [zi 0, zr 156]) (kc := 0) (ks := 0) 7 dL_weightOf_4 rfl (Q_qT_weightOf h1) kX9_weightOf ⟨_, _, rfl⟩ ar_0 l_RL_55 rfl rfl rfl rfl rfl rfl ?_
    cases hq
    refine z_i2l 8 dL_weightOf_7 rfl ?_
    refine z_lastore 9 dL_weightOf_8 rfl ar_156 ⟨by decide, by decide⟩ rfl ?_
    refine z_goto 15 dL_weightOf_9 rfl ?_
    refine z_iconst 16 dL_weightOf_15 rfl (by decide) ?_
    exact z_ireturn rfl dL_weightOf_16
  · by_cases he0 : e1 = 0
    · subst he0
      replace hq := z_ip hq rfl
      cases hq
      exact z_callVHX (as := [zi v1]) (S := [zi 0, zr 156]) (kc := 0) (ks := 0) dL_weightOf_4 (Q_qT_weightOf h1) kX9_weightOf ⟨_, _, rfl⟩ ar_0 l_RL_55 rfl rfl rfl rfl rfl rfl hL_weightOf_0 (Or.inr ⟨_, dL_weightOf_12, by decide, rfl⟩) dL_weightOf_13 (by decide) dL_weightOf_14 rfl
    · replace hq := z_in hq he0
      cases hq
set_option maxRecDepth 100000 in
set_option maxHeartbeats 4000000 in
theorem Q_qL_purseOf {g : yG} {a : Nat → Nat} {μ : zM} {v1 : Int} {r : Int} {ν : zM} (hq : qL_purseOf μ v1 = some (r, ν)) : zC g a mL_purseOf 3 1 6 [zr 0, zi v1, zr 156] μ (.inl (some (zi r))) ν := by
  unfold qL_purseOf at hq
  refine z_ofH (L := [some (zr 0), some (zi v1), some (zr 156), none]) pl_RL rfl (zc_of rfl) rfl rfl ?_
  refine z_aload_n 1 dL_purseOf_0 rfl rfl ?_
  refine z_iconst 2 dL_purseOf_1 rfl (by decide) ?_
  refine z_aload_n 3 dL_purseOf_2 rfl rfl ?_
  refine z_iload_n 4 dL_purseOf_3 rfl rfl ?_
  rcases bndT_some hq with ⟨x1, m1, h1, hq⟩ | ⟨e1, m1, h1, hq⟩
  · refine z_callVH1 (as := [zi v1]) (S := [zi 0, zr 156]) (kc := 0) (ks := 0) 7 dL_purseOf_4 rfl (Q_qT_purseOf h1) kX9_purseOf ⟨_, _, rfl⟩ ar_0 l_RL_58 rfl rfl rfl rfl rfl rfl ?_
    cases hq
    refine z_i2l 8 dL_purseOf_7 rfl ?_
    refine z_lastore 9 dL_purseOf_8 rfl ar_156 ⟨by decide, by decide⟩ rfl ?_
    refine z_goto 15 dL_purseOf_9 rfl ?_
    refine z_iconst 16 dL_purseOf_15 rfl (by decide) ?_
    exact z_ireturn rfl dL_purseOf_16
  · by_cases he0 : e1 = 0
    · subst he0
      replace hq := z_ip hq rfl
      cases hq
      exact z_callVHX (as := [zi v1]) (S := [zi 0, zr 156]) (kc := 0) (ks := 0) dL_purseOf_4 (Q_qT_purseOf h1) kX9_purseOf ⟨_, _, rfl⟩ ar_0 l_RL_58 rfl rfl rfl rfl rfl rfl hL_purseOf_0 (Or.inr ⟨_, dL_purseOf_12, by decide, rfl⟩) dL_purseOf_13 (by decide) dL_purseOf_14 rfl
    · replace hq := z_in hq he0
      cases hq
set_option maxRecDepth 100000 in
set_option maxHeartbeats 4000000 in
theorem Q_qL_noticesOf {g : yG} {a : Nat → Nat} {μ : zM} {v1 : Int} {r : Int} {ν : zM} (hq : qL_noticesOf μ v1 = some (r, ν)) : zC g a mL_noticesOf 3 1 6 [zr 0, zi v1, zr 156] μ (.inl (some (zi r))) ν := by
  unfold qL_noticesOf at hq
  refine z_ofH (L := [some (zr 0), some (zi v1), some (zr 156), none]) pl_RL rfl (zc_of rfl) rfl rfl ?_
  refine z_aload_n 1 dL_noticesOf_0 rfl rfl ?_
  refine z_iconst 2 dL_noticesOf_1 rfl (by decide) ?_
  refine z_aload_n 3 dL_noticesOf_2 rfl rfl ?_
  refine z_iload_n 4 dL_noticesOf_3 rfl rfl ?_
  rcases bndT_some hq with ⟨x1, m1, h1, hq⟩ | ⟨e1, m1, h1, hq⟩
  · refine z_callVH1 (as := [zi v1]) (S := [zi 0, zr 156]) (kc := 0) (ks := 0) 7 dL_noticesOf_4 rfl (Q_qT_noticesOf h1) kX9_noticesOf ⟨_, _, rfl⟩ ar_0 l_RL_61 rfl rfl rfl rfl rfl rfl ?_
    cases hq
    refine z_i2l 8 dL_noticesOf_7 rfl ?_
    refine z_lastore 9 dL_noticesOf_8 rfl ar_156 ⟨by decide, by decide⟩ rfl ?_
    refine z_goto 15 dL_noticesOf_9 rfl ?_
    refine z_iconst 16 dL_noticesOf_15 rfl (by decide) ?_
    exact z_ireturn rfl dL_noticesOf_16
  · by_cases he0 : e1 = 0
    · subst he0
      replace hq := z_ip hq rfl
      cases hq
      exact z_callVHX (as := [zi v1]) (S := [zi 0, zr 156]) (kc := 0) (ks := 0) dL_noticesOf_4 (Q_qT_noticesOf h1) kX9_noticesOf ⟨_, _, rfl⟩ ar_0 l_RL_61 rfl rfl rfl rfl rfl rfl hL_noticesOf_0 (Or.inr ⟨_, dL_noticesOf_12, by decide, rfl⟩) dL_noticesOf_13 (by decide) dL_noticesOf_14 rfl
    · replace hq := z_in hq he0
      cases hq
set_option maxRecDepth 100000 in
set_option maxHeartbeats 4000000 in
theorem Q_qL_flatOf {g : yG} {a : Nat → Nat} {μ : zM} {v1 : Int} {r : Int} {ν : zM} (hq : qL_flatOf μ v1 = some (r, ν)) : zC g a mL_flatOf 4 2 12 [zr 0, zi v1, zr 156] μ (.inl (some (zi r))) ν := by
  unfold qL_flatOf at hq
  refine z_ofH (L := [some (zr 0), some (zi v1), some (zr 156), none]) pl_RL rfl (zc_of rfl) rfl rfl ?_
  refine z_aload_n 1 dL_flatOf_0 rfl rfl ?_
  refine z_iconst 2 dL_flatOf_1 rfl (by decide) ?_
  refine z_aload_n 3 dL_flatOf_2 rfl rfl ?_
  refine z_iload_n 4 dL_flatOf_3 rfl rfl ?_
  rcases bndT_some hq with ⟨x1, m1, h1, hq⟩ | ⟨e1, m1, h1, hq⟩
  · refine z_callVH1 (as := [zi v1]) (S := [zi 0, zr 156]) (kc := 0) (ks := 0) 7 dL_flatOf_4 rfl (Q_qT_flatOf h1) kX9_flatOf ⟨_, _, rfl⟩ ar_0 l_RL_64 rfl rfl rfl rfl rfl rfl ?_
    cases hq
    refine z_i2l 8 dL_flatOf_7 rfl ?_
    refine z_lastore 9 dL_flatOf_8 rfl ar_156 ⟨by decide, by decide⟩ rfl ?_
    refine z_goto 15 dL_flatOf_9 rfl ?_
    refine z_iconst 16 dL_flatOf_15 rfl (by decide) ?_
    exact z_ireturn rfl dL_flatOf_16
  · by_cases he0 : e1 = 0
    · subst he0
      replace hq := z_ip hq rfl
      cases hq
      exact z_callVHX (as := [zi v1]) (S := [zi 0, zr 156]) (kc := 0) (ks := 0) dL_flatOf_4 (Q_qT_flatOf h1) kX9_flatOf ⟨_, _, rfl⟩ ar_0 l_RL_64 rfl rfl rfl rfl rfl rfl hL_flatOf_0 (Or.inr ⟨_, dL_flatOf_12, by decide, rfl⟩) dL_flatOf_13 (by decide) dL_flatOf_14 rfl
    · replace hq := z_in hq he0
      cases hq
set_option maxRecDepth 100000 in
set_option maxHeartbeats 4000000 in
theorem Q_qL_burden {g : yG} {a : Nat → Nat} {μ : zM} {v1 : Int} {v2 : Int} {r : Int} {ν : zM} (hq : qL_burden μ v1 v2 = some (r, ν)) : zC g a mL_burden 3 2 12 [zr 0, zi v1, zi v2, zr 156] μ (.inl (some (zi r))) ν := by
  unfold qL_burden at hq
  refine z_ofH (L := [some (zr 0), some (zi v1), some (zi v2), some (zr 156), none]) pl_RL rfl (zc_of rfl) rfl rfl ?_
  refine z_aload_n 1 dL_burden_0 rfl rfl ?_
  refine z_iconst 2 dL_burden_1 rfl (by decide) ?_
  refine z_aload_n 3 dL_burden_2 rfl rfl ?_
  refine z_iload_n 4 dL_burden_3 rfl rfl ?_
  refine z_iload_n 5 dL_burden_4 rfl rfl ?_
  rcases bndT_some hq with ⟨x1, m1, h1, hq⟩ | ⟨e1, m1, h1, hq⟩
  · refine z_callVH1 (as := [zi v1, zi v2]) (S := [zi 0, zr 156]) (kc := 0) (ks := 0) 8 dL_burden_5 rfl (Q_qT_burden h1) kX9_burden ⟨_, _, rfl⟩ ar_0 l_RL_67 rfl rfl rfl rfl rfl rfl ?_
    cases hq
    refine z_i2l 9 dL_burden_8 rfl ?_
    refine z_lastore 10 dL_burden_9 rfl ar_156 ⟨by decide, by decide⟩ rfl ?_
    refine z_goto 21 dL_burden_10 rfl ?_
    refine z_iconst 22 dL_burden_21 rfl (by decide) ?_
    exact z_ireturn rfl dL_burden_22
  · by_cases he0 : e1 = 0
    · subst he0
      replace hq := z_ip hq rfl
      cases hq
      exact z_callVHX (as := [zi v1, zi v2]) (S := [zi 0, zr 156]) (kc := 0) (ks := 0) dL_burden_5 (Q_qT_burden h1) kX9_burden ⟨_, _, rfl⟩ ar_0 l_RL_67 rfl rfl rfl rfl rfl rfl hL_burden_0 (Or.inl ⟨_, dL_burden_13, by decide, rfl⟩) dL_burden_15 (by decide) dL_burden_16 rfl
    · replace hq := z_in hq he0
      by_cases he1 : e1 = 1
      · subst he1
        replace hq := z_ip hq rfl
        cases hq
        exact z_callVHX (as := [zi v1, zi v2]) (S := [zi 0, zr 156]) (kc := 0) (ks := 0) dL_burden_5 (Q_qT_burden h1) kX9_burden ⟨_, _, rfl⟩ ar_0 l_RL_67 rfl rfl rfl rfl rfl rfl hL_burden_1 (Or.inl ⟨_, dL_burden_17, by decide, rfl⟩) dL_burden_19 (by decide) dL_burden_20 rfl
      · replace hq := z_in hq he1
        cases hq
set_option maxRecDepth 100000 in
set_option maxHeartbeats 4000000 in
theorem Q_qL_flatByRank {g : yG} {a : Nat → Nat} {μ : zM} {v1 : Int} {v2 : Int} {r : Int} {ν : zM} (hq : qL_flatByRank μ v1 v2 = some (r, ν)) : zC g a mL_flatByRank 4 2 12 [zr 0, zi v1, zi v2, zr 156] μ (.inl (some (zi r))) ν := by
  unfold qL_flatByRank at hq
  refine z_ofH (L := [some (zr 0), some (zi v1), some (zi v2), some (zr 156), none]) pl_RL rfl (zc_of rfl) rfl rfl ?_
  refine z_aload_n 1 dL_flatByRank_0 rfl rfl ?_
  refine z_iconst 2 dL_flatByRank_1 rfl (by decide) ?_
  refine z_aload_n 3 dL_flatByRank_2 rfl rfl ?_
  refine z_iload_n 4 dL_flatByRank_3 rfl rfl ?_
  refine z_iload_n 5 dL_flatByRank_4 rfl rfl ?_
  rcases bndT_some hq with ⟨x1, m1, h1, hq⟩ | ⟨e1, m1, h1, hq⟩
  · refine z_callVH1 (as := [zi v1, zi v2]) (S := [zi 0, zr 156]) (kc := 0) (ks := 0) 8 dL_flatByRank_5 rfl (Q_qT_flatByRank h1) kX9_flatByRank ⟨_, _, rfl⟩ ar_0 l_RL_70 rfl rfl rfl rfl rfl rfl ?_
    cases hq
    refine z_i2l 9 dL_flatByRank_8 rfl ?_
    refine z_lastore 10 dL_flatByRank_9 rfl ar_156 ⟨by decide, by decide⟩ rfl ?_
    refine z_goto 17 dL_flatByRank_10 rfl ?_
    refine z_iconst 18 dL_flatByRank_17 rfl (by decide) ?_
    exact z_ireturn rfl dL_flatByRank_18
  · by_cases he0 : e1 = 0
    · subst he0
      replace hq := z_ip hq rfl
      cases hq
      exact z_callVHX (as := [zi v1, zi v2]) (S := [zi 0, zr 156]) (kc := 0) (ks := 0) dL_flatByRank_5 (Q_qT_flatByRank h1) kX9_flatByRank ⟨_, _, rfl⟩ ar_0 l_RL_70 rfl rfl rfl rfl rfl rfl hL_flatByRank_0 (Or.inl ⟨_, dL_flatByRank_13, by decide, rfl⟩) dL_flatByRank_15 (by decide) dL_flatByRank_16 rfl
    · replace hq := z_in hq he0
      cases hq
set_option maxRecDepth 100000 in
set_option maxHeartbeats 4000000 in
theorem Q_qL_tenantByPurse {g : yG} {a : Nat → Nat} {μ : zM} {v1 : Int} {r : Int} {ν : zM} (hq : qL_tenantByPurse μ v1 = some (r, ν)) : zC g a mL_tenantByPurse 2 1 6 [zr 0, zi v1, zr 156] μ (.inl (some (zi r))) ν := by
  unfold qL_tenantByPurse at hq
  refine z_ofH (L := [some (zr 0), some (zi v1), some (zr 156), none]) pl_RL rfl (zc_of rfl) rfl rfl ?_
  refine z_aload_n 1 dL_tenantByPurse_0 rfl rfl ?_
  refine z_iconst 2 dL_tenantByPurse_1 rfl (by decide) ?_
  refine z_aload_n 3 dL_tenantByPurse_2 rfl rfl ?_
  refine z_iload_n 4 dL_tenantByPurse_3 rfl rfl ?_
  rcases bndT_some hq with ⟨x1, m1, h1, hq⟩ | ⟨e1, m1, h1, hq⟩
  · refine z_callVH1 (as := [zi v1]) (S := [zi 0, zr 156]) (kc := 0) (ks := 0) 7 dL_tenantByPurse_4 rfl (Q_qT_tenantByPurse h1) kX9_tenantByPurse ⟨_, _, rfl⟩ ar_0 l_RL_73 rfl rfl rfl rfl rfl rfl ?_
    cases hq
    refine z_i2l 8 dL_tenantByPurse_7 rfl ?_
    refine z_lastore 9 dL_tenantByPurse_8 rfl ar_156 ⟨by decide, by decide⟩ rfl ?_
    refine z_goto 15 dL_tenantByPurse_9 rfl ?_
    refine z_iconst 16 dL_tenantByPurse_15 rfl (by decide) ?_
    exact z_ireturn rfl dL_tenantByPurse_16
  · by_cases he0 : e1 = 0
    · subst he0
      replace hq := z_ip hq rfl
      cases hq
      exact z_callVHX (as := [zi v1]) (S := [zi 0, zr 156]) (kc := 0) (ks := 0) dL_tenantByPurse_4 (Q_qT_tenantByPurse h1) kX9_tenantByPurse ⟨_, _, rfl⟩ ar_0 l_RL_73 rfl rfl rfl rfl rfl rfl hL_tenantByPurse_0 (Or.inr ⟨_, dL_tenantByPurse_12, by decide, rfl⟩) dL_tenantByPurse_13 (by decide) dL_tenantByPurse_14 rfl
    · replace hq := z_in hq he0
      cases hq
set_option maxRecDepth 100000 in
set_option maxHeartbeats 4000000 in
theorem Q_qL_creak {g : yG} {a : Nat → Nat} {μ : zM} {v1 : Int} {r : Int} {ν : zM} (hq : qL_creak μ v1 = some (r, ν)) : zC g a mL_creak 3 1 6 [zr 0, zi v1, zr 156] μ (.inl (some (zi r))) ν := by
  unfold qL_creak at hq
  refine z_ofH (L := [some (zr 0), some (zi v1), some (zr 156), none]) pl_RL rfl (zc_of rfl) rfl rfl ?_
  refine z_aload_n 1 dL_creak_0 rfl rfl ?_
  refine z_iconst 2 dL_creak_1 rfl (by decide) ?_
  refine z_aload_n 3 dL_creak_2 rfl rfl ?_
  refine z_iload_n 4 dL_creak_3 rfl rfl ?_
  rcases bndT_some hq with ⟨x1, m1, h1, hq⟩ | ⟨e1, m1, h1, hq⟩
  · refine z_callVH1 (as := [zi v1]) (S := [zi 0, zr 156]) (kc := 0) (ks := 0) 7 dL_creak_4 rfl (Q_qT_creak h1) kX9_creak ⟨_, _, rfl⟩ ar_0 l_RL_76 rfl rfl rfl rfl rfl rfl ?_
    cases hq
    refine z_i2l 8 dL_creak_7 rfl ?_
    refine z_lastore 9 dL_creak_8 rfl ar_156 ⟨by decide, by decide⟩ rfl ?_
    refine z_goto 15 dL_creak_9 rfl ?_
    refine z_iconst 16 dL_creak_15 rfl (by decide) ?_
    exact z_ireturn rfl dL_creak_16
  · by_cases he0 : e1 = 1
    · subst he0
      replace hq := z_ip hq rfl
      cases hq
      exact z_callVHX (as := [zi v1]) (S := [zi 0, zr 156]) (kc := 0) (ks := 0) dL_creak_4 (Q_qT_creak h1) kX9_creak ⟨_, _, rfl⟩ ar_0 l_RL_76 rfl rfl rfl rfl rfl rfl hL_creak_0 (Or.inr ⟨_, dL_creak_12, by decide, rfl⟩) dL_creak_13 (by decide) dL_creak_14 rfl
    · replace hq := z_in hq he0
      cases hq
set_option maxRecDepth 100000 in
set_option maxHeartbeats 4000000 in
theorem Q_qL_possibleFloors {g : yG} {a : Nat → Nat} {μ : zM} {v1 : Int} {r : Int} {ν : zM} (hq : qL_possibleFloors μ v1 = some (r, ν)) : zC g a mL_possibleFloors 23 1 6 [zr 0, zi v1, zr 156] μ (.inl (some (zi r))) ν := by
  unfold qL_possibleFloors at hq
  refine z_ofH (L := [some (zr 0), some (zi v1), some (zr 156), none]) pl_RL rfl (zc_of rfl) rfl rfl ?_
  refine z_aload_n 1 dL_possibleFloors_0 rfl rfl ?_
  refine z_iconst 2 dL_possibleFloors_1 rfl (by decide) ?_
  refine z_aload_n 3 dL_possibleFloors_2 rfl rfl ?_
  refine z_iload_n 4 dL_possibleFloors_3 rfl rfl ?_
  rcases bndT_some hq with ⟨x1, m1, h1, hq⟩ | ⟨e1, m1, h1, hq⟩
  · refine z_callVH1 (as := [zi v1]) (S := [zi 0, zr 156]) (kc := 0) (ks := 0) 7 dL_possibleFloors_4 rfl (Q_qT_possibleFloors h1) kX9_possibleFloors ⟨_, _, rfl⟩ ar_0 l_RL_79 rfl rfl rfl rfl rfl rfl ?_
    cases hq
    refine z_i2l 8 dL_possibleFloors_7 rfl ?_
    refine z_lastore 9 dL_possibleFloors_8 rfl ar_156 ⟨by decide, by decide⟩ rfl ?_
    refine z_goto 15 dL_possibleFloors_9 rfl ?_
    refine z_iconst 16 dL_possibleFloors_15 rfl (by decide) ?_
    exact z_ireturn rfl dL_possibleFloors_16
  · by_cases he0 : e1 = 0
    · subst he0
      replace hq := z_ip hq rfl
      cases hq
      exact z_callVHX (as := [zi v1]) (S := [zi 0, zr 156]) (kc := 0) (ks := 0) dL_possibleFloors_4 (Q_qT_possibleFloors h1) kX9_possibleFloors ⟨_, _, rfl⟩ ar_0 l_RL_79 rfl rfl rfl rfl rfl rfl hL_possibleFloors_0 (Or.inr ⟨_, dL_possibleFloors_12, by decide, rfl⟩) dL_possibleFloors_13 (by decide) dL_possibleFloors_14 rfl
    · replace hq := z_in hq he0
      cases hq
set_option maxRecDepth 100000 in
set_option maxHeartbeats 4000000 in
theorem Q_qL_plannedFlat {g : yG} {a : Nat → Nat} {μ : zM} {v1 : Int} {r : Int} {ν : zM} (hq : qL_plannedFlat μ v1 = some (r, ν)) : zC g a mL_plannedFlat 6 2 12 [zr 0, zi v1, zr 156] μ (.inl (some (zi r))) ν := by
  unfold qL_plannedFlat at hq
  refine z_ofH (L := [some (zr 0), some (zi v1), some (zr 156), none]) pl_RL rfl (zc_of rfl) rfl rfl ?_
  refine z_aload_n 1 dL_plannedFlat_0 rfl rfl ?_
  refine z_iconst 2 dL_plannedFlat_1 rfl (by decide) ?_
  refine z_aload_n 3 dL_plannedFlat_2 rfl rfl ?_
  refine z_iload_n 4 dL_plannedFlat_3 rfl rfl ?_
  rcases bndT_some hq with ⟨x1, m1, h1, hq⟩ | ⟨e1, m1, h1, hq⟩
  · refine z_callVH1 (as := [zi v1]) (S := [zi 0, zr 156]) (kc := 0) (ks := 0) 7 dL_plannedFlat_4 rfl (Q_qT_plannedFlat h1) kX9_plannedFlat ⟨_, _, rfl⟩ ar_0 l_RL_82 rfl rfl rfl rfl rfl rfl ?_
    cases hq
    refine z_i2l 8 dL_plannedFlat_7 rfl ?_
    refine z_lastore 9 dL_plannedFlat_8 rfl ar_156 ⟨by decide, by decide⟩ rfl ?_
    refine z_goto 15 dL_plannedFlat_9 rfl ?_
    refine z_iconst 16 dL_plannedFlat_15 rfl (by decide) ?_
    exact z_ireturn rfl dL_plannedFlat_16
  · by_cases he0 : e1 = 0
    · subst he0
      replace hq := z_ip hq rfl
      cases hq
      exact z_callVHX (as := [zi v1]) (S := [zi 0, zr 156]) (kc := 0) (ks := 0) dL_plannedFlat_4 (Q_qT_plannedFlat h1) kX9_plannedFlat ⟨_, _, rfl⟩ ar_0 l_RL_82 rfl rfl rfl rfl rfl rfl hL_plannedFlat_0 (Or.inr ⟨_, dL_plannedFlat_12, by decide, rfl⟩) dL_plannedFlat_13 (by decide) dL_plannedFlat_14 rfl
    · replace hq := z_in hq he0
      cases hq
set_option maxRecDepth 100000 in
set_option maxHeartbeats 4000000 in
theorem Q_qL_plannedFlatByPlans {g : yG} {a : Nat → Nat} {μ : zM} {v1 : Int} {r : Int} {ν : zM} (hq : qL_plannedFlatByPlans μ v1 = some (r, ν)) : zC g a mL_plannedFlatByPlans 47 2 12 [zr 0, zi v1, zr 156] μ (.inl (some (zi r))) ν := by
  unfold qL_plannedFlatByPlans at hq
  refine z_ofH (L := [some (zr 0), some (zi v1), some (zr 156), none]) pl_RL rfl (zc_of rfl) rfl rfl ?_
  refine z_aload_n 1 dL_plannedFlatByPlans_0 rfl rfl ?_
  refine z_iconst 2 dL_plannedFlatByPlans_1 rfl (by decide) ?_
  refine z_aload_n 3 dL_plannedFlatByPlans_2 rfl rfl ?_
  refine z_iload_n 4 dL_plannedFlatByPlans_3 rfl rfl ?_
  rcases bndT_some hq with ⟨x1, m1, h1, hq⟩ | ⟨e1, m1, h1, hq⟩
  · refine z_callVH1 (as := [zi v1]) (S := [zi 0, zr 156]) (kc := 0) (ks := 0) 7 dL_plannedFlatByPlans_4 rfl (Q_qT_plannedFlatByPlans h1) kX9_plannedFlatByPlans ⟨_, _, rfl⟩ ar_0 l_RL_85 rfl rfl rfl rfl rfl rfl ?_
    cases hq
    refine z_i2l 8 dL_plannedFlatByPlans_7 rfl ?_
    refine z_lastore 9 dL_plannedFlatByPlans_8 rfl ar_156 ⟨by decide, by decide⟩ rfl ?_
    refine z_goto 15 dL_plannedFlatByPlans_9 rfl ?_
    refine z_iconst 16 dL_plannedFlatByPlans_15 rfl (by decide) ?_
    exact z_ireturn rfl dL_plannedFlatByPlans_16
  · by_cases he0 : e1 = 0
    · subst he0
      replace hq := z_ip hq rfl
      cases hq
      exact z_callVHX (as := [zi v1]) (S := [zi 0, zr 156]) (kc := 0) (ks := 0) dL_plannedFlatByPlans_4 (Q_qT_plannedFlatByPlans h1) kX9_plannedFlatByPlans ⟨_, _, rfl⟩ ar_0 l_RL_85 rfl rfl rfl rfl rfl rfl hL_plannedFlatByPlans_0 (Or.inr ⟨_, dL_plannedFlatByPlans_12, by decide, rfl⟩) dL_plannedFlatByPlans_13 (by decide) dL_plannedFlatByPlans_14 rfl
    · replace hq := z_in hq he0
      cases hq
set_option maxRecDepth 100000 in
set_option maxHeartbeats 4000000 in
theorem Q_qL_chainLength {g : yG} {a : Nat → Nat} {μ : zM} {v1 : Int} {r : Int} {ν : zM} (hq : qL_chainLength μ v1 = some (r, ν)) : zC g a mL_chainLength 5 2 12 [zr 0, zi v1, zr 156] μ (.inl (some (zi r))) ν := by
  unfold qL_chainLength at hq
  refine z_ofH (L := [some (zr 0), some (zi v1), some (zr 156), none]) pl_RL rfl (zc_of rfl) rfl rfl ?_
  refine z_aload_n 1 dL_chainLength_0 rfl rfl ?_
  refine z_iconst 2 dL_chainLength_1 rfl (by decide) ?_
  refine z_aload_n 3 dL_chainLength_2 rfl rfl ?_
  refine z_iload_n 4 dL_chainLength_3 rfl rfl ?_
  rcases bndT_some hq with ⟨x1, m1, h1, hq⟩ | ⟨e1, m1, h1, hq⟩
  · refine z_callVH1 (as := [zi v1]) (S := [zi 0, zr 156]) (kc := 0) (ks := 0) 7 dL_chainLength_4 rfl (Q_qT_chainLength h1) kX9_chainLength ⟨_, _, rfl⟩ ar_0 l_RL_88 rfl rfl rfl rfl rfl rfl ?_
    cases hq
    refine z_i2l 8 dL_chainLength_7 rfl ?_
    refine z_lastore 9 dL_chainLength_8 rfl ar_156 ⟨by decide, by decide⟩ rfl ?_
    refine z_goto 15 dL_chainLength_9 rfl ?_
    refine z_iconst 16 dL_chainLength_15 rfl (by decide) ?_
    exact z_ireturn rfl dL_chainLength_16
  · by_cases he0 : e1 = 0
    · subst he0
      replace hq := z_ip hq rfl
      cases hq
      exact z_callVHX (as := [zi v1]) (S := [zi 0, zr 156]) (kc := 0) (ks := 0) dL_chainLength_4 (Q_qT_chainLength h1) kX9_chainLength ⟨_, _, rfl⟩ ar_0 l_RL_88 rfl rfl rfl rfl rfl rfl hL_chainLength_0 (Or.inr ⟨_, dL_chainLength_12, by decide, rfl⟩) dL_chainLength_13 (by decide) dL_chainLength_14 rfl
    · replace hq := z_in hq he0
      cases hq
set_option maxRecDepth 100000 in
set_option maxHeartbeats 4000000 in
theorem Q_qL_monthsUntilEviction {g : yG} {a : Nat → Nat} {μ : zM}  {r : Int} {ν : zM} (hq : qL_monthsUntilEviction μ = some (r, ν)) : zC g a mL_monthsUntilEviction 7 1 6 [zr 0, zr 156] μ (.inl (some (zi r))) ν := by
  unfold qL_monthsUntilEviction at hq
  refine z_ofH (L := [some (zr 0), some (zr 156), none]) pl_RL rfl (zc_of rfl) rfl rfl ?_
  refine z_aload_n 1 dL_monthsUntilEviction_0 rfl rfl ?_
  refine z_iconst 2 dL_monthsUntilEviction_1 rfl (by decide) ?_
  refine z_aload_n 3 dL_monthsUntilEviction_2 rfl rfl ?_
  rcases bndT_some hq with ⟨x1, m1, h1, hq⟩ | ⟨e1, m1, h1, hq⟩
  · refine z_callVH1 (as := []) (S := [zi 0, zr 156]) (kc := 0) (ks := 0) 6 dL_monthsUntilEviction_3 rfl (Q_qT_monthsUntilEviction h1) kX9_monthsUntilEviction ⟨_, _, rfl⟩ ar_0 l_RL_91 rfl rfl rfl rfl rfl rfl ?_
    cases hq
    refine z_i2l 7 dL_monthsUntilEviction_6 rfl ?_
    refine z_lastore 8 dL_monthsUntilEviction_7 rfl ar_156 ⟨by decide, by decide⟩ rfl ?_
    refine z_goto 14 dL_monthsUntilEviction_8 rfl ?_
    refine z_iconst 15 dL_monthsUntilEviction_14 rfl (by decide) ?_
    exact z_ireturn rfl dL_monthsUntilEviction_15
  · by_cases he0 : e1 = 0
    · subst he0
      replace hq := z_ip hq rfl
      cases hq
      exact z_callVHX (as := []) (S := [zi 0, zr 156]) (kc := 0) (ks := 0) dL_monthsUntilEviction_3 (Q_qT_monthsUntilEviction h1) kX9_monthsUntilEviction ⟨_, _, rfl⟩ ar_0 l_RL_91 rfl rfl rfl rfl rfl rfl hL_monthsUntilEviction_0 (Or.inr ⟨_, dL_monthsUntilEviction_11, by decide, rfl⟩) dL_monthsUntilEviction_12 (by decide) dL_monthsUntilEviction_13 rfl
    · replace hq := z_in hq he0
      cases hq
set_option maxRecDepth 100000 in
set_option maxHeartbeats 4000000 in
theorem Q_qL_meanBurden {g : yG} {a : Nat → Nat} {μ : zM}  {r : Int} {ν : zM} (hq : qL_meanBurden μ = some (r, ν)) : zC g a mL_meanBurden 3 1 6 [zr 0, zr 157] μ (.inl (some (zi r))) ν := by
  unfold qL_meanBurden at hq
  refine z_ofH (L := [some (zr 0), some (zr 157), none]) pl_RL rfl (zc_of rfl) rfl rfl ?_
  refine z_aload_n 1 dL_meanBurden_0 rfl rfl ?_
  refine z_iconst 2 dL_meanBurden_1 rfl (by decide) ?_
  refine z_aload_n 3 dL_meanBurden_2 rfl rfl ?_
  rcases bndT_some hq with ⟨x1, m1, h1, hq⟩ | ⟨e1, m1, h1, hq⟩
  · refine z_callVH1 (as := []) (S := [zi 0, zr 157]) (kc := 0) (ks := 0) 6 dL_meanBurden_3 rfl (Q_qT_meanBurden h1) kX9_meanBurden ⟨_, _, rfl⟩ ar_0 l_RL_95 rfl rfl rfl rfl rfl rfl ?_
    cases hq
    refine z_dastore 7 dL_meanBurden_6 rfl ar_157 ⟨by decide, by decide⟩ rfl ?_
    refine z_goto 13 dL_meanBurden_7 rfl ?_
    refine z_iconst 14 dL_meanBurden_13 rfl (by decide) ?_
    exact z_ireturn rfl dL_meanBurden_14
  · by_cases he0 : e1 = 5
    · subst he0
      replace hq := z_ip hq rfl
      cases hq
      exact z_callVHX (as := []) (S := [zi 0, zr 157]) (kc := 0) (ks := 0) dL_meanBurden_3 (Q_qT_meanBurden h1) kX9_meanBurden ⟨_, _, rfl⟩ ar_0 l_RL_95 rfl rfl rfl rfl rfl rfl hL_meanBurden_0 (Or.inr ⟨_, dL_meanBurden_10, by decide, rfl⟩) dL_meanBurden_11 (by decide) dL_meanBurden_12 rfl
    · replace hq := z_in hq he0
      cases hq
set_option maxRecDepth 100000 in
set_option maxHeartbeats 4000000 in
theorem Q_qL_occupancy {g : yG} {a : Nat → Nat} {μ : zM}  {r : Int} {ν : zM} (hq : qL_occupancy μ = some (r, ν)) : zC g a mL_occupancy 2 1 6 [zr 0, zr 157] μ (.inl (some (zi r))) ν := by
  unfold qL_occupancy at hq
  refine z_ofH (L := [some (zr 0), some (zr 157), none]) pl_RL rfl (zc_of rfl) rfl rfl ?_
  refine z_aload_n 1 dL_occupancy_0 rfl rfl ?_
  refine z_iconst 2 dL_occupancy_1 rfl (by decide) ?_
  refine z_aload_n 3 dL_occupancy_2 rfl rfl ?_
  rcases bndT_some hq with ⟨x1, m1, h1, hq⟩ | ⟨e1, m1, h1, hq⟩
  · refine z_callVH1 (as := []) (S := [zi 0, zr 157]) (kc := 0) (ks := 0) 6 dL_occupancy_3 rfl (Q_qT_occupancy h1) kX9_occupancy ⟨_, _, rfl⟩ ar_0 l_RL_101 rfl rfl rfl rfl rfl rfl ?_
    obtain ⟨hg, hq⟩ := z_g hq
    cases hq
    refine z_f2d 7 dL_occupancy_6 rfl hg ?_
    refine z_dastore 8 dL_occupancy_7 rfl ar_157 ⟨by decide, by decide⟩ rfl ?_
    refine z_goto 14 dL_occupancy_8 rfl ?_
    refine z_iconst 15 dL_occupancy_14 rfl (by decide) ?_
    exact z_ireturn rfl dL_occupancy_15
  · by_cases he0 : e1 = 5
    · subst he0
      replace hq := z_ip hq rfl
      cases hq
      exact z_callVHX (as := []) (S := [zi 0, zr 157]) (kc := 0) (ks := 0) dL_occupancy_3 (Q_qT_occupancy h1) kX9_occupancy ⟨_, _, rfl⟩ ar_0 l_RL_101 rfl rfl rfl rfl rfl rfl hL_occupancy_0 (Or.inr ⟨_, dL_occupancy_11, by decide, rfl⟩) dL_occupancy_12 (by decide) dL_occupancy_13 rfl
    · replace hq := z_in hq he0
      cases hq
set_option maxRecDepth 100000 in
set_option maxHeartbeats 4000000 in
theorem Q_qL_writeFloor {g : yG} {a : Nat → Nat} {μ : zM} {v1 : Int} {r : Int} {ν : zM} (hq : qL_writeFloor μ v1 = some (r, ν)) : zC g a mL_writeFloor 4 1 6 [zr 0, zi v1, zr 156] μ (.inl (some (zi r))) ν := by
  unfold qL_writeFloor at hq
  refine z_ofH (L := [some (zr 0), some (zi v1), some (zr 156), none]) pl_RL rfl (zc_of rfl) rfl rfl ?_
  refine z_aload_n 1 dL_writeFloor_0 rfl rfl ?_
  refine z_iconst 2 dL_writeFloor_1 rfl (by decide) ?_
  refine z_aload_n 3 dL_writeFloor_2 rfl rfl ?_
  refine z_iload_n 4 dL_writeFloor_3 rfl rfl ?_
  rcases bndT_some hq with ⟨x1, m1, h1, hq⟩ | ⟨e1, m1, h1, hq⟩
  · refine z_callVH1 (as := [zi v1]) (S := [zi 0, zr 156]) (kc := 0) (ks := 0) 7 dL_writeFloor_4 rfl (Q_qT_writeFloor h1) kX9_writeFloor ⟨_, _, rfl⟩ ar_0 l_RL_105 rfl rfl rfl rfl rfl rfl ?_
    cases hq
    refine z_i2l 8 dL_writeFloor_7 rfl ?_
    refine z_lastore 9 dL_writeFloor_8 rfl ar_156 ⟨by decide, by decide⟩ rfl ?_
    refine z_goto 15 dL_writeFloor_9 rfl ?_
    refine z_iconst 16 dL_writeFloor_15 rfl (by decide) ?_
    exact z_ireturn rfl dL_writeFloor_16
  · by_cases he0 : e1 = 1
    · subst he0
      replace hq := z_ip hq rfl
      cases hq
      exact z_callVHX (as := [zi v1]) (S := [zi 0, zr 156]) (kc := 0) (ks := 0) dL_writeFloor_4 (Q_qT_writeFloor h1) kX9_writeFloor ⟨_, _, rfl⟩ ar_0 l_RL_105 rfl rfl rfl rfl rfl rfl hL_writeFloor_0 (Or.inr ⟨_, dL_writeFloor_12, by decide, rfl⟩) dL_writeFloor_13 (by decide) dL_writeFloor_14 rfl
    · replace hq := z_in hq he0
      cases hq
set_option maxRecDepth 100000 in
set_option maxHeartbeats 4000000 in
theorem Q_qL_charAt {g : yG} {a : Nat → Nat} {μ : zM} {v1 : Int} {r : Int} {ν : zM} (hq : qL_charAt μ v1 = some (r, ν)) : zC g a mL_charAt 1 1 6 [zr 0, zi v1, zr 156] μ (.inl (some (zi r))) ν := by
  unfold qL_charAt at hq
  refine z_ofH (L := [some (zr 0), some (zi v1), some (zr 156), none]) pl_RL rfl (zc_of rfl) rfl rfl ?_
  refine z_aload_n 1 dL_charAt_0 rfl rfl ?_
  refine z_iconst 2 dL_charAt_1 rfl (by decide) ?_
  refine z_aload_n 3 dL_charAt_2 rfl rfl ?_
  refine z_iload_n 4 dL_charAt_3 rfl rfl ?_
  rcases bndT_some hq with ⟨x1, m1, h1, hq⟩ | ⟨e1, m1, h1, hq⟩
  · refine z_callVH1 (as := [zi v1]) (S := [zi 0, zr 156]) (kc := 0) (ks := 0) 7 dL_charAt_4 rfl (Q_qT_charAt h1) kX9_charAt ⟨_, _, rfl⟩ ar_0 l_RL_108 rfl rfl rfl rfl rfl rfl ?_
    cases hq
    refine z_i2l 8 dL_charAt_7 rfl ?_
    refine z_lastore 9 dL_charAt_8 rfl ar_156 ⟨by decide, by decide⟩ rfl ?_
    refine z_goto 15 dL_charAt_9 rfl ?_
    refine z_iconst 16 dL_charAt_15 rfl (by decide) ?_
    exact z_ireturn rfl dL_charAt_16
  · by_cases he0 : e1 = 1
    · subst he0
      replace hq := z_ip hq rfl
      cases hq
      exact z_callVHX (as := [zi v1]) (S := [zi 0, zr 156]) (kc := 0) (ks := 0) dL_charAt_4 (Q_qT_charAt h1) kX9_charAt ⟨_, _, rfl⟩ ar_0 l_RL_108 rfl rfl rfl rfl rfl rfl hL_charAt_0 (Or.inr ⟨_, dL_charAt_12, by decide, rfl⟩) dL_charAt_13 (by decide) dL_charAt_14 rfl
    · replace hq := z_in hq he0
      cases hq
set_option maxRecDepth 100000 in
set_option maxHeartbeats 4000000 in
theorem Q_qL_type {g : yG} {a : Nat → Nat} {μ : zM} {v1 : Int} {r : Int} {ν : zM} (hq : qL_type μ v1 = some (r, ν)) : zC g a mL_type 2 1 6 [zr 0, zi v1, zr 156] μ (.inl (some (zi r))) ν := by
  unfold qL_type at hq
  refine z_ofH (L := [some (zr 0), some (zi v1), some (zr 156), none]) pl_RL rfl (zc_of rfl) rfl rfl ?_
  refine z_aload_n 1 dL_type_0 rfl rfl ?_
  refine z_iconst 2 dL_type_1 rfl (by decide) ?_
  refine z_aload_n 3 dL_type_2 rfl rfl ?_
  refine z_iload_n 4 dL_type_3 rfl rfl ?_
  rcases bndT_some hq with ⟨x1, m1, h1, hq⟩ | ⟨e1, m1, h1, hq⟩
  · refine z_callVH1 (as := [zi v1]) (S := [zi 0, zr 156]) (kc := 0) (ks := 0) 7 dL_type_4 rfl (Q_qT_type h1) kX9_type ⟨_, _, rfl⟩ ar_0 l_RL_112 rfl rfl rfl rfl rfl rfl ?_
    cases hq
    refine z_i2l 8 dL_type_7 rfl ?_
    refine z_lastore 9 dL_type_8 rfl ar_156 ⟨by decide, by decide⟩ rfl ?_
    refine z_goto 15 dL_type_9 rfl ?_
    refine z_iconst 16 dL_type_15 rfl (by decide) ?_
    exact z_ireturn rfl dL_type_16
  · by_cases he0 : e1 = 3
    · subst he0
      replace hq := z_ip hq rfl
      cases hq
      exact z_callVHX (as := [zi v1]) (S := [zi 0, zr 156]) (kc := 0) (ks := 0) dL_type_4 (Q_qT_type h1) kX9_type ⟨_, _, rfl⟩ ar_0 l_RL_112 rfl rfl rfl rfl rfl rfl hL_type_0 (Or.inr ⟨_, dL_type_12, by decide, rfl⟩) dL_type_13 (by decide) dL_type_14 rfl
    · replace hq := z_in hq he0
      cases hq
set_option maxRecDepth 100000 in
set_option maxHeartbeats 4000000 in
theorem Q_qL_run {g : yG} {a : Nat → Nat} {μ : zM}  {r : Int} {ν : zM} (hq : qL_run μ = some (r, ν)) : zC g a mL_run 8 1 6 [zr 0, zr 156] μ (.inl (some (zi r))) ν := by
  unfold qL_run at hq
  refine z_ofH (L := [some (zr 0), some (zr 156), none]) pl_RL rfl (zc_of rfl) rfl rfl ?_
  refine z_aload_n 1 dL_run_0 rfl rfl ?_
  refine z_iconst 2 dL_run_1 rfl (by decide) ?_
  refine z_aload_n 3 dL_run_2 rfl rfl ?_
  rcases bndT_some hq with ⟨x1, m1, h1, hq⟩ | ⟨e1, m1, h1, hq⟩
  · refine z_callVH1 (as := []) (S := [zi 0, zr 156]) (kc := 0) (ks := 0) 6 dL_run_3 rfl (Q_qT_run h1) kX9_run ⟨_, _, rfl⟩ ar_0 l_RL_116 rfl rfl rfl rfl rfl rfl ?_
    cases hq
    refine z_i2l 7 dL_run_6 rfl ?_
    refine z_lastore 8 dL_run_7 rfl ar_156 ⟨by decide, by decide⟩ rfl ?_
    refine z_goto 17 dL_run_8 rfl ?_
    refine z_iconst 18 dL_run_17 rfl (by decide) ?_
    exact z_ireturn rfl dL_run_18
  · by_cases he0 : e1 = 2
    · subst he0
      replace hq := z_ip hq rfl
      cases hq
      exact z_callVHX (as := []) (S := [zi 0, zr 156]) (kc := 0) (ks := 0) dL_run_3 (Q_qT_run h1) kX9_run ⟨_, _, rfl⟩ ar_0 l_RL_116 rfl rfl rfl rfl rfl rfl hL_run_0 (Or.inr ⟨_, dL_run_11, by decide, rfl⟩) dL_run_12 (by decide) dL_run_13 rfl
    · replace hq := z_in hq he0
      by_cases he1 : e1 = 4
      · subst he1
        replace hq := z_ip hq rfl
        cases hq
        exact z_callVHX (as := []) (S := [zi 0, zr 156]) (kc := 0) (ks := 0) dL_run_3 (Q_qT_run h1) kX9_run ⟨_, _, rfl⟩ ar_0 l_RL_116 rfl rfl rfl rfl rfl rfl hL_run_1 (Or.inr ⟨_, dL_run_14, by decide, rfl⟩) dL_run_15 (by decide) dL_run_16 rfl
      · replace hq := z_in hq he1
        cases hq
set_option maxRecDepth 100000 in
set_option maxHeartbeats 4000000 in
theorem Q_qL_errorPosition {g : yG} {a : Nat → Nat} {μ : zM}  {r : Int} {ν : zM} (hq : qL_errorPosition μ = some (r, ν)) : zC g a mL_errorPosition 1 1 6 [zr 0, zr 156] μ (.inl (some (zi r))) ν := by
  unfold qL_errorPosition at hq
  refine z_ofH (L := [some (zr 0), some (zr 156), none]) pl_RL rfl (zc_of rfl) rfl rfl ?_
  refine z_aload_n 1 dL_errorPosition_0 rfl rfl ?_
  refine z_iconst 2 dL_errorPosition_1 rfl (by decide) ?_
  refine z_aload_n 3 dL_errorPosition_2 rfl rfl ?_
  rcases bndT_some hq with ⟨x1, m1, h1, hq⟩ | ⟨e1, m1, h1, hq⟩
  · refine z_callVH1 (as := []) (S := [zi 0, zr 156]) (kc := 0) (ks := 0) 6 dL_errorPosition_3 rfl (Q_qT_errorPosition h1) kX9_errorPosition ⟨_, _, rfl⟩ ar_0 l_RL_119 rfl rfl rfl rfl rfl rfl ?_
    cases hq
    refine z_i2l 7 dL_errorPosition_6 rfl ?_
    refine z_lastore 8 dL_errorPosition_7 rfl ar_156 ⟨by decide, by decide⟩ rfl ?_
    refine z_goto 14 dL_errorPosition_8 rfl ?_
    refine z_iconst 15 dL_errorPosition_14 rfl (by decide) ?_
    exact z_ireturn rfl dL_errorPosition_15
  · by_cases he0 : e1 = 0
    · subst he0
      replace hq := z_ip hq rfl
      cases hq
      exact z_callVHX (as := []) (S := [zi 0, zr 156]) (kc := 0) (ks := 0) dL_errorPosition_3 (Q_qT_errorPosition h1) kX9_errorPosition ⟨_, _, rfl⟩ ar_0 l_RL_119 rfl rfl rfl rfl rfl rfl hL_errorPosition_0 (Or.inr ⟨_, dL_errorPosition_11, by decide, rfl⟩) dL_errorPosition_12 (by decide) dL_errorPosition_13 rfl
    · replace hq := z_in hq he0
      cases hq
set_option maxRecDepth 100000 in
set_option maxHeartbeats 4000000 in
theorem Q_qL_failedCommand {g : yG} {a : Nat → Nat} {μ : zM}  {r : Int} {ν : zM} (hq : qL_failedCommand μ = some (r, ν)) : zC g a mL_failedCommand 1 1 6 [zr 0, zr 156] μ (.inl (some (zi r))) ν := by
  unfold qL_failedCommand at hq
  refine z_ofH (L := [some (zr 0), some (zr 156), none]) pl_RL rfl (zc_of rfl) rfl rfl ?_
  refine z_aload_n 1 dL_failedCommand_0 rfl rfl ?_
  refine z_iconst 2 dL_failedCommand_1 rfl (by decide) ?_
  refine z_aload_n 3 dL_failedCommand_2 rfl rfl ?_
  rcases bndT_some hq with ⟨x1, m1, h1, hq⟩ | ⟨e1, m1, h1, hq⟩
  · refine z_callVH1 (as := []) (S := [zi 0, zr 156]) (kc := 0) (ks := 0) 6 dL_failedCommand_3 rfl (Q_qT_failedCommand h1) kX9_failedCommand ⟨_, _, rfl⟩ ar_0 l_RL_122 rfl rfl rfl rfl rfl rfl ?_
    cases hq
    refine z_i2l 7 dL_failedCommand_6 rfl ?_
    refine z_lastore 8 dL_failedCommand_7 rfl ar_156 ⟨by decide, by decide⟩ rfl ?_
    refine z_goto 14 dL_failedCommand_8 rfl ?_
    refine z_iconst 15 dL_failedCommand_14 rfl (by decide) ?_
    exact z_ireturn rfl dL_failedCommand_15
  · by_cases he0 : e1 = 0
    · subst he0
      replace hq := z_ip hq rfl
      cases hq
      exact z_callVHX (as := []) (S := [zi 0, zr 156]) (kc := 0) (ks := 0) dL_failedCommand_3 (Q_qT_failedCommand h1) kX9_failedCommand ⟨_, _, rfl⟩ ar_0 l_RL_122 rfl rfl rfl rfl rfl rfl hL_failedCommand_0 (Or.inr ⟨_, dL_failedCommand_11, by decide, rfl⟩) dL_failedCommand_12 (by decide) dL_failedCommand_13 rfl
    · replace hq := z_in hq he0
      cases hq
set_option maxRecDepth 100000 in
set_option maxHeartbeats 4000000 in
theorem Q_qL_undo {g : yG} {a : Nat → Nat} {μ : zM}  {r : Int} {ν : zM} (hq : qL_undo μ = some (r, ν)) : zC g a mL_undo 4 1 6 [zr 0, zr 156] μ (.inl (some (zi r))) ν := by
  unfold qL_undo at hq
  refine z_ofH (L := [some (zr 0), some (zr 156), none]) pl_RL rfl (zc_of rfl) rfl rfl ?_
  refine z_aload_n 1 dL_undo_0 rfl rfl ?_
  refine z_iconst 2 dL_undo_1 rfl (by decide) ?_
  refine z_aload_n 3 dL_undo_2 rfl rfl ?_
  rcases bndT_some hq with ⟨x1, m1, h1, hq⟩ | ⟨e1, m1, h1, hq⟩
  · refine z_callVH1 (as := []) (S := [zi 0, zr 156]) (kc := 0) (ks := 0) 6 dL_undo_3 rfl (Q_qT_undo h1) kX9_undo ⟨_, _, rfl⟩ ar_0 l_RL_125 rfl rfl rfl rfl rfl rfl ?_
    cases hq
    refine z_i2l 7 dL_undo_6 rfl ?_
    refine z_lastore 8 dL_undo_7 rfl ar_156 ⟨by decide, by decide⟩ rfl ?_
    refine z_goto 14 dL_undo_8 rfl ?_
    refine z_iconst 15 dL_undo_14 rfl (by decide) ?_
    exact z_ireturn rfl dL_undo_15
  · by_cases he0 : e1 = 3
    · subst he0
      replace hq := z_ip hq rfl
      cases hq
      exact z_callVHX (as := []) (S := [zi 0, zr 156]) (kc := 0) (ks := 0) dL_undo_3 (Q_qT_undo h1) kX9_undo ⟨_, _, rfl⟩ ar_0 l_RL_125 rfl rfl rfl rfl rfl rfl hL_undo_0 (Or.inr ⟨_, dL_undo_11, by decide, rfl⟩) dL_undo_12 (by decide) dL_undo_13 rfl
    · replace hq := z_in hq he0
      cases hq
set_option maxRecDepth 100000 in
set_option maxHeartbeats 4000000 in
theorem Q_qL_restore {g : yG} {a : Nat → Nat} {μ : zM}  {r : Int} {ν : zM} (hq : qL_restore μ = some (r, ν)) : zC g a mL_restore 3 1 6 [zr 0, zr 156] μ (.inl (some (zi r))) ν := by
  unfold qL_restore at hq
  refine z_ofH (L := [some (zr 0), some (zr 156), none]) pl_RL rfl (zc_of rfl) rfl rfl ?_
  refine z_aload_n 1 dL_restore_0 rfl rfl ?_
  refine z_iconst 2 dL_restore_1 rfl (by decide) ?_
  refine z_aload_n 3 dL_restore_2 rfl rfl ?_
  rcases bndT_some hq with ⟨x1, m1, h1, hq⟩ | ⟨e1, m1, h1, hq⟩
  · refine z_callVH1 (as := []) (S := [zi 0, zr 156]) (kc := 0) (ks := 0) 6 dL_restore_3 rfl (Q_qT_restore h1) kX9_restore ⟨_, _, rfl⟩ ar_0 l_RL_128 rfl rfl rfl rfl rfl rfl ?_
    cases hq
    refine z_i2l 7 dL_restore_6 rfl ?_
    refine z_lastore 8 dL_restore_7 rfl ar_156 ⟨by decide, by decide⟩ rfl ?_
    refine z_goto 14 dL_restore_8 rfl ?_
    refine z_iconst 15 dL_restore_14 rfl (by decide) ?_
    exact z_ireturn rfl dL_restore_15
  · by_cases he0 : e1 = 3
    · subst he0
      replace hq := z_ip hq rfl
      cases hq
      exact z_callVHX (as := []) (S := [zi 0, zr 156]) (kc := 0) (ks := 0) dL_restore_3 (Q_qT_restore h1) kX9_restore ⟨_, _, rfl⟩ ar_0 l_RL_128 rfl rfl rfl rfl rfl rfl hL_restore_0 (Or.inr ⟨_, dL_restore_11, by decide, rfl⟩) dL_restore_12 (by decide) dL_restore_13 rfl
    · replace hq := z_in hq he0
      cases hq
