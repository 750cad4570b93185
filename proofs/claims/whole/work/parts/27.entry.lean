/-! ===== the law from its entry to its loop (laid by wip/whole/tools/entry.py) ===== -/
theorem l8 {α β : Type} : ∀ hs : List (α × β), hs.length = 8 → ∃ (k0 k1 k2 k3 k4 k5 k6 k7 : α) (q0 q1 q2 q3 q4 q5 q6 q7 : β), hs = [(k0, q0), (k1, q1), (k2, q2), (k3, q3), (k4, q4), (k5, q5), (k6, q6), (k7, q7)]
  | [⟨k0, q0⟩, ⟨k1, q1⟩, ⟨k2, q2⟩, ⟨k3, q3⟩, ⟨k4, q4⟩, ⟨k5, q5⟩, ⟨k6, q6⟩, ⟨k7, q7⟩], _ => ⟨k0, k1, k2, k3, k4, k5, k6, k7, q0, q1, q2, q3, q4, q5, q6, q7, rfl⟩
set_option maxRecDepth 100000 in
set_option maxHeartbeats 800000 in
theorem law_pre {g : yG} {kc ks : Nat} {Q : yOut → yMem → Prop} (h : ∀ a : Nat → Nat, Y g mL_law 2038 kc ks 28 (zL g a 0 [some (zr 1050), some (zr 0), some (zr 142), some (zr 156), some (zr 157), some (zi 0), none, none, none]) [] (lay g a μ0) Q) : Y g mL_law 2038 (kc + 1 + 1 + 13 + 1 + 141 + 1) (ks + 1 + 1 + 958 + 24 + 1313 + 12) 0 [(0, vr (g.2.2.2.1 50))] [] [] Q := by
  refine y_new (ci := 6) (fs := dRX9) rfl dRX9_d dRX9_ok (yb 120 (by decide +kernel) rfl) (yb 121 (by decide +kernel) rfl) (yb 92 (by decide +kernel) rfl) dL_law_0 (fun x => ?_)
  refine y_dup dL_law_3 rfl ?_
  have hC9 := c_TenantCensus (g := g) (X := []) (a := x)
  refine y_callI (kc := kc + 1 + 1 + 13 + 1) (ks := ks + 1 + 1 + 958 + 24) (kc' := 141) (ks' := 1313) (me' := miRX9) (as := []) (S := [vr x]) hC9 kiRX9 kjRX9 rfl (by decide) rfl (Or.inl (yb 122 (by decide +kernel) rfl)) rfl (Nat.le_of_ble_eq_true rfl) dL_law_4 (y_unc0 rfl) (fun E M1 h9 => nomatch h9.1) (fun r0 M1 h9 => ?_)
  obtain ⟨hz9, h1, b_h1, h2, b_h2, h3, b_h3, h4, r_h4, hs_h4, hl_h4, h5, b1_h5, r1_h5, b2_h5, r2_h5, b3_h5, b4_h5, b5_h5, b6_h5, h6, b1_h6, b2_h6, b3_h6, h7, b1_h7, h8, b1_h8, h9, b1_h9, rfl⟩ := h9
  cases hz9
  obtain ⟨k0, k1, k2, k3, k4, k5, k6, k7, q0, q1, q2, q3, q4, q5, q6, q7, rfl⟩ := l8 hs_h4 hl_h4
  refine y_astore_n (i := 1) (L' := [(1, vr x), (0, vr (g.2.2.2.1 50))]) dL_law_7 rfl (by decide) rfl ?_
  refine y_new (ci := 7) (fs := dRX10) rfl dRX10_d dRX10_ok (yb 1314 (by decide +kernel) rfl) (yb 1315 (by decide +kernel) rfl) (yb 101 (by decide +kernel) rfl) dL_law_8 (fun m9 => ?_)
  refine y_dup dL_law_11 rfl ?_
  refine y_callI (kc := kc + 1 + 1) (ks := ks + 1 + 1) (kc' := 13) (ks' := 958) (me' := miRX10) (as := []) (S := [vr m9]) (c_TenantCensusModel (a := m9)) kiRX10 kjRX10 rfl (by decide) rfl (Or.inl (yb 1316 (by decide +kernel) rfl)) rfl (Nat.le_of_ble_eq_true rfl) dL_law_12 (y_unc0 rfl) (fun E M1 h9 => nomatch h9.1) (fun r0 M1 h9 => ?_)
  obtain ⟨hz9, y_b1, y_b2, y_b3, y_b4, y_b5, y_b6, y_b7, y_b8, y_b9, y_b10, y_b11, y_b12, y_b13, rfl⟩ := h9
  cases hz9
  refine y_astore_n (i := 2) (L' := [(2, vr m9), (1, vr x), (0, vr (g.2.2.2.1 50))]) dL_law_15 rfl (by decide) rfl ?_
  refine y_iconst dL_law_16 (by decide) ?_
  refine y_newL (n := 1) (by decide) dL_law_17 (fun o1 => ?_)
  refine y_astore_n (i := 3) (L' := [(3, vr o1), (2, vr m9), (1, vr x), (0, vr (g.2.2.2.1 50))]) dL_law_19 rfl (by decide) rfl ?_
  refine y_iconst dL_law_20 (by decide) ?_
  refine y_newD (n := 1) (by decide) dL_law_21 (fun o2 => ?_)
  refine y_astore (i := 4) (L' := [(4, vr o2), (3, vr o1), (2, vr m9), (1, vr x), (0, vr (g.2.2.2.1 50))]) dL_law_23 (by decide) rfl ?_
  refine y_iconst dL_law_25 (by decide) ?_
  refine y_istore (i := 5) (L' := [(5, vi 0), (4, vr o2), (3, vr o1), (2, vr m9), (1, vr x), (0, vr (g.2.2.2.1 50))]) dL_law_26 (by decide) rfl ?_
  refine y_memEq (wl_lay g x h1 b_h1 h2 b_h2 h3 b_h3 h4 r_h4 h5 b1_h5 r1_h5 b2_h5 r2_h5 b3_h5 b4_h5 b5_h5 b6_h5 h6 b1_h6 b2_h6 b3_h6 h7 b1_h7 h8 b1_h8 h9 b1_h9 k0 k1 k2 k3 k4 k5 k6 k7 q0 q1 q2 q3 q4 q5 q6 q7 m9 y_b1 y_b2 y_b3 y_b4 y_b5 y_b6 y_b7 y_b8 y_b9 y_b10 y_b11 y_b12 y_b13 o1 o2) ?_
  refine Y.sub (h _) (fun q hq => ?_)
  have hq2 := List.mem_reverse.mpr hq
  exact hq2
/-- the loop's end -/
theorem law_end {g : yG} {a : Nat → Nat} {scL : Int} {scV : Int → Int} {mf : zM} (hL : scL = (g.2.2.2.2.1 : Int)) (hLi : y_in scL) (hV : ∀ i : Int, 0 ≤ i → g.2.2.2.2.2 i.toNat = scV i) (hVi : ∀ i, y_in (scV i)) {n : Nat} (hE : qL_law_l28 scL scV n μ0 0 = some (.inr (), mf)) :
    Y g mL_law 2038 (2 * n) (12 * n) 28 (zL g a 0 [some (zr 1050), some (zr 0), some (zr 142), some (zr 156), some (zr 157), some (zi 0), none, none, none]) [] (lay g a μ0) (zQ g a (.inl (some (zi 1))) mf) := by
  refine L_qL_law_l28 (o := .inl (some (zi 1))) (ν := mf) hL hLi hV hVi (fun x9 m9 h9 => ?_) (fun tz m9 h9 => ?_) n μ0 0 hE
  · cases h9
  · cases h9
    exact z_iconst 2467 dL_law_2466 rfl (by decide) (z_zreturn rfl dL_law_2467 (by decide))
