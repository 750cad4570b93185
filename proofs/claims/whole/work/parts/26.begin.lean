/-! ===== the law from its entry to its loop: the objects lie as the mirror has them (laid by wip/whole/tools/start.py) ===== -/
def μ0 : zM := fun k j => if k = 0 then (if j = 10 then -1 else if j = 11 then -1 else 0) else if k = 136 then (if j = 1 then 6 else 0) else if k = 142 then (if j = 19 then -1 else if j = 20 then -1 else 0) else 0
theorem μ0_z {k : Nat} (h : decide (k ≠ 0 ∧ k ≠ 136 ∧ k ≠ 142) = true) : μ0 k = fun _ => 0 := by
  obtain ⟨h1, h2, h3⟩ := of_decide_eq_true h
  funext j
  unfold μ0
  rw [if_neg h1, if_neg h2, if_neg h3]
def fragOk (g : yG) (a : Nat → Nat) : Nat → yMem → Prop
  | _, [] => True
  | k, e :: es => e = zM1 g a μ0 k ∧ fragOk g a (k + 1) es
theorem fragOk_eq {g : yG} {a : Nat → Nat} : ∀ (es : yMem) (k : Nat), fragOk g a k es → es = (List.range' k es.length).map (zM1 g a μ0)
  | [], _, _ => rfl
  | e :: es, k, h => by
    rw [List.length_cons, List.range'_succ, List.map_cons, ← fragOk_eq es (k + 1) h.2, ← h.1]
theorem fragOk_lay {g : yG} {a : Nat → Nat} {es : yMem} (h : fragOk g a 0 es) (hl : es.length = 158) : es = lay g a μ0 := by
  have h2 := fragOk_eq es 0 h
  rw [hl] at h2
  rw [h2]
  unfold lay
  rw [List.range_eq_range']
theorem fo_c {g : yG} {a : Nat → Nat} {k : Nat} {e : Nat × yO} {es : yMem} (h : e = zM1 g a μ0 k) (h2 : fragOk g a (k + 1) es) : fragOk g a k (e :: es) := ⟨h, h2⟩
theorem fo_n {g : yG} {a : Nat → Nat} {k : Nat} : fragOk g a k [] := trivial
section FO
variable {g : yG} {a : Nat → Nat} {k b : Nat}
theorem fo_I {n : Nat} (hb : a k = b) (hK : zK k = (0, n)) (hm : decide (k ≠ 0 ∧ k ≠ 136 ∧ k ≠ 142) = true) : (b, oi (zca n (fun _ => 0))) = zM1 g a μ0 k := by
  unfold zM1; rw [hb, hK, μ0_z hm]; rfl
theorem fo_C {n : Nat} (hb : a k = b) (hK : zK k = (1, n)) (hm : decide (k ≠ 0 ∧ k ≠ 136 ∧ k ≠ 142) = true) : (b, oc (zca n (fun _ => 0))) = zM1 g a μ0 k := by
  unfold zM1; rw [hb, hK, μ0_z hm]; rfl
theorem fo_L {n : Nat} (hb : a k = b) (hK : zK k = (2, n)) (hm : decide (k ≠ 0 ∧ k ≠ 136 ∧ k ≠ 142) = true) : (b, ol (zca n (fun _ => 0))) = zM1 g a μ0 k := by
  unfold zM1; rw [hb, hK, μ0_z hm]; rfl
theorem fo_D {n : Nat} (hb : a k = b) (hK : zK k = (3, n)) (hm : decide (k ≠ 0 ∧ k ≠ 136 ∧ k ≠ 142) = true) : (b, od ((zca n (fun _ => 0)).map fp_u)) = zM1 g a μ0 k := by
  unfold zM1; rw [hb, hK, μ0_z hm]; rfl
theorem fo_H {c : Nat → Nat} (hb : a k = b) (hK : zK k = (11, 17)) (hm : decide (k ≠ 0 ∧ k ≠ 136 ∧ k ≠ 142) = true) (hc : a (k + 1) = c 0 ∧ a (k + 2) = c 1 ∧ a (k + 3) = c 2 ∧ a (k + 4) = c 3 ∧ a (k + 5) = c 4 ∧ a (k + 6) = c 5 ∧ a (k + 7) = c 6 ∧ a (k + 8) = c 7 ∧ a (k + 9) = c 8) :
    (b, oo 1 [vi 0, vr (c 0), vr (c 1), vi 0, vi 0, vr (c 2), vr (c 3), vr (c 4), vr (c 5), vr (c 6), vr (c 7), vr (c 8), vi 0, vi 0, vi 0, vl 0, vl 0]) = zM1 g a μ0 k := by
  obtain ⟨h0, h1, h2, h3, h4, h5, h6, h7, h8⟩ := hc
  unfold zM1
  rw [hb, hK, μ0_z hm, ← h0, ← h1, ← h2, ← h3, ← h4, ← h5, ← h6, ← h7, ← h8]; rfl
end FO
def al (x : Nat) (h1 : Nat) (b_h1 : Nat → Nat) (h2 : Nat) (b_h2 : Nat → Nat) (h3 : Nat) (b_h3 : Nat → Nat) (h4 : Nat) (r_h4 : Nat) (h5 : Nat) (b1_h5 : Nat) (r1_h5 : Nat → Nat) (b2_h5 : Nat) (r2_h5 : Nat → Nat) (b3_h5 : Nat) (b4_h5 : Nat) (b5_h5 : Nat) (b6_h5 : Nat) (h6 : Nat) (b1_h6 : Nat) (b2_h6 : Nat) (b3_h6 : Nat) (h7 : Nat) (b1_h7 : Nat) (h8 : Nat) (b1_h8 : Nat) (h9 : Nat) (b1_h9 : Nat) (k0 : Nat) (k1 : Nat) (k2 : Nat) (k3 : Nat) (k4 : Nat) (k5 : Nat) (k6 : Nat) (k7 : Nat) (q0 : Nat → Nat) (q1 : Nat → Nat) (q2 : Nat → Nat) (q3 : Nat → Nat) (q4 : Nat → Nat) (q5 : Nat → Nat) (q6 : Nat → Nat) (q7 : Nat → Nat) (m : Nat) (y_b1 : Nat) (y_b2 : Nat) (y_b3 : Nat) (y_b4 : Nat) (y_b5 : Nat) (y_b6 : Nat) (y_b7 : Nat) (y_b8 : Nat) (y_b9 : Nat) (y_b10 : Nat) (y_b11 : Nat) (y_b12 : Nat) (y_b13 : Nat) (o1 : Nat) (o2 : Nat) : List Nat := [x, h1, b_h1 0, b_h1 1, b_h1 2, b_h1 3, b_h1 4, b_h1 5, b_h1 6, b_h1 7, b_h1 8, h2, b_h2 0, b_h2 1, b_h2 2, b_h2 3, b_h2 4, b_h2 5, b_h2 6, b_h2 7, b_h2 8, h3, b_h3 0, b_h3 1, b_h3 2, b_h3 3, b_h3 4, b_h3 5, b_h3 6, b_h3 7, b_h3 8, h4, r_h4, k0, q0 0, q0 1, q0 2, q0 3, q0 4, q0 5, q0 6, q0 7, q0 8, k1, q1 0, q1 1, q1 2, q1 3, q1 4, q1 5, q1 6, q1 7, q1 8, k2, q2 0, q2 1, q2 2, q2 3, q2 4, q2 5, q2 6, q2 7, q2 8, k3, q3 0, q3 1, q3 2, q3 3, q3 4, q3 5, q3 6, q3 7, q3 8, k4, q4 0, q4 1, q4 2, q4 3, q4 4, q4 5, q4 6, q4 7, q4 8, k5, q5 0, q5 1, q5 2, q5 3, q5 4, q5 5, q5 6, q5 7, q5 8, k6, q6 0, q6 1, q6 2, q6 3, q6 4, q6 5, q6 6, q6 7, q6 8, k7, q7 0, q7 1, q7 2, q7 3, q7 4, q7 5, q7 6, q7 7, q7 8, h5, b1_h5, r1_h5 0, r1_h5 1, r1_h5 2, r1_h5 3, r1_h5 4, r1_h5 5, b2_h5, r2_h5 0, r2_h5 1, r2_h5 2, r2_h5 3, r2_h5 4, r2_h5 5, b3_h5, b4_h5, b5_h5, b6_h5, h6, b1_h6, b2_h6, b3_h6, h7, b1_h7, h8, b1_h8, h9, b1_h9, m, y_b1, y_b2, y_b3, y_b4, y_b5, y_b6, y_b7, y_b8, y_b9, y_b10, y_b11, y_b12, y_b13, o1, o2]
def wl (g : yG) (x : Nat) (h1 : Nat) (b_h1 : Nat → Nat) (h2 : Nat) (b_h2 : Nat → Nat) (h3 : Nat) (b_h3 : Nat → Nat) (h4 : Nat) (r_h4 : Nat) (h5 : Nat) (b1_h5 : Nat) (r1_h5 : Nat → Nat) (b2_h5 : Nat) (r2_h5 : Nat → Nat) (b3_h5 : Nat) (b4_h5 : Nat) (b5_h5 : Nat) (b6_h5 : Nat) (h6 : Nat) (b1_h6 : Nat) (b2_h6 : Nat) (b3_h6 : Nat) (h7 : Nat) (b1_h7 : Nat) (h8 : Nat) (b1_h8 : Nat) (h9 : Nat) (b1_h9 : Nat) (k0 : Nat) (k1 : Nat) (k2 : Nat) (k3 : Nat) (k4 : Nat) (k5 : Nat) (k6 : Nat) (k7 : Nat) (q0 : Nat → Nat) (q1 : Nat → Nat) (q2 : Nat → Nat) (q3 : Nat → Nat) (q4 : Nat → Nat) (q5 : Nat → Nat) (q6 : Nat → Nat) (q7 : Nat → Nat) (m : Nat) (y_b1 : Nat) (y_b2 : Nat) (y_b3 : Nat) (y_b4 : Nat) (y_b5 : Nat) (y_b6 : Nat) (y_b7 : Nat) (y_b8 : Nat) (y_b9 : Nat) (y_b10 : Nat) (y_b11 : Nat) (y_b12 : Nat) (y_b13 : Nat) (o1 : Nat) (o2 : Nat) : yMem := (([] ++ (x, oo 6 [vr h1, vr h2, vr h3, vr h4, vr h5, vr h6, vr h7, vr h8, vr h9, vi 0, vi (-1), vi (-1)]) :: ((((((((([] ++ (hsB h1 b_h1)) ++ (hsB h2 b_h2)) ++ (hsB h3 b_h3)) ++ ((h4, oo 0 [vr r_h4, vi 0, vi 0]) :: (r_h4, oq 4 (([(k0, q0), (k1, q1), (k2, q2), (k3, q3), (k4, q4), (k5, q5), (k6, q6), (k7, q7)] : List (Nat × (Nat → Nat))).map (fun q => some q.1))) :: ([(k0, q0), (k1, q1), (k2, q2), (k3, q3), (k4, q4), (k5, q5), (k6, q6), (k7, q7)] : List (Nat × (Nat → Nat))).flatMap (fun q => hsB q.1 q.2))) ++ ((h5, oo 3 [vr b1_h5, vr b2_h5, vr b3_h5, vr b4_h5, vr b5_h5, vr b6_h5, vi 0]) :: (((b1_h5, oq 5 ((List.range 6).map fun i => some (r1_h5 i))) :: (List.range 6).map (fun i => (r1_h5 i, z0 6))) ++ (((b2_h5, oq 5 ((List.range 6).map fun i => some (r2_h5 i))) :: (List.range 6).map (fun i => (r2_h5 i, z0 6))) ++ [(b3_h5, z0 6), (b4_h5, z0 6), (b5_h5, z0 6), (b6_h5, z0 6)])))) ++ ((h6, oo 4 [vr b1_h6, vr b2_h6, vr b3_h6]) :: [(b1_h6, z0 6), (b2_h6, z0 64), (b3_h6, z0 64)])) ++ ((h7, oo 2 [vi 0, vr (g.2.2.2.1 6), vr b1_h7, vi 0, vi 0]) :: [(b1_h7, z0 4)])) ++ ((h8, oo 5 [vr b1_h8, vi 0]) :: [(b1_h8, z0c 128)])) ++ ((h9, oo 5 [vr b1_h9, vi 0]) :: [(b1_h9, z0c 128)]))) ++ ((m, oo 7 [vi 0, vr y_b1, vr y_b2, vr y_b3, vr y_b4, vr y_b5, vi 0, vi 0, vi 0, vr y_b6, vr y_b7, vr y_b8, vr y_b9, vr y_b10, vr y_b11, vi 0, vr y_b12, vi 0, vi 0, vi (-1), vi (-1), vr y_b13, vi 0, vi 0]) :: [(y_b1, z0 62), (y_b2, z0 496), (y_b3, z0 62), (y_b4, z0 62), (y_b5, z0 62), (y_b6, z0 6), (y_b7, z0 6), (y_b8, z0 6), (y_b9, z0 6), (y_b10, z0 6), (y_b11, z0c 120), (y_b12, z0c 60), (y_b13, z0 4)])) ++ [(o1, ol (zca 1 (fun _ => 0)))] ++ [(o2, od ((zca 1 (fun _ => 0)).map fp_u))]
set_option maxRecDepth 100000 in
set_option maxHeartbeats 4000000 in
theorem wl_lay (g : yG) (x : Nat) (h1 : Nat) (b_h1 : Nat → Nat) (h2 : Nat) (b_h2 : Nat → Nat) (h3 : Nat) (b_h3 : Nat → Nat) (h4 : Nat) (r_h4 : Nat) (h5 : Nat) (b1_h5 : Nat) (r1_h5 : Nat → Nat) (b2_h5 : Nat) (r2_h5 : Nat → Nat) (b3_h5 : Nat) (b4_h5 : Nat) (b5_h5 : Nat) (b6_h5 : Nat) (h6 : Nat) (b1_h6 : Nat) (b2_h6 : Nat) (b3_h6 : Nat) (h7 : Nat) (b1_h7 : Nat) (h8 : Nat) (b1_h8 : Nat) (h9 : Nat) (b1_h9 : Nat) (k0 : Nat) (k1 : Nat) (k2 : Nat) (k3 : Nat) (k4 : Nat) (k5 : Nat) (k6 : Nat) (k7 : Nat) (q0 : Nat → Nat) (q1 : Nat → Nat) (q2 : Nat → Nat) (q3 : Nat → Nat) (q4 : Nat → Nat) (q5 : Nat → Nat) (q6 : Nat → Nat) (q7 : Nat → Nat) (m : Nat) (y_b1 : Nat) (y_b2 : Nat) (y_b3 : Nat) (y_b4 : Nat) (y_b5 : Nat) (y_b6 : Nat) (y_b7 : Nat) (y_b8 : Nat) (y_b9 : Nat) (y_b10 : Nat) (y_b11 : Nat) (y_b12 : Nat) (y_b13 : Nat) (o1 : Nat) (o2 : Nat) : wl g x h1 b_h1 h2 b_h2 h3 b_h3 h4 r_h4 h5 b1_h5 r1_h5 b2_h5 r2_h5 b3_h5 b4_h5 b5_h5 b6_h5 h6 b1_h6 b2_h6 b3_h6 h7 b1_h7 h8 b1_h8 h9 b1_h9 k0 k1 k2 k3 k4 k5 k6 k7 q0 q1 q2 q3 q4 q5 q6 q7 m y_b1 y_b2 y_b3 y_b4 y_b5 y_b6 y_b7 y_b8 y_b9 y_b10 y_b11 y_b12 y_b13 o1 o2 = lay g (fun k => (al x h1 b_h1 h2 b_h2 h3 b_h3 h4 r_h4 h5 b1_h5 r1_h5 b2_h5 r2_h5 b3_h5 b4_h5 b5_h5 b6_h5 h6 b1_h6 b2_h6 b3_h6 h7 b1_h7 h8 b1_h8 h9 b1_h9 k0 k1 k2 k3 k4 k5 k6 k7 q0 q1 q2 q3 q4 q5 q6 q7 m y_b1 y_b2 y_b3 y_b4 y_b5 y_b6 y_b7 y_b8 y_b9 y_b10 y_b11 y_b12 y_b13 o1 o2).getD k 0) μ0 := by
  refine fragOk_lay ?_ rfl
  unfold wl
  refine fo_c (rfl) ?_
  refine fo_c (fo_H (c := b_h1) rfl (by decide +kernel) rfl ⟨rfl, rfl, rfl, rfl, rfl, rfl, rfl, rfl, rfl⟩) ?_
  refine fo_c (fo_I rfl (by decide +kernel) rfl) ?_
  refine fo_c (fo_I rfl (by decide +kernel) rfl) ?_
  refine fo_c (fo_I rfl (by decide +kernel) rfl) ?_
  refine fo_c (fo_I rfl (by decide +kernel) rfl) ?_
  refine fo_c (fo_I rfl (by decide +kernel) rfl) ?_
  refine fo_c (fo_I rfl (by decide +kernel) rfl) ?_
  refine fo_c (fo_I rfl (by decide +kernel) rfl) ?_
  refine fo_c (fo_I rfl (by decide +kernel) rfl) ?_
  refine fo_c (fo_I rfl (by decide +kernel) rfl) ?_
  refine fo_c (fo_H (c := b_h2) rfl (by decide +kernel) rfl ⟨rfl, rfl, rfl, rfl, rfl, rfl, rfl, rfl, rfl⟩) ?_
  refine fo_c (fo_I rfl (by decide +kernel) rfl) ?_
  refine fo_c (fo_I rfl (by decide +kernel) rfl) ?_
  refine fo_c (fo_I rfl (by decide +kernel) rfl) ?_
  refine fo_c (fo_I rfl (by decide +kernel) rfl) ?_
  refine fo_c (fo_I rfl (by decide +kernel) rfl) ?_
  refine fo_c (fo_I rfl (by decide +kernel) rfl) ?_
  refine fo_c (fo_I rfl (by decide +kernel) rfl) ?_
  refine fo_c (fo_I rfl (by decide +kernel) rfl) ?_
  refine fo_c (fo_I rfl (by decide +kernel) rfl) ?_
  refine fo_c (fo_H (c := b_h3) rfl (by decide +kernel) rfl ⟨rfl, rfl, rfl, rfl, rfl, rfl, rfl, rfl, rfl⟩) ?_
  refine fo_c (fo_I rfl (by decide +kernel) rfl) ?_
  refine fo_c (fo_I rfl (by decide +kernel) rfl) ?_
  refine fo_c (fo_I rfl (by decide +kernel) rfl) ?_
  refine fo_c (fo_I rfl (by decide +kernel) rfl) ?_
  refine fo_c (fo_I rfl (by decide +kernel) rfl) ?_
  refine fo_c (fo_I rfl (by decide +kernel) rfl) ?_
  refine fo_c (fo_I rfl (by decide +kernel) rfl) ?_
  refine fo_c (fo_I rfl (by decide +kernel) rfl) ?_
  refine fo_c (fo_I rfl (by decide +kernel) rfl) ?_
  refine fo_c (rfl) ?_
  refine fo_c (rfl) ?_
  refine fo_c (fo_H (c := q0) rfl (by decide +kernel) rfl ⟨rfl, rfl, rfl, rfl, rfl, rfl, rfl, rfl, rfl⟩) ?_
  refine fo_c (fo_I rfl (by decide +kernel) rfl) ?_
  refine fo_c (fo_I rfl (by decide +kernel) rfl) ?_
  refine fo_c (fo_I rfl (by decide +kernel) rfl) ?_
  refine fo_c (fo_I rfl (by decide +kernel) rfl) ?_
  refine fo_c (fo_I rfl (by decide +kernel) rfl) ?_
  refine fo_c (fo_I rfl (by decide +kernel) rfl) ?_
  refine fo_c (fo_I rfl (by decide +kernel) rfl) ?_
  refine fo_c (fo_I rfl (by decide +kernel) rfl) ?_
  refine fo_c (fo_I rfl (by decide +kernel) rfl) ?_
  refine fo_c (fo_H (c := q1) rfl (by decide +kernel) rfl ⟨rfl, rfl, rfl, rfl, rfl, rfl, rfl, rfl, rfl⟩) ?_
  refine fo_c (fo_I rfl (by decide +kernel) rfl) ?_
  refine fo_c (fo_I rfl (by decide +kernel) rfl) ?_
  refine fo_c (fo_I rfl (by decide +kernel) rfl) ?_
  refine fo_c (fo_I rfl (by decide +kernel) rfl) ?_
  refine fo_c (fo_I rfl (by decide +kernel) rfl) ?_
  refine fo_c (fo_I rfl (by decide +kernel) rfl) ?_
  refine fo_c (fo_I rfl (by decide +kernel) rfl) ?_
  refine fo_c (fo_I rfl (by decide +kernel) rfl) ?_
  refine fo_c (fo_I rfl (by decide +kernel) rfl) ?_
  refine fo_c (fo_H (c := q2) rfl (by decide +kernel) rfl ⟨rfl, rfl, rfl, rfl, rfl, rfl, rfl, rfl, rfl⟩) ?_
  refine fo_c (fo_I rfl (by decide +kernel) rfl) ?_
  refine fo_c (fo_I rfl (by decide +kernel) rfl) ?_
  refine fo_c (fo_I rfl (by decide +kernel) rfl) ?_
  refine fo_c (fo_I rfl (by decide +kernel) rfl) ?_
  refine fo_c (fo_I rfl (by decide +kernel) rfl) ?_
  refine fo_c (fo_I rfl (by decide +kernel) rfl) ?_
  refine fo_c (fo_I rfl (by decide +kernel) rfl) ?_
  refine fo_c (fo_I rfl (by decide +kernel) rfl) ?_
  refine fo_c (fo_I rfl (by decide +kernel) rfl) ?_
  refine fo_c (fo_H (c := q3) rfl (by decide +kernel) rfl ⟨rfl, rfl, rfl, rfl, rfl, rfl, rfl, rfl, rfl⟩) ?_
  refine fo_c (fo_I rfl (by decide +kernel) rfl) ?_
  refine fo_c (fo_I rfl (by decide +kernel) rfl) ?_
  refine fo_c (fo_I rfl (by decide +kernel) rfl) ?_
  refine fo_c (fo_I rfl (by decide +kernel) rfl) ?_
  refine fo_c (fo_I rfl (by decide +kernel) rfl) ?_
  refine fo_c (fo_I rfl (by decide +kernel) rfl) ?_
  refine fo_c (fo_I rfl (by decide +kernel) rfl) ?_
  refine fo_c (fo_I rfl (by decide +kernel) rfl) ?_
  refine fo_c (fo_I rfl (by decide +kernel) rfl) ?_
  refine fo_c (fo_H (c := q4) rfl (by decide +kernel) rfl ⟨rfl, rfl, rfl, rfl, rfl, rfl, rfl, rfl, rfl⟩) ?_
  refine fo_c (fo_I rfl (by decide +kernel) rfl) ?_
  refine fo_c (fo_I rfl (by decide +kernel) rfl) ?_
  refine fo_c (fo_I rfl (by decide +kernel) rfl) ?_
  refine fo_c (fo_I rfl (by decide +kernel) rfl) ?_
  refine fo_c (fo_I rfl (by decide +kernel) rfl) ?_
  refine fo_c (fo_I rfl (by decide +kernel) rfl) ?_
  refine fo_c (fo_I rfl (by decide +kernel) rfl) ?_
  refine fo_c (fo_I rfl (by decide +kernel) rfl) ?_
  refine fo_c (fo_I rfl (by decide +kernel) rfl) ?_
  refine fo_c (fo_H (c := q5) rfl (by decide +kernel) rfl ⟨rfl, rfl, rfl, rfl, rfl, rfl, rfl, rfl, rfl⟩) ?_
  refine fo_c (fo_I rfl (by decide +kernel) rfl) ?_
  refine fo_c (fo_I rfl (by decide +kernel) rfl) ?_
  refine fo_c (fo_I rfl (by decide +kernel) rfl) ?_
  refine fo_c (fo_I rfl (by decide +kernel) rfl) ?_
  refine fo_c (fo_I rfl (by decide +kernel) rfl) ?_
  refine fo_c (fo_I rfl (by decide +kernel) rfl) ?_
  refine fo_c (fo_I rfl (by decide +kernel) rfl) ?_
  refine fo_c (fo_I rfl (by decide +kernel) rfl) ?_
  refine fo_c (fo_I rfl (by decide +kernel) rfl) ?_
  refine fo_c (fo_H (c := q6) rfl (by decide +kernel) rfl ⟨rfl, rfl, rfl, rfl, rfl, rfl, rfl, rfl, rfl⟩) ?_
  refine fo_c (fo_I rfl (by decide +kernel) rfl) ?_
  refine fo_c (fo_I rfl (by decide +kernel) rfl) ?_
  refine fo_c (fo_I rfl (by decide +kernel) rfl) ?_
  refine fo_c (fo_I rfl (by decide +kernel) rfl) ?_
  refine fo_c (fo_I rfl (by decide +kernel) rfl) ?_
  refine fo_c (fo_I rfl (by decide +kernel) rfl) ?_
  refine fo_c (fo_I rfl (by decide +kernel) rfl) ?_
  refine fo_c (fo_I rfl (by decide +kernel) rfl) ?_
  refine fo_c (fo_I rfl (by decide +kernel) rfl) ?_
  refine fo_c (fo_H (c := q7) rfl (by decide +kernel) rfl ⟨rfl, rfl, rfl, rfl, rfl, rfl, rfl, rfl, rfl⟩) ?_
  refine fo_c (fo_I rfl (by decide +kernel) rfl) ?_
  refine fo_c (fo_I rfl (by decide +kernel) rfl) ?_
  refine fo_c (fo_I rfl (by decide +kernel) rfl) ?_
  refine fo_c (fo_I rfl (by decide +kernel) rfl) ?_
  refine fo_c (fo_I rfl (by decide +kernel) rfl) ?_
  refine fo_c (fo_I rfl (by decide +kernel) rfl) ?_
  refine fo_c (fo_I rfl (by decide +kernel) rfl) ?_
  refine fo_c (fo_I rfl (by decide +kernel) rfl) ?_
  refine fo_c (fo_I rfl (by decide +kernel) rfl) ?_
  refine fo_c (rfl) ?_
  refine fo_c (rfl) ?_
  refine fo_c (fo_I rfl (by decide +kernel) rfl) ?_
  refine fo_c (fo_I rfl (by decide +kernel) rfl) ?_
  refine fo_c (fo_I rfl (by decide +kernel) rfl) ?_
  refine fo_c (fo_I rfl (by decide +kernel) rfl) ?_
  refine fo_c (fo_I rfl (by decide +kernel) rfl) ?_
  refine fo_c (fo_I rfl (by decide +kernel) rfl) ?_
  refine fo_c (rfl) ?_
  refine fo_c (fo_I rfl (by decide +kernel) rfl) ?_
  refine fo_c (fo_I rfl (by decide +kernel) rfl) ?_
  refine fo_c (fo_I rfl (by decide +kernel) rfl) ?_
  refine fo_c (fo_I rfl (by decide +kernel) rfl) ?_
  refine fo_c (fo_I rfl (by decide +kernel) rfl) ?_
  refine fo_c (fo_I rfl (by decide +kernel) rfl) ?_
  refine fo_c (fo_I rfl (by decide +kernel) rfl) ?_
  refine fo_c (fo_I rfl (by decide +kernel) rfl) ?_
  refine fo_c (fo_I rfl (by decide +kernel) rfl) ?_
  refine fo_c (fo_I rfl (by decide +kernel) rfl) ?_
  refine fo_c (rfl) ?_
  refine fo_c (fo_I rfl (by decide +kernel) rfl) ?_
  refine fo_c (fo_I rfl (by decide +kernel) rfl) ?_
  refine fo_c (fo_I rfl (by decide +kernel) rfl) ?_
  refine fo_c (rfl) ?_
  refine fo_c (fo_I rfl (by decide +kernel) rfl) ?_
  refine fo_c (rfl) ?_
  refine fo_c (fo_C rfl (by decide +kernel) rfl) ?_
  refine fo_c (rfl) ?_
  refine fo_c (fo_C rfl (by decide +kernel) rfl) ?_
  refine fo_c (rfl) ?_
  refine fo_c (fo_I rfl (by decide +kernel) rfl) ?_
  refine fo_c (fo_I rfl (by decide +kernel) rfl) ?_
  refine fo_c (fo_I rfl (by decide +kernel) rfl) ?_
  refine fo_c (fo_I rfl (by decide +kernel) rfl) ?_
  refine fo_c (fo_I rfl (by decide +kernel) rfl) ?_
  refine fo_c (fo_I rfl (by decide +kernel) rfl) ?_
  refine fo_c (fo_I rfl (by decide +kernel) rfl) ?_
  refine fo_c (fo_I rfl (by decide +kernel) rfl) ?_
  refine fo_c (fo_I rfl (by decide +kernel) rfl) ?_
  refine fo_c (fo_I rfl (by decide +kernel) rfl) ?_
  refine fo_c (fo_C rfl (by decide +kernel) rfl) ?_
  refine fo_c (fo_C rfl (by decide +kernel) rfl) ?_
  refine fo_c (fo_I rfl (by decide +kernel) rfl) ?_
  refine fo_c (fo_L rfl (by decide +kernel) rfl) ?_
  refine fo_c (fo_D rfl (by decide +kernel) rfl) ?_
  exact fo_n
