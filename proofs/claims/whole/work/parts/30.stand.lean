/-! ===== the start fits, and the law ends with true if the mirror does ===== -/
def ad_c (adK adR adS adV : Nat → Nat) (tK t1 t2 b : Nat) (n : Nat) : Nat := if n < 8 then adK n else if n < 16 then adR (n - 10) else if n = 20 then tK else if n = 21 then t1 else if n = 22 then t2 else if n < 40 then adS (n - 30) else if n < 50 then adV (n - 40) else b
section ADC
variable {adK adR adS adV : Nat → Nat} {tK t1 t2 b i : Nat}
theorem ad_1 (h : i < 8) : ad_c adK adR adS adV tK t1 t2 b i = adK i := if_pos h
theorem ad_2 (h : i < 6) : ad_c adK adR adS adV tK t1 t2 b (10 + i) = adR i := by
  unfold ad_c
  rw [if_neg (by omega), if_pos (by omega), show 10 + i - 10 = i by omega]
theorem ad_3 (h : i < 8) : ad_c adK adR adS adV tK t1 t2 b (30 + i) = adS i := by
  unfold ad_c
  rw [if_neg (by omega), if_neg (by omega), if_neg (by omega), if_neg (by omega), if_neg (by omega), if_pos (by omega), show 30 + i - 30 = i by omega]
theorem ad_4 (h : i < 8) : ad_c adK adR adS adV tK t1 t2 b (40 + i) = adV i := by
  unfold ad_c
  rw [if_neg (by omega), if_neg (by omega), if_neg (by omega), if_neg (by omega), if_neg (by omega), if_neg (by omega), if_pos (by omega), show 40 + i - 40 = i by omega]
end ADC
theorem mem_getD {α : Type} {l : List α} {q : α} (d : α) (h : q ∈ l) : ∃ i, i < l.length ∧ l.getD i d = q := by
  obtain ⟨i, hi, h2⟩ := List.getElem_of_mem h
  exact ⟨i, hi, by rw [List.getD_eq_getElem?_getD, List.getElem?_eq_getElem hi]; exact h2⟩
section NS2
variable {s : State} {args : Array Value}
theorem st_K {A : Nat → Prop} (hts : ∀ w ∈ lw_tbl, w.before args s = true) (hn : ∀ w ∈ lw_nar, w.before args s = true) (hA : ∀ a : Nat, a < s.heap.size → ¬ A a) : ∃ adK : Nat → Nat, va_En KNn "LTenantCensus$Kind;" y_kn y_kF adK A s s.heap ∧ ∀ i, i < 8 → (Term.static KNn (y_kn.getD i "") "LTenantCensus$Kind;").eval args s none [] s = some (.ref (adK i)) := by
  refine va_Enof2 (fun i hi => hts _ (ns_k1 i hi)) (hts _ ns_i_k) (fun i hi => hn _ (ns_k2 i hi)) (fun q hq i hi => ?_) (fun i j hi hj hij => ?_) hA
  · have e9 := List.mem_singleton.mp hq
    subst e9
    exact hn _ (ns_k3 i hi)
  · rcases ns_k4_ i hi j hj hij with h | h
    · exact Or.inl (hn _ (List.mem_of_getElem? h))
    · exact Or.inr (hn _ (List.mem_of_getElem? h))
theorem st_Rf {A : Nat → Prop} (hts : ∀ w ∈ lw_tbl, w.before args s = true) (hn : ∀ w ∈ lw_nar, w.before args s = true) (hA : ∀ a : Nat, a < s.heap.size → ¬ A a) : ∃ adR : Nat → Nat, va_En RFn "LTenantCensus$Refusal;" y_rn y_rF adR A s s.heap := by
  refine va_Enof (fun i hi => hts _ (ns_r1 i hi)) (hts _ ns_i_r) (fun i hi => hn _ (ns_r2 i hi)) (fun q hq i hi => ?_) (fun i j hi hj hij => ?_) hA
  · have e9 := List.mem_singleton.mp hq
    subst e9
    exact hn _ (ns_r3 i hi)
  · rcases ns_r4_ i hi j hj hij with h | h
    · exact Or.inl (hn _ (List.mem_of_getElem? h))
    · exact Or.inr (hn _ (List.mem_of_getElem? h))
theorem st_R (hts : ∀ w ∈ lw_tbl, w.before args s = true) (hn : ∀ w ∈ lw_nar, w.before args s = true) : y_R s := by
  intro q hq
  obtain ⟨i, hi, rfl⟩ := mem_getD ("", 0, "") hq
  rw [ns_tn] at hi
  obtain ⟨a, -, -, -, q1, -⟩ := Cond.exactly_spec (args := args) (first := s) (o := none) (s := s) (idx := []) (hn _ (List.mem_of_getElem? (ns_u_ i hi)))
  exact ⟨a, vk_R.of (hts _ (List.mem_of_getElem? (ns_t_ i hi))) q1⟩
theorem st_N (hts : ∀ w ∈ lw_tbl, w.before args s = true) (hn : ∀ w ∈ lw_nar, w.before args s = true) : y_N s := by
  refine ⟨fun q hq => ?_, va_Nw.of rfl (hts _ ns_n2), va_AO.of (hts _ ns_n3), fun A9 => ?_, fun E hE => ?_, fun q hq => ?_, fun x hx => ?_⟩
  · obtain ⟨i, hi, rfl⟩ := mem_getD ("", 0, ⟨"", "", ""⟩, "") hq
    exact va_Nw.of rfl (hts _ (List.mem_of_getElem? (ns_n1_ i hi)))
  · have h1 := hts _ ns_n4
    simp only [Cond.before, Cond.holds, Cond.value] at h1 ⊢
    exact h1
  · obtain ⟨i, hi, rfl⟩ := mem_getD "" hE
    exact va_Nw.of rfl (hts _ (List.mem_of_getElem? (ns_n5_ i hi)))
  · obtain ⟨i, hi, rfl⟩ := mem_getD ("", "") hq
    exact va_Nc.of (hn _ (List.mem_of_getElem? (ns_n6_ i hi)))
  · obtain ⟨i, hi, rfl⟩ := mem_getD ⟨"", "", ""⟩ hx
    exact va_Nw.of rfl (hts _ (List.mem_of_getElem? (ns_n7_ i hi)))
theorem start_S {b L : Nat} {xs : Nat → Int32} (hts : ∀ w ∈ lw_tbl, w.before args s = true) (hn : ∀ w ∈ lw_nar, w.before args s = true) (hX : va_X b L xs s s.heap) (hb : b < s.heap.size) : ∃ g : yG, y_S g s s.heap ∧ g.2.2.1 = s.heap.size ∧ g.2.2.2.1 50 = b ∧ g.2.2.2.2.1 = L ∧ ∀ i, g.2.2.2.2.2 i = (xs i).toInt := by
  have htB : ∀ w ∈ yB, w.before args s = true := fun w hw => hts w (List.mem_filter.mp hw).1
  have hA : ∀ a : Nat, a < s.heap.size → ¬ (fun q : Nat => s.heap.size ≤ q) a := fun a h1 h2 => absurd (Nat.lt_of_lt_of_le h1 h2) (Nat.lt_irrefl _)
  obtain ⟨D, hD⟩ := ns_cls htB
  obtain ⟨c0, hc0⟩ := ns_arr (ty := .int) (fun _ h => h) (hts _ ns_c_i)
  obtain ⟨c1, hc1⟩ := ns_arr (ty := .char) (fun _ h => h) (hts _ ns_c_c)
  obtain ⟨c2, hc2⟩ := ns_arr (ty := .long) (fun _ h => h) (hts _ ns_c_l)
  obtain ⟨c3, hc3⟩ := ns_arr (ty := .double) (fun _ h => h) (hts _ ns_c_d)
  obtain ⟨c4, hc4⟩ := ns_arrH (hts _ ns_n3)
  obtain ⟨c5, hc5⟩ := ns_arrA (hts _ ns_n4)
  obtain ⟨adS, adV, hS, hSe⟩ := ns_str hn hA
  obtain ⟨adK, hK, hKe⟩ := st_K hts hn hA
  obtain ⟨adR, hR⟩ := st_Rf hts hn hA
  obtain ⟨tK, htK, hTK⟩ := va_Tof (tm := .static TCn "KINDS" "[LTenantCensus$Kind;") (ty := .object KNn) (N := 8) (f := fun j => .ref (adK j)) (by decide) (hn _ ns_a0) (va_eqt (hn _ ns_a1)) (fun j hj => va_eqv (hn _ (ns_a j hj)) (hKe j hj)) hA
  obtain ⟨t1, ht1, hT1⟩ := va_Tof (tm := .static T1n "$SwitchMap$TenantCensus$Kind" "[I") (ty := .int) (N := 8) (f := fun j => .int (Int32.ofInt (swKind j))) (by decide) (hn _ ns_swKind0) (va_eqt (hn _ ns_swKind1)) (fun j hj => va_eqt (hn _ (ns_swKind2 j hj))) hA
  obtain ⟨t2, ht2, hT2⟩ := va_Tof (tm := .static T1n "$SwitchMap$TenantCensus$Refusal" "[I") (ty := .int) (N := 6) (f := fun j => .int (Int32.ofInt (swRefusal j))) (by decide) (hn _ ns_swRefusal0) (va_eqt (hn _ ns_swRefusal1)) (fun j hj => va_eqt (hn _ (ns_swRefusal2 j hj))) hA
  refine ⟨(D, fun k => ([c0, c1, c2, c3, c4, c5] : List ClassId).getD k c0, s.heap.size, ad_c adK adR adS adV tK t1 t2 b, L, fun i => (xs i).toInt), ⟨⟨hD, fun k q hq => ?_⟩, vx_Zqof (hts _ ns_l_us) (hts _ ns_i_th) (hn _ ns_q_us) hA, vx_Zqof (hts _ ns_l_ss) (hts _ ns_i_th) (hn _ ns_q_ss) hA, ⟨⟨?_, ?_, ?_, hT1, ?_, hT2⟩, ⟨?_, ?_, fun i hi => ?_, ?_, ?_, ?_⟩, ?_⟩, st_R hts hn, st_N hts hn⟩, rfl, rfl, rfl, fun _ => rfl⟩
  · have hm := List.mem_of_getElem? hq
    rcases List.mem_cons.mp hm with rfl | hm
    · exact hc0
    rcases List.mem_cons.mp hm with rfl | hm
    · exact hc1
    rcases List.mem_cons.mp hm with rfl | hm
    · exact hc2
    rcases List.mem_cons.mp hm with rfl | hm
    · exact hc3
    rcases List.mem_cons.mp hm with rfl | hm
    · exact hc4
    rcases List.mem_cons.mp hm with rfl | hm
    · exact hc5
    · exact nomatch hm
  · exact va_Zref (hts _ ns_l_K) (hts _ ns_i_T) htK hA
  · exact t_congr hTK (fun j hj => congrArg Value.ref (ad_1 hj))
  · exact va_Zref (hts _ ns_l_1k) (hts _ ns_i_1) ht1 hA
  · exact va_Zref (hts _ ns_l_1r) (hts _ ns_i_1) ht2 hA
  · exact en_congr hK (fun i hi => ad_1 hi)
  · exact en_congr hR (fun i hi => ad_2 hi)
  · show va_OF KNn "form" "Ljava/lang/String;" (.ref (ad_c adK adR adS adV tK t1 t2 b (30 + i))) (ad_c adK adR adS adV tK t1 t2 b i) _ s s.heap
    rw [ad_1 hi, ad_3 hi]
    exact vk_OFof (hKe i hi) (va_eqv (hn _ (ns_f i hi)) (hSe i hi)) hA
  · exact s_congr hS (fun i hi => ad_3 hi) (fun i hi => ad_4 hi)
  · exact va_Zof (hts _ ns_l_cs) (hts _ ns_i_st) (va_eqi (hn _ ns_q_cs)) hA
  · exact va_Zqof (hts _ ns_l_sf) (hts _ ns_i_pr) (hn _ ns_q_sf) hA
  · refine ⟨?_, hA b hb, hb⟩
    have e9 : (fun j => Int32.ofInt ((xs j).toInt)) = xs := funext fun j => Int32.ofInt_toInt _
    show va_X b L (fun j => Int32.ofInt ((xs j).toInt)) s s.heap
    rw [e9]
    exact hX
end NS2
/-- what is left: the mirror's law comes to its end -/
def Agree : Prop := ∀ (scL : Int) (scV : Int → Int), 0 ≤ scL → scL ≤ 2560 → (∀ i, y_in (scV i)) → ∃ mf, qL_law_l28 scL scV 700 μ0 0 = some (.inr (), mf)
theorem whole_walk (hAg : Agree) {p : Program} {e : Env} {s : State} {m : MethodId} {below : List Frame} {meth : Method} {c : Code} (l : Launch) (hflags : l.flags = flags0) {b L : Nat} {xs : Nat → Int32} (hL : L ≤ 2560) (C0 : lw_At p s m meth c b L xs) (hnm : meth.name = "law") (het : c.exceptionTable.toList = []) : W p l e room_1 s m #[Value.ref b] below meth c s.heap [] 0 0 (lw_Z below #[Value.ref b] s) (entryFrame m ([Value.ref b] : List Value).toArray 9) := by
  obtain ⟨hx, hcd, hret, hml, hown, hts, hX, hb, hlocks, hgv⟩ := C0
  have hn : ∀ w ∈ lw_nar, w.before #[Value.ref b] s = true := flat_of_before _ hgv
  obtain ⟨g, hS, g1, g2, g3, g4⟩ := start_S hts hn hX hb
  obtain ⟨mf, hE⟩ := hAg (L : Int) (fun i => (xs i.toNat).toInt) (by omega) (by omega) (fun i => ⟨Int32.le_toInt _, by have := Int32.toInt_lt (xs i.toNat); omega⟩)
  have hY : Y g mL_law 2038 (2 * 700 + 1 + 1 + 13 + 1 + 141 + 1) (12 * 700 + 1 + 1 + 958 + 24 + 1313 + 12) 0 [(0, vr (g.2.2.2.1 50))] [] [] (fun o _ => o = .inl (some (vi 1))) := law_pre (fun a => y_imp (fun o M h9 => h9.1) (law_end (a := a) (by rw [g3]) ⟨by omega, by omega⟩ (fun i h0 => g4 _) (fun i => ⟨Int32.le_toInt _, by have := Int32.toInt_lt (xs i.toNat); omega⟩) hE))
  have C : y_Cx g mL_law p l s m #[Value.ref b] meth c := ⟨hx, hcd, hml, hret, hlocks, hown, fun w hw => hts w (List.mem_filter.mp hw).1, by unfold Launch.stackTraces; rw [hflags]; decide +kernel, by rw [het]; rfl, hS, by rw [g1]; exact Nat.le_refl _, hnm⟩
  have hlv := lv_entry [Value.ref b] (n := 9) (Nat.le_of_ble_eq_true rfl)
  rw [lg_entry_eq]
  refine W_room (R' := y_rm 2038 603072 7202921) (by decide) (by decide) (by decide) (by decide) (W_imp (fun t => end_lw g1 (fun o M h => h)) ?_)
  refine hY p l e s m _ below meth c s.heap [] 0 0 603072 7202921 _ C (by omega) (by omega) (fun _ h => nomatch h) (fun q hq => ?_) (fun _ h => nomatch h) ?_ ?_ va_S.rf ?_
  · rw [List.mem_singleton.mp hq]; trivial
  · intro k q hq; cases hq
  · exact ⟨(fun i j p9 q9 h => nomatch (show none = some p9 from h)), fun k q9 h => nomatch (show none = some q9 from h)⟩
  · rw [g2]; exact hlv
