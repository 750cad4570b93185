/-! ===== members of the JDK: Enum.ordinal, String.length, String.charAt of the constant texts ===== -/
section YJ
variable {g : yG} {me : yM0} {d kc ks pc : Nat} {L : List (Nat × yV)} {S : List yV} {M : yMem} {Q : yOut → yMem → Prop}
theorem c_ord {q : Nat} {x : Int} (hx : y_in x) (hE : ∀ (U : State) (H : Heap), y_S g U H → va_OF "java/lang/Enum" "ordinal" "I" (.int (Int32.ofInt x)) q (y_A g) U H) : yC g me_ord 0 0 0 [vr q] M (fun o M' => o = .inl (some (vi x)) ∧ M' = M) := by
  refine y_of (by decide +kernel) rfl (fun v hv => by rw [List.mem_singleton.mp hv]; rfl) (Nat.le_refl _) ?_
  refine y_aload_n (i := 0) dJx29ce0_ordinal_8abf5_0 rfl rfl ?_
  refine y_getK (v := vi x) hx hE (yb 1864 (by decide +kernel) rfl) dJx29ce0_ordinal_8abf5_1 ?_
  exact y_ireturn (ty := .int) rfl rfl dJx29ce0_ordinal_8abf5_4 ⟨rfl, rfl⟩
/-- a call of Enum.ordinal -/
theorem y_ordinal {idx q : Nat} {x : Int} {Cn : String} (hx : y_in x) (hE : ∀ (U : State) (H : Heap), y_S g U H → va_OF "java/lang/Enum" "ordinal" "I" (.int (Int32.ofInt x)) q (y_A g) U H)
    (hrec : ∀ (s : State) (H : Heap) (locs : List Loc), y_S g s s.heap → va_S (y_A g) s.heap H locs → ∃ cell : Cell, H[q]? = some cell ∧ cell.vm.isStatics = false ∧ s.vm.findClass Cn = some cell.cls)
    (hw : ∀ w ∈ ([.methodLink me.1.cls idx ⟨Cn, "ordinal", "()I"⟩, .sameMethod Cn "java/lang/Enum" "ordinal" "()I", .selects Cn ⟨Cn, "ordinal", "()I"⟩ me_ord.1, .instanceMethod me_ord.1, .initialized me_ord.1.cls, .code me_ord.1 me_ord.2.1 1 (some .int)] : List Cond), w ∈ yB) (hd : 1 ≤ d) (hcat : (S.map y_cat).sum ≤ 8)
    (hdg : decode me.2.1 pc = .ok (.invokevirtual idx, 3)) (hu : y_unc me pc) (kk : Y g me d kc ks (pc + 3) L (vi x :: S) M Q) : Y g me d kc ks pc L (vr q :: S) M Q := by
  intro p l e s m args below meth c H locs cells slots mc ms ls C h1 h2 hM hL hS' hP hD hS hlv
  have hts := C.2.2.2.2.2.2.1
  obtain ⟨-, hSS⟩ := List.forall_mem_cons.mp hS'
  have hwc : Cond.code me_ord.1 me_ord.2.1 me_ord.2.2.1 me_ord.2.2.2.1 ∈ yB := hw _ (by simp [me_ord])
  have hC := c_ord (M := M) hx hE (List.forall_mem_cons.mpr ⟨trivial, fun _ h => nomatch h⟩) l C.2.2.2.2.2.2.2.1
  have hr := va_runU (As := []) (x := ⟨Cn, "ordinal", "()I"⟩) (y := me_ord.1) (bytes := me_ord.2.1) (maxL := me_ord.2.2.1) (ret := me_ord.2.2.2.1) (index := idx) (n := 0) (own := me.1.cls) (owner := "java/lang/Enum") (C := Cn) (b := q) (Ts := yB) (p := p) (l := l) (e := e) (R := y_rm d mc ms) (s := s) (m := m) (args := args) (below := below) (meth := meth) (c := c) (H := H) (locs := locs) (cells := cells) (slots := slots) (rest := S.map y_tv) (g := F0 m pc ls ((vr q :: S).map y_tv)) (rm := y_rm 0 0 0) (mc := 0) (ms := 0)
    ⟨C.1, C.2.1, C.2.2.1, C.2.2.2.2.2.1, hts⟩ (y_met hC (fun E M1 h => nomatch h.1))
    (va_cwU 0 hts (yG_of (fun w hw9 => by
      rcases List.mem_append.mp hw9 with h | h
      · exact hw w (by simp only [List.mem_cons, List.not_mem_nil, or_false] at h ⊢; rcases h with h | h | h | h | h <;> simp [h])
      · rcases List.mem_cons.mp (show w ∈ Cond.code me_ord.1 me_ord.2.1 me_ord.2.2.1 me_ord.2.2.2.1 :: yB from h) with h | h
        · rw [h]; exact hwc
        · exact h)) (ws := y_ws me_ord) (ws' := yB) rfl rfl rfl rfl ⟨by decide, by decide, (show (parseMethodDescriptor "()I").map (fun d => d.parameters.length) = some 0 by decide +kernel)⟩ ⟨by show 10 + 0 + 1 ≤ 10 + d; omega, by show 8 + (1 + 11) + (200 + 40 * 0) ≤ 200 + 40 * d; omega⟩)
    ⟨y_blind, hrec s H locs (y_CxS C) hS, y_pre (as := [vr q]) C hM hP hD hS⟩ rfl rfl hlv.1 rfl (lv_room (by rw [y_catsum]; exact hcat)) hdg ⟨by show cells + 0 ≤ mc; omega, by show slots + 0 ≤ ms; omega⟩
  refine y_behind (a := ([vr q].map y_tv).toArray) (kc := kc) (ks := ks) (kc' := 0) (ks' := 0) C h1 h2 hL hSS hS hlv ?_ hu (Q' := fun o M' => o = .inl (some (vi x)) ∧ M' = M) (fun E M1 h => nomatch h.1) (fun r M1 h => ?_)
  · intro T hT X
    obtain ⟨v, st₀, t, T', L9, q1, q2, q3, q4, q5, q6, q7⟩ := hr T hT X
    exact Or.inl ⟨v, st₀, t, T', L9, q1, q2, q3, q4, q5, q6, q7⟩
  · obtain ⟨h3, rfl⟩ := h
    cases h3
    exact kk
theorem y_kind_ord {i : Nat} (hi : i < 8) : ∀ (U : State) (H : Heap), y_S g U H → va_OF "java/lang/Enum" "ordinal" "I" (.int (Int32.ofInt (i : Int))) (g.2.2.2.1 i) (y_A g) U H := by
  intro U H h
  have h2 := (h.2.2.2.1.2.1.1.1 i hi).2.2 ("java/lang/Enum", "ordinal", "I", [0, 1, 2, 3, 4, 5, 6, 7]) List.mem_cons_self
  have e : ∀ i, i < 8 → ([0, 1, 2, 3, 4, 5, 6, 7] : List Int32).getD i 0 = Int32.ofInt (i : Int) := by decide
  rw [← e i hi]; exact h2
theorem y_ref_ord {i : Nat} (hi : i < 6) : ∀ (U : State) (H : Heap), y_S g U H → va_OF "java/lang/Enum" "ordinal" "I" (.int (Int32.ofInt (i : Int))) (g.2.2.2.1 (10 + i)) (y_A g) U H := by
  intro U H h
  have h2 := (h.2.2.2.1.2.1.2.1.1 i hi).2.2 ("java/lang/Enum", "ordinal", "I", [0, 1, 2, 3, 4, 5]) List.mem_cons_self
  have e : ∀ i, i < 6 → ([0, 1, 2, 3, 4, 5] : List Int32).getD i 0 = Int32.ofInt (i : Int) := by decide
  rw [← e i hi]; exact h2
theorem y_kind_recv {i : Nat} (hi : i < 8) : ∀ (s : State) (H : Heap) (locs : List Loc), y_S g s s.heap → va_S (y_A g) s.heap H locs → ∃ cell : Cell, H[g.2.2.2.1 i]? = some cell ∧ cell.vm.isStatics = false ∧ s.vm.findClass KNn = some cell.cls := by
  intro s H locs h hS
  obtain ⟨cell, h1, h2, h3, -⟩ := (h.2.2.2.1.2.1.1.1 i hi).2.1.kept hS.2.1
  exact ⟨cell, h1, h2, h3⟩
theorem y_ref_recv {i : Nat} (hi : i < 6) : ∀ (s : State) (H : Heap) (locs : List Loc), y_S g s s.heap → va_S (y_A g) s.heap H locs → ∃ cell : Cell, H[g.2.2.2.1 (10 + i)]? = some cell ∧ cell.vm.isStatics = false ∧ s.vm.findClass RFn = some cell.cls := by
  intro s H locs h hS
  obtain ⟨cell, h1, h2, h3, -⟩ := (h.2.2.2.1.2.1.2.1.1 i hi).2.1.kept hS.2.1
  exact ⟨cell, h1, h2, h3⟩
theorem y_str_recv {i : Nat} (hi : i < 8) : ∀ (s : State) (H : Heap) (locs : List Loc), y_S g s s.heap → va_S (y_A g) s.heap H locs → ∃ cell : Cell, H[g.2.2.2.1 (30 + i)]? = some cell ∧ cell.vm.isStatics = false ∧ s.vm.findClass STn = some cell.cls := by
  intro s H locs h hS
  exact vk_recv (i := i) (adK := fun i => g.2.2.2.1 (30 + i)) h.2.2.2.1.2.1.2.2.2.1 hi hS
theorem y_strF {i : Nat} (hi : i < 8) {U : State} {H : Heap} (h : y_S g U H) : va_OF STn "coder" "B" (.int 0) (g.2.2.2.1 (30 + i)) (y_A g) U H ∧ va_OF STn "value" "[B" (.ref (g.2.2.2.1 (40 + i))) (g.2.2.2.1 (30 + i)) (y_A g) U H ∧ va_T .byte (g.2.2.2.1 (40 + i)) (y_len.getD i 0) (fun j => .int ((y_byt.getD i []).getD j 0)) (y_A g) U H :=
  (h.2.2.2.1.2.1.2.2.2.1.1 i hi).2
theorem y_cs {U : State} {H : Heap} (h : y_S g U H) : va_Z STn "COMPACT_STRINGS" "Z" (.int 1) (y_A g) U H := h.2.2.2.1.2.1.2.2.2.2.1
theorem y_sf {U : State} {H : Heap} (h : y_S g U H) : va_Zq PRn "SIOOBE_FORMATTER" "Ljava/util/function/BiFunction;" (y_A g) U H := h.2.2.2.1.2.1.2.2.2.2.2
theorem y_form {i : Nat} (hi : i < 8) : ∀ (U : State) (H : Heap), y_S g U H → va_OF KNn "form" "Ljava/lang/String;" (.ref (g.2.2.2.1 (30 + i))) (g.2.2.2.1 i) (y_A g) U H := fun U H h => h.2.2.2.1.2.1.2.2.1 i hi
theorem y_one1 {x : yV} (h : ∀ v ∈ [x], y_cat v = 1) : ∀ v ∈ [x], y_cat v = 1 := h
theorem c_scod {i : Nat} (hi : i < 8) : yC g me_scod 0 0 0 [vr (g.2.2.2.1 (30 + i))] M (fun o M' => o = .inl (some (vi 0)) ∧ M' = M) := by
  refine y_of (by decide +kernel) rfl (fun v hv => by rw [List.mem_singleton.mp hv]; rfl) (Nat.le_refl _) ?_
  refine y_gets (v := vi 1) ⟨by decide, by decide⟩ (fun U H h => y_cs h) (yb 1186 (by decide +kernel) rfl) dJ0_coder_7d493_0 ?_
  refine y_if_eq (tgt := 13) dJ0_coder_7d493_3 rfl (fun h => absurd h (by decide)) (fun _ => ?_)
  refine y_aload_n (i := 0) dJ0_coder_7d493_6 rfl rfl ?_
  refine y_getK (v := vi 0) ⟨by decide, by decide⟩ (fun U H h => (y_strF hi h).1) (yb 1866 (by decide +kernel) rfl) dJ0_coder_7d493_7 ?_
  refine y_goto (tgt := 14) dJ0_coder_7d493_10 rfl ?_
  exact y_ireturn (ty := .byte) rfl rfl dJ0_coder_7d493_14 ⟨rfl, rfl⟩
theorem k_scod : y_kV me_scod 0 := ⟨⟨rfl, (yb 115 (by decide +kernel) rfl), (yb 1225 (by decide +kernel) rfl), ⟨by decide, by decide⟩, by decide +kernel, by decide⟩, (yb 1223 (by decide +kernel) rfl), (yb 1224 (by decide +kernel) rfl)⟩
theorem k_slen : y_kV me_slen 0 := ⟨⟨rfl, (yb 115 (by decide +kernel) rfl), (yb 1221 (by decide +kernel) rfl), ⟨by decide, by decide⟩, by decide +kernel, by decide⟩, (yb 1219 (by decide +kernel) rfl), (yb 1220 (by decide +kernel) rfl)⟩
theorem k_sat : y_kV me_sat 1 := ⟨⟨rfl, (yb 115 (by decide +kernel) rfl), (yb 1181 (by decide +kernel) rfl), ⟨by decide, by decide⟩, by decide +kernel, by decide⟩, (yb 1179 (by decide +kernel) rfl), (yb 1180 (by decide +kernel) rfl)⟩
theorem k_slat : y_kV me_slat 0 := ⟨⟨rfl, (yb 115 (by decide +kernel) rfl), (yb 1185 (by decide +kernel) rfl), ⟨by decide, by decide⟩, by decide +kernel, by decide⟩, (yb 1183 (by decide +kernel) rfl), (yb 1184 (by decide +kernel) rfl)⟩
theorem k_schk : y_kS me_schk 2 := ⟨⟨rfl, (yb 115 (by decide +kernel) rfl), (yb 1193 (by decide +kernel) rfl), ⟨by decide, by decide⟩, by decide +kernel, by decide⟩, (yb 1192 (by decide +kernel) rfl)⟩
theorem k_lat : y_kS me_lat 2 := ⟨⟨rfl, (yb 117 (by decide +kernel) rfl), (yb 1190 (by decide +kernel) rfl), ⟨by decide, by decide⟩, by decide +kernel, by decide⟩, (yb 1189 (by decide +kernel) rfl)⟩
theorem k_pchk : y_kS me_pchk 3 := ⟨⟨rfl, (yb 118 (by decide +kernel) rfl), (yb 1198 (by decide +kernel) rfl), ⟨by decide, by decide⟩, by decide +kernel, by decide⟩, (yb 1197 (by decide +kernel) rfl)⟩
theorem s_len : ∀ i : Nat, i < 8 → ((y_len.getD i 0 : Nat) : Int) = formLen (i : Int) ∧ y_in (formLen (i : Int)) ∧ yshr (formLen (i : Int)) 0 = formLen (i : Int) := by decide
theorem s_at : ∀ i : Nat, i < 8 → ∀ k : Nat, k < 14 → (y_byt.getD i []).getD k 0 = Int32.ofInt (formAt (i : Int) (k : Int)) ∧ y_in (formAt (i : Int) (k : Int)) ∧ yand (formAt (i : Int) (k : Int)) 255 = formAt (i : Int) (k : Int) ∧ formAt (i : Int) (k : Int) % 65536 = formAt (i : Int) (k : Int) ∧ narrow .char (.int (Int32.ofInt (formAt (i : Int) (k : Int)))) = .int (Int32.ofInt (formAt (i : Int) (k : Int))) := by decide +kernel
theorem s_len14 : ∀ i : Nat, i < 8 → formLen (i : Int) ≤ 14 := by decide
theorem c_slen {i : Nat} (hi : i < 8) : yC g me_slen 1 0 0 [vr (g.2.2.2.1 (30 + i))] M (fun o M' => o = .inl (some (vi (formLen (i : Int)))) ∧ M' = M) := by
  obtain ⟨e1, e2, e3⟩ := s_len i hi
  refine y_of (by decide +kernel) rfl (fun v hv => by rw [List.mem_singleton.mp hv]; rfl) (Nat.le_refl _) ?_
  refine y_aload_n (i := 0) dJ0_length_8abf5_0 rfl rfl ?_
  refine y_getK (v := vr (g.2.2.2.1 (40 + i))) trivial (fun U H h => (y_strF hi h).2.1) (yb 1867 (by decide +kernel) rfl) dJ0_length_8abf5_1 ?_
  refine y_tlen (n := y_len.getD i 0) (by rw [e1]; exact e2) (fun U H h => (y_strF hi h).2.2) dJ0_length_8abf5_4 ?_
  refine y_aload_n (i := 0) dJ0_length_8abf5_5 rfl rfl ?_
  refine y_callR (kc := 0) (ks := 0) (as := []) (c_scod hi) k_scod (by decide) rfl (y_str_recv hi) (yb 1222 (by decide +kernel) rfl) rfl (Nat.le_of_ble_eq_true rfl) dJ0_length_8abf5_6 (y_unc0 rfl) (fun E M1 h => nomatch h.1) (fun r M1 h => ?_)
  obtain ⟨h3, rfl⟩ := h
  cases h3
  refine y_ishr dJ0_length_8abf5_9 ?_
  rw [e1, e3]
  exact y_ireturn (ty := .int) rfl rfl dJ0_length_8abf5_10 ⟨rfl, rfl⟩
theorem c_slat {i : Nat} (hi : i < 8) : yC g me_slat 0 0 0 [vr (g.2.2.2.1 (30 + i))] M (fun o M' => o = .inl (some (vi 1)) ∧ M' = M) := by
  refine y_of (by decide +kernel) rfl (fun v hv => by rw [List.mem_singleton.mp hv]; rfl) (Nat.le_refl _) ?_
  refine y_gets (v := vi 1) ⟨by decide, by decide⟩ (fun U H h => y_cs h) (yb 1186 (by decide +kernel) rfl) dJ0_isLatin1_aae02_0 ?_
  refine y_if_eq (tgt := 17) dJ0_isLatin1_aae02_3 rfl (fun h => absurd h (by decide)) (fun _ => ?_)
  refine y_aload_n (i := 0) dJ0_isLatin1_aae02_6 rfl rfl ?_
  refine y_getK (v := vi 0) ⟨by decide, by decide⟩ (fun U H h => (y_strF hi h).1) (yb 1866 (by decide +kernel) rfl) dJ0_isLatin1_aae02_7 ?_
  refine y_if_ne (tgt := 17) dJ0_isLatin1_aae02_10 rfl (fun h => absurd rfl h) (fun _ => ?_)
  refine y_iconst dJ0_isLatin1_aae02_13 ⟨by decide, by decide⟩ ?_
  refine y_goto (tgt := 18) dJ0_isLatin1_aae02_14 rfl ?_
  exact y_ireturn (ty := .boolean) rfl rfl dJ0_isLatin1_aae02_18 ⟨rfl, rfl⟩
theorem c_pchk {v : Value} (hv : v.category = 1) {i n : Int} (h0 : 0 ≤ i) (hn : i < n) : yC g me_pchk 0 0 0 [vi i, vi n, vv v] M (fun o M' => o = .inl (some (vi i)) ∧ M' = M) := by
  refine y_of (by decide +kernel) rfl (fun w hw => by
    rcases List.mem_cons.mp hw with h | hw
    · rw [h]; rfl
    rcases List.mem_cons.mp hw with h | hw
    · rw [h]; rfl
    rw [List.mem_singleton.mp hw]; exact hv) (Nat.le_refl _) ?_
  refine y_iload_n (i := 0) dJ3_checkIndex_8e157_0 rfl rfl ?_
  refine y_if_lt (tgt := 9) dJ3_checkIndex_8e157_1 rfl (fun h => by omega) (fun _ => ?_)
  refine y_iload_n (i := 0) dJ3_checkIndex_8e157_4 rfl rfl ?_
  refine y_iload_n (i := 1) dJ3_checkIndex_8e157_5 rfl rfl ?_
  refine y_icmp_lt (tgt := 16) dJ3_checkIndex_8e157_6 rfl (fun _ => ?_) (fun h => by omega)
  refine y_iload_n (i := 0) dJ3_checkIndex_8e157_16 rfl rfl ?_
  exact y_ireturn (ty := .int) rfl rfl dJ3_checkIndex_8e157_17 ⟨rfl, rfl⟩
theorem c_schk {i n : Int} (h0 : 0 ≤ i) (hn : i < n) : yC g me_schk 1 0 0 [vi i, vi n] M (fun o M' => o = .inl none ∧ M' = M) := by
  refine y_of (by decide +kernel) rfl (fun w hw => by
    rcases List.mem_cons.mp hw with h | hw
    · rw [h]; rfl
    rw [List.mem_singleton.mp hw]; rfl) (Nat.le_refl _) ?_
  refine y_iload_n (i := 0) dJ0_checkIndex_df160_0 rfl rfl ?_
  refine y_iload_n (i := 1) dJ0_checkIndex_df160_1 rfl rfl ?_
  refine y_getsQ (fun U H h => y_sf h) (yb 1194 (by decide +kernel) rfl) dJ0_checkIndex_df160_2 (fun v hv => ?_)
  refine y_callS (kc := 0) (ks := 0) (as := [vi i, vi n, vv v]) (c_pchk hv h0 hn) k_pchk (by decide) rfl (yb 1196 (by decide +kernel) rfl) (S := []) rfl (by decide) dJ0_checkIndex_df160_5 (y_unc0 rfl) (fun E M1 h => nomatch h.1) (fun r M1 h => ?_)
  obtain ⟨h3, rfl⟩ := h
  cases h3
  refine y_pop (a := vi i) dJ0_checkIndex_df160_8 rfl ?_
  exact y_return rfl dJ0_checkIndex_df160_9 ⟨rfl, rfl⟩
theorem c_lat {i : Nat} (hi : i < 8) {k : Int} (h0 : 0 ≤ k) (hk : k < formLen (i : Int)) : yC g me_lat 2 0 0 [vr (g.2.2.2.1 (40 + i)), vi k] M (fun o M' => o = .inl (some (vi (formAt (i : Int) k))) ∧ M' = M) := by
  obtain ⟨e1, e2, e3⟩ := s_len i hi
  have hk14 := s_len14 i hi
  obtain ⟨f1, f2, f3, f4, f5⟩ := s_at i hi k.toNat (by omega)
  rw [Int.toNat_of_nonneg h0] at f1 f2 f3 f4 f5
  refine y_of (by decide +kernel) rfl (fun w hw => by
    rcases List.mem_cons.mp hw with h | hw
    · rw [h]; rfl
    rw [List.mem_singleton.mp hw]; rfl) (Nat.le_refl _) ?_
  refine y_iload_n (i := 1) dJ1_charAt_3b067_0 rfl rfl ?_
  refine y_aload_n (i := 0) dJ1_charAt_3b067_1 rfl rfl ?_
  refine y_tlen (n := y_len.getD i 0) (by rw [e1]; exact e2) (fun U H h => (y_strF hi h).2.2) dJ1_charAt_3b067_2 ?_
  rw [e1]
  refine y_callS (kc := 0) (ks := 0) (as := [vi k, vi (formLen (i : Int))]) (c_schk h0 hk) k_schk (by decide) rfl (yb 1191 (by decide +kernel) rfl) (S := []) rfl (by decide) dJ1_charAt_3b067_3 (y_unc0 rfl) (fun E M1 h => nomatch h.1) (fun r M1 h => ?_)
  obtain ⟨h3, rfl⟩ := h
  cases h3
  refine y_aload_n (i := 0) dJ1_charAt_3b067_6 rfl rfl ?_
  refine y_iload_n (i := 1) dJ1_charAt_3b067_7 rfl rfl ?_
  refine y_tb (n := y_len.getD i 0) (x := formAt (i : Int) k) (fun U H h => (y_strF hi h).2.2) h0 (by rw [e1]; exact hk) (congrArg Value.int f1) f2 dJ1_charAt_3b067_8 ?_
  refine y_sipush (n := 255) dJ1_charAt_3b067_9 (by decide) ⟨by decide, by decide⟩ ?_
  refine y_iand dJ1_charAt_3b067_12 ?_
  rw [f3]
  refine y_i2c dJ1_charAt_3b067_13 ?_
  rw [f4]
  exact y_ireturn (ty := .char) rfl f5 dJ1_charAt_3b067_14 ⟨rfl, rfl⟩
theorem c_sat {i : Nat} (hi : i < 8) {k : Int} (h0 : 0 ≤ k) (hk : k < formLen (i : Int)) : yC g me_sat 3 0 0 [vr (g.2.2.2.1 (30 + i)), vi k] M (fun o M' => o = .inl (some (vi (formAt (i : Int) k))) ∧ M' = M) := by
  obtain ⟨e1, e2, e3⟩ := s_len i hi
  have hk14 := s_len14 i hi
  obtain ⟨f1, f2, f3, f4, f5⟩ := s_at i hi k.toNat (by omega)
  rw [Int.toNat_of_nonneg h0] at f5
  refine y_of (by decide +kernel) rfl (fun w hw => by
    rcases List.mem_cons.mp hw with h | hw
    · rw [h]; rfl
    rw [List.mem_singleton.mp hw]; rfl) (Nat.le_refl _) ?_
  refine y_aload_n (i := 0) dJ0_charAt_5068e_0 rfl rfl ?_
  refine y_callR (kc := 0) (ks := 0) (as := []) (S := []) (c_slat hi) k_slat (by decide) rfl (y_str_recv hi) (yb 1182 (by decide +kernel) rfl) rfl (by decide) dJ0_charAt_5068e_1 (y_unc0 rfl) (fun E M1 h => nomatch h.1) (fun r M1 h => ?_)
  obtain ⟨h3, rfl⟩ := h
  cases h3
  refine y_if_eq (tgt := 16) dJ0_charAt_5068e_4 rfl (fun h => absurd h (by decide)) (fun _ => ?_)
  refine y_aload_n (i := 0) dJ0_charAt_5068e_7 rfl rfl ?_
  refine y_getK (v := vr (g.2.2.2.1 (40 + i))) trivial (fun U H h => (y_strF hi h).2.1) (yb 1867 (by decide +kernel) rfl) dJ0_charAt_5068e_8 ?_
  refine y_iload_n (i := 1) dJ0_charAt_5068e_11 rfl rfl ?_
  refine y_callS (kc := 0) (ks := 0) (as := [vr (g.2.2.2.1 (40 + i)), vi k]) (c_lat hi h0 hk) k_lat (by decide) rfl (yb 1188 (by decide +kernel) rfl) (S := []) rfl (by decide) dJ0_charAt_5068e_12 (y_unc0 rfl) (fun E M1 h => nomatch h.1) (fun r M1 h => ?_)
  obtain ⟨h3, rfl⟩ := h
  cases h3
  exact y_ireturn (ty := .char) rfl f5 dJ0_charAt_5068e_15 ⟨rfl, rfl⟩
end YJ
