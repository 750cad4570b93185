/-! ===== the rows: one an instruction (written by a program of this repository) ===== -/
theorem y_in0 : y_in 0 := ⟨by decide, by decide⟩
theorem y_div {a b : Int} (ha : y_in a) (hb : y_in b) : Int32.ofInt (wr (a.tdiv b)) = Int32.ofInt a / Int32.ofInt b := by
  rw [y_ofInt_wr]
  apply Int32.toInt_inj.mp
  rw [Int32.toInt_ofInt, Int32.toInt_div, y_toInt ha, y_toInt hb]
theorem y_rem {a b : Int} (ha : y_in a) (hb : y_in b) : Int32.ofInt (a.tmod b) = Int32.ofInt a - Int32.ofInt a / Int32.ofInt b * Int32.ofInt b := by
  have h := rem_toInt (Int32.ofInt a) (Int32.ofInt b)
  rw [y_toInt ha, y_toInt hb] at h
  rw [← h, Int32.ofInt_toInt]
theorem y_rem_in {a b : Int} (ha : y_in a) (hb : y_in b) (h0 : b ≠ 0) : y_in (a.tmod b) := by
  have h := rem_toInt (Int32.ofInt a) (Int32.ofInt b)
  rw [y_toInt ha, y_toInt hb] at h
  rw [← h]
  exact ⟨Int32.le_toInt _, by have := Int32.toInt_lt (Int32.ofInt a - Int32.ofInt a / Int32.ofInt b * Int32.ofInt b); omega⟩
def yand (a b : Int) : Int := (Int32.ofInt a &&& Int32.ofInt b).toInt
def yor (a b : Int) : Int := (Int32.ofInt a ||| Int32.ofInt b).toInt
def yxor (a b : Int) : Int := (Int32.ofInt a ^^^ Int32.ofInt b).toInt
def yshl (a b : Int) : Int := (Int32.ofInt a <<< (Int32.ofInt b &&& 31)).toInt
def yshr (a b : Int) : Int := (Int32.ofInt a >>> (Int32.ofInt b &&& 31)).toInt
theorem y_back (z : Int) (x : Int32) (h : z = x.toInt) : x = Int32.ofInt z := by rw [h, Int32.ofInt_toInt]
theorem y_back_in (z : Int) (x : Int32) (h : z = x.toInt) : y_in z := by
  rw [h]; exact ⟨Int32.le_toInt _, by have := Int32.toInt_lt x; omega⟩
theorem y_i2l_eq {a : Int} (h : y_in a) : (Int32.ofInt a).toInt64 = Int64.ofInt a := by
  apply Int64.toInt_inj.mp
  rw [Int32.toInt_toInt64, y_toInt h, Int64.toInt_ofInt, Int.bmod_eq_of_le_mul_two]
  · have hs : ((Int64.size : Nat) : Int) = 18446744073709551616 := rfl
    rw [hs]; omega
  · have hs : ((Int64.size : Nat) : Int) = 18446744073709551616 := rfl
    rw [hs]; omega
theorem y_i2l_in {a : Int} (h : y_in a) : y_inL a := by unfold y_inL; omega
theorem y_toIntL {x : Int} (h : y_inL x) : (Int64.ofInt x).toInt = x := by
  have hs : ((Int64.size : Nat) : Int) = 18446744073709551616 := rfl
  rw [Int64.toInt_ofInt, Int.bmod_eq_of_le_mul_two]
  · rw [hs]; omega
  · rw [hs]; omega
def ycmp (a b : Int) : Int := if b < a then 1 else if a = b then 0 else -1
theorem y_cmp_in (a b : Int) : y_in (ycmp a b) := by unfold ycmp; split; · exact ⟨by decide, by decide⟩
                                                     · split <;> exact ⟨by decide, by decide⟩
theorem y_lcmp_eq {a b : Int} (ha : y_inL a) (hb : y_inL b) : lg_cmp (Int64.ofInt a) (Int64.ofInt b) = Int32.ofInt (ycmp a b) := by
  have h1 : Int64.ofInt b < Int64.ofInt a ↔ b < a := by rw [Int64.lt_iff_toInt_lt, y_toIntL ha, y_toIntL hb]
  have h2 : Int64.ofInt a = Int64.ofInt b ↔ a = b := ⟨fun h => by have := congrArg Int64.toInt h; rwa [y_toIntL ha, y_toIntL hb] at this, fun h => by rw [h]⟩
  unfold lg_cmp ycmp
  show (if Int64.ofInt b < Int64.ofInt a then (1 : Int32) else if Int64.ofInt a = Int64.ofInt b then 0 else -1) = _
  by_cases c1 : b < a
  · rw [if_pos (h1.mpr c1), if_pos c1]; rfl
  · rw [if_neg (fun h => c1 (h1.mp h)), if_neg c1]
    by_cases c2 : a = b
    · rw [if_pos (h2.mpr c2), if_pos c2]; rfl
    · rw [if_neg (fun h => c2 (h2.mp h)), if_neg c2]; rfl
theorem y_i2c_eq (a : Int) : ((Int32.ofInt a).toUInt32 % 65536).toInt32 = Int32.ofInt (a % 65536) := by
  apply Int32.toInt_inj.mp
  rw [y_toInt (by unfold y_in; omega)]
  have h1 : ((Int32.ofInt a).toUInt32 % 65536).toNat = (a % 65536).toNat := by
    rw [UInt32.toNat_mod]
    show (Int32.ofInt a).toUInt32.toNat % 65536 = _
    have h2 : (Int32.ofInt a).toUInt32.toNat = (a % 4294967296).toNat := by
      show (BitVec.ofInt 32 a).toNat = _
      rw [BitVec.toNat_ofInt]
      rfl
    rw [h2]; omega
  have h3 : ((Int32.ofInt a).toUInt32 % 65536).toInt32.toInt = (((Int32.ofInt a).toUInt32 % 65536).toNat : Int) := by
    have hb : ((Int32.ofInt a).toUInt32 % 65536).toNat < 65536 := by rw [h1]; omega
    show ((Int32.ofInt a).toUInt32 % 65536).toBitVec.toInt = _
    rw [BitVec.toInt_eq_toNat_of_lt]
    · rfl
    · show 2 * ((Int32.ofInt a).toUInt32 % 65536).toNat < 4294967296
      omega
  rw [h3, h1]; omega
theorem y_nar_char (a : Int) : (Int32.ofInt a).toUInt32.toUInt16.toUInt32.toInt32 = Int32.ofInt (a % 65536) := by
  rw [← y_i2c_eq]
  refine congrArg UInt32.toInt32 (UInt32.toNat_inj.mp ?_)
  rw [UInt32.toNat_mod, UInt16.toNat_toUInt32, UInt32.toNat_toUInt16]
  rfl
theorem y_i2c_in (a : Int) : y_in (a % 65536) := by unfold y_in; omega
/-- the locals behind a store of two slots -/
def y_st2 (i : Nat) (v : yV) (L : List (Nat × yV)) : List (Nat × yV) := (i, v) :: L.filter (fun q => !(q.1 == i) && (!(q.1 == i + 1) && !(q.1 + 1 == i && y_cat q.2 == 2)))
theorem y_st2_map (i : Nat) (v : yV) (L : List (Nat × yV)) : (i, y_tv v) :: (L.map fun q => (q.1, y_tv q.2)).filter (fun q => !(q.1 == i) && (!(q.1 == i + 1) && !(q.1 + 1 == i && q.2.category == 2))) = (y_st2 i v L).map fun q => (q.1, y_tv q.2) := by
  unfold y_st2
  rw [List.map_cons, List.filter_map]
  refine congrArg _ (congrArg _ ?_)
  apply List.filter_congr
  intro q _
  show _ = (!(q.1 == i) && (!(q.1 == i + 1) && !(q.1 + 1 == i && y_cat q.2 == 2)))
  rw [← y_cat_tv]
  rfl
theorem y_st2_ok {i : Nat} {v : yV} {L L' : List (Nat × yV)} (h : ∀ q ∈ L, y_ok q.2) (hv : y_ok v) (he : y_st2 i v L = L') : ∀ q ∈ L', y_ok q.2 := by
  subst he
  intro q hq
  rcases List.mem_cons.mp hq with h1 | h1
  · rw [h1]; exact hv
  · exact h q (List.mem_filter.mp h1).1
theorem y_idx {i : Int} {n : Nat} (hi : y_in i) (h0 : 0 ≤ i) (hn : i < n) : vp_in (Int32.ofInt i) n := by
  unfold vp_in
  rw [y_clamp hi, show (0 : Int32) = Int32.ofInt 0 from rfl, y_lt hi y_in0]
  omega
theorem y_getD_inC {xs : List Int} (h : ∀ x ∈ xs, 0 ≤ x ∧ x ≤ 65535) (j : Nat) : y_in (xs.getD j 0) := by
  rw [List.getD_eq_getElem?_getD]
  cases hj : xs[j]? with
  | none => exact ⟨by decide, by decide⟩
  | some v => have := h v (List.mem_of_getElem? hj); show y_in v; unfold y_in; omega
theorem y_getD_inL {xs : List Int} (h : ∀ x ∈ xs, y_inL x) (j : Nat) : y_inL (xs.getD j 0) := by
  rw [List.getD_eq_getElem?_getD]
  cases hj : xs[j]? with
  | none => exact ⟨by decide, by decide⟩
  | some v => exact h v (List.mem_of_getElem? hj)
theorem y_len_in {n : Nat} (h : n < 2147483648) : y_in (n : Int) := by unfold y_in; omega
theorem y_getD_set {α : Type} {xs : List α} {k j : Nat} {v d : α} (hk : k < xs.length) : (xs.set k v).getD j d = if j = k then v else xs.getD j d := by
  rw [List.getD_eq_getElem?_getD, List.getD_eq_getElem?_getD]
  by_cases h : j = k
  · subst h; rw [if_pos rfl, List.getElem?_set_self hk]; rfl
  · rw [if_neg h, List.getElem?_set_ne (Ne.symm h)]
theorem y_te_sa {g : yG} {xs : List Int} {i x : Int} (hn : i < xs.length) (h0 : 0 ≤ i) : (Sum.inl (g.2.1 0, xs.length, .inl (upd (fun j => Int32.ofInt (xs.getD j 0)) i.toNat (Int32.ofInt x))) : va_E) = y_te g (oi (sa xs i x)) := by
  show _ = (Sum.inl (g.2.1 0, (xs.set i.toNat x).length, .inl (fun j => Int32.ofInt ((xs.set i.toNat x).getD j 0))) : va_E)
  rw [List.length_set]
  refine congrArg (fun f => (Sum.inl (g.2.1 0, xs.length, .inl f) : va_E)) (funext fun j => ?_)
  rw [y_getD_set (by omega)]
  unfold upd
  split <;> rfl
theorem y_te_sac {g : yG} {xs : List Int} {i x : Int} (hn : i < xs.length) (h0 : 0 ≤ i) (hx : 0 ≤ x ∧ x ≤ 65535) : (Sum.inl (g.2.1 1, xs.length, .inl (upd (fun j => Int32.ofInt (xs.getD j 0)) i.toNat (vp_nar .char (Int32.ofInt x)))) : va_E) = y_te g (oc (sa xs i x)) := by
  have e : vp_nar .char (Int32.ofInt x) = Int32.ofInt x := by
    show (Int32.ofInt x).toUInt32.toUInt16.toUInt32.toInt32 = _
    rw [y_nar_char, Int.emod_eq_of_lt hx.1 (by omega)]
  rw [e]
  show _ = (Sum.inl (g.2.1 1, (xs.set i.toNat x).length, .inl (fun j => Int32.ofInt ((xs.set i.toNat x).getD j 0))) : va_E)
  rw [List.length_set]
  refine congrArg (fun f => (Sum.inl (g.2.1 1, xs.length, .inl f) : va_E)) (funext fun j => ?_)
  rw [y_getD_set (by omega)]
  unfold upd
  split <;> rfl
theorem y_te_sal {g : yG} {xs : List Int} {i x : Int} (hn : i < xs.length) (h0 : 0 ≤ i) : (Sum.inl (g.2.1 2, xs.length, .inr (.inl (vp_updL (fun j => Int64.ofInt (xs.getD j 0)) i.toNat (Int64.ofInt x)))) : va_E) = y_te g (ol (sa xs i x)) := by
  show _ = (Sum.inl (g.2.1 2, (xs.set i.toNat x).length, .inr (.inl (fun j => Int64.ofInt ((xs.set i.toNat x).getD j 0)))) : va_E)
  rw [List.length_set]
  refine congrArg (fun f => (Sum.inl (g.2.1 2, xs.length, .inr (.inl f)) : va_E)) (funext fun j => ?_)
  rw [y_getD_set (by omega)]
  unfold vp_updL
  split <;> rfl
theorem y_te_sad {g : yG} {xs : List UInt64} {i : Int} {x : UInt64} (hn : i < xs.length) (h0 : 0 ≤ i) : (Sum.inl (g.2.1 3, xs.length, .inr (.inr (.inr (.inl (vf_upd (fun j => xs.getD j 0) i.toNat x))))) : va_E) = y_te g (od (xs.set i.toNat x)) := by
  show _ = (Sum.inl (g.2.1 3, (xs.set i.toNat x).length, .inr (.inr (.inr (.inl (fun j => (xs.set i.toNat x).getD j 0))))) : va_E)
  rw [List.length_set]
  refine congrArg (fun f => (Sum.inl (g.2.1 3, xs.length, .inr (.inr (.inr (.inl f)))) : va_E)) (funext fun j => ?_)
  rw [y_getD_set (by omega)]
  unfold vf_upd
  split <;> rfl
theorem y_okO_sa {xs : List Int} {i x : Int} (h : y_okO (oi xs)) (hx : y_in x) : y_okO (oi (sa xs i x)) := ⟨y_mem_set h.1 hx, by unfold sa; rw [List.length_set]; exact h.2⟩
theorem y_okO_sac {xs : List Int} {i x : Int} (h : y_okO (oc xs)) (hx : 0 ≤ x ∧ x ≤ 65535) : y_okO (oc (sa xs i x)) := ⟨y_mem_set h.1 hx, by unfold sa; rw [List.length_set]; exact h.2⟩
theorem y_okO_sal {xs : List Int} {i x : Int} (h : y_okO (ol xs)) (hx : y_inL x) : y_okO (ol (sa xs i x)) := ⟨y_mem_set h.1 hx, by unfold sa; rw [List.length_set]; exact h.2⟩
theorem y_okO_sad {xs : List UInt64} {i : Int} {x : UInt64} (h : y_okO (od xs)) : y_okO (od (xs.set i.toNat x)) := by
  show (xs.set i.toNat x).length < _
  rw [List.length_set]; exact h
theorem y_map_at {fs : List yV} {k : Nat} {v : yV} (h : fs[k]? = some v) : (fs.map y_tv)[k]? = some (y_tv v) := by rw [List.getElem?_map, h]; rfl
/-! the classes' words are among the good ones -/
theorem i_X1 : ∀ w ∈ wsX10, w ∈ yB := by decide +kernel
theorem i_X2 : ∀ w ∈ wsX20, w ∈ yB := by decide +kernel
theorem i_X4 : ∀ w ∈ wsX40, w ∈ yB := by decide +kernel
theorem i_X5 : ∀ w ∈ wsX50, w ∈ yB := by decide +kernel
theorem i_X7 : ∀ w ∈ wsX70, w ∈ yB := by decide +kernel
theorem i_X8 : ∀ w ∈ wsX80, w ∈ yB := by decide +kernel
theorem i_X9 : ∀ w ∈ wsX90, w ∈ yB := by decide +kernel
theorem i_X10 : ∀ w ∈ wsX100, w ∈ yB := by decide +kernel
theorem y_clin {ci N : Nat} {Cn : String} {T : u_T} (h : y_cl[ci]? = some (Cn, T, N)) : ∀ w ∈ u_ws Cn T N, w ∈ yB := by
  match ci, h with
  | 0, h => cases h; exact i_X1
  | 1, h => cases h; exact i_X2
  | 2, h => cases h; exact i_X4
  | 3, h => cases h; exact i_X5
  | 4, h => cases h; exact i_X7
  | 5, h => cases h; exact i_X8
  | 6, h => cases h; exact i_X9
  | 7, h => cases h; exact i_X10
  | n + 8, h => simp [y_cl] at h
theorem y_clty {ci N : Nat} {Cn : String} {T : u_T} (h : y_cl[ci]? = some (Cn, T, N)) : ∃ ty0 : Nat → FieldType, (∀ k, k < N → parseFieldDescriptor (T k).2.2.1 = some (ty0 k)) ∧ ∀ a, a < N → ∀ b, b < N → a ≠ b → (T a).2.1 ≠ (T b).2.1 := by
  match ci, h with
  | 0, h => cases h; exact ⟨tyX1, tyX1_ok, nmX1⟩
  | 1, h => cases h; exact ⟨tyX2, tyX2_ok, nmX2⟩
  | 2, h => cases h; exact ⟨tyX4, tyX4_ok, nmX4⟩
  | 3, h => cases h; exact ⟨tyX5, tyX5_ok, nmX5⟩
  | 4, h => cases h; exact ⟨tyX7, tyX7_ok, nmX7⟩
  | 5, h => cases h; exact ⟨tyX8, tyX8_ok, nmX8⟩
  | 6, h => cases h; exact ⟨tyX9, tyX9_ok, nmX9⟩
  | 7, h => cases h; exact ⟨tyX10, tyX10_ok, nmX10⟩
  | n + 8, h => simp [y_cl] at h
section YR2
variable {g : yG} {me : yM0} {d kc ks pc : Nat} {L : List (Nat × yV)} {S : List yV} {M : yMem} {Q : yOut → yMem → Prop}
theorem y_lload_n {k : Fin 4} {i : Nat} {x : Int} (hdg : decode me.2.1 pc = .ok (.lload_n k, 1)) (hi : (k : Nat) = i) (hl : y_get i L = some (vl x)) (kk : Y g me d kc ks (pc + 1) L (vl x :: S) M Q) : Y g me d kc ks pc L S M Q := by
  intro p l e s m args below meth c H locs cells slots mc ms ls C h1 h2 hM hL hS' hP hD hS hlv
  exact lv_lload_n C.1 C.2.1 hdg hi (y_lv hlv hl) (kk p l e s m args below meth c H locs cells slots mc ms ls C h1 h2 hM hL (y_okc (hL _ (y_get_mem hl)) hS') hP hD hS hlv)
theorem y_lload {i : Nat} {x : Int} (hdg : decode me.2.1 pc = .ok (.lload i, 2)) (hl : y_get i L = some (vl x)) (kk : Y g me d kc ks (pc + 2) L (vl x :: S) M Q) : Y g me d kc ks pc L S M Q := by
  intro p l e s m args below meth c H locs cells slots mc ms ls C h1 h2 hM hL hS' hP hD hS hlv
  exact lv_lload C.1 C.2.1 hdg (y_lv hlv hl) (kk p l e s m args below meth c H locs cells slots mc ms ls C h1 h2 hM hL (y_okc (hL _ (y_get_mem hl)) hS') hP hD hS hlv)
theorem y_fload_n {k : Fin 4} {i : Nat} {y : UInt32} (hdg : decode me.2.1 pc = .ok (.fload_n k, 1)) (hi : (k : Nat) = i) (hl : y_get i L = some (vv (.float y))) (kk : Y g me d kc ks (pc + 1) L (vv (.float y) :: S) M Q) : Y g me d kc ks pc L S M Q := by
  intro p l e s m args below meth c H locs cells slots mc ms ls C h1 h2 hM hL hS' hP hD hS hlv
  exact lv_fload_n C.1 C.2.1 hdg hi (y_lv hlv hl) (kk p l e s m args below meth c H locs cells slots mc ms ls C h1 h2 hM hL (y_okc (hL _ (y_get_mem hl)) hS') hP hD hS hlv)
theorem y_fload {i : Nat} {y : UInt32} (hdg : decode me.2.1 pc = .ok (.fload i, 2)) (hl : y_get i L = some (vv (.float y))) (kk : Y g me d kc ks (pc + 2) L (vv (.float y) :: S) M Q) : Y g me d kc ks pc L S M Q := by
  intro p l e s m args below meth c H locs cells slots mc ms ls C h1 h2 hM hL hS' hP hD hS hlv
  exact lv_fload C.1 C.2.1 hdg (y_lv hlv hl) (kk p l e s m args below meth c H locs cells slots mc ms ls C h1 h2 hM hL (y_okc (hL _ (y_get_mem hl)) hS') hP hD hS hlv)
theorem y_dload_n {k : Fin 4} {i : Nat} {y : UInt64} (hdg : decode me.2.1 pc = .ok (.dload_n k, 1)) (hi : (k : Nat) = i) (hl : y_get i L = some (vv (.double y))) (kk : Y g me d kc ks (pc + 1) L (vv (.double y) :: S) M Q) : Y g me d kc ks pc L S M Q := by
  intro p l e s m args below meth c H locs cells slots mc ms ls C h1 h2 hM hL hS' hP hD hS hlv
  exact lv_dload_n C.1 C.2.1 hdg hi (y_lv hlv hl) (kk p l e s m args below meth c H locs cells slots mc ms ls C h1 h2 hM hL (y_okc (hL _ (y_get_mem hl)) hS') hP hD hS hlv)
theorem y_dload {i : Nat} {y : UInt64} (hdg : decode me.2.1 pc = .ok (.dload i, 2)) (hl : y_get i L = some (vv (.double y))) (kk : Y g me d kc ks (pc + 2) L (vv (.double y) :: S) M Q) : Y g me d kc ks pc L S M Q := by
  intro p l e s m args below meth c H locs cells slots mc ms ls C h1 h2 hM hL hS' hP hD hS hlv
  exact lv_dload C.1 C.2.1 hdg (y_lv hlv hl) (kk p l e s m args below meth c H locs cells slots mc ms ls C h1 h2 hM hL (y_okc (hL _ (y_get_mem hl)) hS') hP hD hS hlv)
theorem y_fstore {i : Nat} {y : UInt32} {L' : List (Nat × yV)} (hdg : decode me.2.1 pc = .ok (.fstore i, 2)) (hn : i < me.2.2.1) (hl : y_st i (vv (.float y)) L = L') (kk : Y g me d kc ks (pc + 2) L' S M Q) : Y g me d kc ks pc L (vv (.float y) :: S) M Q := by
  intro p l e s m args below meth c H locs cells slots mc ms ls C h1 h2 hM hL hS' hP hD hS hlv
  obtain ⟨hv, hS'⟩ := List.forall_mem_cons.mp hS'
  exact lv_fstore C.1 C.2.1 hdg hlv hn (y_st_map i (vv (.float y)) L) (fun ls' hl' => (kk p l e s m args below meth c H locs cells slots mc ms ls' C h1 h2 hM (y_st_ok hL hv hl) hS' hP hD hS (by rw [← hl]; exact hl')))
theorem y_lstore_n {k : Fin 4} {i : Nat} {x : Int} {L' : List (Nat × yV)} (hdg : decode me.2.1 pc = .ok (.lstore_n k, 1)) (hi : (k : Nat) = i) (hn : i + 1 < me.2.2.1) (hl : y_st2 i (vl x) L = L') (kk : Y g me d kc ks (pc + 1) L' S M Q) : Y g me d kc ks pc L (vl x :: S) M Q := by
  intro p l e s m args below meth c H locs cells slots mc ms ls C h1 h2 hM hL hS' hP hD hS hlv
  obtain ⟨hv, hS'⟩ := List.forall_mem_cons.mp hS'
  exact lv_lstore_n C.1 C.2.1 hdg hi hlv hn (y_st2_map i (vl x) L) (fun ls' hl' => (kk p l e s m args below meth c H locs cells slots mc ms ls' C h1 h2 hM (y_st2_ok hL hv hl) hS' hP hD hS (by rw [← hl]; exact hl')))
theorem y_lstore {i : Nat} {x : Int} {L' : List (Nat × yV)} (hdg : decode me.2.1 pc = .ok (.lstore i, 2)) (hn : i + 1 < me.2.2.1) (hl : y_st2 i (vl x) L = L') (kk : Y g me d kc ks (pc + 2) L' S M Q) : Y g me d kc ks pc L (vl x :: S) M Q := by
  intro p l e s m args below meth c H locs cells slots mc ms ls C h1 h2 hM hL hS' hP hD hS hlv
  obtain ⟨hv, hS'⟩ := List.forall_mem_cons.mp hS'
  exact lv_lstore C.1 C.2.1 hdg hlv hn (y_st2_map i (vl x) L) (fun ls' hl' => (kk p l e s m args below meth c H locs cells slots mc ms ls' C h1 h2 hM (y_st2_ok hL hv hl) hS' hP hD hS (by rw [← hl]; exact hl')))
theorem y_dstore {i : Nat} {y : UInt64} {L' : List (Nat × yV)} (hdg : decode me.2.1 pc = .ok (.dstore i, 2)) (hn : i + 1 < me.2.2.1) (hl : y_st2 i (vv (.double y)) L = L') (kk : Y g me d kc ks (pc + 2) L' S M Q) : Y g me d kc ks pc L (vv (.double y) :: S) M Q := by
  intro p l e s m args below meth c H locs cells slots mc ms ls C h1 h2 hM hL hS' hP hD hS hlv
  obtain ⟨hv, hS'⟩ := List.forall_mem_cons.mp hS'
  exact lv_dstore C.1 C.2.1 hdg hlv hn (y_st2_map i (vv (.double y)) L) (fun ls' hl' => (kk p l e s m args below meth c H locs cells slots mc ms ls' C h1 h2 hM (y_st2_ok hL hv hl) hS' hP hD hS (by rw [← hl]; exact hl')))
theorem y_iinc {i : Nat} {n x : Int} {L' : List (Nat × yV)} (hdg : decode me.2.1 pc = .ok (.iinc i n, 3)) (hg : y_get i L = some (vi x)) (hn : i < me.2.2.1) (hl : y_st i (vi (wr (x + n))) L = L') (kk : Y g me d kc ks (pc + 3) L' S M Q) : Y g me d kc ks pc L S M Q := by
  intro p l e s m args below meth c H locs cells slots mc ms ls C h1 h2 hM hL hS' hP hD hS hlv
  obtain ⟨k, hk⟩ := List.getElem?_of_mem (List.mem_map.mpr ⟨(i, vi x), y_get_mem hg, rfl⟩ : (i, y_tv (vi x)) ∈ L.map fun q => (q.1, y_tv q.2))
  exact lv_iinc (k := k) C.1 C.2.1 hdg hlv hk (by rw [← Int32.ofInt_add, ← y_ofInt_wr]) hn (y_st_map i (vi (wr (x + n))) L) (fun ls' hl' => (kk p l e s m args below meth c H locs cells slots mc ms ls' C h1 h2 hM (y_st_ok hL (show y_ok (vi _) from wr_in _) hl) hS' hP hD hS (by rw [← hl]; exact hl')))
theorem y_sipush {n : Int} (hdg : decode me.2.1 pc = .ok (.sipush n, 3)) (hv : (Int16.ofInt n).toInt32 = Int32.ofInt n) (hn : y_in n) (kk : Y g me d kc ks (pc + 3) L (vi n :: S) M Q) : Y g me d kc ks pc L S M Q := by
  intro p l e s m args below meth c H locs cells slots mc ms ls C h1 h2 hM hL hS' hP hD hS hlv
  exact lv_sipush C.1 C.2.1 hdg hv (kk p l e s m args below meth c H locs cells slots mc ms ls C h1 h2 hM hL (y_okc hn hS') hP hD hS hlv)
theorem y_lconst {n : Fin 2} {x : Int} (hdg : decode me.2.1 pc = .ok (.lconst n, 1)) (hx : Int64.ofNat (n : Nat) = Int64.ofInt x) (hn : y_inL x) (kk : Y g me d kc ks (pc + 1) L (vl x :: S) M Q) : Y g me d kc ks pc L S M Q := by
  intro p l e s m args below meth c H locs cells slots mc ms ls C h1 h2 hM hL hS' hP hD hS hlv
  exact lv_lconst C.1 C.2.1 hdg hx (kk p l e s m args below meth c H locs cells slots mc ms ls C h1 h2 hM hL (y_okc hn hS') hP hD hS hlv)
theorem y_isub {a b : Int} (hdg : decode me.2.1 pc = .ok (.isub, 1)) (kk : Y g me d kc ks (pc + 1) L (vi (wr (a - b)) :: S) M Q) : Y g me d kc ks pc L (vi b :: vi a :: S) M Q := by
  intro p l e s m args below meth c H locs cells slots mc ms ls C h1 h2 hM hL hS' hP hD hS hlv
  obtain ⟨hv, hS'⟩ := List.forall_mem_cons.mp hS'
  obtain ⟨hw, hS'⟩ := List.forall_mem_cons.mp hS'
  refine lv_isub C.1 C.2.1 hdg ?_
  rw [← Int32.ofInt_sub, ← y_ofInt_wr]
  exact (kk p l e s m args below meth c H locs cells slots mc ms ls C h1 h2 hM hL (y_okc (wr_in _) hS') hP hD hS hlv)
theorem y_imul {a b : Int} (hdg : decode me.2.1 pc = .ok (.imul, 1)) (kk : Y g me d kc ks (pc + 1) L (vi (wr (a * b)) :: S) M Q) : Y g me d kc ks pc L (vi b :: vi a :: S) M Q := by
  intro p l e s m args below meth c H locs cells slots mc ms ls C h1 h2 hM hL hS' hP hD hS hlv
  obtain ⟨hv, hS'⟩ := List.forall_mem_cons.mp hS'
  obtain ⟨hw, hS'⟩ := List.forall_mem_cons.mp hS'
  refine lv_imul C.1 C.2.1 hdg ?_
  rw [← Int32.ofInt_mul, ← y_ofInt_wr]
  exact (kk p l e s m args below meth c H locs cells slots mc ms ls C h1 h2 hM hL (y_okc (wr_in _) hS') hP hD hS hlv)
theorem y_ineg {a : Int} (hdg : decode me.2.1 pc = .ok (.ineg, 1)) (kk : Y g me d kc ks (pc + 1) L (vi (wr (-a)) :: S) M Q) : Y g me d kc ks pc L (vi a :: S) M Q := by
  intro p l e s m args below meth c H locs cells slots mc ms ls C h1 h2 hM hL hS' hP hD hS hlv
  obtain ⟨hv, hS'⟩ := List.forall_mem_cons.mp hS'
  refine lv_ineg C.1 C.2.1 hdg ?_
  rw [← Int32.ofInt_neg, ← y_ofInt_wr]
  exact (kk p l e s m args below meth c H locs cells slots mc ms ls C h1 h2 hM hL (y_okc (wr_in _) hS') hP hD hS hlv)
theorem y_idiv {a b : Int} (hdg : decode me.2.1 pc = .ok (.idiv, 1)) (hb0 : b ≠ 0) (kk : Y g me d kc ks (pc + 1) L (vi (wr (a.tdiv b)) :: S) M Q) : Y g me d kc ks pc L (vi b :: vi a :: S) M Q := by
  intro p l e s m args below meth c H locs cells slots mc ms ls C h1 h2 hM hL hS' hP hD hS hlv
  obtain ⟨hv, hS'⟩ := List.forall_mem_cons.mp hS'
  obtain ⟨hw, hS'⟩ := List.forall_mem_cons.mp hS'
  refine lv_idiv C.1 C.2.1 hdg (fun h => hb0 (y_inj hv y_in0 h)) ?_
  rw [← y_div hw hv]
  exact (kk p l e s m args below meth c H locs cells slots mc ms ls C h1 h2 hM hL (y_okc (wr_in _) hS') hP hD hS hlv)
theorem y_irem {a b : Int} (hdg : decode me.2.1 pc = .ok (.irem, 1)) (hb0 : b ≠ 0) (kk : Y g me d kc ks (pc + 1) L (vi (a.tmod b) :: S) M Q) : Y g me d kc ks pc L (vi b :: vi a :: S) M Q := by
  intro p l e s m args below meth c H locs cells slots mc ms ls C h1 h2 hM hL hS' hP hD hS hlv
  obtain ⟨hv, hS'⟩ := List.forall_mem_cons.mp hS'
  obtain ⟨hw, hS'⟩ := List.forall_mem_cons.mp hS'
  refine lv_irem C.1 C.2.1 hdg (fun h => hb0 (y_inj hv y_in0 h)) ?_
  rw [← y_rem hw hv]
  exact (kk p l e s m args below meth c H locs cells slots mc ms ls C h1 h2 hM hL (y_okc (y_rem_in hw hv hb0) hS') hP hD hS hlv)
theorem y_iand {a b : Int} (hdg : decode me.2.1 pc = .ok (.iand, 1)) (kk : Y g me d kc ks (pc + 1) L (vi (yand a b) :: S) M Q) : Y g me d kc ks pc L (vi b :: vi a :: S) M Q := by
  intro p l e s m args below meth c H locs cells slots mc ms ls C h1 h2 hM hL hS' hP hD hS hlv
  obtain ⟨hv, hS'⟩ := List.forall_mem_cons.mp hS'
  obtain ⟨hw, hS'⟩ := List.forall_mem_cons.mp hS'
  refine lv_iand C.1 C.2.1 hdg ?_
  rw [y_back (yand a b) _ rfl]
  exact (kk p l e s m args below meth c H locs cells slots mc ms ls C h1 h2 hM hL (y_okc (y_back_in _ _ rfl) hS') hP hD hS hlv)
theorem y_ior {a b : Int} (hdg : decode me.2.1 pc = .ok (.ior, 1)) (kk : Y g me d kc ks (pc + 1) L (vi (yor a b) :: S) M Q) : Y g me d kc ks pc L (vi b :: vi a :: S) M Q := by
  intro p l e s m args below meth c H locs cells slots mc ms ls C h1 h2 hM hL hS' hP hD hS hlv
  obtain ⟨hv, hS'⟩ := List.forall_mem_cons.mp hS'
  obtain ⟨hw, hS'⟩ := List.forall_mem_cons.mp hS'
  refine lv_ior C.1 C.2.1 hdg ?_
  rw [y_back (yor a b) _ rfl]
  exact (kk p l e s m args below meth c H locs cells slots mc ms ls C h1 h2 hM hL (y_okc (y_back_in _ _ rfl) hS') hP hD hS hlv)
theorem y_ixor {a b : Int} (hdg : decode me.2.1 pc = .ok (.ixor, 1)) (kk : Y g me d kc ks (pc + 1) L (vi (yxor a b) :: S) M Q) : Y g me d kc ks pc L (vi b :: vi a :: S) M Q := by
  intro p l e s m args below meth c H locs cells slots mc ms ls C h1 h2 hM hL hS' hP hD hS hlv
  obtain ⟨hv, hS'⟩ := List.forall_mem_cons.mp hS'
  obtain ⟨hw, hS'⟩ := List.forall_mem_cons.mp hS'
  refine lv_ixor C.1 C.2.1 hdg ?_
  rw [y_back (yxor a b) _ rfl]
  exact (kk p l e s m args below meth c H locs cells slots mc ms ls C h1 h2 hM hL (y_okc (y_back_in _ _ rfl) hS') hP hD hS hlv)
theorem y_ishl {a b : Int} (hdg : decode me.2.1 pc = .ok (.ishl, 1)) (kk : Y g me d kc ks (pc + 1) L (vi (yshl a b) :: S) M Q) : Y g me d kc ks pc L (vi b :: vi a :: S) M Q := by
  intro p l e s m args below meth c H locs cells slots mc ms ls C h1 h2 hM hL hS' hP hD hS hlv
  obtain ⟨hv, hS'⟩ := List.forall_mem_cons.mp hS'
  obtain ⟨hw, hS'⟩ := List.forall_mem_cons.mp hS'
  refine lv_ishl C.1 C.2.1 hdg ?_
  rw [y_back (yshl a b) _ rfl]
  exact (kk p l e s m args below meth c H locs cells slots mc ms ls C h1 h2 hM hL (y_okc (y_back_in _ _ rfl) hS') hP hD hS hlv)
theorem y_ishr {a b : Int} (hdg : decode me.2.1 pc = .ok (.ishr, 1)) (kk : Y g me d kc ks (pc + 1) L (vi (yshr a b) :: S) M Q) : Y g me d kc ks pc L (vi b :: vi a :: S) M Q := by
  intro p l e s m args below meth c H locs cells slots mc ms ls C h1 h2 hM hL hS' hP hD hS hlv
  obtain ⟨hv, hS'⟩ := List.forall_mem_cons.mp hS'
  obtain ⟨hw, hS'⟩ := List.forall_mem_cons.mp hS'
  refine lv_ishr C.1 C.2.1 hdg ?_
  rw [y_back (yshr a b) _ rfl]
  exact (kk p l e s m args below meth c H locs cells slots mc ms ls C h1 h2 hM hL (y_okc (y_back_in _ _ rfl) hS') hP hD hS hlv)
theorem y_icmp_eq {a b : Int} {off : Int} {tgt : Nat} (hdg : decode me.2.1 pc = .ok (.if_icmp .eq off, 3)) (ht : (pc : Int) + off = (tgt : Int)) (kt : a = b → Y g me d kc ks tgt L S M Q) (kf : a ≠ b → Y g me d kc ks (pc + 3) L S M Q) : Y g me d kc ks pc L (vi b :: vi a :: S) M Q := by
  intro p l e s m args below meth c H locs cells slots mc ms ls C h1 h2 hM hL hS' hP hD hS hlv
  obtain ⟨hv, hS'⟩ := List.forall_mem_cons.mp hS'
  obtain ⟨hw, hS'⟩ := List.forall_mem_cons.mp hS'
  exact lv_icmp_eq C.1 C.2.1 hdg ht (fun h => kt ((y_eq hw hv).mp h) p l e s m args below meth c H locs cells slots mc ms ls C h1 h2 hM hL hS' hP hD hS hlv) (fun h => kf ((not_congr (y_eq hw hv)).mp h) p l e s m args below meth c H locs cells slots mc ms ls C h1 h2 hM hL hS' hP hD hS hlv)
theorem y_icmp_ne {a b : Int} {off : Int} {tgt : Nat} (hdg : decode me.2.1 pc = .ok (.if_icmp .ne off, 3)) (ht : (pc : Int) + off = (tgt : Int)) (kt : a ≠ b → Y g me d kc ks tgt L S M Q) (kf : a = b → Y g me d kc ks (pc + 3) L S M Q) : Y g me d kc ks pc L (vi b :: vi a :: S) M Q := by
  intro p l e s m args below meth c H locs cells slots mc ms ls C h1 h2 hM hL hS' hP hD hS hlv
  obtain ⟨hv, hS'⟩ := List.forall_mem_cons.mp hS'
  obtain ⟨hw, hS'⟩ := List.forall_mem_cons.mp hS'
  exact lv_icmp_ne C.1 C.2.1 hdg ht (fun h => kt ((not_congr (y_eq hw hv)).mp h) p l e s m args below meth c H locs cells slots mc ms ls C h1 h2 hM hL hS' hP hD hS hlv) (fun h => kf ((y_eq hw hv).mp h) p l e s m args below meth c H locs cells slots mc ms ls C h1 h2 hM hL hS' hP hD hS hlv)
theorem y_icmp_lt {a b : Int} {off : Int} {tgt : Nat} (hdg : decode me.2.1 pc = .ok (.if_icmp .lt off, 3)) (ht : (pc : Int) + off = (tgt : Int)) (kt : a < b → Y g me d kc ks tgt L S M Q) (kf : b ≤ a → Y g me d kc ks (pc + 3) L S M Q) : Y g me d kc ks pc L (vi b :: vi a :: S) M Q := by
  intro p l e s m args below meth c H locs cells slots mc ms ls C h1 h2 hM hL hS' hP hD hS hlv
  obtain ⟨hv, hS'⟩ := List.forall_mem_cons.mp hS'
  obtain ⟨hw, hS'⟩ := List.forall_mem_cons.mp hS'
  exact lv_icmp_lt C.1 C.2.1 hdg ht (fun h => kt ((y_lt hw hv).mp h) p l e s m args below meth c H locs cells slots mc ms ls C h1 h2 hM hL hS' hP hD hS hlv) (fun h => kf (by have := (not_congr (y_lt hw hv)).mp h; omega) p l e s m args below meth c H locs cells slots mc ms ls C h1 h2 hM hL hS' hP hD hS hlv)
theorem y_icmp_gt {a b : Int} {off : Int} {tgt : Nat} (hdg : decode me.2.1 pc = .ok (.if_icmp .gt off, 3)) (ht : (pc : Int) + off = (tgt : Int)) (kt : b < a → Y g me d kc ks tgt L S M Q) (kf : a ≤ b → Y g me d kc ks (pc + 3) L S M Q) : Y g me d kc ks pc L (vi b :: vi a :: S) M Q := by
  intro p l e s m args below meth c H locs cells slots mc ms ls C h1 h2 hM hL hS' hP hD hS hlv
  obtain ⟨hv, hS'⟩ := List.forall_mem_cons.mp hS'
  obtain ⟨hw, hS'⟩ := List.forall_mem_cons.mp hS'
  exact lv_icmp_gt C.1 C.2.1 hdg ht (fun h => kt ((y_lt hv hw).mp h) p l e s m args below meth c H locs cells slots mc ms ls C h1 h2 hM hL hS' hP hD hS hlv) (fun h => kf (by have := (not_congr (y_lt hv hw)).mp h; omega) p l e s m args below meth c H locs cells slots mc ms ls C h1 h2 hM hL hS' hP hD hS hlv)
theorem y_icmp_le {a b : Int} {off : Int} {tgt : Nat} (hdg : decode me.2.1 pc = .ok (.if_icmp .le off, 3)) (ht : (pc : Int) + off = (tgt : Int)) (kt : a ≤ b → Y g me d kc ks tgt L S M Q) (kf : b < a → Y g me d kc ks (pc + 3) L S M Q) : Y g me d kc ks pc L (vi b :: vi a :: S) M Q := by
  intro p l e s m args below meth c H locs cells slots mc ms ls C h1 h2 hM hL hS' hP hD hS hlv
  obtain ⟨hv, hS'⟩ := List.forall_mem_cons.mp hS'
  obtain ⟨hw, hS'⟩ := List.forall_mem_cons.mp hS'
  exact lv_icmp_le C.1 C.2.1 hdg ht (fun h => kt ((y_le hw hv).mp h) p l e s m args below meth c H locs cells slots mc ms ls C h1 h2 hM hL hS' hP hD hS hlv) (fun h => kf (by have := (not_congr (y_le hw hv)).mp h; omega) p l e s m args below meth c H locs cells slots mc ms ls C h1 h2 hM hL hS' hP hD hS hlv)
theorem y_if_eq {a : Int} {off : Int} {tgt : Nat} (hdg : decode me.2.1 pc = .ok (.ifCond .eq off, 3)) (ht : (pc : Int) + off = (tgt : Int)) (kt : a = 0 → Y g me d kc ks tgt L S M Q) (kf : a ≠ 0 → Y g me d kc ks (pc + 3) L S M Q) : Y g me d kc ks pc L (vi a :: S) M Q := by
  intro p l e s m args below meth c H locs cells slots mc ms ls C h1 h2 hM hL hS' hP hD hS hlv
  obtain ⟨hv, hS'⟩ := List.forall_mem_cons.mp hS'
  exact lv_if_eq C.1 C.2.1 hdg ht (fun h => kt ((y_eq hv y_in0).mp h) p l e s m args below meth c H locs cells slots mc ms ls C h1 h2 hM hL hS' hP hD hS hlv) (fun h => kf ((not_congr (y_eq hv y_in0)).mp h) p l e s m args below meth c H locs cells slots mc ms ls C h1 h2 hM hL hS' hP hD hS hlv)
theorem y_if_ne {a : Int} {off : Int} {tgt : Nat} (hdg : decode me.2.1 pc = .ok (.ifCond .ne off, 3)) (ht : (pc : Int) + off = (tgt : Int)) (kt : a ≠ 0 → Y g me d kc ks tgt L S M Q) (kf : a = 0 → Y g me d kc ks (pc + 3) L S M Q) : Y g me d kc ks pc L (vi a :: S) M Q := by
  intro p l e s m args below meth c H locs cells slots mc ms ls C h1 h2 hM hL hS' hP hD hS hlv
  obtain ⟨hv, hS'⟩ := List.forall_mem_cons.mp hS'
  exact lv_if_ne C.1 C.2.1 hdg ht (fun h => kt ((not_congr (y_eq hv y_in0)).mp h) p l e s m args below meth c H locs cells slots mc ms ls C h1 h2 hM hL hS' hP hD hS hlv) (fun h => kf ((y_eq hv y_in0).mp h) p l e s m args below meth c H locs cells slots mc ms ls C h1 h2 hM hL hS' hP hD hS hlv)
theorem y_if_lt {a : Int} {off : Int} {tgt : Nat} (hdg : decode me.2.1 pc = .ok (.ifCond .lt off, 3)) (ht : (pc : Int) + off = (tgt : Int)) (kt : a < 0 → Y g me d kc ks tgt L S M Q) (kf : 0 ≤ a → Y g me d kc ks (pc + 3) L S M Q) : Y g me d kc ks pc L (vi a :: S) M Q := by
  intro p l e s m args below meth c H locs cells slots mc ms ls C h1 h2 hM hL hS' hP hD hS hlv
  obtain ⟨hv, hS'⟩ := List.forall_mem_cons.mp hS'
  exact lv_if_lt C.1 C.2.1 hdg ht (fun h => kt ((y_lt hv y_in0).mp h) p l e s m args below meth c H locs cells slots mc ms ls C h1 h2 hM hL hS' hP hD hS hlv) (fun h => kf (by have := (not_congr (y_lt hv y_in0)).mp h; omega) p l e s m args below meth c H locs cells slots mc ms ls C h1 h2 hM hL hS' hP hD hS hlv)
theorem y_if_ge {a : Int} {off : Int} {tgt : Nat} (hdg : decode me.2.1 pc = .ok (.ifCond .ge off, 3)) (ht : (pc : Int) + off = (tgt : Int)) (kt : 0 ≤ a → Y g me d kc ks tgt L S M Q) (kf : a < 0 → Y g me d kc ks (pc + 3) L S M Q) : Y g me d kc ks pc L (vi a :: S) M Q := by
  intro p l e s m args below meth c H locs cells slots mc ms ls C h1 h2 hM hL hS' hP hD hS hlv
  obtain ⟨hv, hS'⟩ := List.forall_mem_cons.mp hS'
  exact lv_if_ge C.1 C.2.1 hdg ht (fun h => kt ((y_le y_in0 hv).mp h) p l e s m args below meth c H locs cells slots mc ms ls C h1 h2 hM hL hS' hP hD hS hlv) (fun h => kf (by have := (not_congr (y_le y_in0 hv)).mp h; omega) p l e s m args below meth c H locs cells slots mc ms ls C h1 h2 hM hL hS' hP hD hS hlv)
theorem y_if_gt {a : Int} {off : Int} {tgt : Nat} (hdg : decode me.2.1 pc = .ok (.ifCond .gt off, 3)) (ht : (pc : Int) + off = (tgt : Int)) (kt : 0 < a → Y g me d kc ks tgt L S M Q) (kf : a ≤ 0 → Y g me d kc ks (pc + 3) L S M Q) : Y g me d kc ks pc L (vi a :: S) M Q := by
  intro p l e s m args below meth c H locs cells slots mc ms ls C h1 h2 hM hL hS' hP hD hS hlv
  obtain ⟨hv, hS'⟩ := List.forall_mem_cons.mp hS'
  exact lv_if_gt C.1 C.2.1 hdg ht (fun h => kt ((y_lt y_in0 hv).mp h) p l e s m args below meth c H locs cells slots mc ms ls C h1 h2 hM hL hS' hP hD hS hlv) (fun h => kf (by have := (not_congr (y_lt y_in0 hv)).mp h; omega) p l e s m args below meth c H locs cells slots mc ms ls C h1 h2 hM hL hS' hP hD hS hlv)
theorem y_if_le {a : Int} {off : Int} {tgt : Nat} (hdg : decode me.2.1 pc = .ok (.ifCond .le off, 3)) (ht : (pc : Int) + off = (tgt : Int)) (kt : a ≤ 0 → Y g me d kc ks tgt L S M Q) (kf : 0 < a → Y g me d kc ks (pc + 3) L S M Q) : Y g me d kc ks pc L (vi a :: S) M Q := by
  intro p l e s m args below meth c H locs cells slots mc ms ls C h1 h2 hM hL hS' hP hD hS hlv
  obtain ⟨hv, hS'⟩ := List.forall_mem_cons.mp hS'
  exact lv_if_le C.1 C.2.1 hdg ht (fun h => kt ((y_le hv y_in0).mp h) p l e s m args below meth c H locs cells slots mc ms ls C h1 h2 hM hL hS' hP hD hS hlv) (fun h => kf (by have := (not_congr (y_le hv y_in0)).mp h; omega) p l e s m args below meth c H locs cells slots mc ms ls C h1 h2 hM hL hS' hP hD hS hlv)
theorem y_goto {off : Int} {tgt : Nat} (hdg : decode me.2.1 pc = .ok (.goto off, 3)) (ht : (pc : Int) + off = (tgt : Int)) (kk : Y g me d kc ks tgt L S M Q) : Y g me d kc ks pc L S M Q := by
  intro p l e s m args below meth c H locs cells slots mc ms ls C h1 h2 hM hL hS' hP hD hS hlv
  exact lv_goto C.1 C.2.1 hdg ht (kk p l e s m args below meth c H locs cells slots mc ms ls C h1 h2 hM hL hS' hP hD hS hlv)
theorem y_i2l {a : Int} (hdg : decode me.2.1 pc = .ok (.i2l, 1)) (kk : Y g me d kc ks (pc + 1) L (vl a :: S) M Q) : Y g me d kc ks pc L (vi a :: S) M Q := by
  intro p l e s m args below meth c H locs cells slots mc ms ls C h1 h2 hM hL hS' hP hD hS hlv
  obtain ⟨hv, hS'⟩ := List.forall_mem_cons.mp hS'
  exact lv_i2l C.1 C.2.1 hdg (y_i2l_eq hv) (kk p l e s m args below meth c H locs cells slots mc ms ls C h1 h2 hM hL (y_okc (y_i2l_in hv) hS') hP hD hS hlv)
theorem y_i2c {a : Int} (hdg : decode me.2.1 pc = .ok (.i2c, 1)) (kk : Y g me d kc ks (pc + 1) L (vi (a % 65536) :: S) M Q) : Y g me d kc ks pc L (vi a :: S) M Q := by
  intro p l e s m args below meth c H locs cells slots mc ms ls C h1 h2 hM hL hS' hP hD hS hlv
  obtain ⟨hv, hS'⟩ := List.forall_mem_cons.mp hS'
  exact lv_i2c C.1 C.2.1 hdg (y_i2c_eq a) (kk p l e s m args below meth c H locs cells slots mc ms ls C h1 h2 hM hL (y_okc (y_i2c_in a) hS') hP hD hS hlv)
theorem y_i2f {a : Int} (hdg : decode me.2.1 pc = .ok (.i2f, 1)) (kk : Y g me d kc ks (pc + 1) L (vv (.float (FP.i2f (Int32.ofInt a))) :: S) M Q) : Y g me d kc ks pc L (vi a :: S) M Q := by
  intro p l e s m args below meth c H locs cells slots mc ms ls C h1 h2 hM hL hS' hP hD hS hlv
  obtain ⟨hv, hS'⟩ := List.forall_mem_cons.mp hS'
  exact lv_i2f C.1 C.2.1 hdg (kk p l e s m args below meth c H locs cells slots mc ms ls C h1 h2 hM hL (y_okc trivial hS') hP hD hS hlv)
theorem y_i2d {a : Int} (hdg : decode me.2.1 pc = .ok (.i2d, 1)) (kk : Y g me d kc ks (pc + 1) L (vv (.double (FP.i2d (Int32.ofInt a))) :: S) M Q) : Y g me d kc ks pc L (vi a :: S) M Q := by
  intro p l e s m args below meth c H locs cells slots mc ms ls C h1 h2 hM hL hS' hP hD hS hlv
  obtain ⟨hv, hS'⟩ := List.forall_mem_cons.mp hS'
  exact lv_i2d C.1 C.2.1 hdg (kk p l e s m args below meth c H locs cells slots mc ms ls C h1 h2 hM hL (y_okc trivial hS') hP hD hS hlv)
theorem y_fdiv {x y : UInt32} (hdg : decode me.2.1 pc = .ok (.fdiv, 1)) (hne : vf_n32 (FP.fdiv x y)) (kk : Y g me d kc ks (pc + 1) L (vv (.float (FP.fdiv x y)) :: S) M Q) : Y g me d kc ks pc L (vv (.float y) :: vv (.float x) :: S) M Q := by
  intro p l e s m args below meth c H locs cells slots mc ms ls C h1 h2 hM hL hS' hP hD hS hlv
  obtain ⟨hv, hS'⟩ := List.forall_mem_cons.mp hS'
  obtain ⟨hw, hS'⟩ := List.forall_mem_cons.mp hS'
  exact lv_fdiv C.1 C.2.1 hdg hne (kk p l e s m args below meth c H locs cells slots mc ms ls C h1 h2 hM hL (y_okc trivial hS') hP hD hS hlv)
theorem y_ddiv {x y : UInt64} (hdg : decode me.2.1 pc = .ok (.ddiv, 1)) (hne : vf_n64 (FP.ddiv x y)) (kk : Y g me d kc ks (pc + 1) L (vv (.double (FP.ddiv x y)) :: S) M Q) : Y g me d kc ks pc L (vv (.double y) :: vv (.double x) :: S) M Q := by
  intro p l e s m args below meth c H locs cells slots mc ms ls C h1 h2 hM hL hS' hP hD hS hlv
  obtain ⟨hv, hS'⟩ := List.forall_mem_cons.mp hS'
  obtain ⟨hw, hS'⟩ := List.forall_mem_cons.mp hS'
  exact lv_ddiv C.1 C.2.1 hdg hne (kk p l e s m args below meth c H locs cells slots mc ms ls C h1 h2 hM hL (y_okc trivial hS') hP hD hS hlv)
theorem y_f2d {x : UInt32} (hdg : decode me.2.1 pc = .ok (.f2d, 1)) (hne : vf_n64 (FP.f2d x)) (kk : Y g me d kc ks (pc + 1) L (vv (.double (FP.f2d x)) :: S) M Q) : Y g me d kc ks pc L (vv (.float x) :: S) M Q := by
  intro p l e s m args below meth c H locs cells slots mc ms ls C h1 h2 hM hL hS' hP hD hS hlv
  obtain ⟨hv, hS'⟩ := List.forall_mem_cons.mp hS'
  exact lv_f2d C.1 C.2.1 hdg hne (kk p l e s m args below meth c H locs cells slots mc ms ls C h1 h2 hM hL (y_okc trivial hS') hP hD hS hlv)
theorem y_dcmp {x y : UInt64} {o : CmpOp} {r : Int} (hdg : decode me.2.1 pc = .ok (.dcmp o, 1)) (hr : Op.cmpValue (FP.dcmp x y) o = Int32.ofInt r) (hi : y_in r) (kk : Y g me d kc ks (pc + 1) L (vi r :: S) M Q) : Y g me d kc ks pc L (vv (.double y) :: vv (.double x) :: S) M Q := by
  intro p l e s m args below meth c H locs cells slots mc ms ls C h1 h2 hM hL hS' hP hD hS hlv
  obtain ⟨hv, hS'⟩ := List.forall_mem_cons.mp hS'
  obtain ⟨hw, hS'⟩ := List.forall_mem_cons.mp hS'
  refine lv_dcmp C.1 C.2.1 hdg ?_
  rw [hr]
  exact (kk p l e s m args below meth c H locs cells slots mc ms ls C h1 h2 hM hL (y_okc hi hS') hP hD hS hlv)
theorem y_fcmp {x y : UInt32} {o : CmpOp} {r : Int} (hdg : decode me.2.1 pc = .ok (.fcmp o, 1)) (hr : Op.cmpValue (FP.fcmp x y) o = Int32.ofInt r) (hi : y_in r) (kk : Y g me d kc ks (pc + 1) L (vi r :: S) M Q) : Y g me d kc ks pc L (vv (.float y) :: vv (.float x) :: S) M Q := by
  intro p l e s m args below meth c H locs cells slots mc ms ls C h1 h2 hM hL hS' hP hD hS hlv
  obtain ⟨hv, hS'⟩ := List.forall_mem_cons.mp hS'
  obtain ⟨hw, hS'⟩ := List.forall_mem_cons.mp hS'
  refine lv_fcmp C.1 C.2.1 hdg ?_
  rw [hr]
  exact (kk p l e s m args below meth c H locs cells slots mc ms ls C h1 h2 hM hL (y_okc hi hS') hP hD hS hlv)
theorem y_ladd {a b : Int} (hdg : decode me.2.1 pc = .ok (.ladd, 1)) (hi : y_inL (a + b)) (kk : Y g me d kc ks (pc + 1) L (vl (a + b) :: S) M Q) : Y g me d kc ks pc L (vl b :: vl a :: S) M Q := by
  intro p l e s m args below meth c H locs cells slots mc ms ls C h1 h2 hM hL hS' hP hD hS hlv
  obtain ⟨hv, hS'⟩ := List.forall_mem_cons.mp hS'
  obtain ⟨hw, hS'⟩ := List.forall_mem_cons.mp hS'
  refine lv_ladd C.1 C.2.1 hdg ?_
  rw [← Int64.ofInt_add]
  exact (kk p l e s m args below meth c H locs cells slots mc ms ls C h1 h2 hM hL (y_okc hi hS') hP hD hS hlv)
theorem y_lcmp {a b : Int} (hdg : decode me.2.1 pc = .ok (.lcmp, 1)) (kk : Y g me d kc ks (pc + 1) L (vi (ycmp a b) :: S) M Q) : Y g me d kc ks pc L (vl b :: vl a :: S) M Q := by
  intro p l e s m args below meth c H locs cells slots mc ms ls C h1 h2 hM hL hS' hP hD hS hlv
  obtain ⟨hv, hS'⟩ := List.forall_mem_cons.mp hS'
  obtain ⟨hw, hS'⟩ := List.forall_mem_cons.mp hS'
  refine W.lcmp C.1 C.2.1 hdg ?_
  rw [y_lcmp_eq hw hv]
  exact (kk p l e s m args below meth c H locs cells slots mc ms ls C h1 h2 hM hL (y_okc (y_cmp_in a b) hS') hP hD hS hlv)
theorem y_dup {a : yV} (hdg : decode me.2.1 pc = .ok (.dup, 1)) (hc : y_cat a = 1) (kk : Y g me d kc ks (pc + 1) L (a :: a :: S) M Q) : Y g me d kc ks pc L (a :: S) M Q := by
  intro p l e s m args below meth c H locs cells slots mc ms ls C h1 h2 hM hL hS' hP hD hS hlv
  have hv := (List.forall_mem_cons.mp hS').1
  exact lv_dup C.1 C.2.1 hdg (by rw [y_cat_tv]; exact hc) (kk p l e s m args below meth c H locs cells slots mc ms ls C h1 h2 hM hL (y_okc hv hS') hP hD hS hlv)
theorem y_dup2 {a b : yV} (hdg : decode me.2.1 pc = .ok (.dup2, 1)) (hc : y_cat a = 1) (hc2 : y_cat b = 1) (kk : Y g me d kc ks (pc + 1) L (a :: b :: a :: b :: S) M Q) : Y g me d kc ks pc L (a :: b :: S) M Q := by
  intro p l e s m args below meth c H locs cells slots mc ms ls C h1 h2 hM hL hS' hP hD hS hlv
  have hv := List.forall_mem_cons.mp hS'
  have hw := List.forall_mem_cons.mp hv.2
  exact lv_dup2_11 C.1 C.2.1 hdg (by rw [y_cat_tv]; exact hc) (by rw [y_cat_tv]; exact hc2) (kk p l e s m args below meth c H locs cells slots mc ms ls C h1 h2 hM hL (y_okc hv.1 (y_okc hw.1 hS')) hP hD hS hlv)
theorem y_pop {a : yV} (hdg : decode me.2.1 pc = .ok (.pop, 1)) (hc : y_cat a = 1) (kk : Y g me d kc ks (pc + 1) L S M Q) : Y g me d kc ks pc L (a :: S) M Q := by
  intro p l e s m args below meth c H locs cells slots mc ms ls C h1 h2 hM hL hS' hP hD hS hlv
  obtain ⟨hv, hS'⟩ := List.forall_mem_cons.mp hS'
  exact lv_pop C.1 C.2.1 hdg (by rw [y_cat_tv]; exact hc) (kk p l e s m args below meth c H locs cells slots mc ms ls C h1 h2 hM hL hS' hP hD hS hlv)
theorem y_iaload {q a : Nat} {xs : List Int} {i : Int} (hq : M[q]? = some (a, oi xs)) (h0 : 0 ≤ i) (hn : i < xs.length) (hdg : decode me.2.1 pc = .ok (.iaload, 1)) (kk : Y g me d kc ks (pc + 1) L (vi (ga xs i) :: S) M Q) : Y g me d kc ks pc L (vi i :: vr a :: S) M Q := by
  intro p l e s m args below meth c H locs cells slots mc ms ls C h1 h2 hM hL hS' hP hD hS hlv
  obtain ⟨hv, hS'⟩ := List.forall_mem_cons.mp hS'
  obtain ⟨hw, hS'⟩ := List.forall_mem_cons.mp hS'
  have hO : y_okO (oi xs) := y_okM_at hM hq
  refine va_iald C.1 C.2.1 C.2.2.2.2.2.2.2.2.2.1.1 hP q 0 (y_tw_at hq) rfl (y_idx hv h0 hn) hdg ?_
  rw [y_clamp hv]
  exact (kk p l e s m args below meth c H locs cells slots mc ms ls C h1 h2 hM hL (y_okc (y_getD_in hO.1 _) hS') hP hD hS hlv)
theorem y_caload {q a : Nat} {xs : List Int} {i : Int} (hq : M[q]? = some (a, oc xs)) (h0 : 0 ≤ i) (hn : i < xs.length) (hdg : decode me.2.1 pc = .ok (.caload, 1)) (kk : Y g me d kc ks (pc + 1) L (vi (ga xs i) :: S) M Q) : Y g me d kc ks pc L (vi i :: vr a :: S) M Q := by
  intro p l e s m args below meth c H locs cells slots mc ms ls C h1 h2 hM hL hS' hP hD hS hlv
  obtain ⟨hv, hS'⟩ := List.forall_mem_cons.mp hS'
  obtain ⟨hw, hS'⟩ := List.forall_mem_cons.mp hS'
  have hO : y_okO (oc xs) := y_okM_at hM hq
  refine va_cald C.1 C.2.1 C.2.2.2.2.2.2.2.2.2.1.1 hP q 1 (y_tw_at hq) rfl (y_idx hv h0 hn) hdg ?_
  rw [y_clamp hv]
  exact (kk p l e s m args below meth c H locs cells slots mc ms ls C h1 h2 hM hL (y_okc (y_getD_inC hO.1 _) hS') hP hD hS hlv)
theorem y_laload {q a : Nat} {xs : List Int} {i : Int} (hq : M[q]? = some (a, ol xs)) (h0 : 0 ≤ i) (hn : i < xs.length) (hdg : decode me.2.1 pc = .ok (.laload, 1)) (kk : Y g me d kc ks (pc + 1) L (vl (ga xs i) :: S) M Q) : Y g me d kc ks pc L (vi i :: vr a :: S) M Q := by
  intro p l e s m args below meth c H locs cells slots mc ms ls C h1 h2 hM hL hS' hP hD hS hlv
  obtain ⟨hv, hS'⟩ := List.forall_mem_cons.mp hS'
  obtain ⟨hw, hS'⟩ := List.forall_mem_cons.mp hS'
  have hO : y_okO (ol xs) := y_okM_at hM hq
  refine va_lald C.1 C.2.1 C.2.2.2.2.2.2.2.2.2.1.1 hP q 2 (y_tw_at hq) rfl (y_idx hv h0 hn) hdg ?_
  rw [y_clamp hv]
  exact (kk p l e s m args below meth c H locs cells slots mc ms ls C h1 h2 hM hL (y_okc (y_getD_inL hO.1 _) hS') hP hD hS hlv)
theorem y_daload {q a : Nat} {xs : List UInt64} {i : Int} (hq : M[q]? = some (a, od xs)) (h0 : 0 ≤ i) (hn : i < xs.length) (hdg : decode me.2.1 pc = .ok (.daload, 1)) (kk : Y g me d kc ks (pc + 1) L (vv (.double (xs.getD i.toNat 0)) :: S) M Q) : Y g me d kc ks pc L (vi i :: vr a :: S) M Q := by
  intro p l e s m args below meth c H locs cells slots mc ms ls C h1 h2 hM hL hS' hP hD hS hlv
  obtain ⟨hv, hS'⟩ := List.forall_mem_cons.mp hS'
  obtain ⟨hw, hS'⟩ := List.forall_mem_cons.mp hS'
  refine va_dald C.1 C.2.1 C.2.2.2.2.2.2.2.2.2.1.1 hP q 3 (y_tw_at hq) rfl (y_idx hv h0 hn) hdg ?_
  rw [y_clamp hv]
  exact (kk p l e s m args below meth c H locs cells slots mc ms ls C h1 h2 hM hL (y_okc trivial hS') hP hD hS hlv)
theorem y_iastore {q a : Nat} {xs : List Int} {i x : Int} (hq : M[q]? = some (a, oi xs)) (h0 : 0 ≤ i) (hn : i < xs.length) (hdg : decode me.2.1 pc = .ok (.iastore, 1)) (kk : Y g me d kc ks (pc + 1) L S (M.set q (a, oi (sa xs i x))) Q) : Y g me d kc ks pc L (vi x :: vi i :: vr a :: S) M Q := by
  intro p l e s m args below meth c H locs cells slots mc ms ls C h1 h2 hM hL hS' hP hD hS hlv
  obtain ⟨hv, hS'⟩ := List.forall_mem_cons.mp hS'
  obtain ⟨hw, hS'⟩ := List.forall_mem_cons.mp hS'
  obtain ⟨hu, hS'⟩ := List.forall_mem_cons.mp hS'
  have hO : y_okO (oi xs) := y_okM_at hM hq
  refine va_iast C.1 C.2.1 C.2.2.2.2.2.2.2.2.2.1.1 hP hD hS q 0 (y_tw_at hq) rfl (y_idx hw h0 hn) hdg (fun H1 locs1 hP1 hD1 hS1 => ?_)
  rw [y_clamp hw, y_te_sa hn h0, y_tw_set] at hP1 hD1
  exact (kk p l e s m args below meth c H1 locs1 cells slots mc ms ls C h1 h2 (y_okM_set hM (y_okO_sa hO hv)) hL hS' hP1 hD1 hS1 hlv)
theorem y_castore {q a : Nat} {xs : List Int} {i x : Int} (hq : M[q]? = some (a, oc xs)) (h0 : 0 ≤ i) (hn : i < xs.length) (hx : 0 ≤ x ∧ x ≤ 65535) (hdg : decode me.2.1 pc = .ok (.castore, 1)) (kk : Y g me d kc ks (pc + 1) L S (M.set q (a, oc (sa xs i x))) Q) : Y g me d kc ks pc L (vi x :: vi i :: vr a :: S) M Q := by
  intro p l e s m args below meth c H locs cells slots mc ms ls C h1 h2 hM hL hS' hP hD hS hlv
  obtain ⟨hv, hS'⟩ := List.forall_mem_cons.mp hS'
  obtain ⟨hw, hS'⟩ := List.forall_mem_cons.mp hS'
  obtain ⟨hu, hS'⟩ := List.forall_mem_cons.mp hS'
  have hO : y_okO (oc xs) := y_okM_at hM hq
  refine va_cast C.1 C.2.1 C.2.2.2.2.2.2.2.2.2.1.1 hP hD hS q 1 (y_tw_at hq) rfl (y_idx hw h0 hn) hdg (fun H1 locs1 hP1 hD1 hS1 => ?_)
  rw [y_clamp hw, y_te_sac hn h0 hx, y_tw_set] at hP1 hD1
  exact (kk p l e s m args below meth c H1 locs1 cells slots mc ms ls C h1 h2 (y_okM_set hM (y_okO_sac hO hx)) hL hS' hP1 hD1 hS1 hlv)
theorem y_lastore {q a : Nat} {xs : List Int} {i x : Int} (hq : M[q]? = some (a, ol xs)) (h0 : 0 ≤ i) (hn : i < xs.length) (hdg : decode me.2.1 pc = .ok (.lastore, 1)) (kk : Y g me d kc ks (pc + 1) L S (M.set q (a, ol (sa xs i x))) Q) : Y g me d kc ks pc L (vl x :: vi i :: vr a :: S) M Q := by
  intro p l e s m args below meth c H locs cells slots mc ms ls C h1 h2 hM hL hS' hP hD hS hlv
  obtain ⟨hv, hS'⟩ := List.forall_mem_cons.mp hS'
  obtain ⟨hw, hS'⟩ := List.forall_mem_cons.mp hS'
  obtain ⟨hu, hS'⟩ := List.forall_mem_cons.mp hS'
  have hO : y_okO (ol xs) := y_okM_at hM hq
  refine va_last C.1 C.2.1 C.2.2.2.2.2.2.2.2.2.1.1 hP hD hS q 2 (y_tw_at hq) rfl (y_idx hw h0 hn) hdg (fun H1 locs1 hP1 hD1 hS1 => ?_)
  rw [y_clamp hw, y_te_sal hn h0, y_tw_set] at hP1 hD1
  exact (kk p l e s m args below meth c H1 locs1 cells slots mc ms ls C h1 h2 (y_okM_set hM (y_okO_sal hO hv)) hL hS' hP1 hD1 hS1 hlv)
theorem y_dastore {q a : Nat} {xs : List UInt64} {i : Int} {x : UInt64} (hq : M[q]? = some (a, od xs)) (h0 : 0 ≤ i) (hn : i < xs.length) (hdg : decode me.2.1 pc = .ok (.dastore, 1)) (kk : Y g me d kc ks (pc + 1) L S (M.set q (a, od (xs.set i.toNat x))) Q) : Y g me d kc ks pc L (vv (.double x) :: vi i :: vr a :: S) M Q := by
  intro p l e s m args below meth c H locs cells slots mc ms ls C h1 h2 hM hL hS' hP hD hS hlv
  obtain ⟨hv, hS'⟩ := List.forall_mem_cons.mp hS'
  obtain ⟨hw, hS'⟩ := List.forall_mem_cons.mp hS'
  obtain ⟨hu, hS'⟩ := List.forall_mem_cons.mp hS'
  have hO : y_okO (od xs) := y_okM_at hM hq
  refine va_dast C.1 C.2.1 C.2.2.2.2.2.2.2.2.2.1.1 hP hD hS q 3 (y_tw_at hq) rfl (y_idx hw h0 hn) hdg (fun H1 locs1 hP1 hD1 hS1 => ?_)
  rw [y_clamp hw, y_te_sad hn h0, y_tw_set] at hP1 hD1
  exact (kk p l e s m args below meth c H1 locs1 cells slots mc ms ls C h1 h2 (y_okM_set hM (y_okO_sad hO)) hL hS' hP1 hD1 hS1 hlv)
theorem y_alen {q a : Nat} {xs : List Int} (hq : M[q]? = some (a, oi xs)) (hdg : decode me.2.1 pc = .ok (.arraylength, 1)) (kk : Y g me d kc ks (pc + 1) L (vi (xs.length : Int) :: S) M Q) : Y g me d kc ks pc L (vr a :: S) M Q := by
  intro p l e s m args below meth c H locs cells slots mc ms ls C h1 h2 hM hL hS' hP hD hS hlv
  obtain ⟨hv, hS'⟩ := List.forall_mem_cons.mp hS'
  have hO : y_okO (oi xs) := y_okM_at hM hq
  exact va_alen C.1 C.2.1 C.2.2.2.2.2.2.2.2.2.1.1 hP q 0 (y_tw_at hq) rfl rfl hdg (kk p l e s m args below meth c H locs cells slots mc ms ls C h1 h2 hM hL (y_okc (y_len_in hO.2) hS') hP hD hS hlv)
theorem y_alenC {q a : Nat} {xs : List Int} (hq : M[q]? = some (a, oc xs)) (hdg : decode me.2.1 pc = .ok (.arraylength, 1)) (kk : Y g me d kc ks (pc + 1) L (vi (xs.length : Int) :: S) M Q) : Y g me d kc ks pc L (vr a :: S) M Q := by
  intro p l e s m args below meth c H locs cells slots mc ms ls C h1 h2 hM hL hS' hP hD hS hlv
  obtain ⟨hv, hS'⟩ := List.forall_mem_cons.mp hS'
  have hO : y_okO (oc xs) := y_okM_at hM hq
  exact va_alen C.1 C.2.1 C.2.2.2.2.2.2.2.2.2.1.1 hP q 1 (y_tw_at hq) rfl rfl hdg (kk p l e s m args below meth c H locs cells slots mc ms ls C h1 h2 hM hL (y_okc (y_len_in hO.2) hS') hP hD hS hlv)
theorem y_alenQ {q a t : Nat} {ty : FieldType} {cA : ClassId} {fs : List (Option Nat)} (hq : M[q]? = some (a, oq t fs)) (ht : (y_C g)[t]? = some (g.2.1 t, ty)) (hdg : decode me.2.1 pc = .ok (.arraylength, 1)) (kk : Y g me d kc ks (pc + 1) L (vi (fs.length : Int) :: S) M Q) : Y g me d kc ks pc L (vr a :: S) M Q := by
  intro p l e s m args below meth c H locs cells slots mc ms ls C h1 h2 hM hL hS' hP hD hS hlv
  obtain ⟨hv, hS'⟩ := List.forall_mem_cons.mp hS'
  have hO : y_okO (oq t fs) := y_okM_at hM hq
  exact va_alen C.1 C.2.1 C.2.2.2.2.2.2.2.2.2.1.1 hP q t (y_tw_at hq) ht rfl hdg (kk p l e s m args below meth c H locs cells slots mc ms ls C h1 h2 hM hL (y_okc (y_len_in hO) hS') hP hD hS hlv)
theorem y_aaload {q a b : Nat} {fs : List (Option Nat)} {i : Int} (hq : M[q]? = some (a, oq 4 fs)) (h0 : 0 ≤ i) (hn : i < fs.length) (hf : fs.getD i.toNat none = some b) (hdg : decode me.2.1 pc = .ok (.aaload, 1)) (kk : Y g me d kc ks (pc + 1) L (vr b :: S) M Q) : Y g me d kc ks pc L (vi i :: vr a :: S) M Q := by
  intro p l e s m args below meth c H locs cells slots mc ms ls C h1 h2 hM hL hS' hP hD hS hlv
  obtain ⟨hv, hS'⟩ := List.forall_mem_cons.mp hS'
  obtain ⟨hw, hS'⟩ := List.forall_mem_cons.mp hS'
  refine va_aldq C.1 C.2.1 C.2.2.2.2.2.2.2.2.2.1.1 hP q 4 (y_tw_at hq) rfl (y_idx hv h0 hn) hdg ?_
  rw [y_clamp hv, hf]
  exact (kk p l e s m args below meth c H locs cells slots mc ms ls C h1 h2 hM hL (y_okc trivial hS') hP hD hS hlv)
theorem y_getf {ci N idx q a : Nat} {Cn : String} {T : u_T} {fs : List yV} {v : yV} (hc : y_cl[ci]? = some (Cn, T, N)) (hq : M[q]? = some (a, oo ci fs)) (k : Nat) (hk : k < N) (hlink : Cond.fieldLink me.1.cls idx (T k).1 (T k).2.1 (T k).2.2.1 ∈ yB) (hv : fs[k]? = some v) (hdg : decode me.2.1 pc = .ok (.getfield idx, 3)) (kk : Y g me d kc ks (pc + 3) L (v :: S) M Q) : Y g me d kc ks pc L (vr a :: S) M Q := by
  intro p l e s m args below meth c H locs cells slots mc ms ls C h1 h2 hM hL hS' hP hD hS hlv
  obtain ⟨hva, hS'⟩ := List.forall_mem_cons.mp hS'
  have hO : ∀ v ∈ fs, y_ok v := y_okM_at hM hq
  exact va_get C.1 C.2.1 C.2.2.2.2.2.2.1 (y_clin hc) C.2.2.2.2.2.1 C.2.2.2.2.2.2.2.2.2.1.1 hP q (y_tw_at hq) hc k hk (C.2.2.2.2.2.2.1 _ hlink) (fun _ h9 => h9) (y_map_at hv) hdg (kk p l e s m args below meth c H locs cells slots mc ms ls C h1 h2 hM hL (y_okc (hO _ (List.mem_of_getElem? hv)) hS') hP hD hS hlv)
theorem y_putf {ci N idx q a : Nat} {Cn : String} {T : u_T} {fs : List yV} {v : yV} {ty : FieldType} (hc : y_cl[ci]? = some (Cn, T, N)) (hq : M[q]? = some (a, oo ci fs)) (k : Nat) (hk : k < N) (hlink : Cond.fieldLink me.1.cls idx (T k).1 (T k).2.1 (T k).2.2.1 ∈ yB) (hfin : (T k).2.2.2 = false) (hty : parseFieldDescriptor (T k).2.2.1 = some ty) (hn : narrow ty (y_tv v) = y_tv v) (hfit : fits ty (y_tv v) = true) (hl : k < fs.length) (hdg : decode me.2.1 pc = .ok (.putfield idx, 3)) (kk : Y g me d kc ks (pc + 3) L S (M.set q (a, oo ci (fs.set k v))) Q) : Y g me d kc ks pc L (v :: vr a :: S) M Q := by
  intro p l e s m args below meth c H locs cells slots mc ms ls C h1 h2 hM hL hS' hP hD hS hlv
  obtain ⟨hv, hS'⟩ := List.forall_mem_cons.mp hS'
  obtain ⟨hw, hS'⟩ := List.forall_mem_cons.mp hS'
  have hO : ∀ v ∈ fs, y_ok v := y_okM_at hM hq
  obtain ⟨ty0, hty0, hnm⟩ := y_clty hc
  refine va_put C.1 C.2.1 C.2.2.2.2.2.2.1 (y_clin hc) ty0 hty0 hnm C.2.2.2.2.2.1 C.2.2.2.2.2.2.2.2.2.1.1 hP hD hS q (y_tw_at hq) hc k hk (C.2.2.2.2.2.2.1 _ hlink) (fun _ h9 => h9) hfin hty hn hfit (by rw [List.length_map]; exact hl) hdg (fun H1 locs1 hP1 hD1 hS1 => ?_)
  rw [← List.map_set] at hP1 hD1
  rw [show (Sum.inr (ci, (fs.set k v).map y_tv) : va_E) = y_te g (oo ci (fs.set k v)) from rfl, y_tw_set] at hP1 hD1
  exact (kk p l e s m args below meth c H1 locs1 cells slots mc ms ls C h1 h2 (y_okM_set hM (show y_okO (oo ci (fs.set k v)) from y_mem_set hO hv)) hL hS' hP1 hD1 hS1 hlv)
theorem y_ireturn {x : Int} {ty : FieldType} (hr : me.2.2.2.1 = some ty) (hn : narrow ty (.int (Int32.ofInt x)) = .int (Int32.ofInt x)) (hdg : decode me.2.1 pc = .ok (.ireturn, 1)) (hq : Q (.inl (some (vi x))) M) : Y g me d kc ks pc L [vi x] M Q := by
  intro p l e s m args below meth c H locs cells slots mc ms ls C h1 h2 hM hL hS' hP hD hS hlv
  refine vx_ret (W.widen (k := mc) (n := ms) (by omega) (by omega) ?_)
  exact W.zret C.1 C.2.1 (C.2.2.2.1.trans hr) hn (fun t ht hW => ⟨⟨some (vi x), M, rfl, fun v h => by cases h; exact hS' _ List.mem_cons_self, hq, by rw [ht]; exact Nat.le_trans C.2.2.2.2.2.2.2.2.2.2.1 hS.1, hM, by rw [ht]; exact hP, hD⟩, hS.F ht⟩) hS.2.2 hdg C.2.2.2.2.1
theorem y_lreturn {x : Int} (hr : me.2.2.2.1 = some .long) (hdg : decode me.2.1 pc = .ok (.lreturn, 1)) (hq : Q (.inl (some (vl x))) M) : Y g me d kc ks pc L [vl x] M Q := by
  intro p l e s m args below meth c H locs cells slots mc ms ls C h1 h2 hM hL hS' hP hD hS hlv
  refine vx_ret (W.widen (k := mc) (n := ms) (by omega) (by omega) ?_)
  exact W.lret C.1 C.2.1 (C.2.2.2.1.trans hr) (fun t ht hW => ⟨⟨some (vl x), M, rfl, fun v h => by cases h; exact hS' _ List.mem_cons_self, hq, by rw [ht]; exact Nat.le_trans C.2.2.2.2.2.2.2.2.2.2.1 hS.1, hM, by rw [ht]; exact hP, hD⟩, hS.F ht⟩) hS.2.2 hdg C.2.2.2.2.1
theorem y_dreturn {x : UInt64} (hr : me.2.2.2.1 = some .double) (hdg : decode me.2.1 pc = .ok (.dreturn, 1)) (hq : Q (.inl (some (vv (.double x)))) M) : Y g me d kc ks pc L [vv (.double x)] M Q := by
  intro p l e s m args below meth c H locs cells slots mc ms ls C h1 h2 hM hL hS' hP hD hS hlv
  refine vx_ret (W.widen (k := mc) (n := ms) (by omega) (by omega) ?_)
  exact W.dret C.1 C.2.1 (C.2.2.2.1.trans hr) (fun t ht hW => ⟨⟨some (vv (.double x)), M, rfl, fun v h => by cases h; trivial, hq, by rw [ht]; exact Nat.le_trans C.2.2.2.2.2.2.2.2.2.2.1 hS.1, hM, by rw [ht]; exact hP, hD⟩, hS.F ht⟩) hS.2.2 hdg C.2.2.2.2.1
theorem y_freturn {x : UInt32} (hr : me.2.2.2.1 = some .float) (hdg : decode me.2.1 pc = .ok (.freturn, 1)) (hq : Q (.inl (some (vv (.float x)))) M) : Y g me d kc ks pc L [vv (.float x)] M Q := by
  intro p l e s m args below meth c H locs cells slots mc ms ls C h1 h2 hM hL hS' hP hD hS hlv
  refine vx_ret (W.widen (k := mc) (n := ms) (by omega) (by omega) ?_)
  exact W.fret C.1 C.2.1 (C.2.2.2.1.trans hr) (fun t ht hW => ⟨⟨some (vv (.float x)), M, rfl, fun v h => by cases h; trivial, hq, by rw [ht]; exact Nat.le_trans C.2.2.2.2.2.2.2.2.2.2.1 hS.1, hM, by rw [ht]; exact hP, hD⟩, hS.F ht⟩) hS.2.2 hdg C.2.2.2.2.1
theorem y_areturn {a : Nat} {rt : FieldType} (hr : me.2.2.2.1 = some rt) (hrt : (∃ n, rt = .object n) ∨ ∃ t, rt = .array t) (hdg : decode me.2.1 pc = .ok (.areturn, 1)) (hq : Q (.inl (some (vr a))) M) : Y g me d kc ks pc L [vr a] M Q := by
  intro p l e s m args below meth c H locs cells slots mc ms ls C h1 h2 hM hL hS' hP hD hS hlv
  refine vx_ret (W.widen (k := mc) (n := ms) (by omega) (by omega) ?_)
  exact W.aret C.1 C.2.1 (C.2.2.2.1.trans hr) hrt (Or.inr ⟨a, rfl⟩) (fun t ht hW => ⟨⟨some (vr a), M, rfl, fun v h => by cases h; trivial, hq, by rw [ht]; exact Nat.le_trans C.2.2.2.2.2.2.2.2.2.2.1 hS.1, hM, by rw [ht]; exact hP, hD⟩, hS.F ht⟩) hS.2.2 hdg C.2.2.2.2.1
theorem y_return (hr : me.2.2.2.1 = none) (hdg : decode me.2.1 pc = .ok (.return_, 1)) (hq : Q (.inl none) M) : Y g me d kc ks pc L [] M Q := by
  intro p l e s m args below meth c H locs cells slots mc ms ls C h1 h2 hM hL hS' hP hD hS hlv
  have hQ : ∀ t : State, t.heap = H → s.WarmedH t.vm → y_Qc g Q args s (.returned none) t := fun t ht _ => ⟨⟨none, M, rfl, fun v h => (by cases h), hq, by rw [ht]; exact Nat.le_trans C.2.2.2.2.2.2.2.2.2.2.1 hS.1, hM, by rw [ht]; exact hP, hD⟩, hS.F ht⟩
  refine vx_ret (W.widen (k := mc) (n := ms) (by omega) (by omega) ?_)
  exact W.vret C.1 C.2.1 (C.2.2.2.1.trans hr) hQ hS.2.2 hdg C.2.2.2.2.1
end YR2
