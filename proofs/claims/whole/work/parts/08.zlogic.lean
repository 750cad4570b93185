/-! ===== the logic over numbered objects: a memory is a function; an object's number stands for its address ===== -/
abbrev zV : Type := Int ⊕ (Int ⊕ (Nat ⊕ (Int ⊕ Int)))
abbrev zi (x : Int) : zV := Sum.inl x
abbrev zl (x : Int) : zV := Sum.inr (Sum.inl x)
abbrev zr (k : Nat) : zV := Sum.inr (Sum.inr (Sum.inl k))
abbrev zd (x : Int) : zV := Sum.inr (Sum.inr (Sum.inr (Sum.inl x)))
abbrev zf (x : Int) : zV := Sum.inr (Sum.inr (Sum.inr (Sum.inr x)))
/-- the address of an object; from 1000 on: of a constant one -/
def zA (g : yG) (a : Nat → Nat) (k : Nat) : Nat := bif k.blt 1000 then a k else g.2.2.2.1 (k - 1000)
def tr (g : yG) (a : Nat → Nat) : zV → yV
  | .inl x => vi x
  | .inr (.inl x) => vl x
  | .inr (.inr (.inl k)) => vr (zA g a k)
  | .inr (.inr (.inr (.inl x))) => vv (.double (fp_u x))
  | .inr (.inr (.inr (.inr x))) => vv (.float (fp_w x))
/-- the kinds of the objects: 0 int[], 1 char[], 2 long[], 3 double[], 4 a row of houses, 5 a row of int[], 10 and on: the classes; with their sizes -/
def zHk : List (Nat × Nat) := [(11, 17), (0, 6), (0, 6), (0, 6), (0, 6), (0, 6), (0, 6), (0, 6), (0, 6), (0, 6)]
def zKl : List (Nat × Nat) := [(16, 12)] ++ (zHk ++ (zHk ++ (zHk ++ ([(10, 3), (4, 8)] ++ (zHk ++ (zHk ++ (zHk ++ (zHk ++ (zHk ++ (zHk ++ (zHk ++ (zHk ++
  [(13, 7), (5, 6), (0, 6), (0, 6), (0, 6), (0, 6), (0, 6), (0, 6), (5, 6), (0, 6), (0, 6), (0, 6), (0, 6), (0, 6), (0, 6), (0, 6), (0, 6), (0, 6), (0, 6),
   (14, 3), (0, 6), (0, 64), (0, 64), (12, 5), (0, 4), (15, 2), (1, 128), (15, 2), (1, 128),
   (17, 24), (0, 62), (0, 496), (0, 62), (0, 62), (0, 62), (0, 6), (0, 6), (0, 6), (0, 6), (0, 6), (1, 120), (1, 60), (0, 4), (2, 1), (3, 1)]))))))))))))
abbrev zN : Nat := 158
theorem zKl_len : zKl.length = zN := by decide +kernel
def zK (k : Nat) : Nat × Nat := zKl.getD k (99, 0)
/-- the fields of the classes: 0 an int, 1 a long, 2 a Kind, 10 + n: the object n places on -/
def zT : Nat → List Nat
  | 0 => [11, 0, 0]
  | 1 => [0, 11, 12, 0, 0, 13, 14, 15, 16, 17, 18, 19, 0, 0, 0, 1, 1]
  | 2 => [0, 2, 11, 0, 0]
  | 3 => [11, 18, 25, 26, 27, 28, 0]
  | 4 => [11, 12, 13]
  | 5 => [11, 0]
  | 6 => [11, 21, 31, 41, 123, 142, 146, 148, 150, 0, 0, 0]
  | 7 => [0, 11, 12, 13, 14, 15, 0, 0, 0, 16, 17, 18, 19, 20, 21, 0, 22, 0, 0, 0, 0, 23, 0, 0]
  | _ => []
/-- what a field holds -/
def zfv (g : yG) (a : Nat → Nat) (k : Nat) (f : Int → Int) (j : Nat) : Nat → yV
  | 0 => vi (f j)
  | 1 => vl (f j)
  | 2 => vr (g.2.2.2.1 (f j).toNat)
  | n + 3 => vr (a (k + (n - 7)))
def zfl (g : yG) (a : Nat → Nat) (k : Nat) (f : Int → Int) : Nat → List Nat → List yV
  | _, [] => []
  | j, c :: cs => zfv g a k f j c :: zfl g a k f (j + 1) cs
def zca (n : Nat) (f : Int → Int) : List Int := (List.range n).map fun (j : Nat) => f (j : Int)
/-- an object of a kind, with its contents -/
def zob (g : yG) (a : Nat → Nat) (k : Nat) (f : Int → Int) : Nat × Nat → yO
  | (0, n) => oi (zca n f)
  | (1, n) => oc (zca n f)
  | (2, n) => ol (zca n f)
  | (3, n) => od ((zca n f).map fp_u)
  | (4, n) => oq 4 ((List.range n).map fun j => some (a (33 + 10 * j)))
  | (5, n) => oq 5 ((List.range n).map fun j => some (a (k + 1 + j)))
  | (t + 6, _) => oo (t - 4) (zfl g a k f 0 (zT (t - 4)))
def zM1 (g : yG) (a : Nat → Nat) (μ : zM) (k : Nat) : Nat × yO := (a k, zob g a k (μ k) (zK k))
def lay (g : yG) (a : Nat → Nat) (μ : zM) : yMem := (List.range zN).map (zM1 g a μ)
theorem lay_at {g : yG} {a : Nat → Nat} {μ : zM} {k : Nat} {o : yO} (hk : k < zN) (ho : zob g a k (μ k) (zK k) = o) : (lay g a μ)[k]? = some (a k, o) := by
  unfold lay
  rw [List.getElem?_map, List.getElem?_range hk, ← ho]; rfl
theorem zmap_set {α : Type} {F F' : Nat → α} {n k : Nat} (hf : ∀ j, j ≠ k → F' j = F j) : ((List.range n).map F).set k (F' k) = (List.range n).map F' := by
  apply List.ext_getElem?
  intro j
  rw [List.getElem?_set, List.getElem?_map, List.getElem?_map]
  by_cases hj : k = j
  · subst hj
    rw [if_pos rfl]
    by_cases hk : k < n
    · rw [if_pos (by rw [List.length_map, List.length_range]; exact hk), List.getElem?_range hk]; rfl
    · rw [if_neg (by rw [List.length_map, List.length_range]; exact hk), List.getElem?_eq_none (by rw [List.length_range]; omega)]; rfl
  · rw [if_neg hj]
    by_cases hk : j < n
    · rw [List.getElem?_range hk]; exact congrArg some (hf j (fun h => hj h.symm)).symm
    · rw [List.getElem?_eq_none (by rw [List.length_range]; omega)]; rfl
theorem lay_set {g : yG} {a : Nat → Nat} {μ : zM} {k : Nat} {o : yO} {i v : Int} (ho : zob g a k (fun j => if j = i then v else μ k j) (zK k) = o) : (lay g a μ).set k (a k, o) = lay g a (st μ k i v) := by
  have h := zmap_set (F := zM1 g a μ) (F' := zM1 g a (st μ k i v)) (n := zN) (k := k) (fun j hj => by
    unfold zM1; congr 2
    funext i'; unfold st; rw [if_neg hj])
  rw [show zM1 g a (st μ k i v) k = (a k, o) by unfold zM1; rw [← ho]; congr 2; funext i'; unfold st; rw [if_pos rfl]] at h
  exact h
/-! contents of arrays -/
theorem zca_len (n : Nat) (f : Int → Int) : (zca n f).length = n := by unfold zca; rw [List.length_map, List.length_range]
theorem zca_get {n : Nat} {f : Int → Int} {i : Int} (h0 : 0 ≤ i) (hn : i < n) : ga (zca n f) i = f i := by
  unfold ga zca
  rw [List.getD_eq_getElem?_getD, List.getElem?_map, List.getElem?_range (by omega)]
  show f ((i.toNat : Nat) : Int) = f i
  rw [Int.toNat_of_nonneg h0]
theorem zca_set {n : Nat} {f : Int → Int} {i v : Int} (h0 : 0 ≤ i) : sa (zca n f) i v = zca n (fun j => if j = i then v else f j) := by
  unfold sa zca
  have h := zmap_set (F := fun j : Nat => f (j : Int)) (F' := fun j : Nat => if (j : Int) = i then v else f (j : Int)) (n := n) (k := i.toNat) (fun j hj => if_neg (by omega))
  rw [show (if ((i.toNat : Nat) : Int) = i then v else f ((i.toNat : Nat) : Int)) = v from if_pos (Int.toNat_of_nonneg h0)] at h
  exact h
theorem zfl_at {g : yG} {a : Nat → Nat} {k : Nat} {f : Int → Int} : ∀ {cs : List Nat} {j i c : Nat}, cs[i]? = some c → (zfl g a k f j cs)[i]? = some (zfv g a k f (j + i) c)
  | [], _, _, _, h => by cases h
  | c' :: cs, j, 0, c, h => by
    cases h; rfl
  | c' :: cs, j, i + 1, c, h => by
    show (zfl g a k f (j + 1) cs)[i]? = _
    rw [zfl_at (cs := cs) (j := j + 1) (i := i) (c := c) h]
    rw [show j + 1 + i = j + (i + 1) by omega]
theorem zfl_len {g : yG} {a : Nat → Nat} {k : Nat} {f : Int → Int} : ∀ (cs : List Nat) (j : Nat), (zfl g a k f j cs).length = cs.length
  | [], _ => rfl
  | _ :: cs, j => by show (zfl g a k f (j + 1) cs).length + 1 = _; rw [zfl_len cs (j + 1)]; rfl
theorem zfv_ne {g : yG} {a : Nat → Nat} {k : Nat} {f : Int → Int} {i j : Nat} {v : Int} (c : Nat) (h : j ≠ i) : zfv g a k (fun x => if x = (i : Int) then v else f x) j c = zfv g a k f j c := by
  have h1 : (if (j : Int) = (i : Int) then v else f (j : Int)) = f (j : Int) := if_neg (by omega)
  rcases c with _ | _ | _ | c
  · exact congrArg vi h1
  · exact congrArg vl h1
  · exact congrArg (fun z : Int => vr (g.2.2.2.1 z.toNat)) h1
  · rfl
theorem zfl_ne {g : yG} {a : Nat → Nat} {k : Nat} {f : Int → Int} {i : Nat} {v : Int} : ∀ (cs : List Nat) (j : Nat), i < j → zfl g a k (fun x => if x = (i : Int) then v else f x) j cs = zfl g a k f j cs
  | [], _, _ => rfl
  | c :: cs, j, h => by
    show zfv g a k _ j c :: zfl g a k _ (j + 1) cs = zfv g a k _ j c :: zfl g a k _ (j + 1) cs
    rw [zfv_ne c (by omega), zfl_ne cs (j + 1) (by omega)]
theorem zfl_set {g : yG} {a : Nat → Nat} {k : Nat} {f : Int → Int} {v : Int} : ∀ {cs : List Nat} {j i c : Nat}, cs[i]? = some c → (zfl g a k f j cs).set i (zfv g a k (fun x => if x = ((j + i : Nat) : Int) then v else f x) (j + i) c) = zfl g a k (fun x => if x = ((j + i : Nat) : Int) then v else f x) j cs
  | [], _, _, _, h => by cases h
  | c' :: cs, j, 0, c, h => by
    cases h
    show zfv g a k (fun x => if x = ((j + 0 : Nat) : Int) then v else f x) (j + 0) c' :: zfl g a k f (j + 1) cs = zfv g a k (fun x => if x = ((j + 0 : Nat) : Int) then v else f x) j c' :: zfl g a k (fun x => if x = ((j + 0 : Nat) : Int) then v else f x) (j + 1) cs
    rw [zfl_ne (i := j + 0) cs (j + 1) (by omega)]
    rfl
  | c' :: cs, j, i + 1, c, h => by
    show zfv g a k f j c' :: (zfl g a k f (j + 1) cs).set i _ = zfv g a k _ j c' :: zfl g a k _ (j + 1) cs
    have h2 := zfl_set (g := g) (a := a) (k := k) (f := f) (v := v) (cs := cs) (j := j + 1) (i := i) (c := c) h
    rw [show j + 1 + i = j + (i + 1) by omega] at h2
    rw [h2, zfv_ne c' (by omega)]
/-! the locals: all places in their order -/
def zL (g : yG) (a : Nat → Nat) : Nat → List (Option zV) → List (Nat × yV)
  | _, [] => []
  | i, none :: l => zL g a (i + 1) l
  | i, some v :: l => (i, tr g a v) :: zL g a (i + 1) l
theorem zL_mem {g : yG} {a : Nat → Nat} : ∀ {l : List (Option zV)} {i : Nat} {q : Nat × yV}, q ∈ zL g a i l ↔ ∃ (j : Nat) (v : zV), l[j]? = some (some v) ∧ q = (i + j, tr g a v)
  | [], i, q => ⟨(fun h => nomatch h), (fun ⟨j, v, h, _⟩ => nomatch h)⟩
  | none :: l, i, q => by
    show q ∈ zL g a (i + 1) l ↔ _
    rw [zL_mem]
    constructor
    · rintro ⟨j, v, h, rfl⟩
      exact ⟨j + 1, v, h, by rw [show i + 1 + j = i + (j + 1) by omega]⟩
    · rintro ⟨j, v, h, rfl⟩
      rcases j with _ | j
      · cases h
      · exact ⟨j, v, h, by rw [show i + 1 + j = i + (j + 1) by omega]⟩
  | some w :: l, i, q => by
    show q ∈ (i, tr g a w) :: zL g a (i + 1) l ↔ _
    rw [List.mem_cons, zL_mem]
    constructor
    · rintro (rfl | ⟨j, v, h, rfl⟩)
      · exact ⟨0, w, rfl, rfl⟩
      · exact ⟨j + 1, v, h, by rw [show i + 1 + j = i + (j + 1) by omega]⟩
    · rintro ⟨j, v, h, rfl⟩
      rcases j with _ | j
      · cases h; exact Or.inl rfl
      · exact Or.inr ⟨j, v, h, by rw [show i + 1 + j = i + (j + 1) by omega]⟩
theorem zL_get {g : yG} {a : Nat → Nat} : ∀ {l : List (Option zV)} {i j : Nat} {v : zV}, l[j]? = some (some v) → y_get (i + j) (zL g a i l) = some (tr g a v)
  | [], _, _, _, h => by cases h
  | none :: l, i, 0, v, h => by cases h
  | none :: l, i, j + 1, v, h => by
    show y_get _ (zL g a (i + 1) l) = _
    rw [show i + (j + 1) = i + 1 + j by omega]
    exact zL_get (l := l) h
  | some w :: l, i, 0, v, h => by
    cases h
    show (bif i == i + 0 then some (tr g a w) else _) = _
    rw [show (i == i + 0) = true from beq_iff_eq.mpr rfl]; rfl
  | some w :: l, i, j + 1, v, h => by
    show (bif i == i + (j + 1) then some (tr g a w) else y_get _ (zL g a (i + 1) l)) = _
    rw [show (i == i + (j + 1)) = false from beq_eq_false_iff_ne.mpr (by omega), show i + (j + 1) = i + 1 + j by omega]
    exact zL_get (l := l) h
def zcat : zV → Nat
  | .inl _ => 1
  | .inr (.inl _) => 2
  | .inr (.inr (.inl _)) => 1
  | .inr (.inr (.inr (.inl _))) => 2
  | .inr (.inr (.inr (.inr _))) => 1
theorem zcat_tr (g : yG) (a : Nat → Nat) (v : zV) : y_cat (tr g a v) = zcat v := by
  rcases v with x | x | x | x | x <;> rfl
/-- no long lies just below place i -/
def zlow (l : List (Option zV)) : Nat → Bool
  | 0 => true
  | i + 1 => match l[i]? with
    | some (some v) => zcat v == 1
    | _ => true
theorem zlow_spec {l : List (Option zV)} {i j : Nat} {v : zV} (h : zlow l i = true) (hj : j + 1 = i) (hv : l[j]? = some (some v)) : zcat v = 1 := by
  subst hj
  have h2 : (match l[j]? with
    | some (some v) => zcat v == 1
    | _ => true) = true := h
  rw [hv] at h2
  exact beq_iff_eq.mp h2
theorem zst_sub {g : yG} {a : Nat → Nat} {l : List (Option zV)} {i : Nat} {v : zV} (h : zlow l i = true) : ∀ q ∈ zL g a 0 (l.set i (some v)), q ∈ y_st i (tr g a v) (zL g a 0 l) := by
  intro q hq
  obtain ⟨j, w, hj, rfl⟩ := zL_mem.mp hq
  rw [Nat.zero_add]
  unfold y_st
  by_cases hij : i = j
  · subst hij
    rw [List.getElem?_set] at hj
    rw [if_pos rfl] at hj
    split at hj
    · cases hj; exact List.mem_cons_self
    · cases hj
  · rw [List.getElem?_set, if_neg hij] at hj
    refine List.mem_cons_of_mem _ (List.mem_filter.mpr ⟨zL_mem.mpr ⟨j, w, hj, by rw [Nat.zero_add]⟩, ?_⟩)
    show (!(j == i) && !(j + 1 == i && y_cat (tr g a w) == 2)) = true
    rw [zcat_tr, show (j == i) = false from beq_eq_false_iff_ne.mpr (fun z => hij z.symm)]
    by_cases h1 : j + 1 = i
    · rw [zlow_spec h h1 hj]; cases (j + 1 == i) <;> rfl
    · rw [show (j + 1 == i) = false from beq_eq_false_iff_ne.mpr h1]; rfl
theorem zst2_sub {g : yG} {a : Nat → Nat} {l : List (Option zV)} {i : Nat} {v : zV} (h : zlow l i = true) : ∀ q ∈ zL g a 0 ((l.set i (some v)).set (i + 1) none), q ∈ y_st2 i (tr g a v) (zL g a 0 l) := by
  intro q hq
  obtain ⟨j, w, hj, rfl⟩ := zL_mem.mp hq
  rw [Nat.zero_add]
  unfold y_st2
  by_cases h2 : i + 1 = j
  · subst h2
    rw [List.getElem?_set, if_pos rfl] at hj
    split at hj <;> cases hj
  rw [List.getElem?_set, if_neg h2] at hj
  by_cases hij : i = j
  · subst hij
    rw [List.getElem?_set] at hj
    rw [if_pos rfl] at hj
    split at hj
    · cases hj; exact List.mem_cons_self
    · cases hj
  · rw [List.getElem?_set, if_neg hij] at hj
    refine List.mem_cons_of_mem _ (List.mem_filter.mpr ⟨zL_mem.mpr ⟨j, w, hj, by rw [Nat.zero_add]⟩, ?_⟩)
    show (!(j == i) && (!(j == i + 1) && !(j + 1 == i && y_cat (tr g a w) == 2))) = true
    rw [zcat_tr, show (j == i) = false from beq_eq_false_iff_ne.mpr (fun z => hij z.symm), show (j == i + 1) = false from beq_eq_false_iff_ne.mpr (fun z => h2 z.symm)]
    by_cases h1 : j + 1 = i
    · rw [zlow_spec h h1 hj]; cases (j + 1 == i) <;> rfl
    · rw [show (j + 1 == i) = false from beq_eq_false_iff_ne.mpr h1]; rfl
/-! ===== the judgements ===== -/
abbrev zO : Type := Option zV ⊕ Nat
def zEx : List String := ["java/util/NoSuchElementException", "java/lang/IndexOutOfBoundsException", "java/lang/IllegalArgumentException", "java/lang/IllegalStateException", "java/lang/UnsupportedOperationException", "java/lang/ArithmeticException"]
def zo (g : yG) (a : Nat → Nat) : zO → yOut
  | .inl r => .inl (r.map (tr g a))
  | .inr e => .inr (zEx.getD e "")
def zQ (g : yG) (a : Nat → Nat) (o : zO) (ν : zM) : yOut → yMem → Prop := fun o' M' => o' = zo g a o ∧ M' = lay g a ν
def zC (g : yG) (a : Nat → Nat) (me : yM0) (d kc ks : Nat) (as : List zV) (μ : zM) (o : zO) (ν : zM) : Prop := yC g me d kc ks (as.map (tr g a)) (lay g a μ) (zQ g a o ν)
def Z (g : yG) (a : Nat → Nat) (me : yM0) (d kc ks pc : Nat) (L : List (Option zV)) (S : List zV) (μ : zM) (o : zO) (ν : zM) : Prop := Y g me d kc ks pc (zL g a 0 L) (S.map (tr g a)) (lay g a μ) (zQ g a o ν)
theorem Y.sub {g : yG} {me : yM0} {d kc ks pc : Nat} {L L' : List (Nat × yV)} {S : List yV} {M : yMem} {Q : yOut → yMem → Prop} (h : Y g me d kc ks pc L' S M Q) (hs : ∀ q ∈ L', q ∈ L) : Y g me d kc ks pc L S M Q := by
  intro p l e s m args below meth c H locs cells slots mc ms ls C h1 h2 hM hL hS' hP hD hS hlv
  exact h p l e s m args below meth c H locs cells slots mc ms ls C h1 h2 hM (fun q hq => hL q (hs q hq)) hS' hP hD hS ⟨hlv.1, hlv.2.1, fun q hq => by
    obtain ⟨q', hq', rfl⟩ := List.mem_map.mp hq
    exact hlv.2.2 _ (List.mem_map.mpr ⟨q', hs q' hq', rfl⟩)⟩
