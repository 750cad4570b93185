/-! ===== the rows of Z (written by a program of this repository) ===== -/
abbrev zAr (k t n : Nat) : Prop := k < zN ∧ zK k = (t, n)
abbrev zH (h : Nat) : Prop := zAr h 11 17 ∧ zAr (h + 1) 0 6 ∧ zAr (h + 2) 0 6 ∧ zAr (h + 3) 0 6 ∧ zAr (h + 4) 0 6 ∧ zAr (h + 5) 0 6 ∧ zAr (h + 6) 0 6 ∧ zAr (h + 7) 0 6 ∧ zAr (h + 8) 0 6 ∧ zAr (h + 9) 0 6
theorem zH.a0 {h : Nat} (x : zH h) : zAr h 11 17 := x.1
theorem zH.a1 {h : Nat} (x : zH h) : zAr (h + 1) 0 6 := x.2.1
theorem zH.a2 {h : Nat} (x : zH h) : zAr (h + 2) 0 6 := x.2.2.1
theorem zH.a3 {h : Nat} (x : zH h) : zAr (h + 3) 0 6 := x.2.2.2.1
theorem zH.a4 {h : Nat} (x : zH h) : zAr (h + 4) 0 6 := x.2.2.2.2.1
theorem zH.a5 {h : Nat} (x : zH h) : zAr (h + 5) 0 6 := x.2.2.2.2.2.1
theorem zH.a6 {h : Nat} (x : zH h) : zAr (h + 6) 0 6 := x.2.2.2.2.2.2.1
theorem zH.a7 {h : Nat} (x : zH h) : zAr (h + 7) 0 6 := x.2.2.2.2.2.2.2.1
theorem zH.a8 {h : Nat} (x : zH h) : zAr (h + 8) 0 6 := x.2.2.2.2.2.2.2.2.1
theorem zH.a9 {h : Nat} (x : zH h) : zAr (h + 9) 0 6 := x.2.2.2.2.2.2.2.2.2
theorem zH_1 : zH 1 := by decide +kernel
theorem zH_11 : zH 11 := by decide +kernel
theorem zH_21 : zH 21 := by decide +kernel
theorem zH_ring {i : Int} (h : 0 ≤ i ∧ i < 8) : zH (33 + 10 * i.toNat) := by
  have h2 : ∀ j, j < 8 → zH (33 + 10 * j) := by decide +kernel
  exact h2 _ (by omega)
theorem ar_row1 {i : Int} (h : 0 ≤ i ∧ i < 6) : zAr (115 + i.toNat) 0 6 := by
  have h2 : ∀ j, j < 6 → zAr (115 + j) 0 6 := by decide +kernel
  exact h2 _ (by omega)
theorem ar_row2 {i : Int} (h : 0 ≤ i ∧ i < 6) : zAr (122 + i.toNat) 0 6 := by
  have h2 : ∀ j, j < 6 → zAr (122 + j) 0 6 := by decide +kernel
  exact h2 _ (by omega)
/-- the words of an access to a field -/
def zF (own : String) (idx c j code : Nat) : Prop := ∃ (Cn : String) (T : u_T) (N : Nat), y_cl[c]? = some (Cn, T, N) ∧ j < N ∧ Cond.fieldLink own idx (T j).1 (T j).2.1 (T j).2.2.1 ∈ yB ∧ (zT c)[j]? = some code
def zFp (own : String) (idx c j code : Nat) (ty : FieldType) : Prop := ∃ (Cn : String) (T : u_T) (N : Nat), y_cl[c]? = some (Cn, T, N) ∧ j < N ∧ Cond.fieldLink own idx (T j).1 (T j).2.1 (T j).2.2.1 ∈ yB ∧ (zT c)[j]? = some code ∧ (T j).2.2.2 = false ∧ parseFieldDescriptor (T j).2.2.1 = some ty
/-- helpers over what the mirror says -/
theorem z_g {c : Prop} [Decidable c] {α : Type} {x : Option α} {r : α} (h : (if c then x else none) = some r) : c ∧ x = some r := by
  by_cases q : c
  · rw [if_pos q] at h; exact ⟨q, h⟩
  · rw [if_neg q] at h; cases h
theorem z_ip {c : Prop} [Decidable c] {α : Type} {x y z : α} (h : (if c then x else y) = z) (q : c) : x = z := by rw [if_pos q] at h; exact h
theorem z_in {c : Prop} [Decidable c] {α : Type} {x y z : α} (h : (if c then x else y) = z) (q : ¬ c) : y = z := by rw [if_neg q] at h; exact h
theorem z_b {α β : Type} {x : Option α} {f : α → Option β} {r : β} (h : Option.bind x f = some r) : ∃ v, x = some v ∧ f v = some r := by
  cases x with
  | none => cases h
  | some v => exact ⟨v, rfl, h⟩
theorem z_m {α β : Type} {x : α} {f : α → Option β} {r : β} (h : Option.bind (some x) f = some r) : ∃ v, x = v ∧ f v = some r := ⟨x, rfl, h⟩
theorem z_tc {x : Option ((Int ⊕ Nat) × zM)} {k : Int → zM → Option ((Int ⊕ Nat) × zM)} {r : Int ⊕ Nat} {ν : zM} (h : tcall x k = some (r, ν)) : (∃ (v : Int) (m : zM), x = some (.inl v, m) ∧ k v m = some (r, ν)) ∨ ∃ e : Nat, x = some (.inr e, ν) ∧ r = .inr e := by
  cases x with
  | none => cases h
  | some q =>
    obtain ⟨q1, m⟩ := q
    rcases q1 with v | e
    · exact Or.inl ⟨v, m, rfl, h⟩
    · cases h
      exact Or.inr ⟨e, rfl, rfl⟩
/-- results as the logic has them -/
abbrev zri (r : Int ⊕ Nat) : zO := Sum.map (fun x => some (zi x)) id r
abbrev zrl (r : Int ⊕ Nat) : zO := Sum.map (fun x => some (zl x)) id r
abbrev zrd (r : Int ⊕ Nat) : zO := Sum.map (fun x => some (zd x)) id r
abbrev zrf (r : Int ⊕ Nat) : zO := Sum.map (fun x => some (zf x)) id r
abbrev zrv (r : Int ⊕ Nat) : zO := Sum.map (fun _ => none) id r
/-- locals: some may be forgotten -/
def zle : List (Option zV) → List (Option zV) → Prop
  | [], _ => True
  | none :: l, _ :: l' => zle l l'
  | none :: l, [] => zle l []
  | some _ :: _, [] => False
  | some v :: l, w :: l' => w = some v ∧ zle l l'
theorem zle_sub : ∀ {l l' : List (Option zV)}, zle l l' → ∀ (j : Nat) (v : zV), l[j]? = some (some v) → l'[j]? = some (some v)
  | [], _, _, j, v, h => by cases h
  | none :: l, [], hz, j, v, h => by
    cases j with
    | zero => cases h
    | succ j => have := zle_sub (l := l) (l' := []) hz j v h; cases this
  | none :: l, w :: l', hz, j, v, h => by
    cases j with
    | zero => cases h
    | succ j => exact zle_sub (l := l) (l' := l') hz j v h
  | some u :: l, [], hz, j, v, h => hz.elim
  | some u :: l, w :: l', hz, j, v, h => by
    cases j with
    | zero => cases h; rw [hz.1]; rfl
    | succ j => exact zle_sub (l := l) (l' := l') hz.2 j v h
def zs : List zV → Nat
  | [] => 0
  | v :: S => zcat v + zs S
theorem zs_eq (g : yG) (a : Nat → Nat) : ∀ S : List zV, ((S.map (tr g a)).map y_cat).sum = zs S
  | [] => rfl
  | v :: S => by
    show y_cat (tr g a v) + ((S.map (tr g a)).map y_cat).sum = zcat v + zs S
    rw [zcat_tr, zs_eq g a S]
theorem zA_lt {g : yG} {a : Nat → Nat} {k : Nat} (h : k < zN) : zA g a k = a k := by
  unfold zA
  rw [show k.blt 1000 = true from Nat.blt_eq.mpr (Nat.lt_trans h (by decide))]; rfl
theorem zA_c {g : yG} {a : Nat → Nat} (n : Nat) : zA g a (1000 + n) = g.2.2.2.1 n := by
  unfold zA
  rw [show (1000 + n).blt 1000 = false from by
    rw [Bool.eq_false_iff]; intro h; have := Nat.blt_eq.mp h; omega]
  show g.2.2.2.1 (1000 + n - 1000) = _
  rw [Nat.add_sub_cancel_left]
theorem zob_c {g : yG} {a : Nat → Nat} {k c n : Nat} {f : Int → Int} : zob g a k f (c + 10, n) = oo c (zfl g a k f 0 (zT c)) := by
  show oo (c + 4 - 4) (zfl g a k f 0 (zT (c + 4 - 4))) = _
  rw [Nat.add_sub_cancel]
theorem zg {g : yG} {a : Nat → Nat} {L : List (Option zV)} {i : Nat} {v : zV} (h : L[i]? = some (some v)) : y_get i (zL g a 0 L) = some (tr g a v) := by
  have h2 := zL_get (g := g) (a := a) (i := 0) h
  rwa [Nat.zero_add] at h2
theorem zlay {g : yG} {a : Nat → Nat} {μ : zM} {k t n : Nat} (h : zAr k t n) : (lay g a μ)[k]? = some (a k, zob g a k (μ k) (t, n)) := lay_at h.1 (by rw [h.2])
theorem zlayA {g : yG} {a : Nat → Nat} {μ : zM} {k n : Nat} (h : zAr k 0 n) : (lay g a μ)[k]? = some (a k, oi (zca n (μ k))) := zlay h
theorem zlayC {g : yG} {a : Nat → Nat} {μ : zM} {k n : Nat} (h : zAr k 1 n) : (lay g a μ)[k]? = some (a k, oc (zca n (μ k))) := zlay h
theorem zlayL {g : yG} {a : Nat → Nat} {μ : zM} {k n : Nat} (h : zAr k 2 n) : (lay g a μ)[k]? = some (a k, ol (zca n (μ k))) := zlay h
theorem zlayD {g : yG} {a : Nat → Nat} {μ : zM} {k n : Nat} (h : zAr k 3 n) : (lay g a μ)[k]? = some (a k, od ((zca n (μ k)).map fp_u)) := zlay h
theorem zlayO {g : yG} {a : Nat → Nat} {μ : zM} {k c n : Nat} (h : zAr k (c + 10) n) : (lay g a μ)[k]? = some (a k, oo c (zfl g a k (μ k) 0 (zT c))) := by
  rw [zlay h, zob_c]
section ZR
variable {g : yG} {a : Nat → Nat} {me : yM0} {d kc ks pc : Nat} {L : List (Option zV)} {S : List zV} {μ ν : zM} {o : zO}
theorem Z.sub {L' : List (Option zV)} (h : zle L' L) (kk : Z g a me d kc ks pc L' S μ o ν) : Z g a me d kc ks pc L S μ o ν := by
  refine Y.sub kk (fun q hq => ?_)
  obtain ⟨j, v, hj, rfl⟩ := zL_mem.mp hq
  exact zL_mem.mpr ⟨j, v, zle_sub h j v hj, rfl⟩
theorem z_stk {K : Nat} {v : zV} (kk : Y g me d kc ks K (zL g a 0 L) ((v :: S).map (tr g a)) (lay g a μ) (zQ g a o ν)) : Y g me d kc ks K (zL g a 0 L) (tr g a v :: S.map (tr g a)) (lay g a μ) (zQ g a o ν) := kk
theorem z_iload_n {k : Fin 4} {x : Int} (p' : Nat) (hdg : decode me.2.1 pc = .ok (.iload_n k, 1)) (hp : pc + 1 = p') (hl : L[(k : Nat)]? = some (some (zi x))) (kk : Z g a me d kc ks p' L (zi x :: S) μ o ν) : Z g a me d kc ks pc L S μ o ν := by
  subst hp
  exact y_iload_n hdg rfl (zg hl) kk
theorem z_iload {k : Nat} {x : Int} (p' : Nat) (hdg : decode me.2.1 pc = .ok (.iload k, 2)) (hp : pc + 2 = p') (hl : L[k]? = some (some (zi x))) (kk : Z g a me d kc ks p' L (zi x :: S) μ o ν) : Z g a me d kc ks pc L S μ o ν := by
  subst hp
  exact y_iload hdg (zg hl) kk
theorem z_aload_n {k : Fin 4} {x : Nat} (p' : Nat) (hdg : decode me.2.1 pc = .ok (.aload_n k, 1)) (hp : pc + 1 = p') (hl : L[(k : Nat)]? = some (some (zr x))) (kk : Z g a me d kc ks p' L (zr x :: S) μ o ν) : Z g a me d kc ks pc L S μ o ν := by
  subst hp
  exact y_aload_n hdg rfl (zg hl) kk
theorem z_aload {k : Nat} {x : Nat} (p' : Nat) (hdg : decode me.2.1 pc = .ok (.aload k, 2)) (hp : pc + 2 = p') (hl : L[k]? = some (some (zr x))) (kk : Z g a me d kc ks p' L (zr x :: S) μ o ν) : Z g a me d kc ks pc L S μ o ν := by
  subst hp
  exact y_aload hdg (zg hl) kk
theorem z_lload_n {k : Fin 4} {x : Int} (p' : Nat) (hdg : decode me.2.1 pc = .ok (.lload_n k, 1)) (hp : pc + 1 = p') (hl : L[(k : Nat)]? = some (some (zl x))) (kk : Z g a me d kc ks p' L (zl x :: S) μ o ν) : Z g a me d kc ks pc L S μ o ν := by
  subst hp
  exact y_lload_n hdg rfl (zg hl) kk
theorem z_lload {k : Nat} {x : Int} (p' : Nat) (hdg : decode me.2.1 pc = .ok (.lload k, 2)) (hp : pc + 2 = p') (hl : L[k]? = some (some (zl x))) (kk : Z g a me d kc ks p' L (zl x :: S) μ o ν) : Z g a me d kc ks pc L S μ o ν := by
  subst hp
  exact y_lload hdg (zg hl) kk
theorem z_fload_n {k : Fin 4} {x : Int} (p' : Nat) (hdg : decode me.2.1 pc = .ok (.fload_n k, 1)) (hp : pc + 1 = p') (hl : L[(k : Nat)]? = some (some (zf x))) (kk : Z g a me d kc ks p' L (zf x :: S) μ o ν) : Z g a me d kc ks pc L S μ o ν := by
  subst hp
  exact y_fload_n hdg rfl (zg hl) kk
theorem z_fload {k : Nat} {x : Int} (p' : Nat) (hdg : decode me.2.1 pc = .ok (.fload k, 2)) (hp : pc + 2 = p') (hl : L[k]? = some (some (zf x))) (kk : Z g a me d kc ks p' L (zf x :: S) μ o ν) : Z g a me d kc ks pc L S μ o ν := by
  subst hp
  exact y_fload hdg (zg hl) kk
theorem z_dload_n {k : Fin 4} {x : Int} (p' : Nat) (hdg : decode me.2.1 pc = .ok (.dload_n k, 1)) (hp : pc + 1 = p') (hl : L[(k : Nat)]? = some (some (zd x))) (kk : Z g a me d kc ks p' L (zd x :: S) μ o ν) : Z g a me d kc ks pc L S μ o ν := by
  subst hp
  exact y_dload_n hdg rfl (zg hl) kk
theorem z_dload {k : Nat} {x : Int} (p' : Nat) (hdg : decode me.2.1 pc = .ok (.dload k, 2)) (hp : pc + 2 = p') (hl : L[k]? = some (some (zd x))) (kk : Z g a me d kc ks p' L (zd x :: S) μ o ν) : Z g a me d kc ks pc L S μ o ν := by
  subst hp
  exact y_dload hdg (zg hl) kk
theorem z_istore_n {k : Fin 4} {x : Int} {L' : List (Option zV)} (p' : Nat) (hdg : decode me.2.1 pc = .ok (.istore_n k, 1)) (hp : pc + 1 = p') (hn : Nat.blt (k : Nat) me.2.2.1 = true) (hw : zlow L (k : Nat) = true) (hl : L.set (k : Nat) (some (zi x)) = L') (kk : Z g a me d kc ks p' L' S μ o ν) : Z g a me d kc ks pc L (zi x :: S) μ o ν := by
  subst hp hl
  exact y_istore_n hdg rfl (Nat.blt_eq.mp hn) rfl (Y.sub kk (zst_sub hw))
theorem z_istore {k : Nat} {x : Int} {L' : List (Option zV)} (p' : Nat) (hdg : decode me.2.1 pc = .ok (.istore k, 2)) (hp : pc + 2 = p') (hn : Nat.blt k me.2.2.1 = true) (hw : zlow L k = true) (hl : L.set k (some (zi x)) = L') (kk : Z g a me d kc ks p' L' S μ o ν) : Z g a me d kc ks pc L (zi x :: S) μ o ν := by
  subst hp hl
  exact y_istore hdg (Nat.blt_eq.mp hn) rfl (Y.sub kk (zst_sub hw))
theorem z_astore_n {k : Fin 4} {x : Nat} {L' : List (Option zV)} (p' : Nat) (hdg : decode me.2.1 pc = .ok (.astore_n k, 1)) (hp : pc + 1 = p') (hn : Nat.blt (k : Nat) me.2.2.1 = true) (hw : zlow L (k : Nat) = true) (hl : L.set (k : Nat) (some (zr x)) = L') (kk : Z g a me d kc ks p' L' S μ o ν) : Z g a me d kc ks pc L (zr x :: S) μ o ν := by
  subst hp hl
  exact y_astore_n hdg rfl (Nat.blt_eq.mp hn) rfl (Y.sub kk (zst_sub hw))
theorem z_astore {k : Nat} {x : Nat} {L' : List (Option zV)} (p' : Nat) (hdg : decode me.2.1 pc = .ok (.astore k, 2)) (hp : pc + 2 = p') (hn : Nat.blt k me.2.2.1 = true) (hw : zlow L k = true) (hl : L.set k (some (zr x)) = L') (kk : Z g a me d kc ks p' L' S μ o ν) : Z g a me d kc ks pc L (zr x :: S) μ o ν := by
  subst hp hl
  exact y_astore hdg (Nat.blt_eq.mp hn) rfl (Y.sub kk (zst_sub hw))
theorem z_fstore {k : Nat} {x : Int} {L' : List (Option zV)} (p' : Nat) (hdg : decode me.2.1 pc = .ok (.fstore k, 2)) (hp : pc + 2 = p') (hn : Nat.blt k me.2.2.1 = true) (hw : zlow L k = true) (hl : L.set k (some (zf x)) = L') (kk : Z g a me d kc ks p' L' S μ o ν) : Z g a me d kc ks pc L (zf x :: S) μ o ν := by
  subst hp hl
  exact y_fstore hdg (Nat.blt_eq.mp hn) rfl (Y.sub kk (zst_sub hw))
theorem z_lstore_n {k : Fin 4} {x : Int} {L' : List (Option zV)} (p' : Nat) (hdg : decode me.2.1 pc = .ok (.lstore_n k, 1)) (hp : pc + 1 = p') (hn : Nat.blt ((k : Nat) + 1) me.2.2.1 = true) (hw : zlow L (k : Nat) = true) (hl : (L.set (k : Nat) (some (zl x))).set ((k : Nat) + 1) none = L') (kk : Z g a me d kc ks p' L' S μ o ν) : Z g a me d kc ks pc L (zl x :: S) μ o ν := by
  subst hp hl
  exact y_lstore_n hdg rfl (Nat.blt_eq.mp hn) rfl (Y.sub kk (zst2_sub hw))
theorem z_lstore {k : Nat} {x : Int} {L' : List (Option zV)} (p' : Nat) (hdg : decode me.2.1 pc = .ok (.lstore k, 2)) (hp : pc + 2 = p') (hn : Nat.blt (k + 1) me.2.2.1 = true) (hw : zlow L k = true) (hl : (L.set k (some (zl x))).set (k + 1) none = L') (kk : Z g a me d kc ks p' L' S μ o ν) : Z g a me d kc ks pc L (zl x :: S) μ o ν := by
  subst hp hl
  exact y_lstore hdg (Nat.blt_eq.mp hn) rfl (Y.sub kk (zst2_sub hw))
theorem z_dstore {k : Nat} {x : Int} {L' : List (Option zV)} (p' : Nat) (hdg : decode me.2.1 pc = .ok (.dstore k, 2)) (hp : pc + 2 = p') (hn : Nat.blt (k + 1) me.2.2.1 = true) (hw : zlow L k = true) (hl : (L.set k (some (zd x))).set (k + 1) none = L') (kk : Z g a me d kc ks p' L' S μ o ν) : Z g a me d kc ks pc L (zd x :: S) μ o ν := by
  subst hp hl
  exact y_dstore hdg (Nat.blt_eq.mp hn) rfl (Y.sub kk (zst2_sub hw))
theorem z_iinc {i : Nat} {n x r : Int} {L' : List (Option zV)} (p' : Nat) (hdg : decode me.2.1 pc = .ok (.iinc i n, 3)) (hp : pc + 3 = p') (hg : L[i]? = some (some (zi x))) (hr : wr (x + n) = r) (hn : Nat.blt i me.2.2.1 = true) (hw : zlow L i = true) (hl : L.set i (some (zi r)) = L') (kk : Z g a me d kc ks p' L' S μ o ν) : Z g a me d kc ks pc L S μ o ν := by
  subst hp hr hl
  exact y_iinc hdg (zg hg) (Nat.blt_eq.mp hn) rfl (Y.sub kk (zst_sub hw))
theorem z_iconst {n : Int} (p' : Nat) (hdg : decode me.2.1 pc = .ok (.iconst n, 1)) (hp : pc + 1 = p') (hn : y_in n) (kk : Z g a me d kc ks p' L (zi n :: S) μ o ν) : Z g a me d kc ks pc L S μ o ν := by
  subst hp
  exact y_iconst hdg hn kk
theorem z_bipush {n : Int} (p' : Nat) (hdg : decode me.2.1 pc = .ok (.bipush n, 2)) (hp : pc + 2 = p') (hv : (Int8.ofInt n).toInt32 = Int32.ofInt n) (hn : y_in n) (kk : Z g a me d kc ks p' L (zi n :: S) μ o ν) : Z g a me d kc ks pc L S μ o ν := by
  subst hp
  exact y_bipush hdg hv hn kk
theorem z_sipush {n : Int} (p' : Nat) (hdg : decode me.2.1 pc = .ok (.sipush n, 3)) (hp : pc + 3 = p') (hv : (Int16.ofInt n).toInt32 = Int32.ofInt n) (hn : y_in n) (kk : Z g a me d kc ks p' L (zi n :: S) μ o ν) : Z g a me d kc ks pc L S μ o ν := by
  subst hp
  exact y_sipush hdg hv hn kk
theorem z_lconst {n : Fin 2} {x : Int} (p' : Nat) (hdg : decode me.2.1 pc = .ok (.lconst n, 1)) (hp : pc + 1 = p') (hx : Int64.ofNat (n : Nat) = Int64.ofInt x) (hn : y_inL x) (kk : Z g a me d kc ks p' L (zl x :: S) μ o ν) : Z g a me d kc ks pc L S μ o ν := by
  subst hp
  exact y_lconst hdg hx hn kk
theorem z_iadd {x y r : Int} (p' : Nat) (hdg : decode me.2.1 pc = .ok (.iadd, 1)) (hp : pc + 1 = p') (hr : wr (x + y) = r) (kk : Z g a me d kc ks p' L (zi r :: S) μ o ν) : Z g a me d kc ks pc L (zi y :: zi x :: S) μ o ν := by
  subst hp hr
  exact y_iadd hdg kk
theorem z_isub {x y r : Int} (p' : Nat) (hdg : decode me.2.1 pc = .ok (.isub, 1)) (hp : pc + 1 = p') (hr : wr (x - y) = r) (kk : Z g a me d kc ks p' L (zi r :: S) μ o ν) : Z g a me d kc ks pc L (zi y :: zi x :: S) μ o ν := by
  subst hp hr
  exact y_isub hdg kk
theorem z_imul {x y r : Int} (p' : Nat) (hdg : decode me.2.1 pc = .ok (.imul, 1)) (hp : pc + 1 = p') (hr : wr (x * y) = r) (kk : Z g a me d kc ks p' L (zi r :: S) μ o ν) : Z g a me d kc ks pc L (zi y :: zi x :: S) μ o ν := by
  subst hp hr
  exact y_imul hdg kk
theorem z_iand {x y r : Int} (p' : Nat) (hdg : decode me.2.1 pc = .ok (.iand, 1)) (hp : pc + 1 = p') (hr : yand x y = r) (kk : Z g a me d kc ks p' L (zi r :: S) μ o ν) : Z g a me d kc ks pc L (zi y :: zi x :: S) μ o ν := by
  subst hp hr
  exact y_iand hdg kk
theorem z_ior {x y r : Int} (p' : Nat) (hdg : decode me.2.1 pc = .ok (.ior, 1)) (hp : pc + 1 = p') (hr : yor x y = r) (kk : Z g a me d kc ks p' L (zi r :: S) μ o ν) : Z g a me d kc ks pc L (zi y :: zi x :: S) μ o ν := by
  subst hp hr
  exact y_ior hdg kk
theorem z_ixor {x y r : Int} (p' : Nat) (hdg : decode me.2.1 pc = .ok (.ixor, 1)) (hp : pc + 1 = p') (hr : yxor x y = r) (kk : Z g a me d kc ks p' L (zi r :: S) μ o ν) : Z g a me d kc ks pc L (zi y :: zi x :: S) μ o ν := by
  subst hp hr
  exact y_ixor hdg kk
theorem z_ishl {x y r : Int} (p' : Nat) (hdg : decode me.2.1 pc = .ok (.ishl, 1)) (hp : pc + 1 = p') (hr : yshl x y = r) (kk : Z g a me d kc ks p' L (zi r :: S) μ o ν) : Z g a me d kc ks pc L (zi y :: zi x :: S) μ o ν := by
  subst hp hr
  exact y_ishl hdg kk
theorem z_ishr {x y r : Int} (p' : Nat) (hdg : decode me.2.1 pc = .ok (.ishr, 1)) (hp : pc + 1 = p') (hr : yshr x y = r) (kk : Z g a me d kc ks p' L (zi r :: S) μ o ν) : Z g a me d kc ks pc L (zi y :: zi x :: S) μ o ν := by
  subst hp hr
  exact y_ishr hdg kk
theorem z_ineg {x r : Int} (p' : Nat) (hdg : decode me.2.1 pc = .ok (.ineg, 1)) (hp : pc + 1 = p') (hr : wr (-x) = r) (kk : Z g a me d kc ks p' L (zi r :: S) μ o ν) : Z g a me d kc ks pc L (zi x :: S) μ o ν := by
  subst hp hr
  exact y_ineg hdg kk
theorem z_idiv {x y : Int} (p' : Nat) (hdg : decode me.2.1 pc = .ok (.idiv, 1)) (hp : pc + 1 = p') (h0 : y ≠ 0) (kk : Z g a me d kc ks p' L (zi (wr (x.tdiv y)) :: S) μ o ν) : Z g a me d kc ks pc L (zi y :: zi x :: S) μ o ν := by
  subst hp
  exact y_idiv hdg h0 kk
theorem z_irem {x y : Int} (p' : Nat) (hdg : decode me.2.1 pc = .ok (.irem, 1)) (hp : pc + 1 = p') (h0 : y ≠ 0) (kk : Z g a me d kc ks p' L (zi (x.tmod y) :: S) μ o ν) : Z g a me d kc ks pc L (zi y :: zi x :: S) μ o ν := by
  subst hp
  exact y_irem hdg h0 kk
theorem z_ladd {x y : Int} (p' : Nat) (hdg : decode me.2.1 pc = .ok (.ladd, 1)) (hp : pc + 1 = p') (hi : y_inL (x + y)) (kk : Z g a me d kc ks p' L (zl (x + y) :: S) μ o ν) : Z g a me d kc ks pc L (zl y :: zl x :: S) μ o ν := by
  subst hp
  exact y_ladd hdg hi kk
theorem z_lcmp {x y : Int} (p' : Nat) (hdg : decode me.2.1 pc = .ok (.lcmp, 1)) (hp : pc + 1 = p') (kk : Z g a me d kc ks p' L (zi (ycmp x y) :: S) μ o ν) : Z g a me d kc ks pc L (zl y :: zl x :: S) μ o ν := by
  subst hp
  exact y_lcmp hdg kk
theorem z_i2l {x : Int} (p' : Nat) (hdg : decode me.2.1 pc = .ok (.i2l, 1)) (hp : pc + 1 = p') (kk : Z g a me d kc ks p' L (zl x :: S) μ o ν) : Z g a me d kc ks pc L (zi x :: S) μ o ν := by
  subst hp
  exact y_i2l hdg kk
theorem z_i2c {x r : Int} (p' : Nat) (hdg : decode me.2.1 pc = .ok (.i2c, 1)) (hp : pc + 1 = p') (hr : x % 65536 = r) (kk : Z g a me d kc ks p' L (zi r :: S) μ o ν) : Z g a me d kc ks pc L (zi x :: S) μ o ν := by
  subst hp hr
  exact y_i2c hdg kk
theorem fp_u_of (x : UInt64) : fp_u ((x.toNat : Nat) : Int) = x := by
  unfold fp_u; rw [Int.toNat_natCast, UInt64.ofNat_toNat]
theorem fp_w_of (x : UInt32) : fp_w ((x.toNat : Nat) : Int) = x := by
  unfold fp_w; rw [Int.toNat_natCast, UInt32.ofNat_toNat]
theorem z_i2f {x : Int} (p' : Nat) (hdg : decode me.2.1 pc = .ok (.i2f, 1)) (hp : pc + 1 = p') (kk : Z g a me d kc ks p' L (zf (fp_i2f x) :: S) μ o ν) : Z g a me d kc ks pc L (zi x :: S) μ o ν := by
  subst hp
  refine y_i2f hdg ?_
  have e : tr g a (zf (fp_i2f x)) = vv (.float (FP.i2f (Int32.ofInt x))) := congrArg (fun z => vv (Value.float z)) (fp_w_of _)
  have k2 : Y g me d kc ks (pc + 1) (zL g a 0 L) (tr g a (zf (fp_i2f x)) :: S.map (tr g a)) (lay g a μ) (zQ g a o ν) := kk
  rw [e] at k2
  exact k2
theorem z_i2d {x : Int} (p' : Nat) (hdg : decode me.2.1 pc = .ok (.i2d, 1)) (hp : pc + 1 = p') (kk : Z g a me d kc ks p' L (zd (fp_i2d x) :: S) μ o ν) : Z g a me d kc ks pc L (zi x :: S) μ o ν := by
  subst hp
  refine y_i2d hdg ?_
  have e : tr g a (zd (fp_i2d x)) = vv (.double (FP.i2d (Int32.ofInt x))) := congrArg (fun z => vv (Value.double z)) (fp_u_of _)
  have k2 : Y g me d kc ks (pc + 1) (zL g a 0 L) (tr g a (zd (fp_i2d x)) :: S.map (tr g a)) (lay g a μ) (zQ g a o ν) := kk
  rw [e] at k2
  exact k2
theorem z_fdiv {x y : Int} (p' : Nat) (hdg : decode me.2.1 pc = .ok (.fdiv, 1)) (hp : pc + 1 = p') (hn : fp_n32 (fp_fdiv x y)) (kk : Z g a me d kc ks p' L (zf (fp_fdiv x y) :: S) μ o ν) : Z g a me d kc ks pc L (zf y :: zf x :: S) μ o ν := by
  subst hp
  have e0 : fp_w (fp_fdiv x y) = FP.fdiv (fp_w x) (fp_w y) := fp_w_of _
  have e : tr g a (zf (fp_fdiv x y)) = vv (Value.float (FP.fdiv (fp_w x) (fp_w y))) := congrArg (fun z => vv (Value.float z)) e0
  refine y_fdiv hdg (by rw [← e0]; exact hn) ?_
  have k2 : Y g me d kc ks (pc + 1) (zL g a 0 L) (tr g a (zf (fp_fdiv x y)) :: S.map (tr g a)) (lay g a μ) (zQ g a o ν) := kk
  rw [e] at k2
  exact k2
theorem z_ddiv {x y : Int} (p' : Nat) (hdg : decode me.2.1 pc = .ok (.ddiv, 1)) (hp : pc + 1 = p') (hn : fp_n64 (fp_ddiv x y)) (kk : Z g a me d kc ks p' L (zd (fp_ddiv x y) :: S) μ o ν) : Z g a me d kc ks pc L (zd y :: zd x :: S) μ o ν := by
  subst hp
  have e0 : fp_u (fp_ddiv x y) = FP.ddiv (fp_u x) (fp_u y) := fp_u_of _
  have e : tr g a (zd (fp_ddiv x y)) = vv (Value.double (FP.ddiv (fp_u x) (fp_u y))) := congrArg (fun z => vv (Value.double z)) e0
  refine y_ddiv hdg (by rw [← e0]; exact hn) ?_
  have k2 : Y g me d kc ks (pc + 1) (zL g a 0 L) (tr g a (zd (fp_ddiv x y)) :: S.map (tr g a)) (lay g a μ) (zQ g a o ν) := kk
  rw [e] at k2
  exact k2
theorem z_f2d {x : Int} (p' : Nat) (hdg : decode me.2.1 pc = .ok (.f2d, 1)) (hp : pc + 1 = p') (hn : fp_n64 (fp_f2d x)) (kk : Z g a me d kc ks p' L (zd (fp_f2d x) :: S) μ o ν) : Z g a me d kc ks pc L (zf x :: S) μ o ν := by
  subst hp
  have e0 : fp_u (fp_f2d x) = FP.f2d (fp_w x) := fp_u_of _
  have e : tr g a (zd (fp_f2d x)) = vv (Value.double (FP.f2d (fp_w x))) := congrArg (fun z => vv (Value.double z)) e0
  refine y_f2d hdg (by rw [← e0]; exact hn) ?_
  have k2 : Y g me d kc ks (pc + 1) (zL g a 0 L) (tr g a (zd (fp_f2d x)) :: S.map (tr g a)) (lay g a μ) (zQ g a o ν) := kk
  rw [e] at k2
  exact k2
theorem z_dcmp {x y : Int} (p' : Nat) (hdg : decode me.2.1 pc = .ok (.dcmp .l, 1)) (hp : pc + 1 = p') (kk : Z g a me d kc ks p' L (zi (fp_dcmpl x y) :: S) μ o ν) : Z g a me d kc ks pc L (zd y :: zd x :: S) μ o ν := by
  subst hp
  have h1 : Op.cmpValue (FP.dcmp (fp_u x) (fp_u y)) .l = Int32.ofInt (fp_dcmpl x y) := y_back _ _ rfl
  exact y_dcmp hdg h1 (y_back_in _ _ rfl) kk
theorem z_fcmp {x y : Int} (p' : Nat) (hdg : decode me.2.1 pc = .ok (.fcmp .l, 1)) (hp : pc + 1 = p') (kk : Z g a me d kc ks p' L (zi (fp_fcmpl x y) :: S) μ o ν) : Z g a me d kc ks pc L (zf y :: zf x :: S) μ o ν := by
  subst hp
  have h1 : Op.cmpValue (FP.fcmp (fp_w x) (fp_w y)) .l = Int32.ofInt (fp_fcmpl x y) := y_back _ _ rfl
  exact y_fcmp hdg h1 (y_back_in _ _ rfl) kk
theorem z_dup {v : zV} (p' : Nat) (hdg : decode me.2.1 pc = .ok (.dup, 1)) (hp : pc + 1 = p') (hc : zcat v = 1) (kk : Z g a me d kc ks p' L (v :: v :: S) μ o ν) : Z g a me d kc ks pc L (v :: S) μ o ν := by
  subst hp
  exact y_dup hdg (by rw [zcat_tr]; exact hc) kk
theorem z_dup2 {v w : zV} (p' : Nat) (hdg : decode me.2.1 pc = .ok (.dup2, 1)) (hp : pc + 1 = p') (hc : zcat v = 1) (hd : zcat w = 1) (kk : Z g a me d kc ks p' L (v :: w :: v :: w :: S) μ o ν) : Z g a me d kc ks pc L (v :: w :: S) μ o ν := by
  subst hp
  exact y_dup2 hdg (by rw [zcat_tr]; exact hc) (by rw [zcat_tr]; exact hd) kk
theorem z_pop {v : zV} (p' : Nat) (hdg : decode me.2.1 pc = .ok (.pop, 1)) (hp : pc + 1 = p') (hc : zcat v = 1) (kk : Z g a me d kc ks p' L S μ o ν) : Z g a me d kc ks pc L (v :: S) μ o ν := by
  subst hp
  exact y_pop hdg (by rw [zcat_tr]; exact hc) kk
theorem z_icmp_eq {x y : Int} {off : Int} (p1 p2 : Nat) (hdg : decode me.2.1 pc = .ok (.if_icmp .eq off, 3)) (ht : (pc : Int) + off = (p1 : Int)) (hp : pc + 3 = p2) (kt : x = y → Z g a me d kc ks p1 L S μ o ν) (kf : x ≠ y → Z g a me d kc ks p2 L S μ o ν) : Z g a me d kc ks pc L (zi y :: zi x :: S) μ o ν := by
  subst hp
  exact y_icmp_eq hdg ht kt kf
theorem z_if_eq {x : Int} {off : Int} (p1 p2 : Nat) (hdg : decode me.2.1 pc = .ok (.ifCond .eq off, 3)) (ht : (pc : Int) + off = (p1 : Int)) (hp : pc + 3 = p2) (kt : x = 0 → Z g a me d kc ks p1 L S μ o ν) (kf : x ≠ 0 → Z g a me d kc ks p2 L S μ o ν) : Z g a me d kc ks pc L (zi x :: S) μ o ν := by
  subst hp
  exact y_if_eq hdg ht kt kf
theorem z_icmp_ne {x y : Int} {off : Int} (p1 p2 : Nat) (hdg : decode me.2.1 pc = .ok (.if_icmp .ne off, 3)) (ht : (pc : Int) + off = (p1 : Int)) (hp : pc + 3 = p2) (kt : x ≠ y → Z g a me d kc ks p1 L S μ o ν) (kf : x = y → Z g a me d kc ks p2 L S μ o ν) : Z g a me d kc ks pc L (zi y :: zi x :: S) μ o ν := by
  subst hp
  exact y_icmp_ne hdg ht kt kf
theorem z_if_ne {x : Int} {off : Int} (p1 p2 : Nat) (hdg : decode me.2.1 pc = .ok (.ifCond .ne off, 3)) (ht : (pc : Int) + off = (p1 : Int)) (hp : pc + 3 = p2) (kt : x ≠ 0 → Z g a me d kc ks p1 L S μ o ν) (kf : x = 0 → Z g a me d kc ks p2 L S μ o ν) : Z g a me d kc ks pc L (zi x :: S) μ o ν := by
  subst hp
  exact y_if_ne hdg ht kt kf
theorem z_icmp_lt {x y : Int} {off : Int} (p1 p2 : Nat) (hdg : decode me.2.1 pc = .ok (.if_icmp .lt off, 3)) (ht : (pc : Int) + off = (p1 : Int)) (hp : pc + 3 = p2) (kt : x < y → Z g a me d kc ks p1 L S μ o ν) (kf : y ≤ x → Z g a me d kc ks p2 L S μ o ν) : Z g a me d kc ks pc L (zi y :: zi x :: S) μ o ν := by
  subst hp
  exact y_icmp_lt hdg ht kt kf
theorem z_if_lt {x : Int} {off : Int} (p1 p2 : Nat) (hdg : decode me.2.1 pc = .ok (.ifCond .lt off, 3)) (ht : (pc : Int) + off = (p1 : Int)) (hp : pc + 3 = p2) (kt : x < 0 → Z g a me d kc ks p1 L S μ o ν) (kf : 0 ≤ x → Z g a me d kc ks p2 L S μ o ν) : Z g a me d kc ks pc L (zi x :: S) μ o ν := by
  subst hp
  exact y_if_lt hdg ht kt kf
theorem z_icmp_ge {x y : Int} {off : Int} (p1 p2 : Nat) (hdg : decode me.2.1 pc = .ok (.if_icmp .ge off, 3)) (ht : (pc : Int) + off = (p1 : Int)) (hp : pc + 3 = p2) (kt : y ≤ x → Z g a me d kc ks p1 L S μ o ν) (kf : x < y → Z g a me d kc ks p2 L S μ o ν) : Z g a me d kc ks pc L (zi y :: zi x :: S) μ o ν := by
  subst hp
  exact y_icmp_ge hdg ht kt kf
theorem z_if_ge {x : Int} {off : Int} (p1 p2 : Nat) (hdg : decode me.2.1 pc = .ok (.ifCond .ge off, 3)) (ht : (pc : Int) + off = (p1 : Int)) (hp : pc + 3 = p2) (kt : 0 ≤ x → Z g a me d kc ks p1 L S μ o ν) (kf : x < 0 → Z g a me d kc ks p2 L S μ o ν) : Z g a me d kc ks pc L (zi x :: S) μ o ν := by
  subst hp
  exact y_if_ge hdg ht kt kf
theorem z_icmp_gt {x y : Int} {off : Int} (p1 p2 : Nat) (hdg : decode me.2.1 pc = .ok (.if_icmp .gt off, 3)) (ht : (pc : Int) + off = (p1 : Int)) (hp : pc + 3 = p2) (kt : y < x → Z g a me d kc ks p1 L S μ o ν) (kf : x ≤ y → Z g a me d kc ks p2 L S μ o ν) : Z g a me d kc ks pc L (zi y :: zi x :: S) μ o ν := by
  subst hp
  exact y_icmp_gt hdg ht kt kf
theorem z_if_gt {x : Int} {off : Int} (p1 p2 : Nat) (hdg : decode me.2.1 pc = .ok (.ifCond .gt off, 3)) (ht : (pc : Int) + off = (p1 : Int)) (hp : pc + 3 = p2) (kt : 0 < x → Z g a me d kc ks p1 L S μ o ν) (kf : x ≤ 0 → Z g a me d kc ks p2 L S μ o ν) : Z g a me d kc ks pc L (zi x :: S) μ o ν := by
  subst hp
  exact y_if_gt hdg ht kt kf
theorem z_icmp_le {x y : Int} {off : Int} (p1 p2 : Nat) (hdg : decode me.2.1 pc = .ok (.if_icmp .le off, 3)) (ht : (pc : Int) + off = (p1 : Int)) (hp : pc + 3 = p2) (kt : x ≤ y → Z g a me d kc ks p1 L S μ o ν) (kf : y < x → Z g a me d kc ks p2 L S μ o ν) : Z g a me d kc ks pc L (zi y :: zi x :: S) μ o ν := by
  subst hp
  exact y_icmp_le hdg ht kt kf
theorem z_if_le {x : Int} {off : Int} (p1 p2 : Nat) (hdg : decode me.2.1 pc = .ok (.ifCond .le off, 3)) (ht : (pc : Int) + off = (p1 : Int)) (hp : pc + 3 = p2) (kt : x ≤ 0 → Z g a me d kc ks p1 L S μ o ν) (kf : 0 < x → Z g a me d kc ks p2 L S μ o ν) : Z g a me d kc ks pc L (zi x :: S) μ o ν := by
  subst hp
  exact y_if_le hdg ht kt kf
theorem z_goto {off : Int} (p1 : Nat) (hdg : decode me.2.1 pc = .ok (.goto off, 3)) (ht : (pc : Int) + off = (p1 : Int)) (kk : Z g a me d kc ks p1 L S μ o ν) : Z g a me d kc ks pc L S μ o ν := y_goto hdg ht kk
theorem z_iaload {k n : Nat} {i x : Int} (p' : Nat) (hdg : decode me.2.1 pc = .ok (.iaload, 1)) (hp : pc + 1 = p') (hk : zAr k 0 n) (hi : 0 ≤ i ∧ i < (n : Int)) (hx : μ k i = x) (kk : Z g a me d kc ks p' L (zi x :: S) μ o ν) : Z g a me d kc ks pc L (zi i :: zr k :: S) μ o ν := by
  subst hp hx
  unfold Z
  rw [List.map_cons, List.map_cons, show tr g a (zr k) = vr (a k) from congrArg vr (zA_lt hk.1)]
  refine y_iaload (zlayA hk) hi.1 (by rw [zca_len]; exact hi.2) hdg ?_
  rw [zca_get hi.1 hi.2]; exact kk
theorem z_caload {k n : Nat} {i x : Int} (p' : Nat) (hdg : decode me.2.1 pc = .ok (.caload, 1)) (hp : pc + 1 = p') (hk : zAr k 1 n) (hi : 0 ≤ i ∧ i < (n : Int)) (hx : μ k i = x) (kk : Z g a me d kc ks p' L (zi x :: S) μ o ν) : Z g a me d kc ks pc L (zi i :: zr k :: S) μ o ν := by
  subst hp hx
  unfold Z
  rw [List.map_cons, List.map_cons, show tr g a (zr k) = vr (a k) from congrArg vr (zA_lt hk.1)]
  refine y_caload (zlayC hk) hi.1 (by rw [zca_len]; exact hi.2) hdg ?_
  rw [zca_get hi.1 hi.2]; exact kk
theorem z_laload {k n : Nat} {i x : Int} (p' : Nat) (hdg : decode me.2.1 pc = .ok (.laload, 1)) (hp : pc + 1 = p') (hk : zAr k 2 n) (hi : 0 ≤ i ∧ i < (n : Int)) (hx : μ k i = x) (kk : Z g a me d kc ks p' L (zl x :: S) μ o ν) : Z g a me d kc ks pc L (zi i :: zr k :: S) μ o ν := by
  subst hp hx
  unfold Z
  rw [List.map_cons, List.map_cons, show tr g a (zr k) = vr (a k) from congrArg vr (zA_lt hk.1)]
  refine y_laload (zlayL hk) hi.1 (by rw [zca_len]; exact hi.2) hdg ?_
  rw [zca_get hi.1 hi.2]; exact kk
theorem z_daload {k n : Nat} {i x : Int} (p' : Nat) (hdg : decode me.2.1 pc = .ok (.daload, 1)) (hp : pc + 1 = p') (hk : zAr k 3 n) (hi : 0 ≤ i ∧ i < (n : Int)) (hx : μ k i = x) (kk : Z g a me d kc ks p' L (zd x :: S) μ o ν) : Z g a me d kc ks pc L (zi i :: zr k :: S) μ o ν := by
  subst hp hx
  unfold Z
  rw [List.map_cons, List.map_cons, show tr g a (zr k) = vr (a k) from congrArg vr (zA_lt hk.1)]
  refine y_daload (zlayD hk) hi.1 (by rw [List.length_map, zca_len]; exact hi.2) hdg ?_
  have e : ((zca n (μ k)).map fp_u).getD i.toNat 0 = fp_u (μ k i) := by
    have h1 := hi.1; have h2 := hi.2
    unfold zca
    rw [List.map_map, List.getD_eq_getElem?_getD, List.getElem?_map, List.getElem?_range (by omega)]
    show fp_u (μ k ((i.toNat : Nat) : Int)) = _
    rw [Int.toNat_of_nonneg h1]
  rw [e]; exact kk
theorem z_iastore {k n : Nat} {i x : Int} {μ' : zM} (p' : Nat) (hdg : decode me.2.1 pc = .ok (.iastore, 1)) (hp : pc + 1 = p') (hk : zAr k 0 n) (hi : 0 ≤ i ∧ i < (n : Int)) (hm : st μ k i x = μ') (kk : Z g a me d kc ks p' L S μ' o ν) : Z g a me d kc ks pc L (zi x :: zi i :: zr k :: S) μ o ν := by
  subst hp hm
  unfold Z
  rw [List.map_cons, List.map_cons, List.map_cons, show tr g a (zr k) = vr (a k) from congrArg vr (zA_lt hk.1)]
  refine y_iastore (zlayA hk) hi.1 (by rw [zca_len]; exact hi.2) hdg ?_
  rw [zca_set hi.1, lay_set (i := i) (v := x) (by rw [hk.2]; rfl)]; exact kk
theorem z_castore {k n : Nat} {i x : Int} {μ' : zM} (p' : Nat) (hdg : decode me.2.1 pc = .ok (.castore, 1)) (hp : pc + 1 = p') (hk : zAr k 1 n) (hi : 0 ≤ i ∧ i < (n : Int)) (hx : 0 ≤ x ∧ x ≤ 65535) (hm : st μ k i x = μ') (kk : Z g a me d kc ks p' L S μ' o ν) : Z g a me d kc ks pc L (zi x :: zi i :: zr k :: S) μ o ν := by
  subst hp hm
  unfold Z
  rw [List.map_cons, List.map_cons, List.map_cons, show tr g a (zr k) = vr (a k) from congrArg vr (zA_lt hk.1)]
  refine y_castore (zlayC hk) hi.1 (by rw [zca_len]; exact hi.2) hx hdg ?_
  rw [zca_set hi.1, lay_set (i := i) (v := x) (by rw [hk.2]; rfl)]; exact kk
theorem z_lastore {k n : Nat} {i x : Int} {μ' : zM} (p' : Nat) (hdg : decode me.2.1 pc = .ok (.lastore, 1)) (hp : pc + 1 = p') (hk : zAr k 2 n) (hi : 0 ≤ i ∧ i < (n : Int)) (hm : st μ k i x = μ') (kk : Z g a me d kc ks p' L S μ' o ν) : Z g a me d kc ks pc L (zl x :: zi i :: zr k :: S) μ o ν := by
  subst hp hm
  unfold Z
  rw [List.map_cons, List.map_cons, List.map_cons, show tr g a (zr k) = vr (a k) from congrArg vr (zA_lt hk.1)]
  refine y_lastore (zlayL hk) hi.1 (by rw [zca_len]; exact hi.2) hdg ?_
  rw [zca_set hi.1, lay_set (i := i) (v := x) (by rw [hk.2]; rfl)]; exact kk
theorem z_dastore {k n : Nat} {i x : Int} {μ' : zM} (p' : Nat) (hdg : decode me.2.1 pc = .ok (.dastore, 1)) (hp : pc + 1 = p') (hk : zAr k 3 n) (hi : 0 ≤ i ∧ i < (n : Int)) (hm : st μ k i x = μ') (kk : Z g a me d kc ks p' L S μ' o ν) : Z g a me d kc ks pc L (zd x :: zi i :: zr k :: S) μ o ν := by
  subst hp hm
  unfold Z
  rw [List.map_cons, List.map_cons, List.map_cons, show tr g a (zr k) = vr (a k) from congrArg vr (zA_lt hk.1)]
  refine y_dastore (zlayD hk) hi.1 (by rw [List.length_map, zca_len]; exact hi.2) hdg ?_
  have e : ((zca n (μ k)).map fp_u).set i.toNat (fp_u x) = (zca n (fun j => if j = i then x else μ k j)).map fp_u := by
    rw [← zca_set hi.1]; unfold sa; rw [List.map_set]
  rw [e, lay_set (i := i) (v := x) (by rw [hk.2]; rfl)]; exact kk
theorem z_alen {k n : Nat} {x : Int} (p' : Nat) (hdg : decode me.2.1 pc = .ok (.arraylength, 1)) (hp : pc + 1 = p') (hk : zAr k 0 n) (hx : (n : Int) = x) (kk : Z g a me d kc ks p' L (zi x :: S) μ o ν) : Z g a me d kc ks pc L (zr k :: S) μ o ν := by
  subst hp hx
  unfold Z
  rw [List.map_cons, show tr g a (zr k) = vr (a k) from congrArg vr (zA_lt hk.1)]
  refine y_alen (zlayA hk) hdg ?_
  rw [zca_len]; exact kk
theorem z_alenC {k n : Nat} {x : Int} (p' : Nat) (hdg : decode me.2.1 pc = .ok (.arraylength, 1)) (hp : pc + 1 = p') (hk : zAr k 1 n) (hx : (n : Int) = x) (kk : Z g a me d kc ks p' L (zi x :: S) μ o ν) : Z g a me d kc ks pc L (zr k :: S) μ o ν := by
  subst hp hx
  unfold Z
  rw [List.map_cons, show tr g a (zr k) = vr (a k) from congrArg vr (zA_lt hk.1)]
  refine y_alenC (zlayC hk) hdg ?_
  rw [zca_len]; exact kk
theorem z_aald4 {k n : Nat} {i : Int} (p' : Nat) (hdg : decode me.2.1 pc = .ok (.aaload, 1)) (hp : pc + 1 = p') (hk : zAr k 4 n) (hi : 0 ≤ i ∧ i < (n : Int)) (hb : 33 + 10 * i.toNat < zN) (kk : Z g a me d kc ks p' L (zr (33 + 10 * i.toNat) :: S) μ o ν) : Z g a me d kc ks pc L (zi i :: zr k :: S) μ o ν := by
  subst hp
  unfold Z at *
  rw [List.map_cons, show tr g a (zr (33 + 10 * i.toNat)) = vr (a (33 + 10 * i.toNat)) from congrArg vr (zA_lt hb)] at kk
  rw [List.map_cons, List.map_cons, show tr g a (zr k) = vr (a k) from congrArg vr (zA_lt hk.1)]
  refine y_aaload (fs := (List.range n).map fun j => some (a (33 + 10 * j))) (zlay hk) hi.1 (by rw [List.length_map, List.length_range]; exact hi.2) ?_ hdg kk
  have h1 := hi.1; have h2 := hi.2
  rw [List.getD_eq_getElem?_getD, List.getElem?_map, List.getElem?_range (by omega)]; rfl
theorem z_aald5 {k n : Nat} {i : Int} (p' : Nat) (hdg : decode me.2.1 pc = .ok (.aaload, 1)) (hp : pc + 1 = p') (hk : zAr k 5 n) (hi : 0 ≤ i ∧ i < (n : Int)) {r : Nat} (hr : k + 1 + i.toNat = r) (hb : r < zN) (kk : Z g a me d kc ks p' L (zr r :: S) μ o ν) : Z g a me d kc ks pc L (zi i :: zr k :: S) μ o ν := by
  subst hp hr
  unfold Z at *
  rw [List.map_cons, show tr g a (zr (k + 1 + i.toNat)) = vr (a (k + 1 + i.toNat)) from congrArg vr (zA_lt hb)] at kk
  rw [List.map_cons, List.map_cons, show tr g a (zr k) = vr (a k) from congrArg vr (zA_lt hk.1)]
  refine y_aaload5 (fs := (List.range n).map fun j => some (a (k + 1 + j))) (zlay hk) hi.1 (by rw [List.length_map, List.length_range]; exact hi.2) ?_ hdg kk
  have h1 := hi.1; have h2 := hi.2
  rw [List.getD_eq_getElem?_getD, List.getElem?_map, List.getElem?_range (by omega)]; rfl
/-! fields -/
theorem z_getI {idx c j k n : Nat} {x : Int} (p' : Nat) (hdg : decode me.2.1 pc = .ok (.getfield idx, 3)) (hp : pc + 3 = p') (f : zF me.1.cls idx c j 0) (hk : zAr k (c + 10) n) (hx : μ k (j : Int) = x) (kk : Z g a me d kc ks p' L (zi x :: S) μ o ν) : Z g a me d kc ks pc L (zr k :: S) μ o ν := by
  subst hp hx
  unfold Z
  rw [List.map_cons, show tr g a (zr k) = vr (a k) from congrArg vr (zA_lt hk.1)]
  obtain ⟨Cn, T, N, f1, f2, f3, f4⟩ := f
  exact y_getf f1 (zlayO hk) j f2 f3 (by rw [zfl_at f4, Nat.zero_add]; rfl) hdg kk
theorem z_getJ {idx c j k n : Nat} {x : Int} (p' : Nat) (hdg : decode me.2.1 pc = .ok (.getfield idx, 3)) (hp : pc + 3 = p') (f : zF me.1.cls idx c j 1) (hk : zAr k (c + 10) n) (hx : μ k (j : Int) = x) (kk : Z g a me d kc ks p' L (zl x :: S) μ o ν) : Z g a me d kc ks pc L (zr k :: S) μ o ν := by
  subst hp hx
  unfold Z
  rw [List.map_cons, show tr g a (zr k) = vr (a k) from congrArg vr (zA_lt hk.1)]
  obtain ⟨Cn, T, N, f1, f2, f3, f4⟩ := f
  exact y_getf f1 (zlayO hk) j f2 f3 (by rw [zfl_at f4, Nat.zero_add]; rfl) hdg kk
theorem z_getE {idx c j k n : Nat} {x : Int} (p' : Nat) (hdg : decode me.2.1 pc = .ok (.getfield idx, 3)) (hp : pc + 3 = p') (f : zF me.1.cls idx c j 2) (hk : zAr k (c + 10) n) (hx : μ k (j : Int) = x) (kk : Z g a me d kc ks p' L (zr (1000 + x.toNat) :: S) μ o ν) : Z g a me d kc ks pc L (zr k :: S) μ o ν := by
  subst hp hx
  unfold Z at *
  rw [List.map_cons, show tr g a (zr (1000 + (μ k (j : Int)).toNat)) = vr (g.2.2.2.1 (μ k (j : Int)).toNat) from congrArg vr (zA_c _)] at kk
  rw [List.map_cons, show tr g a (zr k) = vr (a k) from congrArg vr (zA_lt hk.1)]
  obtain ⟨Cn, T, N, f1, f2, f3, f4⟩ := f
  exact y_getf f1 (zlayO hk) j f2 f3 (by rw [zfl_at f4, Nat.zero_add]; rfl) hdg kk
theorem z_getR {idx c j e k n r : Nat} (p' : Nat) (hdg : decode me.2.1 pc = .ok (.getfield idx, 3)) (hp : pc + 3 = p') (f : zF me.1.cls idx c j (e + 10)) (hk : zAr k (c + 10) n) (hr : k + e = r) (hb : r < zN) (kk : Z g a me d kc ks p' L (zr r :: S) μ o ν) : Z g a me d kc ks pc L (zr k :: S) μ o ν := by
  subst hp hr
  unfold Z at *
  rw [List.map_cons, show tr g a (zr (k + e)) = vr (a (k + e)) from congrArg vr (zA_lt hb)] at kk
  rw [List.map_cons, show tr g a (zr k) = vr (a k) from congrArg vr (zA_lt hk.1)]
  obtain ⟨Cn, T, N, f1, f2, f3, f4⟩ := f
  refine y_getf f1 (zlayO hk) j f2 f3 (v := vr (a (k + e))) ?_ hdg kk
  rw [zfl_at f4, Nat.zero_add]
  show some (vr (a (k + (e + 7 - 7)))) = _
  rw [Nat.add_sub_cancel]
theorem z_put {idx c j k n : Nat} {ty : FieldType} {x : Int} {μ' : zM} {v : yV} {code : Nat} (f : zFp me.1.cls idx c j code ty) (hv : ∀ f0 : Int → Int, f0 (j : Int) = x → zfv g a k f0 j code = v) (hk : zAr k (c + 10) n) (hnr : narrow ty (y_tv v) = y_tv v) (hfit : fits ty (y_tv v) = true) (hdg : decode me.2.1 pc = .ok (.putfield idx, 3)) (hm : st μ k (j : Int) x = μ') (kk : Z g a me d kc ks (pc + 3) L S μ' o ν) : Y g me d kc ks pc (zL g a 0 L) (v :: vr (a k) :: S.map (tr g a)) (lay g a μ) (zQ g a o ν) := by
  subst hm
  obtain ⟨Cn, T, N, f1, f2, f3, f4, f5, f6⟩ := f
  refine y_putf f1 (zlayO hk) j f2 f3 f5 f6 hnr hfit ?_ hdg ?_
  · rw [zfl_len]
    exact (List.getElem?_eq_some_iff.mp f4).1
  · have h2 := zfl_set (g := g) (a := a) (k := k) (f := μ k) (v := x) (cs := zT c) (j := 0) (i := j) (c := code) f4
    rw [Nat.zero_add, hv (fun z => if z = (j : Int) then x else μ k z) (if_pos rfl)] at h2
    rw [h2, lay_set (i := (j : Int)) (v := x) (by rw [hk.2, zob_c])]
    exact kk
theorem z_putI {idx c j k n : Nat} {x : Int} {μ' : zM} (p' : Nat) (hdg : decode me.2.1 pc = .ok (.putfield idx, 3)) (hp : pc + 3 = p') (f : zFp me.1.cls idx c j 0 .int) (hk : zAr k (c + 10) n) (hm : st μ k (j : Int) x = μ') (kk : Z g a me d kc ks p' L S μ' o ν) : Z g a me d kc ks pc L (zi x :: zr k :: S) μ o ν := by
  subst hp
  unfold Z
  rw [List.map_cons, List.map_cons, show tr g a (zr k) = vr (a k) from congrArg vr (zA_lt hk.1)]
  exact z_put f (v := vi x) (fun f0 h => by show vi _ = _; rw [h]) hk rfl rfl hdg hm kk
theorem z_putJ {idx c j k n : Nat} {x : Int} {μ' : zM} (p' : Nat) (hdg : decode me.2.1 pc = .ok (.putfield idx, 3)) (hp : pc + 3 = p') (f : zFp me.1.cls idx c j 1 .long) (hk : zAr k (c + 10) n) (hm : st μ k (j : Int) x = μ') (kk : Z g a me d kc ks p' L S μ' o ν) : Z g a me d kc ks pc L (zl x :: zr k :: S) μ o ν := by
  subst hp
  unfold Z
  rw [List.map_cons, List.map_cons, show tr g a (zr k) = vr (a k) from congrArg vr (zA_lt hk.1)]
  exact z_put f (v := vl x) (fun f0 h => by show vl _ = _; rw [h]) hk rfl rfl hdg hm kk
theorem z_nz {x : Int} (h : 0 ≤ x ∧ x < 2) : narrow .boolean (.int (Int32.ofInt x)) = .int (Int32.ofInt x) := by
  obtain ⟨h1, h2⟩ := h
  rcases (show x = 0 ∨ x = 1 by omega) with rfl | rfl <;> rfl
theorem z_putZ {idx c j k n : Nat} {x : Int} {μ' : zM} (p' : Nat) (hdg : decode me.2.1 pc = .ok (.putfield idx, 3)) (hp : pc + 3 = p') (f : zFp me.1.cls idx c j 0 .boolean) (hk : zAr k (c + 10) n) (hx : 0 ≤ x ∧ x < 2) (hm : st μ k (j : Int) x = μ') (kk : Z g a me d kc ks p' L S μ' o ν) : Z g a me d kc ks pc L (zi x :: zr k :: S) μ o ν := by
  subst hp
  unfold Z
  rw [List.map_cons, List.map_cons, show tr g a (zr k) = vr (a k) from congrArg vr (zA_lt hk.1)]
  refine z_put f (v := vi x) (fun f0 h => by show vi _ = _; rw [h]) hk (z_nz hx) ?_ hdg hm kk
  obtain ⟨h1, h2⟩ := hx
  rcases (show x = 0 ∨ x = 1 by omega) with rfl | rfl <;> rfl
theorem z_putE {idx c j k n : Nat} {x : Int} {μ' : zM} {cn : String} (p' : Nat) (hdg : decode me.2.1 pc = .ok (.putfield idx, 3)) (hp : pc + 3 = p') (f : zFp me.1.cls idx c j 2 (.object cn)) (hk : zAr k (c + 10) n) (hm : st μ k (j : Int) x = μ') (kk : Z g a me d kc ks p' L S μ' o ν) : Z g a me d kc ks pc L (zr (1000 + x.toNat) :: zr k :: S) μ o ν := by
  subst hp
  unfold Z
  rw [List.map_cons, List.map_cons, show tr g a (zr k) = vr (a k) from congrArg vr (zA_lt hk.1), show tr g a (zr (1000 + x.toNat)) = vr (g.2.2.2.1 x.toNat) from congrArg vr (zA_c _)]
  exact z_put f (v := vr (g.2.2.2.1 x.toNat)) (fun f0 h => by show vr (g.2.2.2.1 (Int.toNat _)) = _; rw [h]) hk rfl rfl hdg hm kk
/-! ends -/
theorem z_ireturn {x : Int} (hr : me.2.2.2.1 = some .int) (hdg : decode me.2.1 pc = .ok (.ireturn, 1)) : Z g a me d kc ks pc L [zi x] μ (.inl (some (zi x))) μ := y_ireturn hr rfl hdg ⟨rfl, rfl⟩
theorem z_zreturn {x : Int} (hr : me.2.2.2.1 = some .boolean) (hdg : decode me.2.1 pc = .ok (.ireturn, 1)) (hx : 0 ≤ x ∧ x < 2) : Z g a me d kc ks pc L [zi x] μ (.inl (some (zi x))) μ := y_ireturn hr (z_nz hx) hdg ⟨rfl, rfl⟩
theorem z_creturn {x : Int} (hr : me.2.2.2.1 = some .char) (hdg : decode me.2.1 pc = .ok (.ireturn, 1)) (hx : 0 ≤ x ∧ x ≤ 65535) : Z g a me d kc ks pc L [zi x] μ (.inl (some (zi x))) μ := y_ireturn hr (by
  show Value.int (Int32.ofInt x).toUInt32.toUInt16.toUInt32.toInt32 = _
  rw [y_nar_char, Int.emod_eq_of_lt hx.1 (by omega)]) hdg ⟨rfl, rfl⟩
theorem z_lreturn {x : Int} (hr : me.2.2.2.1 = some .long) (hdg : decode me.2.1 pc = .ok (.lreturn, 1)) : Z g a me d kc ks pc L [zl x] μ (.inl (some (zl x))) μ := y_lreturn hr hdg ⟨rfl, rfl⟩
theorem z_dreturn {x : Int} (hr : me.2.2.2.1 = some .double) (hdg : decode me.2.1 pc = .ok (.dreturn, 1)) : Z g a me d kc ks pc L [zd x] μ (.inl (some (zd x))) μ := y_dreturn hr hdg ⟨rfl, rfl⟩
theorem z_freturn {x : Int} (hr : me.2.2.2.1 = some .float) (hdg : decode me.2.1 pc = .ok (.freturn, 1)) : Z g a me d kc ks pc L [zf x] μ (.inl (some (zf x))) μ := y_freturn hr hdg ⟨rfl, rfl⟩
theorem z_areturn {k : Nat} {rt : FieldType} (hr : me.2.2.2.1 = some rt) (hrt : (∃ n, rt = .object n) ∨ ∃ t, rt = .array t) (hdg : decode me.2.1 pc = .ok (.areturn, 1)) : Z g a me d kc ks pc L [zr k] μ (.inl (some (zr k))) μ := y_areturn hr hrt hdg ⟨rfl, rfl⟩
theorem z_return (hr : me.2.2.2.1 = none) (hdg : decode me.2.1 pc = .ok (.return_, 1)) : Z g a me d kc ks pc L [] μ (.inl none) μ := y_return hr hdg ⟨rfl, rfl⟩
/-! a body, a call -/
theorem zL_args : ∀ (as : List zV) (n i : Nat), zL g a i (as.map some ++ List.replicate n none) = y_args i (as.map (tr g a))
  | [], 0, _ => rfl
  | [], n + 1, i => by
    show zL g a (i + 1) (List.map some [] ++ List.replicate n none) = []
    rw [zL_args [] n (i + 1)]; rfl
  | v :: as, n, i => by
    show (i, tr g a v) :: zL g a (i + 1) (as.map some ++ List.replicate n none) = (i, tr g a v) :: y_args (i + 1) (as.map (tr g a))
    rw [zL_args as n (i + 1)]
theorem z_of {as : List zV} {L : List (Option zV)} (hpl : plainName me.1.cls = true) (hh : me.2.2.2.2 = []) (hcat : ∀ v ∈ as, zcat v = 1) (hlen : Nat.ble as.length me.2.2.1 = true) (hL : as.map some ++ List.replicate (me.2.2.1 - as.length) none = L) (k : Z g a me d kc ks 0 L [] μ o ν) : zC g a me d kc ks as μ o ν := by
  subst hL
  refine y_of hpl hh (fun v hv => ?_) (by rw [List.length_map]; exact Nat.ble_eq.mp hlen) ?_
  · obtain ⟨w, hw, rfl⟩ := List.mem_map.mp hv
    rw [zcat_tr]; exact hcat w hw
  · rw [← zL_args as (me.2.2.1 - as.length) 0]; exact k
theorem zk_ret {r : Option zV} {μ1 : zM} : ∀ (E : String) (M1 : yMem), zQ g a (.inl r) μ1 (.inr E) M1 → zQ g a o ν (.inr E) M1 := fun E M1 h => by cases h.1
theorem z_callV {me' : yM0} {d' kc' ks' KC KS nn idx k c n : Nat} {as S0 : List zV} {μ1 : zM} {r : Option zV} (p' : Nat) (hdg : decode me.2.1 pc = .ok (.invokevirtual idx, 3)) (hp : pc + 3 = p') (hC : zC g a me' d' kc' ks' (zr k :: as) μ (.inl r) μ1) (kv : y_kV me' nn) (hc : ∃ T N, y_cl[c]? = some (me'.1.cls, T, N)) (hk : zAr k (c + 10) n) (hlink : Cond.methodLink me.1.cls idx me'.1 ∈ yB) (hd : Nat.ble (d' + 1) d = true) (hn : as.length = nn) (hst : as.reverse ++ zr k :: S = S0) (hcat : Nat.ble (zs S) 8 = true) (hh : me.2.2.2.2 = []) (hkc : kc + kc' = KC) (hks : ks + ks' = KS)
    (kk : Z g a me d kc ks p' L (r.toList ++ S) μ1 o ν) : Z g a me d KC KS pc L S0 μ o ν := by
  subst hp hst hkc hks
  obtain ⟨T, N, hc⟩ := hc
  unfold Z
  have e0 : tr g a (zr k) = vr (a k) := congrArg vr (zA_lt hk.1)
  have hC' : yC g me' d' kc' ks' (vr (a k) :: as.map (tr g a)) (lay g a μ) (zQ g a (.inl r) μ1) := by
    have h := hC; unfold zC at h; rw [List.map_cons, e0] at h; exact h
  refine y_callV (as := as.map (tr g a)) (S := S.map (tr g a)) hC' kv (Nat.ble_eq.mp hd) (by rw [List.length_map]; exact hn) hc rfl (zlayO hk) hlink (by rw [List.map_append, List.map_reverse, List.map_cons, e0]) (by rw [zs_eq]; exact Nat.ble_eq.mp hcat) hdg (y_unc0 hh) zk_ret (fun r1 M1 h => ?_)
  obtain ⟨h1, rfl⟩ := h
  cases h1
  have k2 := kk
  unfold Z at k2
  rw [List.map_append] at k2
  cases r <;> exact k2
theorem z_callVX {me' : yM0} {d' kc' ks' KC KS nn idx k c n : Nat} {as S0 : List zV} {e : Nat} (hdg : decode me.2.1 pc = .ok (.invokevirtual idx, 3)) (hC : zC g a me' d' kc' ks' (zr k :: as) μ (.inr e) ν) (kv : y_kV me' nn) (hc : ∃ T N, y_cl[c]? = some (me'.1.cls, T, N)) (hk : zAr k (c + 10) n) (hlink : Cond.methodLink me.1.cls idx me'.1 ∈ yB) (hd : Nat.ble (d' + 1) d = true) (hn : as.length = nn) (hst : as.reverse ++ zr k :: S = S0) (hcat : Nat.ble (zs S) 8 = true) (hh : me.2.2.2.2 = []) (hkc : kc + kc' = KC) (hks : ks + ks' = KS) : Z g a me d KC KS pc L S0 μ (.inr e) ν := by
  subst hst hkc hks
  obtain ⟨T, N, hc⟩ := hc
  unfold Z
  have e0 : tr g a (zr k) = vr (a k) := congrArg vr (zA_lt hk.1)
  have hC' : yC g me' d' kc' ks' (vr (a k) :: as.map (tr g a)) (lay g a μ) (zQ g a (.inr e) ν) := by
    have h := hC; unfold zC at h; rw [List.map_cons, e0] at h; exact h
  exact y_callV (as := as.map (tr g a)) (S := S.map (tr g a)) hC' kv (Nat.ble_eq.mp hd) (by rw [List.length_map]; exact hn) hc rfl (zlayO hk) hlink (by rw [List.map_append, List.map_reverse, List.map_cons, e0]) (by rw [zs_eq]; exact Nat.ble_eq.mp hcat) hdg (y_unc0 hh) (fun E M1 h => h) (fun r1 M1 h => by cases h.1)
theorem z_callS {me' : yM0} {d' kc' ks' KC KS nn idx : Nat} {as S0 : List zV} {μ1 : zM} {r : Option zV} (p' : Nat) (hdg : decode me.2.1 pc = .ok (.invokestatic idx, 3)) (hp : pc + 3 = p') (hC : zC g a me' d' kc' ks' as μ (.inl r) μ1) (kv : y_kS me' nn) (hlink : Cond.methodLink me.1.cls idx me'.1 ∈ yB) (hd : Nat.ble (d' + 1) d = true) (hn : as.length = nn) (hst : as.reverse ++ S = S0) (hcat : Nat.ble (zs S) 8 = true) (hh : me.2.2.2.2 = []) (hkc : kc + kc' = KC) (hks : ks + ks' = KS)
    (kk : Z g a me d kc ks p' L (r.toList ++ S) μ1 o ν) : Z g a me d KC KS pc L S0 μ o ν := by
  subst hp hst hkc hks
  refine y_callS (as := as.map (tr g a)) (S := S.map (tr g a)) hC kv (Nat.ble_eq.mp hd) (by rw [List.length_map]; exact hn) hlink (by rw [List.map_append, List.map_reverse]) (by rw [zs_eq]; exact Nat.ble_eq.mp hcat) hdg (y_unc0 hh) zk_ret (fun r1 M1 h => ?_)
  obtain ⟨h1, rfl⟩ := h
  cases h1
  have k2 := kk
  unfold Z at k2
  rw [List.map_append] at k2
  cases r <;> exact k2
theorem z_callSX {me' : yM0} {d' kc' ks' KC KS nn idx : Nat} {as S0 : List zV} {e : Nat} (hdg : decode me.2.1 pc = .ok (.invokestatic idx, 3)) (hC : zC g a me' d' kc' ks' as μ (.inr e) ν) (kv : y_kS me' nn) (hlink : Cond.methodLink me.1.cls idx me'.1 ∈ yB) (hd : Nat.ble (d' + 1) d = true) (hn : as.length = nn) (hst : as.reverse ++ S = S0) (hcat : Nat.ble (zs S) 8 = true) (hh : me.2.2.2.2 = []) (hkc : kc + kc' = KC) (hks : ks + ks' = KS) : Z g a me d KC KS pc L S0 μ (.inr e) ν := by
  subst hst hkc hks
  exact y_callS (as := as.map (tr g a)) (S := S.map (tr g a)) hC kv (Nat.ble_eq.mp hd) (by rw [List.length_map]; exact hn) hlink (by rw [List.map_append, List.map_reverse]) (by rw [zs_eq]; exact Nat.ble_eq.mp hcat) hdg (y_unc0 hh) (fun E M1 h => h) (fun r1 M1 h => by cases h.1)
theorem z_callSN {me' : yM0} {d' kc' ks' KC KS nn idx : Nat} {host : String} {as S0 : List zV} {μ1 : zM} {r : Option zV} (p' : Nat) (hdg : decode me.2.1 pc = .ok (.invokestatic idx, 3)) (hp : pc + 3 = p') (hC : zC g a me' d' kc' ks' as μ (.inl r) μ1) (kv : y_kS me' nn) (hlink : (me.1.cls, idx, me'.1, host) ∈ y_nwM) (hd : Nat.ble (d' + 1) d = true) (hn : as.length = nn) (hst : as.reverse ++ S = S0) (hcat : Nat.ble (zs S) 8 = true) (hh : me.2.2.2.2 = []) (hkc : kc + kc' = KC) (hks : ks + ks' = KS)
    (kk : Z g a me d kc ks p' L (r.toList ++ S) μ1 o ν) : Z g a me d KC KS pc L S0 μ o ν := by
  subst hp hst hkc hks
  refine y_callSN (as := as.map (tr g a)) (S := S.map (tr g a)) hC kv (Nat.ble_eq.mp hd) (by rw [List.length_map]; exact hn) hlink (by rw [List.map_append, List.map_reverse]) (by rw [zs_eq]; exact Nat.ble_eq.mp hcat) hdg (y_unc0 hh) (fun E M1 h => by cases h.1) (fun r1 M1 h => ?_)
  obtain ⟨h1, rfl⟩ := h
  cases h1
  have k2 := kk
  unfold Z at k2
  rw [List.map_append] at k2
  cases r <;> exact k2
end ZR
