/-! ===== the memory as a function; what the constants hold ===== -/
abbrev zM : Type := Nat → Int → Int
def st (μ : zM) (k : Nat) (i v : Int) : zM := fun q j => if q = k then (if j = i then v else μ q j) else μ q j
def cpy (μ : zM) (a b : Nat) (n : Int) : zM := fun q j => if q = b then (if 0 ≤ j ∧ j < n then μ a j else μ q j) else μ q j
def tcall (o : Option ((Int ⊕ Nat) × zM)) (k : Int → zM → Option ((Int ⊕ Nat) × zM)) : Option ((Int ⊕ Nat) × zM) := Option.bind o fun q => Sum.elim (fun x => k x q.2) (fun e => some (.inr e, q.2)) q.1
def formS : List (List Int) := [[102, 108, 97, 116, 32, 35, 61, 37], [116, 101, 110, 97, 110, 116, 32, 37, 64, 35, 43, 37, 47, 37], [105, 110, 32, 37, 62, 35], [111, 117, 116, 32, 37], [114, 101, 110, 116, 32, 35, 61, 37], [103, 105, 102, 116, 32, 37, 43, 37], [115, 101, 116, 116, 108, 101], [109, 111, 110, 116, 104]]
def formLen (e : Int) : Int := ((formS.getD e.toNat []).length : Int)
def formAt (e k : Int) : Int := (formS.getD e.toNat []).getD k.toNat 0
def swKind (e : Int) : Int := [1, 2, 3, 4, 5, 6, 8, 7].getD e.toNat 0
def swRefusal (e : Int) : Int := [0, 1, 2, 3, 4, 5].getD e.toNat 0
def fp_u (x : Int) : UInt64 := UInt64.ofNat x.toNat
def fp_w (x : Int) : UInt32 := UInt32.ofNat x.toNat
def fp_i2d (x : Int) : Int := ((FP.i2d (Int32.ofInt x)).toNat : Int)
def fp_i2f (x : Int) : Int := ((FP.i2f (Int32.ofInt x)).toNat : Int)
def fp_f2d (x : Int) : Int := ((FP.f2d (fp_w x)).toNat : Int)
def fp_ddiv (x y : Int) : Int := ((FP.ddiv (fp_u x) (fp_u y)).toNat : Int)
def fp_fdiv (x y : Int) : Int := ((FP.fdiv (fp_w x) (fp_w y)).toNat : Int)
abbrev fp_n64 (x : Int) : Prop := fp_u x &&& 0x7fffffffffffffff ≤ 0x7ff0000000000000
abbrev fp_n32 (x : Int) : Prop := fp_w x &&& 0x7fffffff ≤ 0x7f800000
def fp_dcmpl (x y : Int) : Int := (Op.cmpValue (FP.dcmp (fp_u x) (fp_u y)) .l).toInt
def fp_fcmpl (x y : Int) : Int := (Op.cmpValue (FP.fcmp (fp_w x) (fp_w y)) .l).toInt
def bnd2 {α β : Type} (x : Option (α × zM)) (f : α → zM → Option β) : Option β := Option.bind x fun q => f q.1 q.2
def bndS {α β : Type} (x : Option (Int ⊕ α)) (f : Int → Option β) (k : α → Option β) : Option β := Option.bind x fun q => Sum.elim f k q
def bndS2 {α β : Type} (x : Option ((Int ⊕ α) × zM)) (f : Int → zM → Option β) (k : α → zM → Option β) : Option β := Option.bind x fun q => Sum.elim (fun r => f r q.2) (fun t => k t q.2) q.1
def bndT {β : Type} (x : Option ((Int ⊕ Nat) × zM)) (f : Int → zM → Option β) (k : Nat → zM → Option β) : Option β := Option.bind x fun q => Sum.elim (fun r => f r q.2) (fun t => k t q.2) q.1
