/-! The memory that the pure texts speak of: E tells what each cell is (how many there are, code and length of each, what references it holds), σ the numbers in the cells; addresses count from the first cell that the law makes. -/
abbrev Sg : Type := (Nat → Nat → Int32) × (Nat → Nat → Int64)
abbrev En : Type := Nat × (Nat → Nat × Nat) × (Nat → Nat → Option Nat)
def cd (E : En) (a : Nat) : Nat := if a < E.1 then (E.2.1 a).1 else 999
def ln (E : En) (a : Nat) : Nat := (E.2.1 a).2
def rf (E : En) (a k : Nat) : Option Nat := E.2.2 a k
def gi (σ : Sg) (a k : Nat) : Int32 := σ.1 a k
def gl (σ : Sg) (a k : Nat) : Int64 := σ.2 a k
def si (σ : Sg) (a k : Nat) (v : Int32) : Sg := (fun x => if x = a then upd (σ.1 a) k v else σ.1 x, σ.2)
def sl (σ : Sg) (a k : Nat) (v : Int64) : Sg := (σ.1, fun x => if x = a then vp_updL (σ.2 a) k v else σ.2 x)
def sc (σ : Sg) (a b sp dp n : Nat) : Sg := (fun x => if x = b then va_cpy (σ.1 a) (σ.1 b) sp dp n else σ.1 x, σ.2)
def stv (k j : Nat) : Int32 := match k with
  | 0 => (match j with | 0 => 4 | 1 => 4 | _ => 0)
  | 1 => (match j with | 0 => 2 | 1 => 3 | _ => 0)
  | _ => (match j with | 0 => 16 | 1 => 6 | 2 => 2 | _ => 1)
def tk {β : Type} (x c : Nat) (k : Option β) : Option β := if x = c then k else none
def dr {β : Type} (r : Option Nat) (E : En) (c : Nat) (f : Nat → Option β) : Option β := match r with
  | some x => tk (cd E x) c (f x)
  | none => none
def ck {β : Type} (i : Int32) (n : Nat) (k : Option β) : Option β := if 0 ≤ i ∧ i.toNatClampNeg < n then k else none
def kb {β : Type} (v : Int32) (k : Option β) : Option β := if v = 0 ∨ v = 1 then k else none
def nz {β : Type} (y : Int32) (k : Option β) : Option β := if y = 0 then none else k
def nzl {β : Type} (y : Int64) (k : Option β) : Option β := if y = 0 then none else k
def bd {α β : Type} (x : Option (α × Sg)) (f : α → Sg → Option β) : Option β := match x with
  | some r => f r.1 r.2
  | none => none
def bv {β : Type} (x : Option Sg) (f : Sg → Option β) : Option β := match x with
  | some r => f r
  | none => none
def acp {β : Type} (E : En) (σ : Sg) (a : Nat) (sp : Int32) (b : Nat) (dp n : Int32) (k : Sg → Option β) : Option β :=
  if (0 ≤ sp ∧ 0 ≤ dp ∧ 0 ≤ n) ∧ sp.toNatClampNeg + n.toNatClampNeg ≤ ln E a ∧ dp.toNatClampNeg + n.toNatClampNeg ≤ ln E b then k (sc σ a b sp.toNatClampNeg dp.toNatClampNeg n.toNatClampNeg) else none
def fx {α β : Type} (F : (α → Option β) → α → Option β) : Nat → α → Option β
  | 0, _ => none
  | n + 1, a => F (fx F n) a
def FU : Nat := 1000000
def im (x y : Int32) : Int32 := x - x / y * y
def iml (x y : Int64) : Int64 := x - x / y * y
def imax (x y : Int32) : Int32 := if x < y then y else x
def imin (x y : Int32) : Int32 := if y < x then y else x
def iu (x y : Int32) : Int32 := (x.toUInt32 >>> (y.toUInt32 &&& Int32.toUInt32 31)).toInt32
def ss {β : Type} (x : Sg) (f : Sg → Option β) : Option β := f x
def lt {α β : Type} (x : α) (f : α → Option β) : Option β := f x
def sm {α β γ : Type} (x : α ⊕ β) (f : α → γ) (g : β → γ) : γ := match x with
  | .inl a => f a
  | .inr b => g b
def nwE (E : En) (c l : Nat) : En := (E.1 + 1, fun a => if a = E.1 then (c, l) else E.2.1 a, fun a k => if a = E.1 then none else E.2.2 a k)
def zs (σ : Sg) (a : Nat) : Sg := (fun x => if x = a then (fun _ => 0) else σ.1 x, fun x => if x = a then (fun _ => 0) else σ.2 x)
def srE (E : En) (a k x : Nat) : En := (E.1, E.2.1, fun b j => if b = a ∧ j = k then some x else E.2.2 b j)
def cl0 (σ : Sg) (a : Nat) : Sg := (fun x => if x = a then stv 0 else σ.1 x, fun x => if x = a then (fun _ => 0) else σ.2 x)
def nwc {β : Type} (E : En) (σ : Sg) (c l : Nat) (f : En → Sg → Option β) : Option β := f (nwE E c l) (zs σ E.1)
def ncl {β : Type} (E : En) (σ : Sg) (f : En → Sg → Option β) : Option β := f (nwE E 100 6) (cl0 σ E.1)
def src {β : Type} (E : En) (a k x : Nat) (f : En → Option β) : Option β := f (srE E a k x)
def bc {β : Type} (x : Option (En × Sg)) (f : En → Sg → Option β) : Option β := match x with
  | some r => f r.1 r.2
  | none => none
