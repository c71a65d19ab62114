section
/-! The memory that the pure texts speak of: E tells what each cell is (how many there are, code and length of each, what references it holds), σ the numbers in the cells; addresses count from the first cell that the law makes. -/
abbrev Sg : Type := (Nat → Nat → Int32) × (Nat → Nat → Int64)
abbrev En : Type := Nat × (Nat → Nat × Nat) × (Nat → Nat → Option Nat)
def cd (E : En) (a : Nat) : Nat := if a < E.1 then (E.2.1 a).1 else 999
def ln (E : En) (a : Nat) : Nat := (E.2.1 a).2
def rf (E : En) (a k : Nat) : Option Nat := E.2.2 a k
def gi (σ : Sg) (a k : Nat) : Int32 := σ.1 a k
def gl (σ : Sg) (a k : Nat) : Int64 := σ.2 a k
def si (σ : Sg) (a k : Nat) (v : Int32) : Sg := (fun x => if x = a then upd (σ.1 a) k v else σ.1 x, σ.2)
def sl (σ : Sg) (a k : Nat) (v : Int64) : Sg := (σ.1, fun x => if x = a then vp_updL (σ.2 a) k v else σ.2 x)
def sc (σ : Sg) (a b sp dp n : Nat) : Sg := (fun x => if x = b then va_cpy (σ.1 a) (σ.1 b) sp dp n else σ.1 x, σ.2)
def stv (k j : Nat) : Int32 := match k with
  | 0 => (match j with | 0 => 4 | 1 => 4 | _ => 0)
  | 1 => (match j with | 0 => 2 | 1 => 3 | _ => 0)
  | _ => (match j with | 0 => 16 | 1 => 6 | 2 => 2 | _ => 1)
def tk {β : Type} (x c : Nat) (k : Option β) : Option β := if x = c then k else none
def dr {β : Type} (r : Option Nat) (E : En) (c : Nat) (f : Nat → Option β) : Option β := match r with
  | some x => tk (cd E x) c (f x)
  | none => none
def ck {β : Type} (i : Int32) (n : Nat) (k : Option β) : Option β := if 0 ≤ i ∧ i.toNatClampNeg < n then k else none
def kb {β : Type} (v : Int32) (k : Option β) : Option β := if v = 0 ∨ v = 1 then k else none
def nz {β : Type} (y : Int32) (k : Option β) : Option β := if y = 0 then none else k
def nzl {β : Type} (y : Int64) (k : Option β) : Option β := if y = 0 then none else k
def bd {α β : Type} (x : Option (α × Sg)) (f : α → Sg → Option β) : Option β := match x with
  | some r => f r.1 r.2
  | none => none
def bv {β : Type} (x : Option Sg) (f : Sg → Option β) : Option β := match x with
  | some r => f r
  | none => none
def acp {β : Type} (E : En) (σ : Sg) (a : Nat) (sp : Int32) (b : Nat) (dp n : Int32) (k : Sg → Option β) : Option β :=
  if (0 ≤ sp ∧ 0 ≤ dp ∧ 0 ≤ n) ∧ sp.toNatClampNeg + n.toNatClampNeg ≤ ln E a ∧ dp.toNatClampNeg + n.toNatClampNeg ≤ ln E b then k (sc σ a b sp.toNatClampNeg dp.toNatClampNeg n.toNatClampNeg) else none
def fx {α β : Type} (F : (α → Option β) → α → Option β) : Nat → α → Option β
  | 0, _ => none
  | n + 1, a => F (fx F n) a
def FU : Nat := 1000000
def im (x y : Int32) : Int32 := x - x / y * y
def iml (x y : Int64) : Int64 := x - x / y * y
def imax (x y : Int32) : Int32 := if x < y then y else x
def imin (x y : Int32) : Int32 := if y < x then y else x
def iu (x y : Int32) : Int32 := (x.toUInt32 >>> (y.toUInt32 &&& Int32.toUInt32 31)).toInt32
def ss {β : Type} (x : Sg) (f : Sg → Option β) : Option β := f x
def lt {α β : Type} (x : α) (f : α → Option β) : Option β := f x
def sm {α β γ : Type} (x : α ⊕ β) (f : α → γ) (g : β → γ) : γ := match x with
  | .inl a => f a
  | .inr b => g b
def nwE (E : En) (c l : Nat) : En := (E.1 + 1, fun a => if a = E.1 then (c, l) else E.2.1 a, fun a k => if a = E.1 then none else E.2.2 a k)
def zs (σ : Sg) (a : Nat) : Sg := (fun x => if x = a then (fun _ => 0) else σ.1 x, fun x => if x = a then (fun _ => 0) else σ.2 x)
def srE (E : En) (a k x : Nat) : En := (E.1, E.2.1, fun b j => if b = a ∧ j = k then some x else E.2.2 b j)
def cl0 (σ : Sg) (a : Nat) : Sg := (fun x => if x = a then stv 0 else σ.1 x, fun x => if x = a then (fun _ => 0) else σ.2 x)
def nwc {β : Type} (E : En) (σ : Sg) (c l : Nat) (f : En → Sg → Option β) : Option β := f (nwE E c l) (zs σ E.1)
def ncl {β : Type} (E : En) (σ : Sg) (f : En → Sg → Option β) : Option β := f (nwE E 100 6) (cl0 σ E.1)
def src {β : Type} (E : En) (a k x : Nat) (f : En → Option β) : Option β := f (srE E a k x)
def bc {β : Type} (x : Option (En × Sg)) (f : En → Sg → Option β) : Option β := match x with
  | some r => f r.1 r.2
  | none => none
end
section
def fX5_copyFrom (E : En) (a0 : Nat) (a1 : Nat) (σ : Sg) : Option (Sg) := tk (cd E a0) 5 (tk (cd E a1) 5 (ss (si σ a0 1 (gi σ a1 1)) (fun s1 => ss (si s1 a0 2 (gi s1 a1 2)) (fun s2 => dr (rf E a1 0) E 100 (fun x3 => dr (rf E a0 0) E 100 (fun x4 => acp E s2 x3 (gi s2 a0 1) x4 (gi s2 a0 1) ((gi s2 a0 2) - (gi s2 a0 1)) (fun s5 => some s5)))))))
def fX5_wipe (E : En) (a0 : Nat) (σ : Sg) : Option (Sg) := tk (cd E a0) 5 (ss (si σ a0 1 (0 : Int32)) (fun s1 => ss (si s1 a0 2 (0 : Int32)) (fun s2 => some s2)))
def fX5_size (E : En) (a0 : Nat) (σ : Sg) : Option (Int32 × Sg) := tk (cd E a0) 5 (some (((gi σ a0 2) - (gi σ a0 1)), σ))
def bX5_dummies_7 (E : En) (a0 : Nat) (rec : Int32 → Int32 → Sg → Option ((Int32 × Int32) × Sg)) (v2 : Int32) (v3 : Int32) (s4 : Sg) : Option ((Int32 × Int32) × Sg) := if (gi s4 a0 2) ≤ v3 then (some ((v2, v3), s4)) else (dr (rf E a0 0) E 100 (fun x9 => ck v3 (ln E x9) (bd (if ¬ (gi s4 x9 v3.toNatClampNeg) = (-1 : Int32) then (some (v2, s4)) else (lt (v2 + (1 : Int32)) (fun v13 => some (v13, s4)))) (fun w11 s12 => lt (v3 + (1 : Int32)) (fun v14 => rec w11 v14 s12)))))
def fX5_dummies (E : En) (a0 : Nat) (σ : Sg) : Option (Int32 × Sg) := tk (cd E a0) 5 (lt (gi σ a0 1) (fun v1 => bd (fx (fun rec a => bX5_dummies_7 E a0 (fun u0 u1 t => rec ((u0, u1), t)) a.1.1 a.1.2 a.2) FU (((0 : Int32), v1), σ)) (fun o15 s16 => some (o15.1, s16))))
def fX5_at (E : En) (a0 : Nat) (a1 : Int32) (a2 : Int32) (σ : Sg) : Option (Int32 × Sg) := tk (cd E a0) 5 (if a1 < 0 then (some ((-2 : Int32), σ)) else (bd (fX5_size E a0 σ) (fun r3 s1 => if a1 < r3 then (dr (rf E a0 0) E 100 (fun x4 => bd (if a2 = 0 then (some (((gi s1 a0 1) + a1), s1)) else (some ((((gi s1 a0 2) - (1 : Int32)) - a1), s1))) (fun w5 s6 => ck w5 (ln E x4) (some ((gi s6 x4 w5.toNatClampNeg), s6))))) else (some ((-2 : Int32), s1)))))
def fX5_write (E : En) (a0 : Nat) (a1 : Int32) (σ : Sg) : Option (Sg) := tk (cd E a0) 5 (bd (if (256 : Int32) ≤ (gi σ a0 2) then (some ((), σ)) else (dr (rf E a0 0) E 100 (fun x3 => ck (gi σ a0 2) (ln E x3) (ss (si σ x3 (gi σ a0 2).toNatClampNeg a1) (fun s5 => ss (si s5 a0 2 ((gi s5 a0 2) + (1 : Int32))) (fun s6 => some ((), s6))))))) (fun w1 s2 => some s2))
def fX5_drop (E : En) (a0 : Nat) (a1 : Int32) (σ : Sg) : Option (Sg) := tk (cd E a0) 5 (if (gi σ a0 1) < (gi σ a0 2) then (bd (if a1 = 0 then (ss (si σ a0 1 ((gi σ a0 1) + (1 : Int32))) (fun s3 => some ((), s3))) else (ss (si σ a0 2 ((gi σ a0 2) - (1 : Int32))) (fun s4 => some ((), s4)))) (fun w1 s2 => bd (if ¬ (gi s2 a0 1) = (gi s2 a0 2) then (some ((), s2)) else (bv (fX5_wipe E a0 s2) (fun s7 => some ((), s7)))) (fun w5 s6 => some s6))) else (some σ))
def bX2_ground_20 (E : En) (a0 : Nat) (rec : Int32 → Sg → Option ((Int32) × Sg)) (v3 : Int32) (s4 : Sg) : Option ((Int32) × Sg) := if (gi s4 a0 1) ≤ v3 then (some (v3, s4)) else (dr (rf E a0 0) E 100 (fun x9 => bd (if ¬ v3 = 0 then (some ((0 : Int32), s4)) else (some ((1 : Int32), s4))) (fun w10 s11 => ck v3 (ln E x9) (ss (si s11 x9 v3.toNatClampNeg w10) (fun s13 => lt (v3 + (1 : Int32)) (fun v14 => rec v14 s13))))))
def fX2_ground (E : En) (a0 : Nat) (a1 : Int32) (σ : Sg) : Option (Sg) := tk (cd E a0) 2 (ss (si σ a0 1 (imax (1 : Int32) (imin a1 (5 : Int32)))) (fun s1 => ss (si s1 a0 2 (0 : Int32)) (fun s2 => bd (fx (fun rec a => bX2_ground_20 E a0 (fun u0 t => rec (u0, t)) a.1 a.2) FU ((0 : Int32), s2)) (fun o15 s16 => some s16))))
def bX2_climbCascade_2 (E : En) (a0 : Nat) (rec : Int32 → Sg → Option ((Int32) × Sg)) (v1 : Int32) (s2 : Sg) : Option ((Int32) × Sg) := if (gi s2 a0 1) ≤ v1 then (some (v1, s2)) else (dr (rf E a0 0) E 100 (fun x7 => ck v1 (ln E x7) (ck (v1 - (1 : Int32)) (ln E x7) (ck v1 (ln E x7) (ss (si s2 x7 v1.toNatClampNeg ((gi s2 x7 v1.toNatClampNeg) + (gi s2 x7 (v1 - (1 : Int32)).toNatClampNeg))) (fun s11 => lt (v1 + (1 : Int32)) (fun v12 => rec v12 s11)))))))
def bX2_climbCascade_35 (E : En) (a0 : Nat) (rec : Int32 → Sg → Option ((Int32) × Sg)) (v15 : Int32) (s16 : Sg) : Option ((Int32) × Sg) := if ((gi s16 a0 1) / (2 : Int32)) ≤ v15 then (some (v15, s16)) else (dr (rf E a0 0) E 100 (fun x21 => ck (((gi s16 a0 1) - (1 : Int32)) - v15) (ln E x21) (lt (gi s16 x21 (((gi s16 a0 1) - (1 : Int32)) - v15).toNatClampNeg) (fun v23 => ck v15 (ln E x21) (ck (((gi s16 a0 1) - (1 : Int32)) - v15) (ln E x21) (ss (si s16 x21 (((gi s16 a0 1) - (1 : Int32)) - v15).toNatClampNeg (gi s16 x21 v15.toNatClampNeg)) (fun s26 => ck v15 (ln E x21) (ss (si s26 x21 v15.toNatClampNeg v23) (fun s28 => lt (v15 + (1 : Int32)) (fun v29 => rec v29 s28))))))))))
def fX2_climbCascade (E : En) (a0 : Nat) (σ : Sg) : Option (Sg) := tk (cd E a0) 2 (bd (fx (fun rec a => bX2_climbCascade_2 E a0 (fun u0 t => rec (u0, t)) a.1 a.2) FU ((1 : Int32), σ)) (fun o13 s14 => bd (fx (fun rec a => bX2_climbCascade_35 E a0 (fun u0 t => rec (u0, t)) a.1 a.2) FU ((0 : Int32), s14)) (fun o30 s31 => some s31)))
def bX2_climb_29 (E : En) (a0 : Nat) (x2 : Nat) (v4 : Int32) (rec : Int32 → Sg → Option ((Int32) × Sg)) (v5 : Int32) (s6 : Sg) : Option ((Int32) × Sg) := if (gi s6 a0 1) ≤ (v5 + (1 : Int32)) then (some (v5, s6)) else (ck (v5 + (1 : Int32)) (ln E x2) (ck v5 (ln E x2) (ss (si s6 x2 v5.toNatClampNeg (v4 + (gi s6 x2 (v5 + (1 : Int32)).toNatClampNeg))) (fun s13 => lt (v5 + (1 : Int32)) (fun v14 => rec v14 s13)))))
def fX2_climb (E : En) (a0 : Nat) (a1 : Int32) (σ : Sg) : Option (Sg) := tk (cd E a0) 2 (ss (si σ a0 2 ((gi σ a0 2) + (1 : Int32))) (fun s1 => if ¬ a1 = (2 : Int32) then (dr (rf E a0 0) E 100 (fun x2 => ck (0 : Int32) (ln E x2) (lt (gi s1 x2 (0 : Int32).toNatClampNeg) (fun v4 => bd (fx (fun rec a => bX2_climb_29 E a0 x2 v4 (fun u0 t => rec (u0, t)) a.1 a.2) FU ((0 : Int32), s1)) (fun o15 s16 => ck ((gi s16 a0 1) - (1 : Int32)) (ln E x2) (ss (si s16 x2 ((gi s16 a0 1) - (1 : Int32)).toNatClampNeg v4) (fun s18 => some s18))))))) else (bv (fX2_climbCascade E a0 s1) (fun s19 => some s19))))
def bX2_climbTo_8 (E : En) (a1 : Int32) (a0 : Nat) (a2 : Int32) (rec : Int32 → Sg → Option ((Int32) × Sg)) (v3 : Int32) (s4 : Sg) : Option ((Int32) × Sg) := if a1 ≤ v3 then (some (v3, s4)) else (bv (fX2_climb E a0 a2 s4) (fun s9 => lt (v3 + (1 : Int32)) (fun v11 => rec v11 s9)))
def fX2_climbTo (E : En) (a0 : Nat) (a1 : Int32) (a2 : Int32) (a3 : Int32) (σ : Sg) : Option (Sg) := tk (cd E a0) 2 (bv (fX2_ground E a0 a3 σ) (fun s1 => bd (fx (fun rec a => bX2_climbTo_8 E a1 a0 a2 (fun u0 t => rec (u0, t)) a.1 a.2) FU ((0 : Int32), s1)) (fun o12 s13 => some s13)))
def bX2_together_4 (E : En) (a0 : Nat) (rec : Int32 → Int32 → Sg → Option ((Int32 × Int32) × Sg)) (v1 : Int32) (v2 : Int32) (s3 : Sg) : Option ((Int32 × Int32) × Sg) := if (gi s3 a0 1) ≤ v2 then (some ((v1, v2), s3)) else (dr (rf E a0 0) E 100 (fun x8 => ck v2 (ln E x8) (lt (v1 + (gi s3 x8 v2.toNatClampNeg)) (fun v10 => lt (v2 + (1 : Int32)) (fun v11 => rec v10 v11 s3)))))
def fX2_together (E : En) (a0 : Nat) (σ : Sg) : Option (Int32 × Sg) := tk (cd E a0) 2 (bd (fx (fun rec a => bX2_together_4 E a0 (fun u0 u1 t => rec ((u0, u1), t)) a.1.1 a.1.2 a.2) FU (((0 : Int32), (0 : Int32)), σ)) (fun o12 s13 => some (o12.1, s13)))
def bX2_climbFor_8 (E : En) (a0 : Nat) (a1 : Int32) (a2 : Int32) (rec : Int32 → Sg → Option ((Int32) × Sg)) (v3 : Int32) (s4 : Sg) : Option ((Int32) × Sg) := if (700 : Int32) ≤ v3 then (some (v3, s4)) else (bd (fX2_together E a0 s4) (fun r11 s9 => if a1 ≤ r11 then (some (v3, s9)) else (bv (fX2_climb E a0 a2 s9) (fun s12 => lt (v3 + (1 : Int32)) (fun v14 => rec v14 s12)))))
def fX2_climbFor (E : En) (a0 : Nat) (a1 : Int32) (a2 : Int32) (a3 : Int32) (σ : Sg) : Option (Sg) := tk (cd E a0) 2 (bv (fX2_ground E a0 a3 σ) (fun s1 => bd (fx (fun rec a => bX2_climbFor_8 E a0 a1 a2 (fun u0 t => rec (u0, t)) a.1 a.2) FU ((0 : Int32), s1)) (fun o15 s16 => some s16)))
def fX3_copyFrom (E : En) (a0 : Nat) (a1 : Nat) (σ : Sg) : Option (Sg) := tk (cd E a0) 3 (tk (cd E a1) 3 (ss (si σ a0 2 (gi σ a1 2)) (fun s1 => ss (si s1 a0 3 (gi s1 a1 3)) (fun s2 => dr (rf E a1 0) E 100 (fun x3 => dr (rf E a0 0) E 100 (fun x4 => acp E s2 x3 (0 : Int32) x4 (0 : Int32) (gi s2 a0 2) (fun s5 => dr (rf E a1 1) E 100 (fun x6 => dr (rf E a0 1) E 100 (fun x7 => acp E s5 x6 (0 : Int32) x7 (0 : Int32) (gi s5 a0 2) (fun s8 => some s8))))))))))
def fX3_wipe (E : En) (a0 : Nat) (σ : Sg) : Option (Sg) := tk (cd E a0) 3 (ss (si σ a0 2 (0 : Int32)) (fun s1 => ss (si s1 a0 3 (0 : Int32)) (fun s2 => some s2)))
def bX3_add_16 (E : En) (a0 : Nat) (a1 : Int32) (rec : Int32 → Sg → Option ((Int32) × Sg)) (v2 : Int32) (s3 : Sg) : Option ((Int32) × Sg) := if v2 ≤ 0 then (some (v2, s3)) else (dr (rf E a0 0) E 100 (fun x8 => dr (rf E a0 1) E 100 (fun x9 => ck (v2 - (1 : Int32)) (ln E x9) (ck (gi s3 x9 (v2 - (1 : Int32)).toNatClampNeg) (ln E x8) (if (gi s3 x8 (gi s3 x9 (v2 - (1 : Int32)).toNatClampNeg).toNatClampNeg) ≤ a1 then (some (v2, s3)) else (ck (v2 - (1 : Int32)) (ln E x9) (ck v2 (ln E x9) (ss (si s3 x9 v2.toNatClampNeg (gi s3 x9 (v2 - (1 : Int32)).toNatClampNeg)) (fun s14 => lt (v2 + (-1 : Int32)) (fun v15 => rec v15 s14))))))))))
def fX3_add (E : En) (a0 : Nat) (a1 : Int32) (σ : Sg) : Option (Sg) := tk (cd E a0) 3 (if (gi σ a0 2) < (300 : Int32) then (lt (gi σ a0 2) (fun v1 => bd (fx (fun rec a => bX3_add_16 E a0 a1 (fun u0 t => rec (u0, t)) a.1 a.2) FU (v1, σ)) (fun o16 s17 => dr (rf E a0 1) E 100 (fun x18 => ck o16 (ln E x18) (ss (si s17 x18 o16.toNatClampNeg (gi s17 a0 2)) (fun s20 => ss (si s20 a0 3 ((gi s20 a0 3) + ((gi s20 a0 2) - o16))) (fun s21 => dr (rf E a0 0) E 100 (fun x22 => ck (gi s21 a0 2) (ln E x22) (ss (si s21 x22 (gi s21 a0 2).toNatClampNeg a1) (fun s24 => ss (si s24 a0 2 ((gi s24 a0 2) + (1 : Int32))) (fun s25 => some s25))))))))))) else (some σ))
def fX3_isLess (E : En) (a0 : Nat) (a1 : Int32) (a2 : Int32) (σ : Sg) : Option (Int32 × Sg) := tk (cd E a0) 3 (dr (rf E a0 0) E 100 (fun x1 => ck a1 (ln E x1) (ck a2 (ln E x1) (bd (if (gi σ x1 a1.toNatClampNeg) < (gi σ x1 a2.toNatClampNeg) then (some ((1 : Int32), σ)) else (ck a1 (ln E x1) (ck a2 (ln E x1) (if ¬ (gi σ x1 a1.toNatClampNeg) = (gi σ x1 a2.toNatClampNeg) then (some ((0 : Int32), σ)) else (if a2 ≤ a1 then (some ((0 : Int32), σ)) else (some ((1 : Int32), σ))))))) (fun w4 s5 => kb w4 (some (w4, s5)))))))
def fX3_ranked (E : En) (a0 : Nat) (a1 : Int32) (a2 : Int32) (σ : Sg) : Option (Int32 × Sg) := tk (cd E a0) 3 (dr (rf E a0 1) E 100 (fun x1 => bd (if a2 = 0 then (some (a1, σ)) else (some ((((gi σ a0 2) - (1 : Int32)) - a1), σ))) (fun w2 s3 => ck w2 (ln E x1) (some ((gi s3 x1 w2.toNatClampNeg), s3)))))
def bX3_howOften_4 (E : En) (a0 : Nat) (a1 : Int32) (rec : Int32 → Int32 → Sg → Option ((Int32 × Int32) × Sg)) (v1 : Int32) (v2 : Int32) (s3 : Sg) : Option ((Int32 × Int32) × Sg) := if (gi s3 a0 2) ≤ v2 then (some ((v1, v2), s3)) else (dr (rf E a0 0) E 100 (fun x8 => ck v2 (ln E x8) (bd (if ¬ (gi s3 x8 v2.toNatClampNeg) = a1 then (some (v1, s3)) else (lt (v1 + (1 : Int32)) (fun v12 => some (v12, s3)))) (fun w10 s11 => lt (v2 + (1 : Int32)) (fun v13 => rec w10 v13 s11)))))
def fX3_howOften (E : En) (a0 : Nat) (a1 : Int32) (σ : Sg) : Option (Int32 × Sg) := tk (cd E a0) 3 (bd (fx (fun rec a => bX3_howOften_4 E a0 a1 (fun u0 u1 t => rec ((u0, u1), t)) a.1.1 a.1.2 a.2) FU (((0 : Int32), (0 : Int32)), σ)) (fun o14 s15 => some (o14.1, s15)))
def bX3_firstOf_2 (E : En) (a0 : Nat) (a1 : Int32) (rec : Int32 → Sg → Option (((Int32) ⊕ Int32) × Sg)) (v1 : Int32) (s2 : Sg) : Option (((Int32) ⊕ Int32) × Sg) := if (gi s2 a0 2) ≤ v1 then (some (.inl v1, s2)) else (dr (rf E a0 0) E 100 (fun x7 => ck v1 (ln E x7) (if ¬ (gi s2 x7 v1.toNatClampNeg) = a1 then (lt (v1 + (1 : Int32)) (fun v9 => rec v9 s2)) else (some (.inr v1, s2)))))
def fX3_firstOf (E : En) (a0 : Nat) (a1 : Int32) (σ : Sg) : Option (Int32 × Sg) := tk (cd E a0) 3 (bd (fx (fun rec a => bX3_firstOf_2 E a0 a1 (fun u0 t => rec (u0, t)) a.1 a.2) FU ((0 : Int32), σ)) (fun o10 s11 => sm o10 (fun vo10 => some ((-2 : Int32), s11)) (fun rr => some (rr, s11))))
def bX3_lastOf_7 (E : En) (a0 : Nat) (a1 : Int32) (rec : Int32 → Sg → Option (((Int32) ⊕ Int32) × Sg)) (v2 : Int32) (s3 : Sg) : Option (((Int32) ⊕ Int32) × Sg) := if v2 < 0 then (some (.inl v2, s3)) else (dr (rf E a0 0) E 100 (fun x8 => ck v2 (ln E x8) (if ¬ (gi s3 x8 v2.toNatClampNeg) = a1 then (lt (v2 + (-1 : Int32)) (fun v10 => rec v10 s3)) else (some (.inr v2, s3)))))
def fX3_lastOf (E : En) (a0 : Nat) (a1 : Int32) (σ : Sg) : Option (Int32 × Sg) := tk (cd E a0) 3 (lt ((gi σ a0 2) - (1 : Int32)) (fun v1 => bd (fx (fun rec a => bX3_lastOf_7 E a0 a1 (fun u0 t => rec (u0, t)) a.1 a.2) FU (v1, σ)) (fun o11 s12 => sm o11 (fun vo11 => some ((-2 : Int32), s12)) (fun rr => some (rr, s12)))))
def fX3_beginsKey (E : En) (a0 : Nat) (a1 : Int32) (σ : Sg) : Option (Int32 × Sg) := tk (cd E a0) 3 (bd (if a1 = 0 then (some ((1 : Int32), σ)) else (dr (rf E a0 0) E 100 (fun x3 => dr (rf E a0 1) E 100 (fun x4 => ck a1 (ln E x4) (ck (gi σ x4 a1.toNatClampNeg) (ln E x3) (ck (a1 - (1 : Int32)) (ln E x4) (ck (gi σ x4 (a1 - (1 : Int32)).toNatClampNeg) (ln E x3) (if (gi σ x3 (gi σ x4 a1.toNatClampNeg).toNatClampNeg) = (gi σ x3 (gi σ x4 (a1 - (1 : Int32)).toNatClampNeg).toNatClampNeg) then (some ((0 : Int32), σ)) else (some ((1 : Int32), σ)))))))))) (fun w1 s2 => kb w1 (some (w1, s2))))
def bX3_unlikeKeys_4 (E : En) (a0 : Nat) (rec : Int32 → Int32 → Sg → Option ((Int32 × Int32) × Sg)) (v1 : Int32) (v2 : Int32) (s3 : Sg) : Option ((Int32 × Int32) × Sg) := if (gi s3 a0 2) ≤ v2 then (some ((v1, v2), s3)) else (bd (fX3_beginsKey E a0 v2 s3) (fun r10 s8 => bd (if r10 = 0 then (some (v1, s8)) else (lt (v1 + (1 : Int32)) (fun v13 => some (v13, s8)))) (fun w11 s12 => lt (v2 + (1 : Int32)) (fun v14 => rec w11 v14 s12))))
def fX3_unlikeKeys (E : En) (a0 : Nat) (σ : Sg) : Option (Int32 × Sg) := tk (cd E a0) 3 (bd (fx (fun rec a => bX3_unlikeKeys_4 E a0 (fun u0 u1 t => rec ((u0, u1), t)) a.1.1 a.1.2 a.2) FU (((0 : Int32), (0 : Int32)), σ)) (fun o15 s16 => some (o15.1, s16)))
def bX3_keyMostOften_9 (E : En) (a0 : Nat) (rec : Int32 → Int32 → Int32 → Int32 → Sg → Option ((Int32 × Int32 × Int32 × Int32) × Sg)) (v1 : Int32) (v2 : Int32) (v3 : Int32) (v4 : Int32) (s5 : Sg) : Option ((Int32 × Int32 × Int32 × Int32) × Sg) := if (gi s5 a0 2) ≤ v4 then (some ((v1, v2, v3, v4), s5)) else (bd (fX3_beginsKey E a0 v4 s5) (fun r12 s10 => bd (if r12 = 0 then (some (v3, s10)) else (some (v4, s10))) (fun w13 s14 => lt ((v4 - w13) + (1 : Int32)) (fun v15 => dr (rf E a0 1) E 100 (fun x16 => ck w13 (ln E x16) (lt (gi s14 x16 w13.toNatClampNeg) (fun v18 => bd (if v2 < v15 then (some ((v18, v15), s14)) else (if ¬ v15 = v2 then (some ((v1, v2), s14)) else (if v1 ≤ v18 then (some ((v1, v2), s14)) else (some ((v18, v15), s14))))) (fun w19 s20 => lt (v4 + (1 : Int32)) (fun v21 => rec w19.1 w19.2 w13 v21 s20)))))))))
def fX3_keyMostOften (E : En) (a0 : Nat) (σ : Sg) : Option (Int32 × Sg) := tk (cd E a0) 3 (bd (fx (fun rec a => bX3_keyMostOften_9 E a0 (fun u0 u1 u2 u3 t => rec ((u0, u1, u2, u3), t)) a.1.1 a.1.2.1 a.1.2.2.1 a.1.2.2.2 a.2) FU (((-1 : Int32), (0 : Int32), (0 : Int32), (0 : Int32)), σ)) (fun o22 s23 => bd (if ¬ o22.1 = (-1 : Int32) then (dr (rf E a0 0) E 100 (fun x26 => ck o22.1 (ln E x26) (some ((gi s23 x26 o22.1.toNatClampNeg), s23)))) else (some ((-1 : Int32), s23))) (fun w24 s25 => some (w24, s25))))
def bX3_naturalRuns_4 (E : En) (a0 : Nat) (rec : Int32 → Int32 → Sg → Option ((Int32 × Int32) × Sg)) (v1 : Int32) (v2 : Int32) (s3 : Sg) : Option ((Int32 × Int32) × Sg) := if (gi s3 a0 2) ≤ v2 then (some ((v1, v2), s3)) else (bd (if v2 = 0 then (lt (v1 + (1 : Int32)) (fun v10 => some (v10, s3))) else (dr (rf E a0 0) E 100 (fun x11 => ck v2 (ln E x11) (ck (v2 - (1 : Int32)) (ln E x11) (if (gi s3 x11 (v2 - (1 : Int32)).toNatClampNeg) ≤ (gi s3 x11 v2.toNatClampNeg) then (some (v1, s3)) else (lt (v1 + (1 : Int32)) (fun v14 => some (v14, s3)))))))) (fun w8 s9 => lt (v2 + (1 : Int32)) (fun v15 => rec w8 v15 s9)))
def fX3_naturalRuns (E : En) (a0 : Nat) (σ : Sg) : Option (Int32 × Sg) := tk (cd E a0) 3 (bd (fx (fun rec a => bX3_naturalRuns_4 E a0 (fun u0 u1 t => rec ((u0, u1), t)) a.1.1 a.1.2 a.2) FU (((0 : Int32), (0 : Int32)), σ)) (fun o16 s17 => some (o16.1, s17)))
def fX0_copyFrom (E : En) (a0 : Nat) (a1 : Nat) (a2 : Int32) (σ : Sg) : Option (Sg) := tk (cd E a0) 0 (tk (cd E a1) 0 (ss (si σ a0 2 (gi σ a1 2)) (fun s1 => kb (gi s1 a1 3) (ss (si s1 a0 3 (gi s1 a1 3)) (fun s3 => dr (rf E a1 0) E 100 (fun x4 => dr (rf E a0 0) E 100 (fun x5 => acp E s3 x4 (0 : Int32) x5 (0 : Int32) a2 (fun s6 => dr (rf E a1 1) E 100 (fun x7 => dr (rf E a0 1) E 100 (fun x8 => acp E s6 x7 (0 : Int32) x8 (0 : Int32) (gi s6 a0 2) (fun s9 => some s9)))))))))))
def fX0_falls (E : En) (a0 : Nat) (a1 : Int32) (σ : Sg) : Option (Int32 × Sg) := tk (cd E a0) 0 (bd (if (gi σ a0 3) = 0 then (some ((0 : Int32), σ)) else (if ¬ (im a1 (2 : Int32)) = (1 : Int32) then (some ((0 : Int32), σ)) else (some ((1 : Int32), σ)))) (fun w1 s2 => kb w1 (some (w1, s2))))
def bX0_nextOut_5 (E : En) (a0 : Nat) (a2 : Int32) (a1 : Nat) (rec : Int32 → Int32 → Sg → Option ((Int32 × Int32) × Sg)) (v1 : Int32) (v2 : Int32) (s3 : Sg) : Option ((Int32 × Int32) × Sg) := if (gi s3 a0 5) ≤ v2 then (some ((v1, v2), s3)) else (dr (rf E a0 0) E 100 (fun x8 => dr (rf E a0 4) E 100 (fun x9 => ck v2 (ln E x9) (ck (gi s3 x9 v2.toNatClampNeg) (ln E x8) (bd (if (gi s3 x8 (gi s3 x9 v2.toNatClampNeg).toNatClampNeg) = a2 then (if v1 = (-1 : Int32) then (some (v2, s3)) else (ck v2 (ln E x9) (ck v1 (ln E x9) (bd (fX3_isLess E a1 (gi s3 x9 v2.toNatClampNeg) (gi s3 x9 v1.toNatClampNeg) s3) (fun r18 s16 => bd (fX0_falls E a0 a2 s16) (fun r21 s19 => if r18 = r21 then (some (v1, s19)) else (some (v2, s19)))))))) else (some (v1, s3))) (fun w12 s13 => lt (v2 + (1 : Int32)) (fun v22 => rec w12 v22 s13)))))))
def fX0_nextOut (E : En) (a0 : Nat) (a1 : Nat) (a2 : Int32) (σ : Sg) : Option (Int32 × Sg) := tk (cd E a0) 0 (tk (cd E a1) 3 (bd (fx (fun rec a => bX0_nextOut_5 E a0 a2 a1 (fun u0 u1 t => rec ((u0, u1), t)) a.1.1 a.1.2 a.2) FU (((-1 : Int32), (0 : Int32)), σ)) (fun o23 s24 => some (o23.1, s24))))
def fX0_goesOn (E : En) (a0 : Nat) (a1 : Nat) (a2 : Int32) (a3 : Int32) (σ : Sg) : Option (Int32 × Sg) := tk (cd E a0) 0 (tk (cd E a1) 3 (bd (fX3_isLess E a1 a2 a3 σ) (fun r3 s1 => bd (fX0_falls E a0 ((gi s1 a0 2) - (1 : Int32)) s1) (fun r6 s4 => bd (if ¬ r3 = r6 then (some ((0 : Int32), s4)) else (some ((1 : Int32), s4))) (fun w7 s8 => kb w7 (some (w7, s8)))))))
def bX0_growFrom_25 (E : En) (v3 : Int32) (a0 : Nat) (rec : Sg → Option ((Unit) × Sg))  (s5 : Sg) : Option ((Unit) × Sg) := if v3 ≤ (gi s5 a0 5) then (some ((), s5)) else (dr (rf E a0 4) E 100 (fun x10 => ck (gi s5 a0 5) (ln E x10) (ss (si s5 x10 (gi s5 a0 5).toNatClampNeg (gi s5 a0 5)) (fun s12 => dr (rf E a0 0) E 100 (fun x13 => ck (gi s12 a0 5) (ln E x13) (ss (si s12 x13 (gi s12 a0 5).toNatClampNeg (0 : Int32)) (fun s15 => ss (si s15 a0 5 ((gi s15 a0 5) + (1 : Int32))) (fun s16 => rec s16))))))))
def bX0_growFrom_78 (E : En) (a1 : Nat) (a0 : Nat) (rec : Int32 → Int32 → Sg → Option (((Int32 × Int32) ⊕ Unit) × Sg)) (v20 : Int32) (v21 : Int32) (s22 : Sg) : Option (((Int32 × Int32) ⊕ Unit) × Sg) := if (gi s22 a1 2) ≤ v21 then (some (.inl (v20, v21), s22)) else (bd (if ¬ (gi s22 a0 2) = 0 then (bd (fX0_nextOut E a0 a1 ((gi s22 a0 2) - (1 : Int32)) s22) (fun r31 s29 => some (r31, s29))) else (some ((-1 : Int32), s22))) (fun w27 s28 => bd (if ¬ w27 = (-1 : Int32) then (some (w27, s28)) else (dr (rf E a0 1) E 100 (fun x34 => ck (gi s28 a0 2) (ln E x34) (ss (si s28 x34 (gi s28 a0 2).toNatClampNeg (0 : Int32)) (fun s36 => bd (fX0_nextOut E a0 a1 (gi s36 a0 2) s36) (fun r39 s37 => ss (si s37 a0 2 ((gi s37 a0 2) + (1 : Int32))) (fun s40 => some (r39, s40)))))))) (fun w32 s33 => if ¬ w32 = (-1 : Int32) then (dr (rf E a0 1) E 100 (fun x41 => ck ((gi s33 a0 2) - (1 : Int32)) (ln E x41) (ck ((gi s33 a0 2) - (1 : Int32)) (ln E x41) (ss (si s33 x41 ((gi s33 a0 2) - (1 : Int32)).toNatClampNeg ((gi s33 x41 ((gi s33 a0 2) - (1 : Int32)).toNatClampNeg) + (1 : Int32))) (fun s44 => bd (if (gi s44 a1 2) ≤ v20 then (ss (si s44 a0 5 ((gi s44 a0 5) - (1 : Int32))) (fun s47 => dr (rf E a0 4) E 100 (fun x48 => ck (gi s47 a0 5) (ln E x48) (ck w32 (ln E x48) (ss (si s47 x48 w32.toNatClampNeg (gi s47 x48 (gi s47 a0 5).toNatClampNeg)) (fun s51 => some (v20, s51))))))) else (dr (rf E a0 0) E 100 (fun x52 => dr (rf E a0 4) E 100 (fun x53 => ck w32 (ln E x53) (bd (fX0_goesOn E a0 a1 v20 (gi s44 x53 w32.toNatClampNeg) s44) (fun r57 s55 => bd (if r57 = 0 then (some ((gi s55 a0 2), s55)) else (some (((gi s55 a0 2) - (1 : Int32)), s55))) (fun w58 s59 => ck v20 (ln E x52) (ss (si s59 x52 v20.toNatClampNeg w58) (fun s61 => ck w32 (ln E x53) (ss (si s61 x53 w32.toNatClampNeg v20) (fun s63 => lt (v20 + (1 : Int32)) (fun v64 => some (v64, s63))))))))))))) (fun w45 s46 => lt (v21 + (1 : Int32)) (fun v65 => rec w45 v65 s46))))))) else (some (.inr (), s33)))))
def fX0_growFrom (E : En) (a0 : Nat) (a1 : Nat) (a2 : Int32) (a3 : Int32) (σ : Sg) : Option (Sg) := tk (cd E a0) 0 (tk (cd E a1) 3 (kb a3 (ss (si σ a0 3 a3) (fun s2 => lt (imin (imin a2 (16 : Int32)) (gi s2 a1 2)) (fun v3 => ss (si s2 a0 5 (0 : Int32)) (fun s4 => bd (fx (fun rec a => bX0_growFrom_25 E v3 a0 (fun t => rec ((), t))  a.2) FU ((), s4)) (fun o17 s18 => ss (si s18 a0 2 (0 : Int32)) (fun s19 => bd (fx (fun rec a => bX0_growFrom_78 E a1 a0 (fun u0 u1 t => rec ((u0, u1), t)) a.1.1 a.1.2 a.2) FU ((v3, (0 : Int32)), s19)) (fun o66 s67 => sm o66 (fun vo66 => some s67) (fun rr => some s67))))))))))
def bX1_copyFrom_106 (E : En) (a0 : Nat) (a1 : Nat) (rec : Int32 → Sg → Option ((Int32) × Sg)) (v17 : Int32) (s18 : Sg) : Option ((Int32) × Sg) := if (gi s18 a0 7) ≤ v17 then (some (v17, s18)) else (dr (rf E a0 6) E 101 (fun x23 => dr (rf E a1 6) E 101 (fun x24 => ck v17 (ln E x24) (ck v17 (ln E x23) (ss (si s18 x23 v17.toNatClampNeg (vp_nar .boolean (gi s18 x24 v17.toNatClampNeg))) (fun s27 => lt (v17 + (1 : Int32)) (fun v28 => rec v28 s27)))))))
def bX1_copyFrom_134 (E : En) (a0 : Nat) (a1 : Nat) (rec : Int32 → Sg → Option ((Int32) × Sg)) (v31 : Int32) (s32 : Sg) : Option ((Int32) × Sg) := if (6 : Int32) ≤ v31 then (some (v31, s32)) else (dr (rf E a0 4) E 104 (fun x37 => ck v31 (ln E x37) (dr (rf E x37 v31.toNatClampNeg) E 5 (fun x39 => dr (rf E a1 4) E 104 (fun x40 => ck v31 (ln E x40) (dr (rf E x40 v31.toNatClampNeg) E 5 (fun x42 => bv (fX5_copyFrom E x39 x42 s32) (fun s43 => dr (rf E a0 10) E 101 (fun x45 => dr (rf E a1 10) E 101 (fun x46 => ck v31 (ln E x46) (ck v31 (ln E x45) (ss (si s43 x45 v31.toNatClampNeg (vp_nar .boolean (gi s43 x46 v31.toNatClampNeg))) (fun s49 => lt (v31 + (1 : Int32)) (fun v50 => rec v50 s49))))))))))))))
def fX1_copyFrom (E : En) (a0 : Nat) (a1 : Nat) (σ : Sg) : Option (Sg) := tk (cd E a0) 1 (tk (cd E a1) 1 (ss (si σ a0 0 (gi σ a1 0)) (fun s1 => ss (si s1 a0 1 (gi s1 a1 1)) (fun s2 => ss (si s2 a0 2 (gi s2 a1 2)) (fun s3 => kb (gi s3 a1 3) (ss (si s3 a0 3 (gi s3 a1 3)) (fun s5 => dr (rf E a0 5) E 100 (fun x6 => ss (si s5 a0 7 (imin (gi s5 a1 7) (nI (ln E x6)))) (fun s7 => ss (si s7 a0 8 (gi s7 a1 8)) (fun s8 => ss (si s8 a0 9 (gi s8 a1 9)) (fun s9 => kb (gi s9 a1 11) (ss (si s9 a0 11 (gi s9 a1 11)) (fun s11 => dr (rf E a1 5) E 100 (fun x12 => acp E s11 x12 (0 : Int32) x6 (0 : Int32) (gi s11 a0 7) (fun s13 => dr (rf E a1 12) E 100 (fun x14 => dr (rf E a0 12) E 100 (fun x15 => acp E s13 x14 (0 : Int32) x15 (0 : Int32) (6 : Int32) (fun s16 => bd (fx (fun rec a => bX1_copyFrom_106 E a0 a1 (fun u0 t => rec (u0, t)) a.1 a.2) FU ((0 : Int32), s16)) (fun o29 s30 => bd (fx (fun rec a => bX1_copyFrom_134 E a0 a1 (fun u0 t => rec (u0, t)) a.1 a.2) FU ((0 : Int32), s30)) (fun o51 s52 => some s52))))))))))))))))))))
def bX1_begin_47 (E : En) (a0 : Nat) (rec : Int32 → Sg → Option ((Int32) × Sg)) (v8 : Int32) (s9 : Sg) : Option ((Int32) × Sg) := if (6 : Int32) ≤ v8 then (some (v8, s9)) else (dr (rf E a0 4) E 104 (fun x14 => ck v8 (ln E x14) (dr (rf E x14 v8.toNatClampNeg) E 5 (fun x16 => bv (fX5_wipe E x16 s9) (fun s17 => dr (rf E a0 18) E 100 (fun x19 => ck v8 (ln E x19) (ss (si s17 x19 v8.toNatClampNeg (0 : Int32)) (fun s21 => lt (v8 + (1 : Int32)) (fun v22 => rec v22 s21)))))))))
def bX1_begin_81 (E : En) (a0 : Nat) (rec : Int32 → Sg → Option ((Int32) × Sg)) (v25 : Int32) (s26 : Sg) : Option ((Int32) × Sg) := if (6 : Int32) ≤ v25 then (some (v25, s26)) else (dr (rf E a0 12) E 100 (fun x31 => ck v25 (ln E x31) (ss (si s26 x31 v25.toNatClampNeg (0 : Int32)) (fun s33 => lt (v25 + (1 : Int32)) (fun v34 => rec v34 s33)))))
def fX1_begin (E : En) (a0 : Nat) (a1 : Int32) (a2 : Int32) (a3 : Int32) (σ : Sg) : Option (Sg) := tk (cd E a0) 1 (ss (si σ a0 0 a1) (fun s1 => ss (si s1 a0 1 (imax (3 : Int32) (imin a2 (6 : Int32)))) (fun s2 => ss (si s2 a0 2 ((gi s2 a0 1) / (2 : Int32))) (fun s3 => kb a3 (ss (si s3 a0 3 a3) (fun s5 => ss (si s5 a0 7 (0 : Int32)) (fun s6 => ss (si s6 a0 8 (0 : Int32)) (fun s7 => bd (fx (fun rec a => bX1_begin_47 E a0 (fun u0 t => rec (u0, t)) a.1 a.2) FU ((0 : Int32), s7)) (fun o23 s24 => bd (fx (fun rec a => bX1_begin_81 E a0 (fun u0 t => rec (u0, t)) a.1 a.2) FU ((0 : Int32), s24)) (fun o35 s36 => some s36))))))))))
def fX1_load (E : En) (a0 : Nat) (a1 : Int32) (a2 : Int32) (σ : Sg) : Option (Sg) := tk (cd E a0) 1 (dr (rf E a0 5) E 100 (fun x1 => bd (if (nI (ln E x1)) ≤ (gi σ a0 7) then (some ((), σ)) else (ck (gi σ a0 7) (ln E x1) (ss (si σ x1 (gi σ a0 7).toNatClampNeg a1) (fun s5 => dr (rf E a0 6) E 101 (fun x6 => ck (gi s5 a0 7) (ln E x6) (ss (si s5 x6 (gi s5 a0 7).toNatClampNeg (vp_nar .boolean a2)) (fun s8 => ss (si s8 a0 7 ((gi s8 a0 7) + (1 : Int32))) (fun s9 => some ((), s9))))))))) (fun w2 s3 => some s3)))
def bX1_dealByTurns_2 (E : En) (a0 : Nat) (rec : Int32 → Sg → Option ((Int32) × Sg)) (v1 : Int32) (s2 : Sg) : Option ((Int32) × Sg) := if (gi s2 a0 7) ≤ v1 then (some (v1, s2)) else (dr (rf E a0 4) E 104 (fun x7 => nz (gi s2 a0 2) (ck (im v1 (gi s2 a0 2)) (ln E x7) (dr (rf E x7 (im v1 (gi s2 a0 2)).toNatClampNeg) E 5 (fun x10 => bv (fX5_write E x10 v1 s2) (fun s11 => lt (v1 + (1 : Int32)) (fun v13 => rec v13 s11)))))))
def fX1_dealByTurns (E : En) (a0 : Nat) (σ : Sg) : Option (Sg) := tk (cd E a0) 1 (bd (fx (fun rec a => bX1_dealByTurns_2 E a0 (fun u0 t => rec (u0, t)) a.1 a.2) FU ((0 : Int32), σ)) (fun o14 s15 => ss (si s15 a0 8 (gi s15 a0 7)) (fun s16 => ss (si s16 a0 9 (gi s16 a0 2)) (fun s17 => dr (rf E a0 12) E 100 (fun x18 => ck (5 : Int32) (ln E x18) (ss (si s17 x18 (5 : Int32).toNatClampNeg (-1 : Int32)) (fun s20 => some s20)))))))
def bX1_firstPlace_2 (E : En) (a0 : Nat) (rec : Int32 → Sg → Option (((Int32) ⊕ Int32) × Sg)) (v1 : Int32) (s2 : Sg) : Option (((Int32) ⊕ Int32) × Sg) := if ((gi s2 a0 1) - (1 : Int32)) ≤ v1 then (some (.inl v1, s2)) else (dr (rf E a0 17) E 2 (fun x7 => dr (rf E x7 0) E 100 (fun x8 => ck v1 (ln E x8) (if (gi s2 x8 v1.toNatClampNeg) ≤ 0 then (lt (v1 + (1 : Int32)) (fun v10 => rec v10 s2)) else (some (.inr v1, s2))))))
def fX1_firstPlace (E : En) (a0 : Nat) (σ : Sg) : Option (Int32 × Sg) := tk (cd E a0) 1 (bd (fx (fun rec a => bX1_firstPlace_2 E a0 (fun u0 t => rec (u0, t)) a.1 a.2) FU ((0 : Int32), σ)) (fun o11 s12 => sm o11 (fun vo11 => some ((0 : Int32), s12)) (fun rr => some (rr, s12))))
def bX1_fewestBlanks_9 (E : En) (a0 : Nat) (rec : Int32 → Int32 → Sg → Option ((Int32 × Int32) × Sg)) (v5 : Int32) (v6 : Int32) (s7 : Sg) : Option ((Int32 × Int32) × Sg) := if ((gi s7 a0 1) - (1 : Int32)) ≤ v6 then (some ((v5, v6), s7)) else (dr (rf E a0 17) E 2 (fun x12 => dr (rf E x12 0) E 100 (fun x13 => ck v6 (ln E x13) (bd (if (gi s7 x13 v6.toNatClampNeg) ≤ 0 then (some (v5, s7)) else (dr (rf E a0 18) E 100 (fun x17 => ck v6 (ln E x17) (ck v5 (ln E x17) (if (gi s7 x17 v5.toNatClampNeg) ≤ (gi s7 x17 v6.toNatClampNeg) then (some (v5, s7)) else (some (v6, s7))))))) (fun w15 s16 => lt (v6 + (1 : Int32)) (fun v20 => rec w15 v20 s16))))))
def fX1_fewestBlanks (E : En) (a0 : Nat) (σ : Sg) : Option (Int32 × Sg) := tk (cd E a0) 1 (bd (fX1_firstPlace E a0 σ) (fun r3 s1 => lt (r3 + (1 : Int32)) (fun v4 => bd (fx (fun rec a => bX1_fewestBlanks_9 E a0 (fun u0 u1 t => rec ((u0, u1), t)) a.1.1 a.1.2 a.2) FU ((r3, v4), s1)) (fun o21 s22 => some (o21.1, s22)))))
def bX1_writeBlanks_14 (E : En) (a0 : Nat) (v1 : Int32) (rec : Int32 → Sg → Option ((Int32) × Sg)) (v7 : Int32) (s8 : Sg) : Option ((Int32) × Sg) := dr (rf E a0 18) E 100 (fun x13 => ck v1 (ln E x13) (if (gi s8 x13 v1.toNatClampNeg) ≤ v7 then (some (v7, s8)) else (dr (rf E a0 4) E 104 (fun x15 => ck v1 (ln E x15) (dr (rf E x15 v1.toNatClampNeg) E 5 (fun x17 => bv (fX5_write E x17 (-1 : Int32) s8) (fun s18 => lt (v7 + (1 : Int32)) (fun v20 => rec v20 s18))))))))
def bX1_writeBlanks_2 (E : En) (a0 : Nat) (rec : Int32 → Sg → Option ((Int32) × Sg)) (v1 : Int32) (s2 : Sg) : Option ((Int32) × Sg) := if ((gi s2 a0 1) - (1 : Int32)) ≤ v1 then (some (v1, s2)) else (bd (fx (fun rec a => bX1_writeBlanks_14 E a0 v1 (fun u0 t => rec (u0, t)) a.1 a.2) FU ((0 : Int32), s2)) (fun o21 s22 => lt (v1 + (1 : Int32)) (fun v23 => rec v23 s22)))
def fX1_writeBlanks (E : En) (a0 : Nat) (σ : Sg) : Option (Sg) := tk (cd E a0) 1 (bd (fx (fun rec a => bX1_writeBlanks_2 E a0 (fun u0 t => rec (u0, t)) a.1 a.2) FU ((0 : Int32), σ)) (fun o24 s25 => some s25))
def bX1_mostPlaces_4 (E : En) (a0 : Nat) (rec : Int32 → Int32 → Sg → Option ((Int32 × Int32) × Sg)) (v1 : Int32) (v2 : Int32) (s3 : Sg) : Option ((Int32 × Int32) × Sg) := if ((gi s3 a0 1) - (1 : Int32)) ≤ v2 then (some ((v1, v2), s3)) else (dr (rf E a0 17) E 2 (fun x8 => dr (rf E x8 0) E 100 (fun x9 => ck v2 (ln E x9) (ck v1 (ln E x9) (bd (if (gi s3 x9 v2.toNatClampNeg) ≤ (gi s3 x9 v1.toNatClampNeg) then (some (v1, s3)) else (some (v2, s3))) (fun w12 s13 => lt (v2 + (1 : Int32)) (fun v14 => rec w12 v14 s13)))))))
def fX1_mostPlaces (E : En) (a0 : Nat) (σ : Sg) : Option (Int32 × Sg) := tk (cd E a0) 1 (bd (fx (fun rec a => bX1_mostPlaces_4 E a0 (fun u0 u1 t => rec ((u0, u1), t)) a.1.1 a.1.2 a.2) FU (((0 : Int32), (1 : Int32)), σ)) (fun o15 s16 => some (o15.1, s16)))
def bX1_dealByNumbers_41 (E : En) (x6 : Nat) (a1 : Int32) (a0 : Nat) (x1 : Nat) (rec : Int32 → Sg → Option ((Int32) × Sg)) (v11 : Int32) (s12 : Sg) : Option ((Int32) × Sg) := ck (4 : Int32) (ln E x6) (if (gi s12 x6 (4 : Int32).toNatClampNeg) ≤ v11 then (some (v11, s12)) else (bd (if a1 = 0 then (bd (fX1_fewestBlanks E a0 s12) (fun r22 s20 => some (r22, s20))) else (bd (fX1_firstPlace E a0 s12) (fun r25 s23 => some (r25, s23)))) (fun w18 s19 => dr (rf E a0 18) E 100 (fun x26 => ck w18 (ln E x26) (ck w18 (ln E x26) (ss (si s19 x26 w18.toNatClampNeg ((gi s19 x26 w18.toNatClampNeg) + (1 : Int32))) (fun s29 => dr (rf E x1 0) E 100 (fun x30 => ck w18 (ln E x30) (ck w18 (ln E x30) (ss (si s29 x30 w18.toNatClampNeg ((gi s29 x30 w18.toNatClampNeg) - (1 : Int32))) (fun s33 => lt (v11 + (1 : Int32)) (fun v34 => rec v34 s33))))))))))))
def bX1_dealByNumbers_109 (E : En) (a0 : Nat) (x1 : Nat) (rec : Int32 → Sg → Option ((Int32) × Sg)) (v41 : Int32) (s42 : Sg) : Option ((Int32) × Sg) := if (gi s42 a0 7) ≤ v41 then (some (v41, s42)) else (bd (fX1_mostPlaces E a0 s42) (fun r49 s47 => dr (rf E a0 4) E 104 (fun x50 => ck r49 (ln E x50) (dr (rf E x50 r49.toNatClampNeg) E 5 (fun x52 => bv (fX5_write E x52 v41 s47) (fun s53 => dr (rf E x1 0) E 100 (fun x55 => ck r49 (ln E x55) (ck r49 (ln E x55) (ss (si s53 x55 r49.toNatClampNeg ((gi s53 x55 r49.toNatClampNeg) - (1 : Int32))) (fun s58 => lt (v41 + (1 : Int32)) (fun v59 => rec v59 s58)))))))))))
def fX1_dealByNumbers (E : En) (a0 : Nat) (a1 : Int32) (σ : Sg) : Option (Sg) := tk (cd E a0) 1 (dr (rf E a0 17) E 2 (fun x1 => bd (fX2_together E x1 σ) (fun r4 s2 => ss (si s2 a0 8 r4) (fun s5 => dr (rf E a0 12) E 100 (fun x6 => ck (5 : Int32) (ln E x6) (ss (si s5 x6 (5 : Int32).toNatClampNeg (gi s5 x1 2)) (fun s8 => ck (4 : Int32) (ln E x6) (ss (si s8 x6 (4 : Int32).toNatClampNeg ((gi s8 a0 8) - (gi s8 a0 7))) (fun s10 => bd (fx (fun rec a => bX1_dealByNumbers_41 E x6 a1 a0 x1 (fun u0 t => rec (u0, t)) a.1 a.2) FU ((0 : Int32), s10)) (fun o35 s36 => bd (if ¬ (gi s36 a0 3) = 0 then (some ((), s36)) else (bv (fX1_writeBlanks E a0 s36) (fun s39 => some ((), s39)))) (fun w37 s38 => bd (fx (fun rec a => bX1_dealByNumbers_109 E a0 x1 (fun u0 t => rec (u0, t)) a.1 a.2) FU ((0 : Int32), s38)) (fun o60 s61 => bd (if (gi s61 a0 3) = 0 then (some ((), s61)) else (bv (fX1_writeBlanks E a0 s61) (fun s64 => some ((), s64)))) (fun w62 s63 => ss (si s63 a0 9 ((gi s63 a0 1) - (1 : Int32))) (fun s66 => some s66))))))))))))))
def bX1_openPass_2 (E : En) (a0 : Nat) (rec : Int32 → Sg → Option ((Int32) × Sg)) (v1 : Int32) (s2 : Sg) : Option ((Int32) × Sg) := if (gi s2 a0 1) ≤ v1 then (some (v1, s2)) else (dr (rf E a0 10) E 101 (fun x7 => dr (rf E a0 4) E 104 (fun x8 => ck v1 (ln E x8) (dr (rf E x8 v1.toNatClampNeg) E 5 (fun x10 => bd (fX5_size E x10 s2) (fun r13 s11 => bd (if r13 ≤ 0 then (some ((0 : Int32), s11)) else (if v1 = (gi s11 a0 9) then (some ((0 : Int32), s11)) else (some ((1 : Int32), s11)))) (fun w14 s15 => ck v1 (ln E x7) (ss (si s15 x7 v1.toNatClampNeg (vp_nar .boolean w14)) (fun s17 => lt (v1 + (1 : Int32)) (fun v18 => rec v18 s17))))))))))
def fX1_openPass (E : En) (a0 : Nat) (σ : Sg) : Option (Sg) := tk (cd E a0) 1 (bd (fx (fun rec a => bX1_openPass_2 E a0 (fun u0 t => rec (u0, t)) a.1 a.2) FU ((0 : Int32), σ)) (fun o19 s20 => some s20))
def fX1_isDown (E : En) (a0 : Nat) (a1 : Int32) (σ : Sg) : Option (Int32 × Sg) := tk (cd E a0) 1 (bd (if a1 < 0 then (some ((0 : Int32), σ)) else (if (gi σ a0 7) ≤ a1 then (some ((0 : Int32), σ)) else (dr (rf E a0 6) E 101 (fun x3 => ck a1 (ln E x3) (if (gi σ x3 a1.toNatClampNeg) = 0 then (some ((0 : Int32), σ)) else (some ((1 : Int32), σ))))))) (fun w1 s2 => kb w1 (some (w1, s2))))
def bX1_turnLast_11 (E : En) (a0 : Nat) (rec : Int32 → Sg → Option ((Int32) × Sg)) (v1 : Int32) (s2 : Sg) : Option ((Int32) × Sg) := if (gi s2 a0 1) ≤ v1 then (some (v1, s2)) else (dr (rf E a0 4) E 104 (fun x7 => ck v1 (ln E x7) (dr (rf E x7 v1.toNatClampNeg) E 5 (fun x9 => bd (fX5_at E x9 (0 : Int32) (gi s2 a0 3) s2) (fun r12 s10 => bd (fX1_isDown E a0 r12 s10) (fun r15 s13 => bd (if r15 = 0 then (some ((), s13)) else (dr (rf E a0 12) E 100 (fun x18 => ck (3 : Int32) (ln E x18) (dr (rf E a0 5) E 100 (fun x20 => ck r12 (ln E x20) (ck (3 : Int32) (ln E x18) (ss (si s13 x18 (3 : Int32).toNatClampNeg ((gi s13 x18 (3 : Int32).toNatClampNeg) + (gi s13 x20 r12.toNatClampNeg))) (fun s23 => dr (rf E a0 6) E 101 (fun x24 => ck r12 (ln E x24) (ss (si s23 x24 r12.toNatClampNeg (vp_nar .boolean (0 : Int32))) (fun s26 => some ((), s26)))))))))))) (fun w16 s17 => lt (v1 + (1 : Int32)) (fun v27 => rec v27 s17))))))))
def fX1_turnLast (E : En) (a0 : Nat) (σ : Sg) : Option (Sg) := tk (cd E a0) 1 (if (gi σ a0 8) = (1 : Int32) then (bd (fx (fun rec a => bX1_turnLast_11 E a0 (fun u0 t => rec (u0, t)) a.1 a.2) FU ((0 : Int32), σ)) (fun o28 s29 => some s29)) else (some σ))
def fX1_layOut (E : En) (a0 : Nat) (a1 : Int32) (σ : Sg) : Option (Sg) := tk (cd E a0) 1 (bd (if ¬ (gi σ a0 0) = (1 : Int32) then (dr (rf E a0 17) E 2 (fun x3 => bv (fX2_climbFor E x3 (gi σ a0 7) (gi σ a0 0) ((gi σ a0 1) - (1 : Int32)) σ) (fun s4 => bv (fX1_dealByNumbers E a0 a1 s4) (fun s6 => some ((), s6))))) else (bv (fX1_dealByTurns E a0 σ) (fun s8 => some ((), s8)))) (fun w1 s2 => ss (si s2 a0 11 (1 : Int32)) (fun s10 => bv (fX1_openPass E a0 s10) (fun s11 => bv (fX1_turnLast E a0 s11) (fun s13 => some s13)))))
def fX1_gives (E : En) (a0 : Nat) (a1 : Int32) (σ : Sg) : Option (Int32 × Sg) := tk (cd E a0) 1 (dr (rf E a0 4) E 104 (fun x1 => ck a1 (ln E x1) (dr (rf E x1 a1.toNatClampNeg) E 5 (fun x3 => bd (fX5_size E x3 σ) (fun r6 s4 => if ¬ r6 = 0 then (if (gi s4 a0 0) = (0 : Int32) then (bd (if a1 = (gi s4 a0 9) then (some ((0 : Int32), s4)) else (some ((1 : Int32), s4))) (fun w8 s9 => kb w8 (some (w8, s9)))) else (if (gi s4 a0 0) = (1 : Int32) then (bd (if (gi s4 a0 2) ≤ a1 then (some ((0 : Int32), s4)) else (some ((1 : Int32), s4))) (fun w12 s13 => bd (if ¬ w12 = (gi s13 a0 11) then (some ((0 : Int32), s13)) else (some ((1 : Int32), s13))) (fun w14 s15 => kb w14 (some (w14, s15))))) else ((dr (rf E a0 10) E 101 (fun x17 => ck a1 (ln E x17) (kb (gi s4 x17 a1.toNatClampNeg) (some ((gi s4 x17 a1.toNatClampNeg), s4)))))))) else (some ((0 : Int32), s4)))))))
def bX1_look_7 (E : En) (a0 : Nat) (rec : Int32 → Sg → Option ((Int32) × Sg)) (v2 : Int32) (s3 : Sg) : Option ((Int32) × Sg) := if (gi s3 a0 1) ≤ v2 then (some (v2, s3)) else (dr (rf E a0 13) E 100 (fun x8 => bd (fX1_gives E a0 v2 s3) (fun r11 s9 => bd (if r11 = 0 then (some ((-2 : Int32), s9)) else (dr (rf E a0 4) E 104 (fun x14 => ck v2 (ln E x14) (dr (rf E x14 v2.toNatClampNeg) E 5 (fun x16 => bd (fX5_at E x16 (0 : Int32) (gi s9 a0 3) s9) (fun r19 s17 => some (r19, s17))))))) (fun w12 s13 => ck v2 (ln E x8) (ss (si s13 x8 v2.toNatClampNeg w12) (fun s21 => bd (if ¬ (gi s21 a0 14) = (-1 : Int32) then (some ((), s21)) else (ck v2 (ln E x8) (if (gi s21 x8 v2.toNatClampNeg) < 0 then (some ((), s21)) else (ck v2 (ln E x8) (ss (si s21 a0 14 (gi s21 x8 v2.toNatClampNeg)) (fun s26 => some ((), s26))))))) (fun w22 s23 => lt (v2 + (1 : Int32)) (fun v27 => rec v27 s23))))))))
def fX1_look (E : En) (a0 : Nat) (σ : Sg) : Option (Sg) := tk (cd E a0) 1 (ss (si σ a0 14 (-1 : Int32)) (fun s1 => bd (fx (fun rec a => bX1_look_7 E a0 (fun u0 t => rec (u0, t)) a.1 a.2) FU ((0 : Int32), s1)) (fun o28 s29 => bd (if (gi s29 a0 3) = 0 then (some ((0 : Int32), s29)) else (if (gi s29 a0 14) = (-1 : Int32) then (some ((0 : Int32), s29)) else (bd (fX1_isDown E a0 (gi s29 a0 14) s29) (fun r34 s32 => if ¬ r34 = 0 then (some ((0 : Int32), s32)) else (some ((1 : Int32), s32)))))) (fun w30 s31 => kb w30 (ss (si s31 a0 15 w30) (fun s36 => some s36))))))
def fX1_sizeOf (E : En) (a0 : Nat) (a1 : Int32) (σ : Sg) : Option (Int32 × Sg) := tk (cd E a0) 1 (bd (if a1 < 0 then (some ((0 : Int32), σ)) else (if (gi σ a0 7) ≤ a1 then (some ((0 : Int32), σ)) else (dr (rf E a0 5) E 100 (fun x3 => ck a1 (ln E x3) (some ((gi σ x3 a1.toNatClampNeg), σ)))))) (fun w1 s2 => some (w1, s2)))
def bX1_givers_4 (E : En) (a0 : Nat) (rec : Int32 → Int32 → Sg → Option ((Int32 × Int32) × Sg)) (v1 : Int32) (v2 : Int32) (s3 : Sg) : Option ((Int32 × Int32) × Sg) := if (gi s3 a0 1) ≤ v2 then (some ((v1, v2), s3)) else (bd (fX1_gives E a0 v2 s3) (fun r10 s8 => bd (if r10 = 0 then (some (v1, s8)) else (lt (v1 + (1 : Int32)) (fun v13 => some (v13, s8)))) (fun w11 s12 => lt (v2 + (1 : Int32)) (fun v14 => rec w11 v14 s12))))
def fX1_givers (E : En) (a0 : Nat) (σ : Sg) : Option (Int32 × Sg) := tk (cd E a0) 1 (bd (fx (fun rec a => bX1_givers_4 E a0 (fun u0 u1 t => rec ((u0, u1), t)) a.1.1 a.1.2 a.2) FU (((0 : Int32), (0 : Int32)), σ)) (fun o15 s16 => some (o15.1, s16)))
def fX1_firstToWrite (E : En) (a0 : Nat) (σ : Sg) : Option (Int32 × Sg) := tk (cd E a0) 1 (bd (if (gi σ a0 11) = 0 then (some ((0 : Int32), σ)) else (some ((gi σ a0 2), σ))) (fun w1 s2 => some (w1, s2)))
def fX1_endBalancedPhase (E : En) (a0 : Nat) (σ : Sg) : Option (Sg) := tk (cd E a0) 1 (bd (fX1_givers E a0 σ) (fun r3 s1 => if ¬ r3 = 0 then (bd (if (gi s1 a0 11) = 0 then (some (((gi s1 a0 2) - (1 : Int32)), s1)) else (some (((gi s1 a0 1) - (1 : Int32)), s1))) (fun w4 s5 => bd (if (gi s5 a0 9) < w4 then (some (((gi s5 a0 9) + (1 : Int32)), s5)) else (bd (fX1_firstToWrite E a0 s5) (fun r10 s8 => some (r10, s8)))) (fun w6 s7 => ss (si s7 a0 9 w6) (fun s11 => some s11)))) else (dr (rf E a0 12) E 100 (fun x12 => ck (2 : Int32) (ln E x12) (ck (2 : Int32) (ln E x12) (ss (si s1 x12 (2 : Int32).toNatClampNeg ((gi s1 x12 (2 : Int32).toNatClampNeg) + (1 : Int32))) (fun s15 => bd (if ¬ (gi s15 a0 11) = 0 then (some ((0 : Int32), s15)) else (some ((1 : Int32), s15))) (fun w16 s17 => kb w16 (ss (si s17 a0 11 w16) (fun s19 => bd (fX1_firstToWrite E a0 s19) (fun r22 s20 => ss (si s20 a0 9 r22) (fun s23 => some s23))))))))))))
def bX1_emptiedTape_2 (E : En) (a0 : Nat) (rec : Int32 → Sg → Option (((Int32) ⊕ Int32) × Sg)) (v1 : Int32) (s2 : Sg) : Option (((Int32) ⊕ Int32) × Sg) := if (gi s2 a0 1) ≤ v1 then (some (.inl v1, s2)) else (dr (rf E a0 13) E 100 (fun x7 => ck v1 (ln E x7) (if (gi s2 x7 v1.toNatClampNeg) = (-2 : Int32) then (lt (v1 + (1 : Int32)) (fun v9 => rec v9 s2)) else (dr (rf E a0 4) E 104 (fun x10 => ck v1 (ln E x10) (dr (rf E x10 v1.toNatClampNeg) E 5 (fun x12 => bd (fX5_size E x12 s2) (fun r15 s13 => if ¬ r15 = 0 then (lt (v1 + (1 : Int32)) (fun v16 => rec v16 s13)) else (some (.inr v1, s13))))))))))
def fX1_emptiedTape (E : En) (a0 : Nat) (σ : Sg) : Option (Int32 × Sg) := tk (cd E a0) 1 (bd (fx (fun rec a => bX1_emptiedTape_2 E a0 (fun u0 t => rec (u0, t)) a.1 a.2) FU ((0 : Int32), σ)) (fun o17 s18 => sm o17 (fun vo17 => some ((-1 : Int32), s18)) (fun rr => some (rr, s18))))
def fX1_endNumberedPhase (E : En) (a0 : Nat) (σ : Sg) : Option (Sg) := tk (cd E a0) 1 (bd (fX1_emptiedTape E a0 σ) (fun r3 s1 => if ¬ r3 = (-1 : Int32) then (dr (rf E a0 12) E 100 (fun x4 => ck (2 : Int32) (ln E x4) (ck (2 : Int32) (ln E x4) (ss (si s1 x4 (2 : Int32).toNatClampNeg ((gi s1 x4 (2 : Int32).toNatClampNeg) + (1 : Int32))) (fun s7 => ss (si s7 a0 9 r3) (fun s8 => bd (if ¬ (gi s8 a0 0) = (2 : Int32) then (some ((), s8)) else (dr (rf E a0 10) E 101 (fun x11 => ck r3 (ln E x11) (ss (si s8 x11 r3.toNatClampNeg (vp_nar .boolean (0 : Int32))) (fun s13 => bd (fX1_givers E a0 s13) (fun r16 s14 => if (2 : Int32) ≤ r16 then (some ((), s14)) else (bv (fX1_openPass E a0 s14) (fun s17 => some ((), s17))))))))) (fun w9 s10 => some s10))))))) else (some s1)))
def bX1_advance_32 (E : En) (a0 : Nat) (w3 : Int32) (rec : Int32 → Int32 → Sg → Option ((Int32 × Int32) × Sg)) (v8 : Int32) (v9 : Int32) (s10 : Sg) : Option ((Int32 × Int32) × Sg) := if (gi s10 a0 1) ≤ v9 then (some ((v8, v9), s10)) else (dr (rf E a0 13) E 100 (fun x15 => ck v9 (ln E x15) (bd (if ¬ (gi s10 x15 v9.toNatClampNeg) = (-2 : Int32) then (dr (rf E a0 4) E 104 (fun x19 => ck v9 (ln E x19) (dr (rf E x19 v9.toNatClampNeg) E 5 (fun x21 => bv (fX5_drop E x21 (gi s10 a0 3) s10) (fun s22 => ss (si s22 a0 8 ((gi s22 a0 8) - (1 : Int32))) (fun s24 => ck v9 (ln E x15) (bd (fX1_sizeOf E a0 (gi s24 x15 v9.toNatClampNeg) s24) (fun r28 s26 => lt (v8 + r28) (fun v29 => ck v9 (ln E x15) (bd (fX1_isDown E a0 (gi s26 x15 v9.toNatClampNeg) s26) (fun r33 s31 => if r33 = w3 then (some (v29, s31)) else (dr (rf E a0 12) E 100 (fun x34 => ck (3 : Int32) (ln E x34) (ck v9 (ln E x15) (bd (fX1_sizeOf E a0 (gi s31 x15 v9.toNatClampNeg) s31) (fun r39 s37 => ck (3 : Int32) (ln E x34) (ss (si s37 x34 (3 : Int32).toNatClampNeg ((gi s31 x34 (3 : Int32).toNatClampNeg) + r39)) (fun s41 => some (v29, s41))))))))))))))))))) else (some (v8, s10))) (fun w17 s18 => lt (v9 + (1 : Int32)) (fun v42 => rec w17 v42 s18)))))
def fX1_advance (E : En) (a0 : Nat) (σ : Sg) : Option (Sg) := tk (cd E a0) 1 (bv (fX1_look E a0 σ) (fun s1 => bd (if (gi s1 a0 3) = 0 then (some ((0 : Int32), s1)) else (bd (fX1_isDown E a0 (gi s1 a0 14) s1) (fun r7 s5 => if r7 = 0 then (some ((0 : Int32), s5)) else (some ((1 : Int32), s5))))) (fun w3 s4 => bd (fx (fun rec a => bX1_advance_32 E a0 w3 (fun u0 u1 t => rec ((u0, u1), t)) a.1.1 a.1.2 a.2) FU (((0 : Int32), (0 : Int32)), s4)) (fun o43 s44 => ss (si s44 a0 16 (gi s44 a0 14)) (fun s45 => bd (if (gi s45 a0 16) = (-1 : Int32) then (some ((), s45)) else (dr (rf E a0 5) E 100 (fun x48 => ck (gi s45 a0 16) (ln E x48) (ss (si s45 x48 (gi s45 a0 16).toNatClampNeg o43.1) (fun s50 => dr (rf E a0 6) E 101 (fun x51 => ck (gi s50 a0 16) (ln E x51) (ss (si s50 x51 (gi s50 a0 16).toNatClampNeg (vp_nar .boolean (gi s50 a0 15))) (fun s53 => some ((), s53))))))))) (fun w46 s47 => dr (rf E a0 4) E 104 (fun x54 => ck (gi s47 a0 9) (ln E x54) (dr (rf E x54 (gi s47 a0 9).toNatClampNeg) E 5 (fun x56 => bv (fX5_write E x56 (gi s47 a0 16) s47) (fun s57 => ss (si s57 a0 8 ((gi s57 a0 8) + (1 : Int32))) (fun s59 => dr (rf E a0 12) E 100 (fun x60 => ck (0 : Int32) (ln E x60) (ck (0 : Int32) (ln E x60) (ss (si s59 x60 (0 : Int32).toNatClampNeg ((gi s59 x60 (0 : Int32).toNatClampNeg) + o43.1)) (fun s63 => ck (1 : Int32) (ln E x60) (ck (1 : Int32) (ln E x60) (ss (si s63 x60 (1 : Int32).toNatClampNeg ((gi s63 x60 (1 : Int32).toNatClampNeg) + (1 : Int32))) (fun s66 => bd (if ¬ (gi s66 a0 0) = (1 : Int32) then (bv (fX1_endNumberedPhase E a0 s66) (fun s69 => some ((), s69))) else (bv (fX1_endBalancedPhase E a0 s66) (fun s71 => some ((), s71)))) (fun w67 s68 => bv (fX1_turnLast E a0 s68) (fun s73 => some s73))))))))))))))))))))
def bX1_mergeAll_2 (E : En) (a0 : Nat) (rec : Int32 → Sg → Option ((Int32) × Sg)) (v1 : Int32) (s2 : Sg) : Option ((Int32) × Sg) := if (100000 : Int32) ≤ v1 then (some (v1, s2)) else (if (gi s2 a0 8) ≤ (1 : Int32) then (some (v1, s2)) else (bv (fX1_advance E a0 s2) (fun s7 => lt (v1 + (1 : Int32)) (fun v9 => rec v9 s7))))
def fX1_mergeAll (E : En) (a0 : Nat) (σ : Sg) : Option (Sg) := tk (cd E a0) 1 (bd (fx (fun rec a => bX1_mergeAll_2 E a0 (fun u0 t => rec (u0, t)) a.1 a.2) FU ((0 : Int32), σ)) (fun o10 s11 => some s11))
def bX1_recordsOn_4 (E : En) (a0 : Nat) (a1 : Int32) (rec : Int32 → Int32 → Sg → Option ((Int32 × Int32) × Sg)) (v1 : Int32) (v2 : Int32) (s3 : Sg) : Option ((Int32 × Int32) × Sg) := dr (rf E a0 4) E 104 (fun x8 => ck a1 (ln E x8) (dr (rf E x8 a1.toNatClampNeg) E 5 (fun x10 => bd (fX5_size E x10 s3) (fun r13 s11 => if r13 ≤ v2 then (some ((v1, v2), s11)) else (ck a1 (ln E x8) (dr (rf E x8 a1.toNatClampNeg) E 5 (fun x15 => bd (fX5_at E x15 v2 (gi s11 a0 3) s11) (fun r18 s16 => bd (fX1_sizeOf E a0 r18 s16) (fun r21 s19 => lt (v1 + r21) (fun v22 => lt (v2 + (1 : Int32)) (fun v23 => rec v22 v23 s19)))))))))))
def fX1_recordsOn (E : En) (a0 : Nat) (a1 : Int32) (σ : Sg) : Option (Int32 × Sg) := tk (cd E a0) 1 (bd (fx (fun rec a => bX1_recordsOn_4 E a0 a1 (fun u0 u1 t => rec ((u0, u1), t)) a.1.1 a.1.2 a.2) FU (((0 : Int32), (0 : Int32)), σ)) (fun o24 s25 => some (o24.1, s25)))
def bX1_takenFrom_2 (E : En) (a0 : Nat) (a1 : Int32) (rec : Int32 → Sg → Option (((Int32) ⊕ Int32) × Sg)) (v1 : Int32) (s2 : Sg) : Option (((Int32) ⊕ Int32) × Sg) := if (gi s2 a0 1) ≤ v1 then (some (.inl v1, s2)) else (if a1 < 0 then (lt (v1 + (1 : Int32)) (fun v7 => rec v7 s2)) else (dr (rf E a0 13) E 100 (fun x8 => ck v1 (ln E x8) (if ¬ (gi s2 x8 v1.toNatClampNeg) = a1 then (lt (v1 + (1 : Int32)) (fun v10 => rec v10 s2)) else (some (.inr v1, s2))))))
def fX1_takenFrom (E : En) (a0 : Nat) (a1 : Int32) (σ : Sg) : Option (Int32 × Sg) := tk (cd E a0) 1 (bd (fx (fun rec a => bX1_takenFrom_2 E a0 a1 (fun u0 t => rec (u0, t)) a.1 a.2) FU ((0 : Int32), σ)) (fun o11 s12 => sm o11 (fun vo11 => some ((-1 : Int32), s12)) (fun rr => some (rr, s12))))
def bX1_blocksTaken_4 (E : En) (a0 : Nat) (a1 : Int32) (rec : Int32 → Int32 → Sg → Option ((Int32 × Int32) × Sg)) (v1 : Int32) (v2 : Int32) (s3 : Sg) : Option ((Int32 × Int32) × Sg) := if (gi s3 a0 1) ≤ v2 then (some ((v1, v2), s3)) else (dr (rf E a0 13) E 100 (fun x8 => ck v2 (ln E x8) (bd (if (gi s3 x8 v2.toNatClampNeg) < 0 then (some (v1, s3)) else (if a1 ≤ 0 then (some (v1, s3)) else (ck v2 (ln E x8) (bd (fX1_sizeOf E a0 (gi s3 x8 v2.toNatClampNeg) s3) (fun r15 s13 => nz a1 (lt (v1 + (((r15 + a1) - (1 : Int32)) / a1)) (fun v17 => some (v17, s13)))))))) (fun w10 s11 => lt (v2 + (1 : Int32)) (fun v18 => rec w10 v18 s11)))))
def fX1_blocksTaken (E : En) (a0 : Nat) (a1 : Int32) (σ : Sg) : Option (Int32 × Sg) := tk (cd E a0) 1 (bd (fx (fun rec a => bX1_blocksTaken_4 E a0 a1 (fun u0 u1 t => rec ((u0, u1), t)) a.1.1 a.1.2 a.2) FU (((0 : Int32), (0 : Int32)), σ)) (fun o19 s20 => some (o19.1, s20)))
def bX1_stand_4 (E : En) (a0 : Nat) (rec : Int64 → Int32 → Sg → Option ((Int64 × Int32) × Sg)) (v1 : Int64) (v2 : Int32) (s3 : Sg) : Option ((Int64 × Int32) × Sg) := if (gi s3 a0 1) ≤ v2 then (some ((v1, v2), s3)) else (dr (rf E a0 4) E 104 (fun x8 => ck v2 (ln E x8) (dr (rf E x8 v2.toNatClampNeg) E 5 (fun x10 => bd (fX5_size E x10 s3) (fun r13 s11 => lt ((v1 * (1024 : Int64)) + (r13.toInt64)) (fun v14 => lt (v2 + (1 : Int32)) (fun v15 => rec v14 v15 s11)))))))
def fX1_stand (E : En) (a0 : Nat) (σ : Sg) : Option (Int64 × Sg) := tk (cd E a0) 1 (bd (fx (fun rec a => bX1_stand_4 E a0 (fun u0 u1 t => rec ((u0, u1), t)) a.1.1 a.1.2 a.2) FU (((0 : Int64), (0 : Int32)), σ)) (fun o16 s17 => some (o16.1, s17)))
def fX4_copyFrom (E : En) (a0 : Nat) (a1 : Nat) (σ : Sg) : Option (Sg) := tk (cd E a0) 4 (tk (cd E a1) 4 (dr (rf E a0 0) E 3 (fun x1 => dr (rf E a1 0) E 3 (fun x2 => bv (fX3_copyFrom E x1 x2 σ) (fun s3 => dr (rf E a1 1) E 100 (fun x5 => dr (rf E a0 1) E 100 (fun x6 => acp E s3 x5 (0 : Int32) x6 (0 : Int32) (6 : Int32) (fun s7 => ss (si s7 a0 2 (gi s7 a1 2)) (fun s8 => bd (if (gi s8 a0 2) < (1 : Int32) then (some ((), s8)) else (dr (rf E a0 3) E 0 (fun x11 => dr (rf E a1 3) E 0 (fun x12 => bv (fX0_copyFrom E x11 x12 (gi s8 x1 2) s8) (fun s13 => some ((), s13)))))) (fun w9 s10 => bd (if (gi s10 a0 2) < (2 : Int32) then (some ((), s10)) else (dr (rf E a0 4) E 1 (fun x17 => dr (rf E a1 4) E 1 (fun x18 => bv (fX1_copyFrom E x17 x18 s10) (fun s19 => dr (rf E a1 5) E 100 (fun x21 => dr (rf E a0 5) E 100 (fun x22 => dr (rf E a0 3) E 0 (fun x23 => acp E s19 x21 (0 : Int32) x22 (0 : Int32) (gi s19 x23 2) (fun s24 => some ((), s24)))))))))) (fun w15 s16 => some s16)))))))))))
def fX4_growRuns (E : En) (a0 : Nat) (σ : Sg) : Option (Sg) := tk (cd E a0) 4 (dr (rf E a0 3) E 0 (fun x1 => dr (rf E a0 0) E 3 (fun x2 => dr (rf E a0 1) E 100 (fun x3 => ck (0 : Int32) (ln E x3) (ck (5 : Int32) (ln E x3) (bd (if ¬ (gi σ x3 (5 : Int32).toNatClampNeg) = (1 : Int32) then (some ((0 : Int32), σ)) else (some ((1 : Int32), σ))) (fun w6 s7 => bv (fX0_growFrom E x1 x2 (gi σ x3 (0 : Int32).toNatClampNeg) w6 s7) (fun s8 => ss (si s8 a0 2 (1 : Int32)) (fun s10 => some s10)))))))))
def bX4_layRuns_2 (E : En) (a0 : Nat) (a1 : Nat) (rec : Int32 → Sg → Option ((Int32) × Sg)) (v1 : Int32) (s2 : Sg) : Option ((Int32) × Sg) := dr (rf E a0 3) E 0 (fun x7 => if (gi s2 x7 2) ≤ v1 then (some (v1, s2)) else (dr (rf E x7 1) E 100 (fun x8 => ck v1 (ln E x8) (bd (fX0_falls E x7 v1 s2) (fun r12 s10 => bv (fX1_load E a1 (gi s2 x8 v1.toNatClampNeg) r12 s10) (fun s13 => lt (v1 + (1 : Int32)) (fun v15 => rec v15 s13)))))))
def fX4_layRuns (E : En) (a0 : Nat) (a1 : Nat) (σ : Sg) : Option (Sg) := tk (cd E a0) 4 (tk (cd E a1) 1 (bd (fx (fun rec a => bX4_layRuns_2 E a0 a1 (fun u0 t => rec (u0, t)) a.1 a.2) FU ((0 : Int32), σ)) (fun o16 s17 => dr (rf E a0 1) E 100 (fun x18 => ck (3 : Int32) (ln E x18) (bd (if ¬ (gi s17 x18 (3 : Int32).toNatClampNeg) = (1 : Int32) then (some ((0 : Int32), s17)) else (some ((1 : Int32), s17))) (fun w20 s21 => bv (fX1_layOut E a1 w20 s21) (fun s22 => some s22)))))))
def bX4_spreadRuns_44 (E : En) (a0 : Nat) (rec : Int32 → Sg → Option ((Int32) × Sg)) (v12 : Int32) (s13 : Sg) : Option ((Int32) × Sg) := dr (rf E a0 3) E 0 (fun x18 => if (gi s13 x18 2) ≤ v12 then (some (v12, s13)) else (dr (rf E a0 5) E 100 (fun x19 => ck v12 (ln E x19) (ss (si s13 x19 v12.toNatClampNeg v12) (fun s21 => lt (v12 + (1 : Int32)) (fun v22 => rec v22 s21))))))
def fX4_spreadRuns (E : En) (a0 : Nat) (σ : Sg) : Option (Sg) := tk (cd E a0) 4 (dr (rf E a0 4) E 1 (fun x1 => dr (rf E a0 1) E 100 (fun x2 => ck (2 : Int32) (ln E x2) (ck (1 : Int32) (ln E x2) (ck (4 : Int32) (ln E x2) (bd (if ¬ (gi σ x2 (4 : Int32).toNatClampNeg) = (1 : Int32) then (some ((0 : Int32), σ)) else (some ((1 : Int32), σ))) (fun w6 s7 => bv (fX1_begin E x1 (gi σ x2 (2 : Int32).toNatClampNeg) (gi σ x2 (1 : Int32).toNatClampNeg) w6 s7) (fun s8 => bv (fX4_layRuns E a0 x1 s8) (fun s10 => bd (fx (fun rec a => bX4_spreadRuns_44 E a0 (fun u0 t => rec (u0, t)) a.1 a.2) FU ((0 : Int32), s10)) (fun o23 s24 => bd (if (gi s24 x1 8) ≤ (1 : Int32) then (some ((3 : Int32), s24)) else (some ((2 : Int32), s24))) (fun w25 s26 => ss (si s26 a0 2 w25) (fun s27 => some s27))))))))))))
def bX4_mergeOnce_9 (E : En) (a0 : Nat) (x1 : Nat) (rec : Int32 → Sg → Option ((Int32) × Sg)) (v4 : Int32) (s5 : Sg) : Option ((Int32) × Sg) := dr (rf E a0 3) E 0 (fun x10 => if (gi s5 x10 2) ≤ v4 then (some (v4, s5)) else (dr (rf E a0 5) E 100 (fun x11 => ck v4 (ln E x11) (bd (fX1_takenFrom E x1 (gi s5 x11 v4.toNatClampNeg) s5) (fun r15 s13 => bd (if r15 = (-1 : Int32) then (some ((), s13)) else (ck v4 (ln E x11) (ss (si s13 x11 v4.toNatClampNeg (gi s13 x1 16)) (fun s19 => some ((), s19))))) (fun w16 s17 => lt (v4 + (1 : Int32)) (fun v20 => rec v20 s17)))))))
def fX4_mergeOnce (E : En) (a0 : Nat) (σ : Sg) : Option (Sg) := tk (cd E a0) 4 (dr (rf E a0 4) E 1 (fun x1 => bv (fX1_advance E x1 σ) (fun s2 => bd (fx (fun rec a => bX4_mergeOnce_9 E a0 x1 (fun u0 t => rec (u0, t)) a.1 a.2) FU ((0 : Int32), s2)) (fun o21 s22 => bd (if (1 : Int32) < (gi s22 x1 8) then (some ((), s22)) else (ss (si s22 a0 2 (3 : Int32)) (fun s25 => some ((), s25)))) (fun w23 s24 => some s24)))))
def bX4_grownRecord_5 (E : En) (a0 : Nat) (a1 : Int32) (a2 : Int32) (rec : Int32 → Int32 → Sg → Option (((Int32 × Int32) ⊕ Int32) × Sg)) (v1 : Int32) (v2 : Int32) (s3 : Sg) : Option (((Int32 × Int32) ⊕ Int32) × Sg) := dr (rf E a0 0) E 3 (fun x8 => if (gi s3 x8 2) ≤ v2 then (some (.inl (v1, v2), s3)) else (dr (rf E a0 3) E 0 (fun x9 => bd (fX0_falls E x9 a1 s3) (fun r12 s10 => bd (fX3_ranked E x8 v2 r12 s10) (fun r15 s13 => dr (rf E x9 0) E 100 (fun x16 => ck r15 (ln E x16) (if ¬ (gi s13 x16 r15.toNatClampNeg) = a1 then (lt (v2 + (1 : Int32)) (fun v18 => rec v1 v18 s13)) else (if ¬ v1 = a2 then (lt (v1 + (1 : Int32)) (fun v19 => lt (v2 + (1 : Int32)) (fun v20 => rec v19 v20 s13))) else (some (.inr r15, s13))))))))))
def fX4_grownRecord (E : En) (a0 : Nat) (a1 : Int32) (a2 : Int32) (σ : Sg) : Option (Int32 × Sg) := tk (cd E a0) 4 (bd (fx (fun rec a => bX4_grownRecord_5 E a0 a1 a2 (fun u0 u1 t => rec ((u0, u1), t)) a.1.1 a.1.2 a.2) FU (((0 : Int32), (0 : Int32)), σ)) (fun o21 s22 => sm o21 (fun vo21 => some ((-3 : Int32), s22)) (fun rr => some (rr, s22))))
def bX4_tapeRecord_5 (E : En) (a0 : Nat) (a1 : Int32) (a2 : Int32) (rec : Int32 → Int32 → Sg → Option (((Int32 × Int32) ⊕ Int32) × Sg)) (v1 : Int32) (v2 : Int32) (s3 : Sg) : Option (((Int32 × Int32) ⊕ Int32) × Sg) := dr (rf E a0 0) E 3 (fun x8 => if (gi s3 x8 2) ≤ v2 then (some (.inl (v1, v2), s3)) else (dr (rf E a0 4) E 1 (fun x9 => bd (fX1_isDown E x9 a1 s3) (fun r12 s10 => bd (fX3_ranked E x8 v2 r12 s10) (fun r15 s13 => dr (rf E a0 5) E 100 (fun x16 => dr (rf E a0 3) E 0 (fun x17 => dr (rf E x17 0) E 100 (fun x18 => ck r15 (ln E x18) (ck (gi s13 x18 r15.toNatClampNeg) (ln E x16) (if ¬ (gi s13 x16 (gi s13 x18 r15.toNatClampNeg).toNatClampNeg) = a1 then (lt (v2 + (1 : Int32)) (fun v21 => rec v1 v21 s13)) else (if ¬ v1 = a2 then (lt (v1 + (1 : Int32)) (fun v22 => lt (v2 + (1 : Int32)) (fun v23 => rec v22 v23 s13))) else (some (.inr r15, s13)))))))))))))
def fX4_tapeRecord (E : En) (a0 : Nat) (a1 : Int32) (a2 : Int32) (σ : Sg) : Option (Int32 × Sg) := tk (cd E a0) 4 (bd (fx (fun rec a => bX4_tapeRecord_5 E a0 a1 a2 (fun u0 u1 t => rec ((u0, u1), t)) a.1.1 a.1.2 a.2) FU (((0 : Int32), (0 : Int32)), σ)) (fun o24 s25 => sm o24 (fun vo24 => some ((-3 : Int32), s25)) (fun rr => some (rr, s25))))
def fX4_isFetchedBehindNext (E : En) (a0 : Nat) (a1 : Int32) (a2 : Int32) (σ : Sg) : Option (Int32 × Sg) := tk (cd E a0) 4 (dr (rf E a0 6) E 100 (fun x1 => ck a1 (ln E x1) (ck a1 (ln E x1) (ss (si σ x1 a1.toNatClampNeg ((gi σ x1 a1.toNatClampNeg) + (1 : Int32))) (fun s4 => bd (if a2 ≤ 0 then (some ((0 : Int32), s4)) else (ck a1 (ln E x1) (nz a2 (if ¬ (im (gi s4 x1 a1.toNatClampNeg) a2) = 0 then (some ((0 : Int32), s4)) else (ck a1 (ln E x1) (dr (rf E a0 4) E 1 (fun x10 => dr (rf E x10 13) E 100 (fun x11 => ck a1 (ln E x11) (bd (fX1_sizeOf E x10 (gi s4 x11 a1.toNatClampNeg) s4) (fun r15 s13 => if r15 ≤ (gi s4 x1 a1.toNatClampNeg) then (some ((0 : Int32), s13)) else (some ((1 : Int32), s13)))))))))))) (fun w5 s6 => kb w5 (some (w5, s6))))))))
def bX4_fetchedTape_9 (E : En) (a0 : Nat) (rec : Int32 → Sg → Option ((Int32) × Sg)) (v4 : Int32) (s5 : Sg) : Option ((Int32) × Sg) := if (6 : Int32) ≤ v4 then (some (v4, s5)) else (dr (rf E a0 6) E 100 (fun x10 => ck v4 (ln E x10) (ss (si s5 x10 v4.toNatClampNeg (0 : Int32)) (fun s12 => lt (v4 + (1 : Int32)) (fun v13 => rec v13 s12)))))
def bX4_fetchedTape_33 (E : En) (a0 : Nat) (x1 : Nat) (a1 : Int32) (a2 : Int32) (rec : Int32 → Int32 → Sg → Option (((Int32 × Int32) ⊕ Int32) × Sg)) (v16 : Int32) (v17 : Int32) (s18 : Sg) : Option (((Int32 × Int32) ⊕ Int32) × Sg) := dr (rf E a0 0) E 3 (fun x23 => if (gi s18 x23 2) ≤ v17 then (some (.inl (v16, v17), s18)) else (bd (fX3_ranked E x23 v17 (gi s18 x1 15) s18) (fun r26 s24 => dr (rf E a0 5) E 100 (fun x27 => dr (rf E a0 3) E 0 (fun x28 => dr (rf E x28 0) E 100 (fun x29 => ck r26 (ln E x29) (ck (gi s24 x29 r26.toNatClampNeg) (ln E x27) (bd (fX1_takenFrom E x1 (gi s24 x27 (gi s24 x29 r26.toNatClampNeg).toNatClampNeg) s24) (fun r34 s32 => if r34 = (-1 : Int32) then (lt (v17 + (1 : Int32)) (fun v35 => rec v16 v35 s32)) else (bd (fX4_isFetchedBehindNext E a0 r34 a1 s32) (fun r38 s36 => if r38 = 0 then (lt (v17 + (1 : Int32)) (fun v39 => rec v16 v39 s36)) else (if ¬ v16 = a2 then (lt (v16 + (1 : Int32)) (fun v40 => lt (v17 + (1 : Int32)) (fun v41 => rec v40 v41 s36))) else (some (.inr r34, s36))))))))))))))
def fX4_fetchedTape (E : En) (a0 : Nat) (a1 : Int32) (a2 : Int32) (σ : Sg) : Option (Int32 × Sg) := tk (cd E a0) 4 (dr (rf E a0 4) E 1 (fun x1 => bv (fX1_look E x1 σ) (fun s2 => bd (fx (fun rec a => bX4_fetchedTape_9 E a0 (fun u0 t => rec (u0, t)) a.1 a.2) FU ((0 : Int32), s2)) (fun o14 s15 => bd (fx (fun rec a => bX4_fetchedTape_33 E a0 x1 a1 a2 (fun u0 u1 t => rec ((u0, u1), t)) a.1.1 a.1.2 a.2) FU (((0 : Int32), (0 : Int32)), s15)) (fun o42 s43 => sm o42 (fun vo42 => bd (if ¬ a2 = (-1 : Int32) then (some ((-2 : Int32), s43)) else (some (vo42.1, s43))) (fun w44 s45 => some (w44, s45))) (fun rr => some (rr, s43)))))))
def bX6_takeBytes_3 (E : En) (a0 : Nat) (a1 : Int32) (rec : Int32 → Sg → Option ((Int32) × Sg)) (v1 : Int32) (s2 : Sg) : Option ((Int32) × Sg) := if v1 < 0 then (some (v1, s2)) else (if (200 : Int32) ≤ (gi s2 a0 1) then (some (v1, s2)) else (dr (rf E a0 0) E 100 (fun x7 => ck (gi s2 a0 1) (ln E x7) (ss (si s2 x7 (gi s2 a0 1).toNatClampNeg ((iu a1 v1) &&& (255 : Int32))) (fun s9 => ss (si s9 a0 1 ((gi s9 a0 1) + (1 : Int32))) (fun s10 => lt (v1 + (-8 : Int32)) (fun v11 => rec v11 s10)))))))
def fX6_takeBytes (E : En) (a0 : Nat) (a1 : Int32) (σ : Sg) : Option (Sg) := tk (cd E a0) 6 (bd (fx (fun rec a => bX6_takeBytes_3 E a0 a1 (fun u0 t => rec (u0, t)) a.1 a.2) FU ((24 : Int32), σ)) (fun o12 s13 => some s13))
def fX6_feed (E : En) (a0 : Nat) (a1 : Int32) (a2 : Int32) (a3 : Int32) (a4 : Int32) (a5 : Int32) (σ : Sg) : Option (Int32 × Sg) := tk (cd E a0) 6 (if ((gi σ a0 1) + (20 : Int32)) ≤ (200 : Int32) then (bv (fX6_takeBytes E a0 a1 σ) (fun s1 => bv (fX6_takeBytes E a0 a2 s1) (fun s3 => bv (fX6_takeBytes E a0 a3 s3) (fun s5 => bv (fX6_takeBytes E a0 a4 s5) (fun s7 => bv (fX6_takeBytes E a0 a5 s7) (fun s9 => some ((gi s9 a0 1), s9))))))) else (some ((-1 : Int32), σ)))
def fX6_end (E : En) (a0 : Nat) (a1 : Int32) (σ : Sg) : Option (Int32 × Sg) := tk (cd E a0) 6 (if a1 < 0 then (some ((-1 : Int32), σ)) else (if a1 ≤ (gi σ a0 1) then (ss (si σ a0 1 a1) (fun s1 => some (a1, s1))) else (some ((-1 : Int32), σ))))
def fX6_remember (E : En) (a0 : Nat) (σ : Sg) : Option (Sg) := tk (cd E a0) 6 (dr (rf E a0 4) E 105 (fun x1 => ck (gi σ a0 7) (ln E x1) (dr (rf E x1 (gi σ a0 7).toNatClampNeg) E 4 (fun x3 => dr (rf E a0 3) E 4 (fun x4 => bv (fX4_copyFrom E x3 x4 σ) (fun s5 => dr (rf E a0 5) E 100 (fun x7 => ck (gi s5 a0 7) (ln E x7) (ss (si s5 x7 (gi s5 a0 7).toNatClampNeg (gi s5 a0 2)) (fun s9 => ss (si s9 a0 7 (im ((gi s9 a0 7) + (1 : Int32)) (8 : Int32))) (fun s10 => ss (si s10 a0 6 (imin ((gi s10 a0 6) + (1 : Int32)) (8 : Int32))) (fun s11 => some s11)))))))))))
def bX6_tell_36 (E : En) (a0 : Nat) (x2 : Nat) (rec : Int32 → Sg → Option ((Int32) × Sg)) (v5 : Int32) (s6 : Sg) : Option ((Int32) × Sg) := if (gi s6 a0 1) ≤ v5 then (some (v5, s6)) else (dr (rf E a0 0) E 100 (fun x11 => ck v5 (ln E x11) (bv (fX3_add E x2 (gi s6 x11 v5.toNatClampNeg) s6) (fun s13 => lt (v5 + (1 : Int32)) (fun v15 => rec v15 s13)))))
def fX6_tell (E : En) (a0 : Nat) (σ : Sg) : Option (Int32 × Sg) := tk (cd E a0) 6 (if (gi σ a0 1) = 0 then (some ((-1 : Int32), σ)) else (dr (rf E a0 3) E 4 (fun x1 => dr (rf E x1 0) E 3 (fun x2 => if ((gi σ x2 2) + (gi σ a0 1)) ≤ (300 : Int32) then (bv (fX6_remember E a0 σ) (fun s3 => bd (fx (fun rec a => bX6_tell_36 E a0 x2 (fun u0 t => rec (u0, t)) a.1 a.2) FU ((0 : Int32), s3)) (fun o16 s17 => ss (si s17 a0 1 (0 : Int32)) (fun s18 => ss (si s18 x1 2 (0 : Int32)) (fun s19 => some ((gi s19 x2 2), s19)))))) else (some ((-1 : Int32), σ))))))
def fX6_drawOf (E : En) (a0 : Nat) (a1 : Int32) (σ : Sg) : Option (Int32 × Sg) := tk (cd E a0) 6 (ss (si σ a0 2 ((((((gi σ a0 2).toInt64) * (1103515245 : Int64)) + (12345 : Int64)) &&& (2147483647 : Int64)).toInt32)) (fun s1 => bd (if (1 : Int32) ≤ a1 then (nz a1 (some ((im ((gi s1 a0 2) / (65536 : Int32)) a1), s1))) else (some ((0 : Int32), s1))) (fun w2 s3 => some (w2, s3))))
def bX6_drawn_49 (E : En) (a1 : Int32) (a0 : Nat) (a2 : Int32) (x2 : Nat) (rec : Int32 → Sg → Option ((Int32) × Sg)) (v5 : Int32) (s6 : Sg) : Option ((Int32) × Sg) := if a1 ≤ v5 then (some (v5, s6)) else (bd (fX6_drawOf E a0 a2 s6) (fun r13 s11 => bv (fX3_add E x2 r13 s11) (fun s14 => lt (v5 + (1 : Int32)) (fun v16 => rec v16 s14))))
def fX6_drawn (E : En) (a0 : Nat) (a1 : Int32) (a2 : Int32) (σ : Sg) : Option (Int32 × Sg) := tk (cd E a0) 6 (if a1 < (1 : Int32) then (some ((-1 : Int32), σ)) else (if (100 : Int32) < a1 then (some ((-1 : Int32), σ)) else (if a2 < (1 : Int32) then (some ((-1 : Int32), σ)) else (if (256 : Int32) < a2 then (some ((-1 : Int32), σ)) else (dr (rf E a0 3) E 4 (fun x1 => dr (rf E x1 0) E 3 (fun x2 => if ((gi σ x2 2) + a1) ≤ (300 : Int32) then (bv (fX6_remember E a0 σ) (fun s3 => bd (fx (fun rec a => bX6_drawn_49 E a1 a0 a2 x2 (fun u0 t => rec (u0, t)) a.1 a.2) FU ((0 : Int32), s3)) (fun o17 s18 => ss (si s18 x1 2 (0 : Int32)) (fun s19 => some ((gi s19 x2 2), s19))))) else (some ((-1 : Int32), σ)))))))))
def fX6_draws (E : En) (a0 : Nat) (a1 : Int32) (σ : Sg) : Option (Int32 × Sg) := tk (cd E a0) 6 (if 0 ≤ a1 then (lt (gi σ a0 2) (fun v1 => ss (si σ a0 2 a1) (fun s2 => some (v1, s2)))) else (some ((-1 : Int32), σ)))
def fX6_clear (E : En) (a0 : Nat) (σ : Sg) : Option (Int32 × Sg) := tk (cd E a0) 6 (bv (fX6_remember E a0 σ) (fun s1 => dr (rf E a0 3) E 4 (fun x3 => dr (rf E x3 0) E 3 (fun x4 => lt (gi s1 x4 2) (fun v5 => bv (fX3_wipe E x4 s1) (fun s6 => ss (si s6 x3 2 (0 : Int32)) (fun s8 => some (v5, s8))))))))
def fX6_fits (E : En) (a0 : Int32) (a1 : Int32) (σ : Sg) : Option (Int32 × Sg) := bd (if a0 < 0 then (some ((0 : Int32), σ)) else (if (6 : Int32) ≤ a0 then (some ((0 : Int32), σ)) else (ck a0 6 (if a1 < (stv 1 a0.toNatClampNeg) then (some ((0 : Int32), σ)) else (ck a0 6 (if (stv 2 a0.toNatClampNeg) < a1 then (some ((0 : Int32), σ)) else (some ((1 : Int32), σ)))))))) (fun w1 s2 => kb w1 (some (w1, s2)))
def fX6_settle (E : En) (a0 : Nat) (a1 : Int32) (a2 : Int32) (σ : Sg) : Option (Int32 × Sg) := tk (cd E a0) 6 (bd (fX6_fits E a1 a2 σ) (fun r3 s1 => if ¬ r3 = 0 then (dr (rf E a0 3) E 4 (fun x4 => dr (rf E x4 1) E 100 (fun x5 => ck a1 (ln E x5) (lt (gi s1 x5 a1.toNatClampNeg) (fun v7 => if ¬ v7 = a2 then (bv (fX6_remember E a0 s1) (fun s8 => ck a1 (ln E x5) (ss (si s8 x5 a1.toNatClampNeg a2) (fun s11 => ss (si s11 x4 2 (0 : Int32)) (fun s12 => some (v7, s12)))))) else (some ((-2 : Int32), s1))))))) else (some ((-1 : Int32), s1))))
def fX6_grow (E : En) (a0 : Nat) (σ : Sg) : Option (Int32 × Sg) := tk (cd E a0) 6 (dr (rf E a0 3) E 4 (fun x1 => if (gi σ x1 2) < (1 : Int32) then (dr (rf E x1 0) E 3 (fun x2 => if ¬ (gi σ x2 2) = 0 then (bv (fX6_remember E a0 σ) (fun s3 => bv (fX4_growRuns E x1 s3) (fun s5 => dr (rf E x1 3) E 0 (fun x7 => some ((gi s5 x7 2), s5))))) else (some ((-1 : Int32), σ)))) else (some ((-2 : Int32), σ))))
def fX6_canSpread (E : En) (a0 : Int32) (a1 : Int32) (σ : Sg) : Option (Int32 × Sg) := bd (if ¬ a0 = (1 : Int32) then (some ((1 : Int32), σ)) else (if a1 ≤ (3 : Int32) then (some ((0 : Int32), σ)) else (some ((1 : Int32), σ)))) (fun w1 s2 => kb w1 (some (w1, s2)))
def fX6_canPlan (E : En) (a0 : Nat) (σ : Sg) : Option (Int32 × Sg) := tk (cd E a0) 6 (dr (rf E a0 3) E 4 (fun x1 => bd (if (gi σ x1 2) < (1 : Int32) then (some ((0 : Int32), σ)) else (dr (rf E x1 1) E 100 (fun x4 => ck (2 : Int32) (ln E x4) (ck (1 : Int32) (ln E x4) (bd (fX6_canSpread E (gi σ x4 (2 : Int32).toNatClampNeg) (gi σ x4 (1 : Int32).toNatClampNeg) σ) (fun r9 s7 => if r9 = 0 then (some ((0 : Int32), s7)) else (some ((1 : Int32), s7)))))))) (fun w2 s3 => kb w2 (some (w2, s3)))))
def fX6_spread (E : En) (a0 : Nat) (σ : Sg) : Option (Int32 × Sg) := tk (cd E a0) 6 (dr (rf E a0 3) E 4 (fun x1 => if (gi σ x1 2) < (2 : Int32) then (bd (fX6_canPlan E a0 σ) (fun r4 s2 => if ¬ r4 = 0 then (bv (fX6_remember E a0 s2) (fun s5 => bv (fX4_spreadRuns E x1 s5) (fun s7 => dr (rf E x1 4) E 1 (fun x9 => dr (rf E x9 12) E 100 (fun x10 => ck (4 : Int32) (ln E x10) (some ((gi s7 x10 (4 : Int32).toNatClampNeg), s7))))))) else (some ((-1 : Int32), s2)))) else (some ((-2 : Int32), σ))))
def fX6_whyNoStep (E : En) (a0 : Nat) (σ : Sg) : Option (Int32 × Sg) := tk (cd E a0) 6 (dr (rf E a0 3) E 4 (fun x1 => if ¬ (gi σ x1 2) = (3 : Int32) then (bd (if ¬ (gi σ x1 2) = (2 : Int32) then (some ((-1 : Int32), σ)) else (some ((0 : Int32), σ))) (fun w2 s3 => some (w2, s3))) else (some ((-2 : Int32), σ))))
def fX6_step (E : En) (a0 : Nat) (σ : Sg) : Option (Int32 × Sg) := tk (cd E a0) 6 (bd (fX6_whyNoStep E a0 σ) (fun r3 s1 => if r3 = 0 then (bv (fX6_remember E a0 s1) (fun s4 => dr (rf E a0 3) E 4 (fun x6 => dr (rf E x6 4) E 1 (fun x7 => dr (rf E x7 12) E 100 (fun x8 => ck (0 : Int32) (ln E x8) (lt (gi s4 x8 (0 : Int32).toNatClampNeg) (fun v10 => bv (fX4_mergeOnce E x6 s4) (fun s11 => ck (0 : Int32) (ln E x8) (some (((gi s11 x8 (0 : Int32).toNatClampNeg) - v10), s11)))))))))) else (some (r3, s1))))
def bX6_phase_44 (E : En) (x6 : Nat) (x8 : Nat) (v10 : Int32) (rec : Int32 → Sg → Option ((Int32) × Sg)) (v13 : Int32) (s14 : Sg) : Option ((Int32) × Sg) := if (100000 : Int32) ≤ v13 then (some (v13, s14)) else (if ¬ (gi s14 x6 2) = (2 : Int32) then (some (v13, s14)) else (ck (2 : Int32) (ln E x8) (if ¬ (gi s14 x8 (2 : Int32).toNatClampNeg) = v10 then (some (v13, s14)) else (bv (fX4_mergeOnce E x6 s14) (fun s20 => lt (v13 + (1 : Int32)) (fun v22 => rec v22 s20))))))
def fX6_phase (E : En) (a0 : Nat) (σ : Sg) : Option (Int32 × Sg) := tk (cd E a0) 6 (bd (fX6_whyNoStep E a0 σ) (fun r3 s1 => if r3 = 0 then (bv (fX6_remember E a0 s1) (fun s4 => dr (rf E a0 3) E 4 (fun x6 => dr (rf E x6 4) E 1 (fun x7 => dr (rf E x7 12) E 100 (fun x8 => ck (2 : Int32) (ln E x8) (lt (gi s4 x8 (2 : Int32).toNatClampNeg) (fun v10 => ck (1 : Int32) (ln E x8) (lt (gi s4 x8 (1 : Int32).toNatClampNeg) (fun v12 => bd (fx (fun rec a => bX6_phase_44 E x6 x8 v10 (fun u0 t => rec (u0, t)) a.1 a.2) FU ((0 : Int32), s4)) (fun o23 s24 => ck (1 : Int32) (ln E x8) (some (((gi s24 x8 (1 : Int32).toNatClampNeg) - v12), s24)))))))))))) else (some (r3, s1))))
def bX6_all_30 (E : En) (x6 : Nat) (rec : Int32 → Sg → Option ((Int32) × Sg)) (v11 : Int32) (s12 : Sg) : Option ((Int32) × Sg) := if (100000 : Int32) ≤ v11 then (some (v11, s12)) else (if ¬ (gi s12 x6 2) = (2 : Int32) then (some (v11, s12)) else (bv (fX4_mergeOnce E x6 s12) (fun s17 => lt (v11 + (1 : Int32)) (fun v19 => rec v19 s17))))
def fX6_all (E : En) (a0 : Nat) (σ : Sg) : Option (Int32 × Sg) := tk (cd E a0) 6 (bd (fX6_whyNoStep E a0 σ) (fun r3 s1 => if r3 = 0 then (bv (fX6_remember E a0 s1) (fun s4 => dr (rf E a0 3) E 4 (fun x6 => dr (rf E x6 4) E 1 (fun x7 => dr (rf E x7 12) E 100 (fun x8 => ck (1 : Int32) (ln E x8) (lt (gi s4 x8 (1 : Int32).toNatClampNeg) (fun v10 => bd (fx (fun rec a => bX6_all_30 E x6 (fun u0 t => rec (u0, t)) a.1 a.2) FU ((0 : Int32), s4)) (fun o20 s21 => ck (1 : Int32) (ln E x8) (some (((gi s21 x8 (1 : Int32).toNatClampNeg) - v10), s21)))))))))) else (some (r3, s1))))
def fX6_record (E : En) (a0 : Nat) (a1 : Int32) (a2 : Int32) (σ : Sg) : Option (Int32 × Sg) := tk (cd E a0) 6 (if a1 < 0 then (some ((-1 : Int32), σ)) else (dr (rf E a0 3) E 4 (fun x1 => dr (rf E x1 0) E 3 (fun x2 => if a1 < (gi σ x2 2) then (if ¬ a2 = 0 then (bd (if ¬ a2 = (1 : Int32) then (some ((-1 : Int32), σ)) else (if (gi σ x1 2) < (1 : Int32) then (some ((-1 : Int32), σ)) else (dr (rf E x1 3) E 0 (fun x5 => dr (rf E x5 0) E 100 (fun x6 => ck a1 (ln E x6) (some ((gi σ x6 a1.toNatClampNeg), σ))))))) (fun w3 s4 => some (w3, s4))) else (dr (rf E x2 0) E 100 (fun x8 => ck a1 (ln E x8) (some ((gi σ x8 a1.toNatClampNeg), σ))))) else (some ((-1 : Int32), σ))))))
def fX6_isRun (E : En) (a0 : Nat) (a1 : Int32) (σ : Sg) : Option (Int32 × Sg) := tk (cd E a0) 6 (dr (rf E a0 3) E 4 (fun x1 => bd (if (gi σ x1 2) < (1 : Int32) then (some ((0 : Int32), σ)) else (if a1 < 0 then (some ((0 : Int32), σ)) else (dr (rf E x1 3) E 0 (fun x4 => if (gi σ x4 2) ≤ a1 then (some ((0 : Int32), σ)) else (some ((1 : Int32), σ)))))) (fun w2 s3 => kb w2 (some (w2, s3)))))
def fX6_run (E : En) (a0 : Nat) (a1 : Int32) (a2 : Int32) (σ : Sg) : Option (Int32 × Sg) := tk (cd E a0) 6 (bd (fX6_isRun E a0 a1 σ) (fun r3 s1 => if r3 = 0 then (some ((-1 : Int32), s1)) else (if (-2 : Int32) ≤ a2 then (dr (rf E a0 3) E 4 (fun x4 => dr (rf E x4 3) E 0 (fun x5 => bd (fX0_falls E x5 a1 s1) (fun r8 s6 => if ¬ a2 = (-2 : Int32) then (if ¬ a2 = (-1 : Int32) then (dr (rf E x5 1) E 100 (fun x9 => ck a1 (ln E x9) (bd (if (gi s6 x9 a1.toNatClampNeg) ≤ a2 then (some ((-3 : Int32), s6)) else (bd (fX4_grownRecord E x4 a1 a2 s6) (fun r15 s13 => some (r15, s13)))) (fun w11 s12 => some (w11, s12))))) else (dr (rf E x5 1) E 100 (fun x16 => ck a1 (ln E x16) (some ((gi s6 x16 a1.toNatClampNeg), s6))))) else (bd (if r8 = 0 then (some ((0 : Int32), s6)) else (some ((1 : Int32), s6))) (fun w18 s19 => some (w18, s19))))))) else (some ((-1 : Int32), s1)))))
def fX6_isTape (E : En) (a0 : Nat) (a1 : Int32) (σ : Sg) : Option (Int32 × Sg) := tk (cd E a0) 6 (dr (rf E a0 3) E 4 (fun x1 => bd (if (gi σ x1 2) < (2 : Int32) then (some ((0 : Int32), σ)) else (if a1 < 0 then (some ((0 : Int32), σ)) else (dr (rf E x1 4) E 1 (fun x4 => if (gi σ x4 1) ≤ a1 then (some ((0 : Int32), σ)) else (some ((1 : Int32), σ)))))) (fun w2 s3 => kb w2 (some (w2, s3)))))
def fX6_tape (E : En) (a0 : Nat) (a1 : Int32) (a2 : Int32) (σ : Sg) : Option (Int32 × Sg) := tk (cd E a0) 6 (bd (fX6_isTape E a0 a1 σ) (fun r3 s1 => if ¬ r3 = 0 then (dr (rf E a0 3) E 4 (fun x4 => dr (rf E x4 4) E 1 (fun x5 => if a2 = (0 : Int32) then (dr (rf E x5 4) E 104 (fun x7 => ck a1 (ln E x7) (dr (rf E x7 a1.toNatClampNeg) E 5 (fun x9 => bd (fX5_size E x9 s1) (fun r12 s10 => some (r12, s10)))))) else (if a2 = (1 : Int32) then (dr (rf E x5 4) E 104 (fun x14 => ck a1 (ln E x14) (dr (rf E x14 a1.toNatClampNeg) E 5 (fun x16 => bd (fX5_dummies E x16 s1) (fun r19 s17 => some (r19, s17)))))) else (if a2 = (2 : Int32) then (bd (fX1_recordsOn E x5 a1 s1) (fun r23 s21 => some (r23, s21))) else (if a2 = (3 : Int32) then (bd (if ¬ (gi s1 x5 9) = a1 then (some ((0 : Int32), s1)) else (some ((1 : Int32), s1))) (fun w25 s26 => some (w25, s26))) else ((some ((-1 : Int32), s1))))))))) else (some ((-1 : Int32), s1))))
def fX6_on (E : En) (a0 : Nat) (a1 : Int32) (a2 : Int32) (a3 : Int32) (σ : Sg) : Option (Int32 × Sg) := tk (cd E a0) 6 (bd (fX6_isTape E a0 a1 σ) (fun r3 s1 => if r3 = 0 then (some ((-1 : Int32), s1)) else (if (-2 : Int32) ≤ a3 then (dr (rf E a0 3) E 4 (fun x4 => dr (rf E x4 4) E 1 (fun x5 => dr (rf E x5 4) E 104 (fun x6 => ck a1 (ln E x6) (dr (rf E x6 a1.toNatClampNeg) E 5 (fun x8 => bd (fX5_at E x8 a2 (gi s1 x5 3) s1) (fun r11 s9 => if ¬ r11 = (-2 : Int32) then (bd (fX1_sizeOf E x5 r11 s9) (fun r14 s12 => if ¬ a3 = (-2 : Int32) then (if ¬ a3 = (-1 : Int32) then (bd (if r14 ≤ a3 then (some ((-3 : Int32), s12)) else (bd (fX4_tapeRecord E x4 r11 a3 s12) (fun r19 s17 => some (r19, s17)))) (fun w15 s16 => some (w15, s16))) else (some (r14, s12))) else (bd (fX1_isDown E x5 r11 s12) (fun r22 s20 => bd (if r22 = 0 then (some ((0 : Int32), s20)) else (some ((1 : Int32), s20))) (fun w23 s24 => some (w23, s24)))))) else (some ((-1 : Int32), s9))))))))) else (some ((-1 : Int32), s1)))))
def fX6_sorted (E : En) (a0 : Nat) (a1 : Int32) (σ : Sg) : Option (Int32 × Sg) := tk (cd E a0) 6 (if a1 < 0 then (some ((-1 : Int32), σ)) else (dr (rf E a0 3) E 4 (fun x1 => dr (rf E x1 0) E 3 (fun x2 => if a1 < (gi σ x2 2) then (bd (if ¬ (gi σ x1 2) = (3 : Int32) then (some ((-2 : Int32), σ)) else (dr (rf E x2 1) E 100 (fun x5 => ck a1 (ln E x5) (some ((gi σ x5 a1.toNatClampNeg), σ))))) (fun w3 s4 => some (w3, s4))) else (some ((-1 : Int32), σ))))))
def fX6_perfect (E : En) (a0 : Nat) (a1 : Int32) (a2 : Int32) (σ : Sg) : Option (Int32 × Sg) := tk (cd E a0) 6 (dr (rf E a0 3) E 4 (fun x1 => dr (rf E x1 1) E 100 (fun x2 => ck (1 : Int32) (ln E x2) (lt (gi σ x2 (1 : Int32).toNatClampNeg) (fun v4 => if a1 < 0 then (some ((-1 : Int32), σ)) else (if (8 : Int32) < a1 then (some ((-1 : Int32), σ)) else (if a2 < (-1 : Int32) then (some ((-1 : Int32), σ)) else (if (v4 - (1 : Int32)) ≤ a2 then (some ((-1 : Int32), σ)) else (ck (2 : Int32) (ln E x2) (if ¬ (gi σ x2 (2 : Int32).toNatClampNeg) = (1 : Int32) then (dr (rf E a0 11) E 2 (fun x6 => ck (2 : Int32) (ln E x2) (bv (fX2_climbTo E x6 a1 (gi σ x2 (2 : Int32).toNatClampNeg) (v4 - (1 : Int32)) σ) (fun s8 => bd (if ¬ a2 = (-1 : Int32) then (dr (rf E x6 0) E 100 (fun x12 => ck a2 (ln E x12) (some ((gi s8 x12 a2.toNatClampNeg), s8)))) else (bd (fX2_together E x6 s8) (fun r16 s14 => some (r16, s14)))) (fun w10 s11 => some (w10, s11)))))) else (some ((-1 : Int32), σ))))))))))))
def fX6_beginPlan (E : En) (a0 : Nat) (σ : Sg) : Option (Sg) := tk (cd E a0) 6 (dr (rf E a0 10) E 1 (fun x1 => dr (rf E a0 3) E 4 (fun x2 => dr (rf E x2 1) E 100 (fun x3 => ck (2 : Int32) (ln E x3) (ck (1 : Int32) (ln E x3) (ck (4 : Int32) (ln E x3) (bd (if ¬ (gi σ x3 (4 : Int32).toNatClampNeg) = (1 : Int32) then (some ((0 : Int32), σ)) else (some ((1 : Int32), σ))) (fun w7 s8 => bv (fX1_begin E x1 (gi σ x3 (2 : Int32).toNatClampNeg) (gi σ x3 (1 : Int32).toNatClampNeg) w7 s8) (fun s9 => bv (fX4_layRuns E x2 x1 s9) (fun s11 => some s11))))))))))
def fX6_plan (E : En) (a0 : Nat) (a1 : Int32) (σ : Sg) : Option (Int32 × Sg) := tk (cd E a0) 6 (if a1 < 0 then (some ((-1 : Int32), σ)) else (if (6 : Int32) ≤ a1 then (some ((-1 : Int32), σ)) else (bd (fX6_canPlan E a0 σ) (fun r3 s1 => if ¬ r3 = 0 then (bv (fX6_beginPlan E a0 s1) (fun s4 => dr (rf E a0 10) E 1 (fun x6 => bv (fX1_mergeAll E x6 s4) (fun s7 => dr (rf E x6 12) E 100 (fun x9 => ck a1 (ln E x9) (some ((gi s7 x9 a1.toNatClampNeg), s7))))))) else (some ((-1 : Int32), s1))))))
def fX6_planned (E : En) (a0 : Nat) (a1 : Int32) (a2 : Int32) (a3 : Int32) (σ : Sg) : Option (Int32 × Sg) := tk (cd E a0) 6 (bd (fX6_fits E (2 : Int32) a1 σ) (fun r3 s1 => bd (if r3 = 0 then (some ((0 : Int32), s1)) else (bd (fX6_fits E (1 : Int32) a2 s1) (fun r8 s6 => if r8 = 0 then (some ((0 : Int32), s6)) else (bd (fX6_fits E (4 : Int32) a3 s6) (fun r11 s9 => if r11 = 0 then (some ((0 : Int32), s9)) else (some ((1 : Int32), s9))))))) (fun w4 s5 => if w4 = 0 then (some ((-1 : Int32), s5)) else (dr (rf E a0 3) E 4 (fun x12 => if (gi s5 x12 2) < (1 : Int32) then (some ((-1 : Int32), s5)) else (bd (fX6_canSpread E a1 a2 s5) (fun r15 s13 => if ¬ r15 = 0 then (dr (rf E a0 10) E 1 (fun x16 => bd (if ¬ a3 = (1 : Int32) then (some ((0 : Int32), s13)) else (some ((1 : Int32), s13))) (fun w17 s18 => bv (fX1_begin E x16 a1 a2 w17 s18) (fun s19 => bv (fX4_layRuns E x12 x16 s19) (fun s21 => bv (fX1_mergeAll E x16 s21) (fun s23 => dr (rf E x16 12) E 100 (fun x25 => ck (0 : Int32) (ln E x25) (some ((gi s23 x25 (0 : Int32).toNatClampNeg), s23))))))))) else (some ((-1 : Int32), s13)))))))))
def bX6_takeLightest_4 (E : En) (a1 : Int32) (a0 : Nat) (rec : Int32 → Int32 → Sg → Option ((Int32 × Int32) × Sg)) (v1 : Int32) (v2 : Int32) (s3 : Sg) : Option ((Int32 × Int32) × Sg) := if a1 ≤ v2 then (some ((v1, v2), s3)) else (dr (rf E a0 12) E 100 (fun x8 => ck v2 (ln E x8) (ck v1 (ln E x8) (bd (if (gi s3 x8 v1.toNatClampNeg) ≤ (gi s3 x8 v2.toNatClampNeg) then (some (v1, s3)) else (some (v2, s3))) (fun w11 s12 => lt (v2 + (1 : Int32)) (fun v13 => rec w11 v13 s12))))))
def fX6_takeLightest (E : En) (a0 : Nat) (a1 : Int32) (σ : Sg) : Option (Int32 × Sg) := tk (cd E a0) 6 (bd (fx (fun rec a => bX6_takeLightest_4 E a1 a0 (fun u0 u1 t => rec ((u0, u1), t)) a.1.1 a.1.2 a.2) FU (((0 : Int32), (1 : Int32)), σ)) (fun o14 s15 => dr (rf E a0 12) E 100 (fun x16 => ck o14.1 (ln E x16) (lt (gi s15 x16 o14.1.toNatClampNeg) (fun v18 => ck (a1 - (1 : Int32)) (ln E x16) (ck o14.1 (ln E x16) (ss (si s15 x16 o14.1.toNatClampNeg (gi s15 x16 (a1 - (1 : Int32)).toNatClampNeg)) (fun s21 => some (v18, s21)))))))))
def bX6_least_100 (E : En) (v12 : Int32) (a0 : Nat) (rec : Int32 → Int32 → Int32 → Sg → Option ((Int32 × Int32 × Int32) × Sg)) (v20 : Int32) (v21 : Int32) (v22 : Int32) (s23 : Sg) : Option ((Int32 × Int32 × Int32) × Sg) := if v12 ≤ v22 then (some ((v20, v21, v22), s23)) else (if v20 ≤ 0 then (some ((v20, v21, v22), s23)) else (bd (fX6_takeLightest E a0 v20 s23) (fun r30 s28 => lt (v21 + r30) (fun v31 => lt (v20 + (-1 : Int32)) (fun v32 => lt (v22 + (1 : Int32)) (fun v33 => rec v32 v31 v33 s28))))))
def bX6_least_81 (E : En) (a0 : Nat) (x5 : Nat) (a1 : Int32) (rec : Int32 → Int32 → Int32 → Int32 → Sg → Option ((Int32 × Int32 × Int32 × Int32) × Sg)) (v11 : Int32) (v12 : Int32) (v13 : Int32) (v14 : Int32) (s15 : Sg) : Option ((Int32 × Int32 × Int32 × Int32) × Sg) := if (300 : Int32) ≤ v14 then (some ((v11, v12, v13, v14), s15)) else (if v11 ≤ (1 : Int32) then (some ((v11, v12, v13, v14), s15)) else (bd (fx (fun rec a => bX6_least_100 E v12 a0 (fun u0 u1 u2 t => rec ((u0, u1, u2), t)) a.1.1 a.1.2.1 a.1.2.2 a.2) FU ((v11, (0 : Int32), (0 : Int32)), s15)) (fun o34 s35 => ck o34.1 (ln E x5) (ss (si s35 x5 o34.1.toNatClampNeg o34.2.1) (fun s37 => lt (o34.1 + (1 : Int32)) (fun v38 => lt (v13 + o34.2.1) (fun v39 => lt (v14 + (1 : Int32)) (fun v40 => rec v38 a1 v39 v40 s37))))))))
def fX6_least (E : En) (a0 : Nat) (a1 : Int32) (σ : Sg) : Option (Int32 × Sg) := tk (cd E a0) 6 (if a1 < (2 : Int32) then (some ((-1 : Int32), σ)) else (if (5 : Int32) < a1 then (some ((-1 : Int32), σ)) else (dr (rf E a0 3) E 4 (fun x1 => if (1 : Int32) ≤ (gi σ x1 2) then (dr (rf E x1 3) E 0 (fun x2 => lt (gi σ x2 2) (fun v3 => dr (rf E x2 1) E 100 (fun x4 => dr (rf E a0 12) E 100 (fun x5 => acp E σ x4 (0 : Int32) x5 (0 : Int32) v3 (fun s6 => nz (a1 - (1 : Int32)) (lt (im (v3 - (1 : Int32)) (a1 - (1 : Int32))) (fun v8 => bd (if ¬ v8 = 0 then (some ((v8 + (1 : Int32)), s6)) else (some (a1, s6))) (fun w9 s10 => bd (fx (fun rec a => bX6_least_81 E a0 x5 a1 (fun u0 u1 u2 u3 t => rec ((u0, u1, u2, u3), t)) a.1.1 a.1.2.1 a.1.2.2.1 a.1.2.2.2 a.2) FU ((v3, w9, (0 : Int32), (0 : Int32)), s10)) (fun o41 s42 => some (o41.2.2.1, s42))))))))))) else (some ((-1 : Int32), σ))))))
def bX6_depth_28 (E : En) (a0 : Nat) (rec : Int32 → Int32 → Int32 → Sg → Option ((Int32 × Int32 × Int32) × Sg)) (v9 : Int32) (v10 : Int32) (v11 : Int32) (s12 : Sg) : Option ((Int32 × Int32 × Int32) × Sg) := if (100000 : Int32) ≤ v11 then (some ((v9, v10, v11), s12)) else (dr (rf E a0 10) E 1 (fun x17 => if (gi s12 x17 8) ≤ (1 : Int32) then (some ((v9, v10, v11), s12)) else (bv (fX1_advance E x17 s12) (fun s18 => bd (fX1_takenFrom E x17 v9 s18) (fun r22 s20 => bd (if r22 = (-1 : Int32) then (some ((v9, v10), s20)) else (lt (gi s20 x17 16) (fun v25 => lt (v10 + (1 : Int32)) (fun v26 => some ((v25, v26), s20))))) (fun w23 s24 => lt (v11 + (1 : Int32)) (fun v27 => rec w23.1 w23.2 v27 s24)))))))
def fX6_depth (E : En) (a0 : Nat) (a1 : Int32) (σ : Sg) : Option (Int32 × Sg) := tk (cd E a0) 6 (bd (fX6_isRun E a0 a1 σ) (fun r3 s1 => if r3 = 0 then (some ((-1 : Int32), s1)) else (bd (fX6_canPlan E a0 s1) (fun r6 s4 => if ¬ r6 = 0 then (bv (fX6_beginPlan E a0 s4) (fun s7 => bd (fx (fun rec a => bX6_depth_28 E a0 (fun u0 u1 u2 t => rec ((u0, u1, u2), t)) a.1.1 a.1.2.1 a.1.2.2 a.2) FU ((a1, (0 : Int32), (0 : Int32)), s7)) (fun o28 s29 => some (o28.2.1, s29)))) else (some ((-1 : Int32), s4))))))
def bX6_units_100 (E : En) (r12 : Int32) (x13 : Nat) (rec : Int32 → Sg → Option ((Int32) × Sg)) (v20 : Int32) (s21 : Sg) : Option ((Int32) × Sg) := if r12 ≤ v20 then (some (v20, s21)) else (bv (fX1_load E x13 (1 : Int32) (0 : Int32) s21) (fun s26 => lt (v20 + (1 : Int32)) (fun v28 => rec v28 s26)))
def fX6_units (E : En) (a0 : Nat) (a1 : Int32) (σ : Sg) : Option (Int32 × Sg) := tk (cd E a0) 6 (if a1 < 0 then (some ((-1 : Int32), σ)) else (if (5 : Int32) < a1 then (some ((-1 : Int32), σ)) else (dr (rf E a0 3) E 4 (fun x1 => dr (rf E x1 1) E 100 (fun x2 => ck (2 : Int32) (ln E x2) (if ¬ (gi σ x2 (2 : Int32).toNatClampNeg) = (1 : Int32) then (ck (1 : Int32) (ln E x2) (lt (gi σ x2 (1 : Int32).toNatClampNeg) (fun v5 => dr (rf E a0 11) E 2 (fun x6 => ck (2 : Int32) (ln E x2) (bv (fX2_climbTo E x6 a1 (gi σ x2 (2 : Int32).toNatClampNeg) (v5 - (1 : Int32)) σ) (fun s8 => bd (fX2_together E x6 s8) (fun r12 s10 => dr (rf E a0 10) E 1 (fun x13 => ck (2 : Int32) (ln E x2) (ck (4 : Int32) (ln E x2) (bd (if ¬ (gi s10 x2 (4 : Int32).toNatClampNeg) = (1 : Int32) then (some ((0 : Int32), s10)) else (some ((1 : Int32), s10))) (fun w16 s17 => bv (fX1_begin E x13 (gi s10 x2 (2 : Int32).toNatClampNeg) v5 w16 s17) (fun s18 => bd (fx (fun rec a => bX6_units_100 E r12 x13 (fun u0 t => rec (u0, t)) a.1 a.2) FU ((0 : Int32), s18)) (fun o29 s30 => bv (fX1_layOut E x13 (0 : Int32) s30) (fun s31 => bv (fX1_mergeAll E x13 s31) (fun s33 => dr (rf E x13 12) E 100 (fun x35 => ck (0 : Int32) (ln E x35) (some ((gi s33 x35 (0 : Int32).toNatClampNeg), s33)))))))))))))))))) else (some ((-1 : Int32), σ))))))))
def bX6_isAmongLikeStands_3 (E : En) (a3 : Int32) (a0 : Nat) (a1 : Int64) (rec : Int32 → Sg → Option (((Int32) ⊕ Int32) × Sg)) (v1 : Int32) (s2 : Sg) : Option (((Int32) ⊕ Int32) × Sg) := if a3 ≤ v1 then (some (.inl v1, s2)) else (dr (rf E a0 13) E 103 (fun x7 => ck v1 (ln E x7) (if ¬ (lg_cmp (gl s2 x7 v1.toNatClampNeg) a1) = 0 then (lt (v1 + (1 : Int32)) (fun v9 => rec v9 s2)) else (some (.inr (1 : Int32), s2)))))
def fX6_isAmongLikeStands (E : En) (a0 : Nat) (a1 : Int64) (a3 : Int32) (σ : Sg) : Option (Int32 × Sg) := tk (cd E a0) 6 (bd (fx (fun rec a => bX6_isAmongLikeStands_3 E a3 a0 a1 (fun u0 t => rec (u0, t)) a.1 a.2) FU ((0 : Int32), σ)) (fun o10 s11 => sm o10 (fun vo10 => some ((0 : Int32), s11)) (fun rr => some (rr, s11))))
def bX6_stands_41 (E : En) (x7 : Nat) (a0 : Nat) (x6 : Nat) (rec : Int32 → Int32 → Int32 → Int32 → Sg → Option ((Int32 × Int32 × Int32 × Int32) × Sg)) (v14 : Int32) (v15 : Int32) (v16 : Int32) (v17 : Int32) (s18 : Sg) : Option ((Int32 × Int32 × Int32 × Int32) × Sg) := if (100000 : Int32) ≤ v17 then (some ((v14, v15, v16, v17), s18)) else (if (gi s18 x7 8) ≤ (1 : Int32) then (some ((v14, v15, v16, v17), s18)) else (bv (fX1_advance E x7 s18) (fun s23 => bd (if (gi s23 x7 8) = v16 then (some ((v14, v16), s23)) else (lt (gi s23 x7 8) (fun v27 => some (((0 : Int32), v27), s23)))) (fun w25 s26 => bd (fX1_stand E x7 s26) (fun r30 s28 => bd (fX6_isAmongLikeStands E a0 r30 w25.1 s28) (fun r33 s31 => bd (if ¬ r33 = 0 then (some ((w25.1, v15), s31)) else (if (nI (ln E x6)) ≤ w25.1 then (some ((w25.1, v15), s31)) else (ck w25.1 (ln E x6) (ss (sl s31 x6 w25.1.toNatClampNeg r30) (fun s37 => lt (w25.1 + (1 : Int32)) (fun v38 => lt (v15 + (1 : Int32)) (fun v39 => some ((v38, v39), s37)))))))) (fun w34 s35 => lt (v17 + (1 : Int32)) (fun v40 => rec w34.1 w34.2 w25.2 v40 s35))))))))
def fX6_stands (E : En) (a0 : Nat) (σ : Sg) : Option (Int32 × Sg) := tk (cd E a0) 6 (bd (fX6_canPlan E a0 σ) (fun r3 s1 => if ¬ r3 = 0 then (bv (fX6_beginPlan E a0 s1) (fun s4 => dr (rf E a0 13) E 103 (fun x6 => dr (rf E a0 10) E 1 (fun x7 => bd (fX1_stand E x7 s4) (fun r10 s8 => ck (0 : Int32) (ln E x6) (ss (sl s8 x6 (0 : Int32).toNatClampNeg r10) (fun s12 => lt (gi s12 x7 8) (fun v13 => bd (fx (fun rec a => bX6_stands_41 E x7 a0 x6 (fun u0 u1 u2 u3 t => rec ((u0, u1, u2, u3), t)) a.1.1 a.1.2.1 a.1.2.2.1 a.1.2.2.2 a.2) FU (((1 : Int32), (1 : Int32), v13, (0 : Int32)), s12)) (fun o41 s42 => some (o41.2.1, s42)))))))))) else (some ((-1 : Int32), s1))))
def fX6_key (E : En) (a0 : Nat) (a1 : Int32) (a2 : Int32) (σ : Sg) : Option (Int32 × Sg) := tk (cd E a0) 6 (if a1 < 0 then (some ((-1 : Int32), σ)) else (if a1 < (256 : Int32) then (if a2 = (0 : Int32) then (dr (rf E a0 3) E 4 (fun x2 => dr (rf E x2 0) E 3 (fun x3 => bd (fX3_howOften E x3 a1 σ) (fun r6 s4 => some (r6, s4))))) else (if a2 = (1 : Int32) then (dr (rf E a0 3) E 4 (fun x8 => dr (rf E x8 0) E 3 (fun x9 => bd (fX3_firstOf E x9 a1 σ) (fun r12 s10 => some (r12, s10))))) else (if a2 = (2 : Int32) then (dr (rf E a0 3) E 4 (fun x14 => dr (rf E x14 0) E 3 (fun x15 => bd (fX3_lastOf E x15 a1 σ) (fun r18 s16 => some (r18, s16))))) else ((some ((-1 : Int32), σ)))))) else (some ((-1 : Int32), σ))))
def fX6_keys (E : En) (a0 : Nat) (a1 : Int32) (σ : Sg) : Option (Int32 × Sg) := tk (cd E a0) 6 (if ¬ a1 = 0 then (if a1 = (1 : Int32) then (dr (rf E a0 3) E 4 (fun x1 => dr (rf E x1 0) E 3 (fun x2 => bd (fX3_keyMostOften E x2 σ) (fun r5 s3 => if ¬ a1 = (1 : Int32) then (bd (if ¬ r5 = (-1 : Int32) then (bd (fX3_howOften E x2 r5 s3) (fun r10 s8 => some (r10, s8))) else (some ((0 : Int32), s3))) (fun w6 s7 => some (w6, s7))) else (some (r5, s3)))))) else (if a1 = (2 : Int32) then (dr (rf E a0 3) E 4 (fun x11 => dr (rf E x11 0) E 3 (fun x12 => bd (fX3_keyMostOften E x12 σ) (fun r15 s13 => if ¬ a1 = (1 : Int32) then (bd (if ¬ r15 = (-1 : Int32) then (bd (fX3_howOften E x12 r15 s13) (fun r20 s18 => some (r20, s18))) else (some ((0 : Int32), s13))) (fun w16 s17 => some (w16, s17))) else (some (r15, s13)))))) else (some ((-1 : Int32), σ)))) else (dr (rf E a0 3) E 4 (fun x21 => dr (rf E x21 0) E 3 (fun x22 => bd (fX3_unlikeKeys E x22 σ) (fun r25 s23 => some (r25, s23))))))
def fX6_about (E : En) (a0 : Nat) (a1 : Int32) (σ : Sg) : Option (Int32 × Sg) := tk (cd E a0) 6 (dr (rf E a0 3) E 4 (fun x1 => dr (rf E x1 0) E 3 (fun x2 => if a1 = (0 : Int32) then (some ((gi σ x2 3), σ)) else (if a1 = (1 : Int32) then (bd (fX3_naturalRuns E x2 σ) (fun r7 s5 => some (r7, s5))) else (if a1 = (2 : Int32) then (bd (if ¬ (gi σ x2 2) = 0 then (dr (rf E x2 1) E 100 (fun x11 => ck ((gi σ x2 2) / (2 : Int32)) (ln E x11) (some ((gi σ x11 ((gi σ x2 2) / (2 : Int32)).toNatClampNeg), σ)))) else (some ((-1 : Int32), σ))) (fun w9 s10 => some (w9, s10))) else ((some ((-1 : Int32), σ))))))))
def fX6_forecast (E : En) (a0 : Nat) (a1 : Int32) (a2 : Int32) (σ : Sg) : Option (Int32 × Sg) := tk (cd E a0) 6 (if a1 < (1 : Int32) then (some ((-1 : Int32), σ)) else (if (16 : Int32) < a1 then (some ((-1 : Int32), σ)) else (if a2 < (-1 : Int32) then (some ((-1 : Int32), σ)) else (dr (rf E a0 3) E 4 (fun x1 => if (gi σ x1 2) = (2 : Int32) then (bd (fX4_fetchedTape E x1 a1 a2 σ) (fun r4 s2 => some (r4, s2))) else (some ((-1 : Int32), σ)))))))
def bX6_needs_42 (E : En) (x2 : Nat) (a1 : Int32) (rec : Int32 → Int32 → Sg → Option ((Int32 × Int32) × Sg)) (v6 : Int32) (v7 : Int32) (s8 : Sg) : Option ((Int32 × Int32) × Sg) := if (100000 : Int32) ≤ v7 then (some ((v6, v7), s8)) else (if (gi s8 x2 8) ≤ (1 : Int32) then (some ((v6, v7), s8)) else (bv (fX1_look E x2 s8) (fun s13 => bd (fX1_blocksTaken E x2 a1 s13) (fun r17 s15 => lt (v6 + r17) (fun v18 => bv (fX1_advance E x2 s15) (fun s19 => lt (v7 + (1 : Int32)) (fun v21 => rec v18 v21 s19)))))))
def fX6_needs (E : En) (a0 : Nat) (a1 : Int32) (σ : Sg) : Option (Int32 × Sg) := tk (cd E a0) 6 (if a1 < (1 : Int32) then (some ((-1 : Int32), σ)) else (if (16 : Int32) < a1 then (some ((-1 : Int32), σ)) else (dr (rf E a0 3) E 4 (fun x1 => if (2 : Int32) ≤ (gi σ x1 2) then (dr (rf E a0 10) E 1 (fun x2 => dr (rf E x1 4) E 1 (fun x3 => bv (fX1_copyFrom E x2 x3 σ) (fun s4 => bd (fx (fun rec a => bX6_needs_42 E x2 a1 (fun u0 u1 t => rec ((u0, u1), t)) a.1.1 a.1.2 a.2) FU (((0 : Int32), (0 : Int32)), s4)) (fun o22 s23 => some (o22.1, s23)))))) else (some ((-1 : Int32), σ))))))
def fX6_undo (E : En) (a0 : Nat) (σ : Sg) : Option (Int32 × Sg) := tk (cd E a0) 6 (if ¬ (gi σ a0 6) = 0 then (ss (si σ a0 7 (im (((gi σ a0 7) + (8 : Int32)) - (1 : Int32)) (8 : Int32))) (fun s1 => dr (rf E a0 3) E 4 (fun x2 => dr (rf E a0 4) E 105 (fun x3 => ck (gi s1 a0 7) (ln E x3) (dr (rf E x3 (gi s1 a0 7).toNatClampNeg) E 4 (fun x5 => bv (fX4_copyFrom E x2 x5 s1) (fun s6 => dr (rf E a0 5) E 100 (fun x8 => ck (gi s6 a0 7) (ln E x8) (ss (si s6 a0 2 (gi s6 x8 (gi s6 a0 7).toNatClampNeg)) (fun s10 => ss (si s10 a0 6 ((gi s10 a0 6) - (1 : Int32))) (fun s11 => some ((gi s11 a0 6), s11)))))))))))) else (some ((-1 : Int32), σ)))
def fX6_keep (E : En) (a0 : Nat) (a1 : Int32) (σ : Sg) : Option (Int32 × Sg) := tk (cd E a0) 6 (if a1 < 0 then (some ((-1 : Int32), σ)) else (if a1 < (2 : Int32) then (dr (rf E a0 8) E 105 (fun x1 => ck a1 (ln E x1) (dr (rf E x1 a1.toNatClampNeg) E 4 (fun x3 => dr (rf E a0 3) E 4 (fun x4 => bv (fX4_copyFrom E x3 x4 σ) (fun s5 => dr (rf E a0 9) E 101 (fun x7 => ck a1 (ln E x7) (ss (si s5 x7 a1.toNatClampNeg (vp_nar .boolean (1 : Int32))) (fun s9 => dr (rf E x4 0) E 3 (fun x10 => some ((gi s9 x10 2), s9))))))))))) else (some ((-1 : Int32), σ))))
def fX6_back (E : En) (a0 : Nat) (a1 : Int32) (σ : Sg) : Option (Int32 × Sg) := tk (cd E a0) 6 (if a1 < 0 then (some ((-1 : Int32), σ)) else (if a1 < (2 : Int32) then (dr (rf E a0 9) E 101 (fun x1 => ck a1 (ln E x1) (if ¬ (gi σ x1 a1.toNatClampNeg) = 0 then (dr (rf E a0 3) E 4 (fun x3 => dr (rf E a0 8) E 105 (fun x4 => ck a1 (ln E x4) (dr (rf E x4 a1.toNatClampNeg) E 4 (fun x6 => bv (fX4_copyFrom E x3 x6 σ) (fun s7 => ss (si s7 a0 6 (0 : Int32)) (fun s9 => dr (rf E x3 0) E 3 (fun x10 => some ((gi s9 x10 2), s9))))))))) else (some ((-2 : Int32), σ))))) else (some ((-1 : Int32), σ))))
def fX6_count (E : En) (a0 : Nat) (a1 : Int32) (σ : Sg) : Option (Int32 × Sg) := tk (cd E a0) 6 (if a1 < (2 : Int32) then (if a1 < (8 : Int32) then (if a1 = (0 : Int32) then (dr (rf E a0 3) E 4 (fun x2 => dr (rf E x2 0) E 3 (fun x3 => some ((gi σ x3 2), σ)))) else (if a1 = (1 : Int32) then (dr (rf E a0 3) E 4 (fun x5 => bd (if (gi σ x5 2) < (1 : Int32) then (some ((0 : Int32), σ)) else (dr (rf E x5 3) E 0 (fun x8 => some ((gi σ x8 2), σ)))) (fun w6 s7 => some (w6, s7)))) else (if a1 = (2 : Int32) then (some ((-1 : Int32), σ)) else (if a1 = (3 : Int32) then (some ((-1 : Int32), σ)) else (if a1 = (4 : Int32) then (some ((-1 : Int32), σ)) else (if a1 = (5 : Int32) then (some ((-1 : Int32), σ)) else (if a1 = (6 : Int32) then (some ((-1 : Int32), σ)) else (if a1 = (7 : Int32) then (dr (rf E a0 3) E 4 (fun x15 => some ((gi σ x15 2), σ))) else (if a1 = (8 : Int32) then (some ((-1 : Int32), σ)) else (if a1 = (9 : Int32) then (some ((-1 : Int32), σ)) else (if a1 = (10 : Int32) then (some ((-1 : Int32), σ)) else (if a1 = (11 : Int32) then (some ((-1 : Int32), σ)) else (if a1 = (12 : Int32) then (some ((gi σ a0 6), σ)) else (if a1 = (13 : Int32) then (some ((gi σ a0 2), σ)) else (if a1 = (14 : Int32) then (some ((gi σ a0 1), σ)) else (if a1 = (15 : Int32) then (dr (rf E a0 3) E 4 (fun x24 => dr (rf E x24 1) E 100 (fun x25 => ck (5 : Int32) (ln E x25) (some ((gi σ x25 (5 : Int32).toNatClampNeg), σ))))) else ((some ((-1 : Int32), σ))))))))))))))))))) else (if (11 : Int32) < a1 then (if a1 = (0 : Int32) then (dr (rf E a0 3) E 4 (fun x28 => dr (rf E x28 0) E 3 (fun x29 => some ((gi σ x29 2), σ)))) else (if a1 = (1 : Int32) then (dr (rf E a0 3) E 4 (fun x31 => bd (if (gi σ x31 2) < (1 : Int32) then (some ((0 : Int32), σ)) else (dr (rf E x31 3) E 0 (fun x34 => some ((gi σ x34 2), σ)))) (fun w32 s33 => some (w32, s33)))) else (if a1 = (2 : Int32) then (some ((-1 : Int32), σ)) else (if a1 = (3 : Int32) then (some ((-1 : Int32), σ)) else (if a1 = (4 : Int32) then (some ((-1 : Int32), σ)) else (if a1 = (5 : Int32) then (some ((-1 : Int32), σ)) else (if a1 = (6 : Int32) then (some ((-1 : Int32), σ)) else (if a1 = (7 : Int32) then (dr (rf E a0 3) E 4 (fun x41 => some ((gi σ x41 2), σ))) else (if a1 = (8 : Int32) then (some ((-1 : Int32), σ)) else (if a1 = (9 : Int32) then (some ((-1 : Int32), σ)) else (if a1 = (10 : Int32) then (some ((-1 : Int32), σ)) else (if a1 = (11 : Int32) then (some ((-1 : Int32), σ)) else (if a1 = (12 : Int32) then (some ((gi σ a0 6), σ)) else (if a1 = (13 : Int32) then (some ((gi σ a0 2), σ)) else (if a1 = (14 : Int32) then (some ((gi σ a0 1), σ)) else (if a1 = (15 : Int32) then (dr (rf E a0 3) E 4 (fun x50 => dr (rf E x50 1) E 100 (fun x51 => ck (5 : Int32) (ln E x51) (some ((gi σ x51 (5 : Int32).toNatClampNeg), σ))))) else ((some ((-1 : Int32), σ))))))))))))))))))) else (dr (rf E a0 3) E 4 (fun x53 => bd (if (gi σ x53 2) < (2 : Int32) then (some ((0 : Int32), σ)) else (dr (rf E x53 4) E 1 (fun x56 => dr (rf E x56 12) E 100 (fun x57 => ck (a1 - (8 : Int32)) (ln E x57) (some ((gi σ x57 (a1 - (8 : Int32)).toNatClampNeg), σ)))))) (fun w54 s55 => some (w54, s55)))))) else (if (6 : Int32) < a1 then (if a1 < (8 : Int32) then (if a1 = (0 : Int32) then (dr (rf E a0 3) E 4 (fun x60 => dr (rf E x60 0) E 3 (fun x61 => some ((gi σ x61 2), σ)))) else (if a1 = (1 : Int32) then (dr (rf E a0 3) E 4 (fun x63 => bd (if (gi σ x63 2) < (1 : Int32) then (some ((0 : Int32), σ)) else (dr (rf E x63 3) E 0 (fun x66 => some ((gi σ x66 2), σ)))) (fun w64 s65 => some (w64, s65)))) else (if a1 = (2 : Int32) then (some ((-1 : Int32), σ)) else (if a1 = (3 : Int32) then (some ((-1 : Int32), σ)) else (if a1 = (4 : Int32) then (some ((-1 : Int32), σ)) else (if a1 = (5 : Int32) then (some ((-1 : Int32), σ)) else (if a1 = (6 : Int32) then (some ((-1 : Int32), σ)) else (if a1 = (7 : Int32) then (dr (rf E a0 3) E 4 (fun x73 => some ((gi σ x73 2), σ))) else (if a1 = (8 : Int32) then (some ((-1 : Int32), σ)) else (if a1 = (9 : Int32) then (some ((-1 : Int32), σ)) else (if a1 = (10 : Int32) then (some ((-1 : Int32), σ)) else (if a1 = (11 : Int32) then (some ((-1 : Int32), σ)) else (if a1 = (12 : Int32) then (some ((gi σ a0 6), σ)) else (if a1 = (13 : Int32) then (some ((gi σ a0 2), σ)) else (if a1 = (14 : Int32) then (some ((gi σ a0 1), σ)) else (if a1 = (15 : Int32) then (dr (rf E a0 3) E 4 (fun x82 => dr (rf E x82 1) E 100 (fun x83 => ck (5 : Int32) (ln E x83) (some ((gi σ x83 (5 : Int32).toNatClampNeg), σ))))) else ((some ((-1 : Int32), σ))))))))))))))))))) else (if (11 : Int32) < a1 then (if a1 = (0 : Int32) then (dr (rf E a0 3) E 4 (fun x86 => dr (rf E x86 0) E 3 (fun x87 => some ((gi σ x87 2), σ)))) else (if a1 = (1 : Int32) then (dr (rf E a0 3) E 4 (fun x89 => bd (if (gi σ x89 2) < (1 : Int32) then (some ((0 : Int32), σ)) else (dr (rf E x89 3) E 0 (fun x92 => some ((gi σ x92 2), σ)))) (fun w90 s91 => some (w90, s91)))) else (if a1 = (2 : Int32) then (some ((-1 : Int32), σ)) else (if a1 = (3 : Int32) then (some ((-1 : Int32), σ)) else (if a1 = (4 : Int32) then (some ((-1 : Int32), σ)) else (if a1 = (5 : Int32) then (some ((-1 : Int32), σ)) else (if a1 = (6 : Int32) then (some ((-1 : Int32), σ)) else (if a1 = (7 : Int32) then (dr (rf E a0 3) E 4 (fun x99 => some ((gi σ x99 2), σ))) else (if a1 = (8 : Int32) then (some ((-1 : Int32), σ)) else (if a1 = (9 : Int32) then (some ((-1 : Int32), σ)) else (if a1 = (10 : Int32) then (some ((-1 : Int32), σ)) else (if a1 = (11 : Int32) then (some ((-1 : Int32), σ)) else (if a1 = (12 : Int32) then (some ((gi σ a0 6), σ)) else (if a1 = (13 : Int32) then (some ((gi σ a0 2), σ)) else (if a1 = (14 : Int32) then (some ((gi σ a0 1), σ)) else (if a1 = (15 : Int32) then (dr (rf E a0 3) E 4 (fun x108 => dr (rf E x108 1) E 100 (fun x109 => ck (5 : Int32) (ln E x109) (some ((gi σ x109 (5 : Int32).toNatClampNeg), σ))))) else ((some ((-1 : Int32), σ))))))))))))))))))) else (dr (rf E a0 3) E 4 (fun x111 => bd (if (gi σ x111 2) < (2 : Int32) then (some ((0 : Int32), σ)) else (dr (rf E x111 4) E 1 (fun x114 => dr (rf E x114 12) E 100 (fun x115 => ck (a1 - (8 : Int32)) (ln E x115) (some ((gi σ x115 (a1 - (8 : Int32)).toNatClampNeg), σ)))))) (fun w112 s113 => some (w112, s113)))))) else (dr (rf E a0 3) E 4 (fun x117 => dr (rf E x117 1) E 100 (fun x118 => ck (a1 - (2 : Int32)) (ln E x118) (some ((gi σ x118 (a1 - (2 : Int32)).toNatClampNeg), σ)))))))
def fX7_in (E : En) (a0 : Int32) (a1 : Int32) (a2 : Int32) (σ : Sg) : Option (Int32 × Sg) := bd (if a0 < a1 then (some ((0 : Int32), σ)) else (if a2 < a0 then (some ((0 : Int32), σ)) else (some ((1 : Int32), σ)))) (fun w1 s2 => kb w1 (some (w1, s2)))
def fX7_truth (E : En) (a0 : Int32) (σ : Sg) : Option (Int32 × Sg) := bd (if a0 = 0 then (some ((0 : Int32), σ)) else (some ((1 : Int32), σ))) (fun w1 s2 => some (w1, s2))
def bX7_keepsIn_2 (E : En) (a0 : Nat) (a2 : Int32) (a1 : Nat) (rec : Int32 → Sg → Option ((Int32) × Sg)) (v1 : Int32) (s2 : Sg) : Option ((Int32) × Sg) := if (7827 : Int32) ≤ v1 then (some (v1, s2)) else (dr (rf E a0 0) E 100 (fun x7 => ck v1 (ln E x7) (ck (a2 + v1) (ln E a1) (ss (si s2 a1 (a2 + v1).toNatClampNeg (gi s2 x7 v1.toNatClampNeg)) (fun s10 => lt (v1 + (1 : Int32)) (fun v11 => rec v11 s10))))))
def fX7_keepsIn (E : En) (a0 : Nat) (a1 : Nat) (a2 : Int32) (σ : Sg) : Option (Sg) := tk (cd E a0) 7 (tk (cd E a1) 100 (bd (fx (fun rec a => bX7_keepsIn_2 E a0 a2 a1 (fun u0 t => rec (u0, t)) a.1 a.2) FU ((0 : Int32), σ)) (fun o12 s13 => some s13)))
def bX7_laysFrom_2 (E : En) (a0 : Nat) (a2 : Int32) (a1 : Nat) (rec : Int32 → Sg → Option ((Int32) × Sg)) (v1 : Int32) (s2 : Sg) : Option ((Int32) × Sg) := if (7827 : Int32) ≤ v1 then (some (v1, s2)) else (dr (rf E a0 0) E 100 (fun x7 => ck (a2 + v1) (ln E a1) (ck v1 (ln E x7) (ss (si s2 x7 v1.toNatClampNeg (gi s2 a1 (a2 + v1).toNatClampNeg)) (fun s10 => lt (v1 + (1 : Int32)) (fun v11 => rec v11 s10))))))
def fX7_laysFrom (E : En) (a0 : Nat) (a1 : Nat) (a2 : Int32) (σ : Sg) : Option (Sg) := tk (cd E a0) 7 (tk (cd E a1) 100 (bd (fx (fun rec a => bX7_laysFrom_2 E a0 a2 a1 (fun u0 t => rec (u0, t)) a.1 a.2) FU ((0 : Int32), σ)) (fun o12 s13 => some s13)))
def bX7_remembers_13 (E : En) (a0 : Nat) (rec : Int32 → Sg → Option ((Int32) × Sg)) (v3 : Int32) (s4 : Sg) : Option ((Int32) × Sg) := if (62616 : Int32) ≤ v3 then (some (v3, s4)) else (dr (rf E a0 2) E 100 (fun x9 => ck v3 (ln E x9) (ck (v3 - (7827 : Int32)) (ln E x9) (ss (si s4 x9 (v3 - (7827 : Int32)).toNatClampNeg (gi s4 x9 v3.toNatClampNeg)) (fun s12 => lt (v3 + (1 : Int32)) (fun v13 => rec v13 s12))))))
def fX7_remembers (E : En) (a0 : Nat) (σ : Sg) : Option (Sg) := tk (cd E a0) 7 (bd (if ¬ (gi σ a0 4) = (8 : Int32) then (some ((), σ)) else (bd (fx (fun rec a => bX7_remembers_13 E a0 (fun u0 t => rec (u0, t)) a.1 a.2) FU ((7827 : Int32), σ)) (fun o14 s15 => ss (si s15 a0 4 ((gi s15 a0 4) - (1 : Int32))) (fun s16 => some ((), s16))))) (fun w1 s2 => dr (rf E a0 2) E 100 (fun x17 => bv (fX7_keepsIn E a0 x17 ((7827 : Int32) * (gi s2 a0 4)) s2) (fun s18 => ss (si s18 a0 4 ((gi s18 a0 4) + (1 : Int32))) (fun s20 => some s20)))))
def fX7_undo (E : En) (a0 : Nat) (σ : Sg) : Option (Int32 × Sg) := tk (cd E a0) 7 (if ¬ (gi σ a0 4) = 0 then (ss (si σ a0 4 ((gi σ a0 4) - (1 : Int32))) (fun s1 => dr (rf E a0 2) E 100 (fun x2 => bv (fX7_laysFrom E a0 x2 ((7827 : Int32) * (gi s1 a0 4)) s1) (fun s3 => some ((gi s3 a0 4), s3))))) else (some ((-1 : Int32), σ)))
def bX7_puts_3 (E : En) (a0 : Nat) (a1 : Int32) (rec : Int32 → Sg → Option ((Int32) × Sg)) (v1 : Int32) (s2 : Sg) : Option ((Int32) × Sg) := if v1 < 0 then (some (v1, s2)) else (dr (rf E a0 6) E 102 (fun x7 => ck (gi s2 a0 7) (ln E x7) (ss (si s2 x7 (gi s2 a0 7).toNatClampNeg (vp_nar .byte ((a1 >>> (v1 &&& 31)).toInt8.toInt32))) (fun s9 => ss (si s9 a0 7 ((gi s9 a0 7) + (1 : Int32))) (fun s10 => lt (v1 + (-8 : Int32)) (fun v11 => rec v11 s10))))))
def fX7_puts (E : En) (a0 : Nat) (a1 : Int32) (σ : Sg) : Option (Sg) := tk (cd E a0) 7 (bd (fx (fun rec a => bX7_puts_3 E a0 a1 (fun u0 t => rec (u0, t)) a.1 a.2) FU ((24 : Int32), σ)) (fun o12 s13 => some s13))
def fX7_feed (E : En) (a0 : Nat) (a1 : Int32) (a2 : Int32) (a3 : Int32) (a4 : Int32) (a5 : Int32) (σ : Sg) : Option (Int32 × Sg) := tk (cd E a0) 7 (if ((gi σ a0 7) + (20 : Int32)) ≤ (200 : Int32) then (bv (fX7_puts E a0 a1 σ) (fun s1 => bv (fX7_puts E a0 a2 s1) (fun s3 => bv (fX7_puts E a0 a3 s3) (fun s5 => bv (fX7_puts E a0 a4 s5) (fun s7 => bv (fX7_puts E a0 a5 s7) (fun s9 => some ((gi s9 a0 7), s9))))))) else (some ((-1 : Int32), σ)))
def fX7_end (E : En) (a0 : Nat) (a1 : Int32) (σ : Sg) : Option (Int32 × Sg) := tk (cd E a0) 7 (if a1 < 0 then (some ((-1 : Int32), σ)) else (if a1 ≤ (gi σ a0 7) then (ss (si σ a0 7 a1) (fun s1 => some (a1, s1))) else (some ((-1 : Int32), σ))))
def fX7_many (E : En) (a0 : Nat) (σ : Sg) : Option (Int32 × Sg) := tk (cd E a0) 7 (dr (rf E a0 0) E 100 (fun x1 => ck (0 : Int32) (ln E x1) (some ((gi σ x1 (0 : Int32).toNatClampNeg), σ))))
def fX7_comes (E : En) (a0 : Nat) (a1 : Int32) (σ : Sg) : Option (Sg) := tk (cd E a0) 7 (dr (rf E a0 0) E 100 (fun x1 => bd (fX7_many E a0 σ) (fun r4 s2 => ck ((26 : Int32) + r4) (ln E x1) (ss (si s2 x1 ((26 : Int32) + r4).toNatClampNeg a1) (fun s6 => ck (0 : Int32) (ln E x1) (ck (0 : Int32) (ln E x1) (ss (si s6 x1 (0 : Int32).toNatClampNeg ((gi s6 x1 (0 : Int32).toNatClampNeg) + (1 : Int32))) (fun s9 => some s9))))))))
def fX7_clearsCounts (E : En) (a0 : Nat) (σ : Sg) : Option (Sg) := tk (cd E a0) 7 (dr (rf E a0 0) E 100 (fun x1 => ck (9 : Int32) (ln E x1) (ss (si σ x1 (9 : Int32).toNatClampNeg (0 : Int32)) (fun s3 => ck (10 : Int32) (ln E x1) (ss (si s3 x1 (10 : Int32).toNatClampNeg (0 : Int32)) (fun s5 => ck (11 : Int32) (ln E x1) (ss (si s5 x1 (11 : Int32).toNatClampNeg (0 : Int32)) (fun s7 => ck (12 : Int32) (ln E x1) (ss (si s7 x1 (12 : Int32).toNatClampNeg (0 : Int32)) (fun s9 => some s9))))))))))
def fX7_begins (E : En) (a0 : Nat) (σ : Sg) : Option (Sg) := tk (cd E a0) 7 (dr (rf E a0 0) E 100 (fun x1 => ck (7 : Int32) (ln E x1) (ss (si σ x1 (7 : Int32).toNatClampNeg (0 : Int32)) (fun s3 => ck (14 : Int32) (ln E x1) (ss (si s3 x1 (14 : Int32).toNatClampNeg (0 : Int32)) (fun s5 => ck (18 : Int32) (ln E x1) (ss (si s5 x1 (18 : Int32).toNatClampNeg (0 : Int32)) (fun s7 => bv (fX7_clearsCounts E a0 s7) (fun s8 => some s8)))))))))
def bX7_tell_30 (E : En) (a0 : Nat) (rec : Int32 → Sg → Option ((Int32) × Sg)) (v6 : Int32) (s7 : Sg) : Option ((Int32) × Sg) := if (gi s7 a0 7) ≤ v6 then (some (v6, s7)) else (dr (rf E a0 6) E 102 (fun x12 => ck v6 (ln E x12) (bv (fX7_comes E a0 ((gi s7 x12 v6.toNatClampNeg) &&& (255 : Int32)) s7) (fun s14 => lt (v6 + (1 : Int32)) (fun v16 => rec v16 s14)))))
def fX7_tell (E : En) (a0 : Nat) (σ : Sg) : Option (Int32 × Sg) := tk (cd E a0) 7 (if (gi σ a0 7) = 0 then (some ((-1 : Int32), σ)) else (bd (fX7_many E a0 σ) (fun r3 s1 => if (r3 + (gi s1 a0 7)) ≤ (300 : Int32) then (bv (fX7_remembers E a0 s1) (fun s4 => bd (fx (fun rec a => bX7_tell_30 E a0 (fun u0 t => rec (u0, t)) a.1 a.2) FU ((0 : Int32), s4)) (fun o17 s18 => ss (si s18 a0 7 (0 : Int32)) (fun s19 => bv (fX7_begins E a0 s19) (fun s20 => bd (fX7_many E a0 s20) (fun r24 s22 => some (r24, s22))))))) else (some ((-1 : Int32), s1)))))
def fX7_drawnOf (E : En) (a0 : Nat) (a1 : Int32) (σ : Sg) : Option (Int32 × Sg) := tk (cd E a0) 7 (dr (rf E a0 0) E 100 (fun x1 => ck (8 : Int32) (ln E x1) (ck (8 : Int32) (ln E x1) (ss (si σ x1 (8 : Int32).toNatClampNeg ((iml ((((gi σ x1 (8 : Int32).toNatClampNeg).toInt64) * (1103515245 : Int64)) + (12345 : Int64)) (2147483648 : Int64)).toInt32)) (fun s4 => ck (8 : Int32) (ln E x1) (nz a1 (some ((im ((gi s4 x1 (8 : Int32).toNatClampNeg) / (65536 : Int32)) a1), s4))))))))
def bX7_drawn_41 (E : En) (a1 : Int32) (a0 : Nat) (a2 : Int32) (rec : Int32 → Sg → Option ((Int32) × Sg)) (v12 : Int32) (s13 : Sg) : Option ((Int32) × Sg) := if a1 ≤ v12 then (some (v12, s13)) else (bd (fX7_drawnOf E a0 a2 s13) (fun r20 s18 => bv (fX7_comes E a0 r20 s18) (fun s21 => lt (v12 + (1 : Int32)) (fun v23 => rec v23 s21))))
def fX7_drawn (E : En) (a0 : Nat) (a1 : Int32) (a2 : Int32) (σ : Sg) : Option (Int32 × Sg) := tk (cd E a0) 7 (bd (fX7_in E a1 (1 : Int32) (100 : Int32) σ) (fun r3 s1 => if r3 = 0 then (some ((-1 : Int32), s1)) else (bd (fX7_in E a2 (1 : Int32) (256 : Int32) s1) (fun r6 s4 => if r6 = 0 then (some ((-1 : Int32), s4)) else (bd (fX7_many E a0 s4) (fun r9 s7 => if (r9 + a1) ≤ (300 : Int32) then (bv (fX7_remembers E a0 s7) (fun s10 => bd (fx (fun rec a => bX7_drawn_41 E a1 a0 a2 (fun u0 t => rec (u0, t)) a.1 a.2) FU ((0 : Int32), s10)) (fun o24 s25 => bv (fX7_begins E a0 s25) (fun s26 => bd (fX7_many E a0 s26) (fun r30 s28 => some (r30, s28)))))) else (some ((-1 : Int32), s7))))))))
def fX7_draws (E : En) (a0 : Nat) (a1 : Int32) (σ : Sg) : Option (Int32 × Sg) := tk (cd E a0) 7 (if 0 ≤ a1 then (dr (rf E a0 0) E 100 (fun x1 => ck (8 : Int32) (ln E x1) (lt (gi σ x1 (8 : Int32).toNatClampNeg) (fun v3 => ck (8 : Int32) (ln E x1) (ss (si σ x1 (8 : Int32).toNatClampNeg a1) (fun s5 => some (v3, s5))))))) else (some ((-1 : Int32), σ)))
def fX7_clear (E : En) (a0 : Nat) (σ : Sg) : Option (Int32 × Sg) := tk (cd E a0) 7 (bv (fX7_remembers E a0 σ) (fun s1 => bd (fX7_many E a0 s1) (fun r5 s3 => dr (rf E a0 0) E 100 (fun x6 => ck (0 : Int32) (ln E x6) (ss (si s3 x6 (0 : Int32).toNatClampNeg (0 : Int32)) (fun s8 => bv (fX7_begins E a0 s8) (fun s9 => some (r5, s9))))))))
def fX7_canSet (E : En) (a0 : Int32) (a1 : Int32) (σ : Sg) : Option (Int32 × Sg) := if a0 = (0 : Int32) then (bd (fX7_in E a1 (2 : Int32) (16 : Int32) σ) (fun r4 s2 => kb r4 (some (r4, s2)))) else (if a0 = (1 : Int32) then (bd (fX7_in E a1 (3 : Int32) (6 : Int32) σ) (fun r9 s7 => kb r9 (some (r9, s7)))) else (if a0 = (2 : Int32) then (bd (fX7_in E a1 (0 : Int32) (2 : Int32) σ) (fun r14 s12 => kb r14 (some (r14, s12)))) else (if a0 = (3 : Int32) then (bd (fX7_in E a1 (0 : Int32) (1 : Int32) σ) (fun r19 s17 => kb r19 (some (r19, s17)))) else (if a0 = (4 : Int32) then (bd (fX7_in E a1 (0 : Int32) (1 : Int32) σ) (fun r24 s22 => kb r24 (some (r24, s22)))) else (if a0 = (5 : Int32) then (bd (fX7_in E a1 (0 : Int32) (1 : Int32) σ) (fun r29 s27 => kb r29 (some (r29, s27)))) else ((some ((0 : Int32), σ))))))))
def fX7_settle (E : En) (a0 : Nat) (a1 : Int32) (a2 : Int32) (σ : Sg) : Option (Int32 × Sg) := tk (cd E a0) 7 (bd (fX7_canSet E a1 a2 σ) (fun r3 s1 => if ¬ r3 = 0 then (dr (rf E a0 0) E 100 (fun x4 => ck ((1 : Int32) + a1) (ln E x4) (lt (gi s1 x4 ((1 : Int32) + a1).toNatClampNeg) (fun v6 => if ¬ v6 = a2 then (bv (fX7_remembers E a0 s1) (fun s7 => ck ((1 : Int32) + a1) (ln E x4) (ss (si s7 x4 ((1 : Int32) + a1).toNatClampNeg a2) (fun s10 => bv (fX7_begins E a0 s10) (fun s11 => some (v6, s11)))))) else (some ((-2 : Int32), s1)))))) else (some ((-1 : Int32), s1))))
def fX7_room (E : En) (a0 : Nat) (σ : Sg) : Option (Int32 × Sg) := tk (cd E a0) 7 (dr (rf E a0 0) E 100 (fun x1 => ck (1 : Int32) (ln E x1) (some ((gi σ x1 (1 : Int32).toNatClampNeg), σ))))
def fX7_tapes (E : En) (a0 : Nat) (σ : Sg) : Option (Int32 × Sg) := tk (cd E a0) 7 (dr (rf E a0 0) E 100 (fun x1 => ck (2 : Int32) (ln E x1) (some ((gi σ x1 (2 : Int32).toNatClampNeg), σ))))
def fX7_way (E : En) (a0 : Nat) (σ : Sg) : Option (Int32 × Sg) := tk (cd E a0) 7 (dr (rf E a0 0) E 100 (fun x1 => ck (3 : Int32) (ln E x1) (some ((gi σ x1 (3 : Int32).toNatClampNeg), σ))))
def fX7_isFront (E : En) (a0 : Nat) (σ : Sg) : Option (Int32 × Sg) := tk (cd E a0) 7 (dr (rf E a0 0) E 100 (fun x1 => ck (4 : Int32) (ln E x1) (bd (if ¬ (gi σ x1 (4 : Int32).toNatClampNeg) = (1 : Int32) then (some ((0 : Int32), σ)) else (some ((1 : Int32), σ))) (fun w3 s4 => kb w3 (some (w3, s4))))))
def fX7_isBack (E : En) (a0 : Nat) (σ : Sg) : Option (Int32 × Sg) := tk (cd E a0) 7 (dr (rf E a0 0) E 100 (fun x1 => ck (5 : Int32) (ln E x1) (bd (if ¬ (gi σ x1 (5 : Int32).toNatClampNeg) = (1 : Int32) then (some ((0 : Int32), σ)) else (some ((1 : Int32), σ))) (fun w3 s4 => kb w3 (some (w3, s4))))))
def fX7_doesFall (E : En) (a0 : Nat) (a1 : Int32) (σ : Sg) : Option (Int32 × Sg) := tk (cd E a0) 7 (dr (rf E a0 0) E 100 (fun x1 => ck (6 : Int32) (ln E x1) (bd (if ¬ (gi σ x1 (6 : Int32).toNatClampNeg) = (1 : Int32) then (some ((0 : Int32), σ)) else (if ¬ (im a1 (2 : Int32)) = (1 : Int32) then (some ((0 : Int32), σ)) else (some ((1 : Int32), σ)))) (fun w3 s4 => kb w3 (some (w3, s4))))))
def fX7_isLess (E : En) (a0 : Nat) (a1 : Int32) (a2 : Int32) (σ : Sg) : Option (Int32 × Sg) := tk (cd E a0) 7 (dr (rf E a0 0) E 100 (fun x1 => ck ((26 : Int32) + a1) (ln E x1) (ck ((26 : Int32) + a2) (ln E x1) (bd (if (gi σ x1 ((26 : Int32) + a1).toNatClampNeg) = (gi σ x1 ((26 : Int32) + a2).toNatClampNeg) then (if a2 ≤ a1 then (some ((0 : Int32), σ)) else (some ((1 : Int32), σ))) else (ck ((26 : Int32) + a1) (ln E x1) (ck ((26 : Int32) + a2) (ln E x1) (if (gi σ x1 ((26 : Int32) + a2).toNatClampNeg) ≤ (gi σ x1 ((26 : Int32) + a1).toNatClampNeg) then (some ((0 : Int32), σ)) else (some ((1 : Int32), σ)))))) (fun w4 s5 => kb w4 (some (w4, s5)))))))
def fX7_comesIn (E : En) (a0 : Nat) (a1 : Int32) (a2 : Int32) (σ : Sg) : Option (Sg) := tk (cd E a0) 7 (dr (rf E a0 8) E 100 (fun x1 => ck (gi σ a0 10) (ln E x1) (ss (si σ x1 (gi σ a0 10).toNatClampNeg a1) (fun s3 => dr (rf E a0 9) E 100 (fun x4 => ck (gi s3 a0 10) (ln E x4) (ss (si s3 x4 (gi s3 a0 10).toNatClampNeg a2) (fun s6 => ss (si s6 a0 10 ((gi s6 a0 10) + (1 : Int32))) (fun s7 => some s7))))))))
def bX7_firstOf_4 (E : En) (a0 : Nat) (a1 : Int32) (rec : Int32 → Int32 → Sg → Option ((Int32 × Int32) × Sg)) (v1 : Int32) (v2 : Int32) (s3 : Sg) : Option ((Int32 × Int32) × Sg) := if (gi s3 a0 10) ≤ v2 then (some ((v1, v2), s3)) else (dr (rf E a0 9) E 100 (fun x8 => ck v2 (ln E x8) (bd (if ¬ (gi s3 x8 v2.toNatClampNeg) = a1 then (some (v1, s3)) else (if v1 = (-1 : Int32) then (some (v2, s3)) else (dr (rf E a0 8) E 100 (fun x12 => ck v2 (ln E x12) (ck v1 (ln E x12) (bd (fX7_isLess E a0 (gi s3 x12 v2.toNatClampNeg) (gi s3 x12 v1.toNatClampNeg) s3) (fun r17 s15 => bd (fX7_doesFall E a0 a1 s15) (fun r20 s18 => if r17 = r20 then (some (v1, s18)) else (some (v2, s18)))))))))) (fun w10 s11 => lt (v2 + (1 : Int32)) (fun v21 => rec w10 v21 s11)))))
def fX7_firstOf (E : En) (a0 : Nat) (a1 : Int32) (σ : Sg) : Option (Int32 × Sg) := tk (cd E a0) 7 (bd (fx (fun rec a => bX7_firstOf_4 E a0 a1 (fun u0 u1 t => rec ((u0, u1), t)) a.1.1 a.1.2 a.2) FU (((-1 : Int32), (0 : Int32)), σ)) (fun o22 s23 => some (o22.1, s23)))
def bX7_laysRuns_7 (E : En) (a0 : Nat) (rec : Int32 → Sg → Option ((Int32) × Sg)) (v2 : Int32) (s3 : Sg) : Option ((Int32) × Sg) := bd (fX7_many E a0 s3) (fun r10 s8 => if r10 ≤ v2 then (some (v2, s8)) else (bd (fX7_room E a0 s8) (fun r13 s11 => if r13 ≤ (gi s8 a0 10) then (some (v2, s11)) else (bv (fX7_comesIn E a0 v2 (0 : Int32) s11) (fun s14 => lt (v2 + (1 : Int32)) (fun v16 => rec v16 s14))))))
def bX7_laysRuns_51 (E : En) (a0 : Nat) (x19 : Nat) (rec : Int32 → Int32 → Int32 → Sg → Option ((Int32 × Int32 × Int32) × Sg)) (v22 : Int32) (v23 : Int32) (v24 : Int32) (s25 : Sg) : Option ((Int32 × Int32 × Int32) × Sg) := bd (fX7_many E a0 s25) (fun r32 s30 => if r32 ≤ v24 then (some ((v22, v23, v24), s30)) else (bd (fX7_firstOf E a0 v23 s30) (fun r35 s33 => bd (if ¬ r35 = (-1 : Int32) then (some ((v23, r35), s33)) else (lt (v23 + (1 : Int32)) (fun v38 => ck ((926 : Int32) + v38) (ln E x19) (ss (si s33 x19 ((926 : Int32) + v38).toNatClampNeg v24) (fun s40 => bd (fX7_firstOf E a0 v38 s40) (fun r43 s41 => some ((v38, r43), s41))))))) (fun w36 s37 => dr (rf E a0 8) E 100 (fun x44 => ck w36.2 (ln E x44) (lt (gi s37 x44 w36.2.toNatClampNeg) (fun v46 => ck ((626 : Int32) + v24) (ln E x19) (ss (si s37 x19 ((626 : Int32) + v24).toNatClampNeg v46) (fun s48 => ck ((326 : Int32) + v46) (ln E x19) (ss (si s48 x19 ((326 : Int32) + v46).toNatClampNeg w36.1) (fun s50 => ss (si s50 a0 10 ((gi s50 a0 10) - (1 : Int32))) (fun s51 => ck (gi s51 a0 10) (ln E x44) (ck w36.2 (ln E x44) (ss (si s51 x44 w36.2.toNatClampNeg (gi s51 x44 (gi s51 a0 10).toNatClampNeg)) (fun s54 => dr (rf E a0 9) E 100 (fun x55 => ck (gi s54 a0 10) (ln E x55) (ck w36.2 (ln E x55) (ss (si s54 x55 w36.2.toNatClampNeg (gi s54 x55 (gi s54 a0 10).toNatClampNeg)) (fun s58 => bd (fX7_many E a0 s58) (fun r61 s59 => bd (if r61 ≤ v22 then (some (v22, s59)) else (bd (fX7_isLess E a0 v22 v46 s59) (fun r66 s64 => bd (fX7_doesFall E a0 w36.1 s64) (fun r69 s67 => bd (if ¬ r66 = r69 then (some ((w36.1 + (1 : Int32)), s67)) else (some (w36.1, s67))) (fun w70 s71 => bv (fX7_comesIn E a0 v22 w70 s71) (fun s72 => lt (v22 + (1 : Int32)) (fun v74 => some (v74, s72)))))))) (fun w62 s63 => lt (v24 + (1 : Int32)) (fun v75 => rec w62 w36.1 v75 s63))))))))))))))))))))))
def fX7_laysRuns (E : En) (a0 : Nat) (σ : Sg) : Option (Sg) := tk (cd E a0) 7 (ss (si σ a0 10 (0 : Int32)) (fun s1 => bd (fx (fun rec a => bX7_laysRuns_7 E a0 (fun u0 t => rec (u0, t)) a.1 a.2) FU ((0 : Int32), s1)) (fun o17 s18 => dr (rf E a0 0) E 100 (fun x19 => ck (926 : Int32) (ln E x19) (ss (si s18 x19 (926 : Int32).toNatClampNeg (0 : Int32)) (fun s21 => bd (fx (fun rec a => bX7_laysRuns_51 E a0 x19 (fun u0 u1 u2 t => rec ((u0, u1, u2), t)) a.1.1 a.1.2.1 a.1.2.2 a.2) FU ((o17, (0 : Int32), (0 : Int32)), s21)) (fun o76 s77 => ck (14 : Int32) (ln E x19) (ss (si s77 x19 (14 : Int32).toNatClampNeg (o76.2.1 + (1 : Int32))) (fun s79 => bd (fX7_many E a0 s79) (fun r82 s80 => ck (((926 : Int32) + o76.2.1) + (1 : Int32)) (ln E x19) (ss (si s80 x19 (((926 : Int32) + o76.2.1) + (1 : Int32)).toNatClampNeg r82) (fun s84 => some s84))))))))))))
def fX7_grow (E : En) (a0 : Nat) (σ : Sg) : Option (Int32 × Sg) := tk (cd E a0) 7 (bd (fX7_many E a0 σ) (fun r3 s1 => if ¬ r3 = 0 then (dr (rf E a0 0) E 100 (fun x4 => ck (7 : Int32) (ln E x4) (if (gi s1 x4 (7 : Int32).toNatClampNeg) ≤ 0 then (bv (fX7_remembers E a0 s1) (fun s6 => bv (fX7_laysRuns E a0 s6) (fun s8 => ck (7 : Int32) (ln E x4) (ss (si s8 x4 (7 : Int32).toNatClampNeg (1 : Int32)) (fun s11 => ck (14 : Int32) (ln E x4) (some ((gi s11 x4 (14 : Int32).toNatClampNeg), s11))))))) else (some ((-2 : Int32), s1))))) else (some ((-1 : Int32), s1))))
def fX7_runSize (E : En) (a0 : Nat) (a1 : Int32) (σ : Sg) : Option (Int32 × Sg) := tk (cd E a0) 7 (dr (rf E a0 0) E 100 (fun x1 => ck (((926 : Int32) + a1) + (1 : Int32)) (ln E x1) (ck ((926 : Int32) + a1) (ln E x1) (some (((gi σ x1 (((926 : Int32) + a1) + (1 : Int32)).toNatClampNeg) - (gi σ x1 ((926 : Int32) + a1).toNatClampNeg)), σ)))))
def bX7_laysPerfect_3 (E : En) (a3 : Int32) (a0 : Nat) (rec : Int32 → Sg → Option ((Int32) × Sg)) (v1 : Int32) (s2 : Sg) : Option ((Int32) × Sg) := if a3 ≤ v1 then (some (v1, s2)) else (dr (rf E a0 11) E 100 (fun x7 => bd (if ¬ v1 = 0 then (some ((0 : Int32), s2)) else (some ((1 : Int32), s2))) (fun w8 s9 => bd (fX7_truth E w8 s9) (fun r12 s10 => ck v1 (ln E x7) (ss (si s10 x7 v1.toNatClampNeg r12) (fun s14 => lt (v1 + (1 : Int32)) (fun v15 => rec v15 s14)))))))
def bX7_laysPerfect_50 (E : En) (a3 : Int32) (a0 : Nat) (a2 : Int32) (rec : Int32 → Int32 → Sg → Option ((Int32 × Int32) × Sg)) (v24 : Int32) (v25 : Int32) (s26 : Sg) : Option ((Int32 × Int32) × Sg) := if a3 ≤ v25 then (some ((v24, v25), s26)) else (dr (rf E a0 11) E 100 (fun x31 => ck v25 (ln E x31) (lt (v24 + (gi s26 x31 v25.toNatClampNeg)) (fun v33 => bd (if ¬ a2 = 0 then (dr (rf E a0 12) E 100 (fun x36 => ck ((a3 - (1 : Int32)) - v25) (ln E x36) (ss (si s26 x36 ((a3 - (1 : Int32)) - v25).toNatClampNeg v33) (fun s38 => some ((), s38))))) else (dr (rf E a0 12) E 100 (fun x39 => ck (0 : Int32) (ln E x31) (bd (if a3 ≤ (v25 + (1 : Int32)) then (some ((0 : Int32), s26)) else (ck (v25 + (1 : Int32)) (ln E x31) (some ((gi s26 x31 (v25 + (1 : Int32)).toNatClampNeg), s26)))) (fun w41 s42 => ck v25 (ln E x39) (ss (si s42 x39 v25.toNatClampNeg ((gi s26 x31 (0 : Int32).toNatClampNeg) + w41)) (fun s45 => some ((), s45)))))))) (fun w34 s35 => lt (v25 + (1 : Int32)) (fun v46 => rec v33 v46 s35))))))
def bX7_laysPerfect_132 (E : En) (a3 : Int32) (a0 : Nat) (rec : Int32 → Sg → Option ((Int32) × Sg)) (v49 : Int32) (s50 : Sg) : Option ((Int32) × Sg) := if a3 ≤ v49 then (some (v49, s50)) else (dr (rf E a0 11) E 100 (fun x55 => dr (rf E a0 12) E 100 (fun x56 => ck v49 (ln E x56) (ck v49 (ln E x55) (ss (si s50 x55 v49.toNatClampNeg (gi s50 x56 v49.toNatClampNeg)) (fun s59 => lt (v49 + (1 : Int32)) (fun v60 => rec v60 s59)))))))
def bX7_laysPerfect_38 (E : En) (a1 : Int32) (a3 : Int32) (a0 : Nat) (a2 : Int32) (rec : Int32 → Sg → Option ((Int32) × Sg)) (v18 : Int32) (s19 : Sg) : Option ((Int32) × Sg) := if a1 ≤ v18 then (some (v18, s19)) else (bd (fx (fun rec a => bX7_laysPerfect_50 E a3 a0 a2 (fun u0 u1 t => rec ((u0, u1), t)) a.1.1 a.1.2 a.2) FU (((0 : Int32), (0 : Int32)), s19)) (fun o47 s48 => bd (fx (fun rec a => bX7_laysPerfect_132 E a3 a0 (fun u0 t => rec (u0, t)) a.1 a.2) FU ((0 : Int32), s48)) (fun o61 s62 => lt (v18 + (1 : Int32)) (fun v63 => rec v63 s62))))
def fX7_laysPerfect (E : En) (a0 : Nat) (a1 : Int32) (a2 : Int32) (a3 : Int32) (σ : Sg) : Option (Sg) := tk (cd E a0) 7 (bd (fx (fun rec a => bX7_laysPerfect_3 E a3 a0 (fun u0 t => rec (u0, t)) a.1 a.2) FU ((0 : Int32), σ)) (fun o16 s17 => bd (fx (fun rec a => bX7_laysPerfect_38 E a1 a3 a0 a2 (fun u0 t => rec (u0, t)) a.1 a.2) FU ((0 : Int32), s17)) (fun o64 s65 => some s65)))
def bX7_allPerfect_4 (E : En) (a1 : Int32) (a0 : Nat) (rec : Int32 → Int32 → Sg → Option ((Int32 × Int32) × Sg)) (v1 : Int32) (v2 : Int32) (s3 : Sg) : Option ((Int32 × Int32) × Sg) := if a1 ≤ v2 then (some ((v1, v2), s3)) else (dr (rf E a0 11) E 100 (fun x8 => ck v2 (ln E x8) (lt (v1 + (gi s3 x8 v2.toNatClampNeg)) (fun v10 => lt (v2 + (1 : Int32)) (fun v11 => rec v10 v11 s3)))))
def fX7_allPerfect (E : En) (a0 : Nat) (a1 : Int32) (σ : Sg) : Option (Int32 × Sg) := tk (cd E a0) 7 (bd (fx (fun rec a => bX7_allPerfect_4 E a1 a0 (fun u0 u1 t => rec ((u0, u1), t)) a.1.1 a.1.2 a.2) FU (((0 : Int32), (0 : Int32)), σ)) (fun o12 s13 => some (o12.1, s13)))
def fX7_perfect (E : En) (a0 : Nat) (a1 : Int32) (a2 : Int32) (σ : Sg) : Option (Int32 × Sg) := tk (cd E a0) 7 (bd (fX7_tapes E a0 σ) (fun r3 s1 => lt (r3 - (1 : Int32)) (fun v4 => bd (fX7_in E a1 (0 : Int32) (8 : Int32) s1) (fun r7 s5 => if r7 = 0 then (some ((-1 : Int32), s5)) else (bd (fX7_in E a2 (-1 : Int32) (v4 - (1 : Int32)) s5) (fun r10 s8 => if r10 = 0 then (some ((-1 : Int32), s8)) else (bd (fX7_way E a0 s8) (fun r13 s11 => if ¬ r13 = (1 : Int32) then (bd (fX7_way E a0 s11) (fun r16 s14 => bv (fX7_laysPerfect E a0 a1 r16 v4 s14) (fun s17 => bd (if ¬ a2 = (-1 : Int32) then (dr (rf E a0 11) E 100 (fun x21 => ck a2 (ln E x21) (some ((gi s17 x21 a2.toNatClampNeg), s17)))) else (bd (fX7_allPerfect E a0 v4 s17) (fun r25 s23 => some (r25, s23)))) (fun w19 s20 => some (w19, s20))))) else (some ((-1 : Int32), s11))))))))))
def fX7_runAt (E : En) (a0 : Nat) (a1 : Int32) (a2 : Int32) (σ : Sg) : Option (Int32 × Sg) := tk (cd E a0) 7 (dr (rf E a0 0) E 100 (fun x1 => ck (((3327 : Int32) + ((700 : Int32) * a1)) + a2) (ln E x1) (some ((gi σ x1 (((3327 : Int32) + ((700 : Int32) * a1)) + a2).toNatClampNeg), σ))))
def fX7_comesLast (E : En) (a0 : Nat) (a1 : Int32) (a2 : Int32) (σ : Sg) : Option (Sg) := tk (cd E a0) 7 (dr (rf E a0 0) E 100 (fun x1 => ck ((20 : Int32) + a1) (ln E x1) (ck (((3327 : Int32) + ((700 : Int32) * a1)) + (gi σ x1 ((20 : Int32) + a1).toNatClampNeg)) (ln E x1) (ss (si σ x1 (((3327 : Int32) + ((700 : Int32) * a1)) + (gi σ x1 ((20 : Int32) + a1).toNatClampNeg)).toNatClampNeg a2) (fun s4 => ck ((20 : Int32) + a1) (ln E x1) (ck ((20 : Int32) + a1) (ln E x1) (ss (si s4 x1 ((20 : Int32) + a1).toNatClampNeg ((gi s4 x1 ((20 : Int32) + a1).toNatClampNeg) + (1 : Int32))) (fun s7 => some s7))))))))
def bX7_comesFirst_10 (E : En) (a1 : Int32) (x1 : Nat) (rec : Int32 → Sg → Option ((Int32) × Sg)) (v4 : Int32) (s5 : Sg) : Option ((Int32) × Sg) := if v4 ≤ 0 then (some (v4, s5)) else (ck ((((3327 : Int32) + ((700 : Int32) * a1)) + v4) - (1 : Int32)) (ln E x1) (ck (((3327 : Int32) + ((700 : Int32) * a1)) + v4) (ln E x1) (ss (si s5 x1 (((3327 : Int32) + ((700 : Int32) * a1)) + v4).toNatClampNeg (gi s5 x1 ((((3327 : Int32) + ((700 : Int32) * a1)) + v4) - (1 : Int32)).toNatClampNeg)) (fun s12 => lt (v4 + (-1 : Int32)) (fun v13 => rec v13 s12)))))
def fX7_comesFirst (E : En) (a0 : Nat) (a1 : Int32) (a2 : Int32) (σ : Sg) : Option (Sg) := tk (cd E a0) 7 (dr (rf E a0 0) E 100 (fun x1 => ck ((20 : Int32) + a1) (ln E x1) (lt (gi σ x1 ((20 : Int32) + a1).toNatClampNeg) (fun v3 => bd (fx (fun rec a => bX7_comesFirst_10 E a1 x1 (fun u0 t => rec (u0, t)) a.1 a.2) FU (v3, σ)) (fun o14 s15 => ck ((3327 : Int32) + ((700 : Int32) * a1)) (ln E x1) (ss (si s15 x1 ((3327 : Int32) + ((700 : Int32) * a1)).toNatClampNeg a2) (fun s17 => ck ((20 : Int32) + a1) (ln E x1) (ck ((20 : Int32) + a1) (ln E x1) (ss (si s17 x1 ((20 : Int32) + a1).toNatClampNeg ((gi s17 x1 ((20 : Int32) + a1).toNatClampNeg) + (1 : Int32))) (fun s20 => some s20))))))))))
def bX7_takesFirst_22 (E : En) (a1 : Int32) (x4 : Nat) (rec : Int32 → Sg → Option ((Int32) × Sg)) (v8 : Int32) (s9 : Sg) : Option ((Int32) × Sg) := ck ((20 : Int32) + a1) (ln E x4) (if (gi s9 x4 ((20 : Int32) + a1).toNatClampNeg) ≤ v8 then (some (v8, s9)) else (ck ((((3327 : Int32) + ((700 : Int32) * a1)) + v8) + (1 : Int32)) (ln E x4) (ck (((3327 : Int32) + ((700 : Int32) * a1)) + v8) (ln E x4) (ss (si s9 x4 (((3327 : Int32) + ((700 : Int32) * a1)) + v8).toNatClampNeg (gi s9 x4 ((((3327 : Int32) + ((700 : Int32) * a1)) + v8) + (1 : Int32)).toNatClampNeg)) (fun s17 => lt (v8 + (1 : Int32)) (fun v18 => rec v18 s17))))))
def fX7_takesFirst (E : En) (a0 : Nat) (a1 : Int32) (σ : Sg) : Option (Int32 × Sg) := tk (cd E a0) 7 (bd (fX7_runAt E a0 a1 (0 : Int32) σ) (fun r3 s1 => dr (rf E a0 0) E 100 (fun x4 => ck ((20 : Int32) + a1) (ln E x4) (ck ((20 : Int32) + a1) (ln E x4) (ss (si s1 x4 ((20 : Int32) + a1).toNatClampNeg ((gi s1 x4 ((20 : Int32) + a1).toNatClampNeg) - (1 : Int32))) (fun s7 => bd (fx (fun rec a => bX7_takesFirst_22 E a1 x4 (fun u0 t => rec (u0, t)) a.1 a.2) FU ((0 : Int32), s7)) (fun o19 s20 => some (r3, s20))))))))
def fX7_makesRun (E : En) (a0 : Nat) (a1 : Int32) (a2 : Int32) (σ : Sg) : Option (Int32 × Sg) := tk (cd E a0) 7 (dr (rf E a0 0) E 100 (fun x1 => ck ((1227 : Int32) + (gi σ a0 15)) (ln E x1) (ss (si σ x1 ((1227 : Int32) + (gi σ a0 15)).toNatClampNeg a1) (fun s3 => ck ((1927 : Int32) + (gi s3 a0 15)) (ln E x1) (ss (si s3 x1 ((1927 : Int32) + (gi s3 a0 15)).toNatClampNeg a2) (fun s5 => ck ((2627 : Int32) + (gi s5 a0 15)) (ln E x1) (ss (si s5 x1 ((2627 : Int32) + (gi s5 a0 15)).toNatClampNeg (0 : Int32)) (fun s7 => ss (si s7 a0 15 ((gi s7 a0 15) + (1 : Int32))) (fun s8 => some (((gi s8 a0 15) - (1 : Int32)), s8))))))))))
def bX7_dealsDummies_2 (E : En) (a1 : Int32) (a0 : Nat) (rec : Int32 → Sg → Option ((Int32) × Sg)) (v1 : Int32) (s2 : Sg) : Option ((Int32) × Sg) := if a1 ≤ v1 then (some (v1, s2)) else (dr (rf E a0 13) E 100 (fun x7 => ck v1 (ln E x7) (ss (si s2 x7 v1.toNatClampNeg (0 : Int32)) (fun s9 => lt (v1 + (1 : Int32)) (fun v10 => rec v10 s9)))))
def bX7_dealsDummies_33 (E : En) (a1 : Int32) (a0 : Nat) (rec : Int32 → Int32 → Sg → Option ((Int32 × Int32) × Sg)) (v19 : Int32) (v20 : Int32) (s21 : Sg) : Option ((Int32 × Int32) × Sg) := if a1 ≤ v20 then (some ((v19, v20), s21)) else (dr (rf E a0 13) E 100 (fun x26 => ck v20 (ln E x26) (dr (rf E a0 11) E 100 (fun x28 => ck v20 (ln E x28) (bd (if (gi s21 x28 v20.toNatClampNeg) ≤ (gi s21 x26 v20.toNatClampNeg) then (some ((0 : Int32), s21)) else (some ((1 : Int32), s21))) (fun w30 s31 => bd (if w30 = 0 then (some (v19, s31)) else (if v19 = (-1 : Int32) then (some (v20, s31)) else (bd (fX7_isFront E a0 s31) (fun r36 s34 => if ¬ r36 = 0 then (some (v19, s34)) else (ck v20 (ln E x26) (ck v19 (ln E x26) (if (gi s34 x26 v19.toNatClampNeg) ≤ (gi s34 x26 v20.toNatClampNeg) then (some (v19, s34)) else (some (v20, s34))))))))) (fun w32 s33 => lt (v20 + (1 : Int32)) (fun v39 => rec w32 v39 s33))))))))
def bX7_dealsDummies_22 (E : En) (a2 : Int32) (a1 : Int32) (a0 : Nat) (rec : Int32 → Sg → Option ((Int32) × Sg)) (v13 : Int32) (s14 : Sg) : Option ((Int32) × Sg) := if a2 ≤ v13 then (some (v13, s14)) else (bd (fx (fun rec a => bX7_dealsDummies_33 E a1 a0 (fun u0 u1 t => rec ((u0, u1), t)) a.1.1 a.1.2 a.2) FU (((-1 : Int32), (0 : Int32)), s14)) (fun o40 s41 => dr (rf E a0 13) E 100 (fun x42 => ck o40.1 (ln E x42) (ck o40.1 (ln E x42) (ss (si s41 x42 o40.1.toNatClampNeg ((gi s41 x42 o40.1.toNatClampNeg) + (1 : Int32))) (fun s45 => lt (v13 + (1 : Int32)) (fun v46 => rec v46 s45)))))))
def bX7_dealsDummies_135 (E : En) (a0 : Nat) (v49 : Int32) (rec : Int32 → Sg → Option ((Int32) × Sg)) (v55 : Int32) (s56 : Sg) : Option ((Int32) × Sg) := dr (rf E a0 13) E 100 (fun x61 => ck v49 (ln E x61) (if (gi s56 x61 v49.toNatClampNeg) ≤ v55 then (some (v55, s56)) else (bd (fX7_makesRun E a0 (0 : Int32) (0 : Int32) s56) (fun r65 s63 => bv (fX7_comesLast E a0 v49 r65 s63) (fun s66 => lt (v55 + (1 : Int32)) (fun v68 => rec v68 s66))))))
def bX7_dealsDummies_127 (E : En) (a1 : Int32) (a0 : Nat) (rec : Int32 → Sg → Option ((Int32) × Sg)) (v49 : Int32) (s50 : Sg) : Option ((Int32) × Sg) := if a1 ≤ v49 then (some (v49, s50)) else (bd (fx (fun rec a => bX7_dealsDummies_135 E a0 v49 (fun u0 t => rec (u0, t)) a.1 a.2) FU ((0 : Int32), s50)) (fun o69 s70 => lt (v49 + (1 : Int32)) (fun v71 => rec v71 s70)))
def fX7_dealsDummies (E : En) (a0 : Nat) (a1 : Int32) (a2 : Int32) (σ : Sg) : Option (Sg) := tk (cd E a0) 7 (bd (fx (fun rec a => bX7_dealsDummies_2 E a1 a0 (fun u0 t => rec (u0, t)) a.1 a.2) FU ((0 : Int32), σ)) (fun o11 s12 => bd (fx (fun rec a => bX7_dealsDummies_22 E a2 a1 a0 (fun u0 t => rec (u0, t)) a.1 a.2) FU ((0 : Int32), s12)) (fun o47 s48 => bd (fx (fun rec a => bX7_dealsDummies_127 E a1 a0 (fun u0 t => rec (u0, t)) a.1 a.2) FU ((0 : Int32), s48)) (fun o72 s73 => some s73))))
def bX7_dealsRun_83 (E : En) (w23 : Int32) (a1 : Int32) (x1 : Nat) (rec : Int32 → Sg → Option ((Int32) × Sg)) (v29 : Int32) (s30 : Sg) : Option ((Int32) × Sg) := if v29 ≤ w23 then (some (v29, s30)) else (ck ((((3327 : Int32) + ((700 : Int32) * a1)) + v29) - (1 : Int32)) (ln E x1) (ck (((3327 : Int32) + ((700 : Int32) * a1)) + v29) (ln E x1) (ss (si s30 x1 (((3327 : Int32) + ((700 : Int32) * a1)) + v29).toNatClampNeg (gi s30 x1 ((((3327 : Int32) + ((700 : Int32) * a1)) + v29) - (1 : Int32)).toNatClampNeg)) (fun s37 => lt (v29 + (-1 : Int32)) (fun v38 => rec v38 s37)))))
def fX7_dealsRun (E : En) (a0 : Nat) (a1 : Int32) (a2 : Int32) (σ : Sg) : Option (Sg) := tk (cd E a0) 7 (dr (rf E a0 0) E 100 (fun x1 => ck ((926 : Int32) + a2) (ln E x1) (bd (fX7_runSize E a0 a2 σ) (fun r5 s3 => bd (fX7_makesRun E a0 (gi σ x1 ((926 : Int32) + a2).toNatClampNeg) r5 s3) (fun r8 s6 => bd (fX7_doesFall E a0 a2 s6) (fun r11 s9 => bd (fX7_truth E r11 s9) (fun r14 s12 => ck ((2627 : Int32) + r8) (ln E x1) (ss (si s12 x1 ((2627 : Int32) + r8).toNatClampNeg r14) (fun s16 => bd (fX7_isBack E a0 s16) (fun r19 s17 => if ¬ r19 = 0 then (bd (fX7_way E a0 s17) (fun r22 s20 => bd (if ¬ r22 = (1 : Int32) then (dr (rf E a0 13) E 100 (fun x25 => ck a1 (ln E x25) (some ((gi s20 x25 a1.toNatClampNeg), s20)))) else (some ((0 : Int32), s20))) (fun w23 s24 => ck ((20 : Int32) + a1) (ln E x1) (lt (gi s24 x1 ((20 : Int32) + a1).toNatClampNeg) (fun v28 => bd (fx (fun rec a => bX7_dealsRun_83 E w23 a1 x1 (fun u0 t => rec (u0, t)) a.1 a.2) FU (v28, s24)) (fun o39 s40 => ck (((3327 : Int32) + ((700 : Int32) * a1)) + w23) (ln E x1) (ss (si s40 x1 (((3327 : Int32) + ((700 : Int32) * a1)) + w23).toNatClampNeg r8) (fun s42 => ck ((20 : Int32) + a1) (ln E x1) (ck ((20 : Int32) + a1) (ln E x1) (ss (si s42 x1 ((20 : Int32) + a1).toNatClampNeg ((gi s42 x1 ((20 : Int32) + a1).toNatClampNeg) + (1 : Int32))) (fun s45 => some s45))))))))))) else (bv (fX7_comesLast E a0 a1 r8 s17) (fun s46 => some s46))))))))))))
def fX7_placesLeft (E : En) (a0 : Nat) (a1 : Int32) (σ : Sg) : Option (Int32 × Sg) := tk (cd E a0) 7 (dr (rf E a0 11) E 100 (fun x1 => ck a1 (ln E x1) (dr (rf E a0 13) E 100 (fun x3 => ck a1 (ln E x3) (dr (rf E a0 14) E 100 (fun x5 => ck a1 (ln E x5) (some ((((gi σ x1 a1.toNatClampNeg) - (gi σ x3 a1.toNatClampNeg)) - (gi σ x5 a1.toNatClampNeg)), σ))))))))
def bX7_spreadsPerfectly_27 (E : En) (a0 : Nat) (v4 : Int32) (v7 : Int32) (rec : Int32 → Sg → Option ((Int32) × Sg)) (v13 : Int32) (s14 : Sg) : Option ((Int32) × Sg) := bd (fX7_allPerfect E a0 v4 s14) (fun r21 s19 => if v7 ≤ r21 then (some (v13, s19)) else (lt (v13 + (1 : Int32)) (fun v22 => bd (fX7_way E a0 s19) (fun r25 s23 => bv (fX7_laysPerfect E a0 v22 r25 v4 s23) (fun s26 => rec v22 s26)))))
def bX7_spreadsPerfectly_89 (E : En) (v4 : Int32) (a0 : Nat) (rec : Int32 → Sg → Option ((Int32) × Sg)) (v40 : Int32) (s41 : Sg) : Option ((Int32) × Sg) := if v4 ≤ v40 then (some (v40, s41)) else (dr (rf E a0 14) E 100 (fun x46 => ck v40 (ln E x46) (ss (si s41 x46 v40.toNatClampNeg (0 : Int32)) (fun s48 => lt (v40 + (1 : Int32)) (fun v49 => rec v49 s48)))))
def bX7_spreadsPerfectly_124 (E : En) (v4 : Int32) (a0 : Nat) (rec : Int32 → Int32 → Sg → Option ((Int32 × Int32) × Sg)) (v58 : Int32) (v59 : Int32) (s60 : Sg) : Option ((Int32 × Int32) × Sg) := if v4 ≤ v59 then (some ((v58, v59), s60)) else (bd (fX7_placesLeft E a0 v59 s60) (fun r67 s65 => bd (fX7_placesLeft E a0 v58 s65) (fun r70 s68 => bd (if r67 ≤ r70 then (some (v58, s68)) else (some (v59, s68))) (fun w71 s72 => lt (v59 + (1 : Int32)) (fun v73 => rec w71 v73 s72)))))
def bX7_spreadsPerfectly_112 (E : En) (v7 : Int32) (v4 : Int32) (a0 : Nat) (rec : Int32 → Sg → Option ((Int32) × Sg)) (v52 : Int32) (s53 : Sg) : Option ((Int32) × Sg) := if v7 ≤ v52 then (some (v52, s53)) else (bd (fx (fun rec a => bX7_spreadsPerfectly_124 E v4 a0 (fun u0 u1 t => rec ((u0, u1), t)) a.1.1 a.1.2 a.2) FU (((0 : Int32), (1 : Int32)), s53)) (fun o74 s75 => dr (rf E a0 14) E 100 (fun x76 => ck o74.1 (ln E x76) (ck o74.1 (ln E x76) (ss (si s75 x76 o74.1.toNatClampNeg ((gi s75 x76 o74.1.toNatClampNeg) + (1 : Int32))) (fun s79 => bv (fX7_dealsRun E a0 o74.1 v52 s79) (fun s80 => lt (v52 + (1 : Int32)) (fun v82 => rec v82 s80))))))))
def fX7_spreadsPerfectly (E : En) (a0 : Nat) (σ : Sg) : Option (Sg) := tk (cd E a0) 7 (bd (fX7_tapes E a0 σ) (fun r3 s1 => lt (r3 - (1 : Int32)) (fun v4 => dr (rf E a0 0) E 100 (fun x5 => ck (14 : Int32) (ln E x5) (lt (gi s1 x5 (14 : Int32).toNatClampNeg) (fun v7 => bd (fX7_way E a0 s1) (fun r10 s8 => bv (fX7_laysPerfect E a0 (0 : Int32) r10 v4 s8) (fun s11 => bd (fx (fun rec a => bX7_spreadsPerfectly_27 E a0 v4 v7 (fun u0 t => rec (u0, t)) a.1 a.2) FU ((0 : Int32), s11)) (fun o28 s29 => ck (19 : Int32) (ln E x5) (ss (si s29 x5 (19 : Int32).toNatClampNeg o28) (fun s31 => bd (fX7_allPerfect E a0 v4 s31) (fun r34 s32 => ck (18 : Int32) (ln E x5) (ss (si s32 x5 (18 : Int32).toNatClampNeg (r34 - v7)) (fun s36 => ck (18 : Int32) (ln E x5) (bv (fX7_dealsDummies E a0 v4 (gi s36 x5 (18 : Int32).toNatClampNeg) s36) (fun s38 => bd (fx (fun rec a => bX7_spreadsPerfectly_89 E v4 a0 (fun u0 t => rec (u0, t)) a.1 a.2) FU ((0 : Int32), s38)) (fun o50 s51 => bd (fx (fun rec a => bX7_spreadsPerfectly_112 E v7 v4 a0 (fun u0 t => rec (u0, t)) a.1 a.2) FU ((0 : Int32), s51)) (fun o83 s84 => ck (13 : Int32) (ln E x5) (ss (si s84 x5 (13 : Int32).toNatClampNeg v4) (fun s86 => some s86))))))))))))))))))))
def bX7_beginsPass_10 (E : En) (a0 : Nat) (x1 : Nat) (rec : Int32 → Sg → Option ((Int32) × Sg)) (v4 : Int32) (s5 : Sg) : Option ((Int32) × Sg) := bd (fX7_tapes E a0 s5) (fun r12 s10 => if r12 ≤ v4 then (some (v4, s10)) else (ck (15 : Int32) (ln E x1) (ck ((20 : Int32) + v4) (ln E x1) (bd (if (gi s10 x1 ((20 : Int32) + v4).toNatClampNeg) ≤ 0 then (some ((0 : Int32), s10)) else (some ((1 : Int32), s10))) (fun w15 s16 => bd (fX7_truth E w15 s16) (fun r19 s17 => ck (15 : Int32) (ln E x1) (ss (si s17 x1 (15 : Int32).toNatClampNeg ((gi s10 x1 (15 : Int32).toNatClampNeg) ||| (r19 <<< (v4 &&& 31)))) (fun s21 => lt (v4 + (1 : Int32)) (fun v22 => rec v22 s21)))))))))
def fX7_beginsPass (E : En) (a0 : Nat) (σ : Sg) : Option (Sg) := tk (cd E a0) 7 (dr (rf E a0 0) E 100 (fun x1 => ck (15 : Int32) (ln E x1) (ss (si σ x1 (15 : Int32).toNatClampNeg (0 : Int32)) (fun s3 => bd (fx (fun rec a => bX7_beginsPass_10 E a0 x1 (fun u0 t => rec (u0, t)) a.1 a.2) FU ((0 : Int32), s3)) (fun o23 s24 => ck (13 : Int32) (ln E x1) (ck (16 : Int32) (ln E x1) (ss (si s24 x1 (16 : Int32).toNatClampNeg ((1 : Int32) <<< ((gi s24 x1 (13 : Int32).toNatClampNeg) &&& 31))) (fun s27 => some s27))))))))
def bX7_onAll_4 (E : En) (a0 : Nat) (rec : Int32 → Int32 → Sg → Option ((Int32 × Int32) × Sg)) (v1 : Int32) (v2 : Int32) (s3 : Sg) : Option ((Int32 × Int32) × Sg) := bd (fX7_tapes E a0 s3) (fun r10 s8 => if r10 ≤ v2 then (some ((v1, v2), s8)) else (dr (rf E a0 0) E 100 (fun x11 => ck ((20 : Int32) + v2) (ln E x11) (lt (v1 + (gi s8 x11 ((20 : Int32) + v2).toNatClampNeg)) (fun v13 => lt (v2 + (1 : Int32)) (fun v14 => rec v13 v14 s8))))))
def fX7_onAll (E : En) (a0 : Nat) (σ : Sg) : Option (Int32 × Sg) := tk (cd E a0) 7 (bd (fx (fun rec a => bX7_onAll_4 E a0 (fun u0 u1 t => rec ((u0, u1), t)) a.1.1 a.1.2 a.2) FU (((0 : Int32), (0 : Int32)), σ)) (fun o15 s16 => some (o15.1, s16)))
def bX7_sorts_30 (E : En) (a1 : Int32) (x8 : Nat) (a0 : Nat) (v10 : Int32) (a3 : Int32) (rec : Int32 → Sg → Option ((Int32) × Sg)) (v11 : Int32) (s12 : Sg) : Option ((Int32) × Sg) := if v11 ≤ a1 then (some (v11, s12)) else (ck (((7527 : Int32) + v11) - (1 : Int32)) (ln E x8) (bd (fX7_isLess E a0 v10 (gi s12 x8 (((7527 : Int32) + v11) - (1 : Int32)).toNatClampNeg) s12) (fun r20 s18 => if ¬ r20 = a3 then (some (v11, s18)) else (ck (((7527 : Int32) + v11) - (1 : Int32)) (ln E x8) (ck ((7527 : Int32) + v11) (ln E x8) (ss (si s18 x8 ((7527 : Int32) + v11).toNatClampNeg (gi s18 x8 (((7527 : Int32) + v11) - (1 : Int32)).toNatClampNeg)) (fun s23 => lt (v11 + (-1 : Int32)) (fun v24 => rec v24 s23))))))))
def bX7_sorts_5 (E : En) (a1 : Int32) (a2 : Int32) (a0 : Nat) (a3 : Int32) (rec : Int32 → Sg → Option ((Int32) × Sg)) (v2 : Int32) (s3 : Sg) : Option ((Int32) × Sg) := if (a1 + a2) ≤ v2 then (some (v2, s3)) else (dr (rf E a0 0) E 100 (fun x8 => ck ((7527 : Int32) + v2) (ln E x8) (lt (gi s3 x8 ((7527 : Int32) + v2).toNatClampNeg) (fun v10 => bd (fx (fun rec a => bX7_sorts_30 E a1 x8 a0 v10 a3 (fun u0 t => rec (u0, t)) a.1 a.2) FU (v2, s3)) (fun o25 s26 => ck ((7527 : Int32) + o25) (ln E x8) (ss (si s26 x8 ((7527 : Int32) + o25).toNatClampNeg v10) (fun s28 => lt (v2 + (1 : Int32)) (fun v29 => rec v29 s28))))))))
def fX7_sorts (E : En) (a0 : Nat) (a1 : Int32) (a2 : Int32) (a3 : Int32) (σ : Sg) : Option (Sg) := tk (cd E a0) 7 (lt (a1 + (1 : Int32)) (fun v1 => bd (fx (fun rec a => bX7_sorts_5 E a1 a2 a0 a3 (fun u0 t => rec (u0, t)) a.1 a.2) FU (v1, σ)) (fun o30 s31 => some s31)))
def bX7_looksWhetherMerged_19 (E : En) (x4 : Nat) (rec : Int32 → Sg → Option ((Int32) × Sg)) (v7 : Int32) (s8 : Sg) : Option ((Int32) × Sg) := ck ((20 : Int32) + v7) (ln E x4) (if ¬ (gi s8 x4 ((20 : Int32) + v7).toNatClampNeg) = 0 then (some (v7, s8)) else (lt (v7 + (1 : Int32)) (fun v14 => rec v14 s8)))
def fX7_looksWhetherMerged (E : En) (a0 : Nat) (σ : Sg) : Option (Sg) := tk (cd E a0) 7 (bd (fX7_onAll E a0 σ) (fun r3 s1 => if r3 = (1 : Int32) then (dr (rf E a0 0) E 100 (fun x4 => ck (7 : Int32) (ln E x4) (ss (si s1 x4 (7 : Int32).toNatClampNeg (3 : Int32)) (fun s6 => bd (fx (fun rec a => bX7_looksWhetherMerged_19 E x4 (fun u0 t => rec (u0, t)) a.1 a.2) FU ((0 : Int32), s6)) (fun o15 s16 => bd (fX7_runAt E a0 o15 (0 : Int32) s16) (fun r19 s17 => ck ((2627 : Int32) + r19) (ln E x4) (bd (if ¬ (gi s17 x4 ((2627 : Int32) + r19).toNatClampNeg) = (1 : Int32) then (some ((), s17)) else (ck (12 : Int32) (ln E x4) (ck ((1927 : Int32) + r19) (ln E x4) (ck (12 : Int32) (ln E x4) (ss (si s17 x4 (12 : Int32).toNatClampNeg ((gi s17 x4 (12 : Int32).toNatClampNeg) + (gi s17 x4 ((1927 : Int32) + r19).toNatClampNeg))) (fun s26 => ck ((2627 : Int32) + r19) (ln E x4) (ss (si s26 x4 ((2627 : Int32) + r19).toNatClampNeg (0 : Int32)) (fun s28 => ck ((1227 : Int32) + r19) (ln E x4) (ck ((1927 : Int32) + r19) (ln E x4) (bv (fX7_sorts E a0 (gi s28 x4 ((1227 : Int32) + r19).toNatClampNeg) (gi s28 x4 ((1927 : Int32) + r19).toNatClampNeg) (1 : Int32) s28) (fun s31 => some ((), s31)))))))))))) (fun w21 s22 => some s22)))))))) else (some s1)))
def bX7_spreads_11 (E : En) (a0 : Nat) (rec : Int32 → Sg → Option ((Int32) × Sg)) (v4 : Int32) (s5 : Sg) : Option ((Int32) × Sg) := if (6 : Int32) ≤ v4 then (some (v4, s5)) else (dr (rf E a0 0) E 100 (fun x10 => ck ((20 : Int32) + v4) (ln E x10) (ss (si s5 x10 ((20 : Int32) + v4).toNatClampNeg (0 : Int32)) (fun s12 => lt (v4 + (1 : Int32)) (fun v13 => rec v13 s12)))))
def bX7_spreads_35 (E : En) (a0 : Nat) (rec : Int32 → Sg → Option ((Int32) × Sg)) (v16 : Int32) (s17 : Sg) : Option ((Int32) × Sg) := bd (fX7_many E a0 s17) (fun r24 s22 => if r24 ≤ v16 then (some (v16, s22)) else (dr (rf E a0 0) E 100 (fun x25 => ck ((626 : Int32) + v16) (ln E x25) (ck ((7527 : Int32) + v16) (ln E x25) (ss (si s22 x25 ((7527 : Int32) + v16).toNatClampNeg (gi s22 x25 ((626 : Int32) + v16).toNatClampNeg)) (fun s28 => lt (v16 + (1 : Int32)) (fun v29 => rec v29 s28)))))))
def bX7_spreads_110 (E : En) (x32 : Nat) (v49 : Int32) (a0 : Nat) (rec : Int32 → Sg → Option ((Int32) × Sg)) (v50 : Int32) (s51 : Sg) : Option ((Int32) × Sg) := ck (14 : Int32) (ln E x32) (if (gi s51 x32 (14 : Int32).toNatClampNeg) ≤ v50 then (some (v50, s51)) else (nz v49 (bv (fX7_dealsRun E a0 (im v50 v49) v50 s51) (fun s58 => lt (v50 + (1 : Int32)) (fun v60 => rec v60 s58)))))
def fX7_spreads (E : En) (a0 : Nat) (σ : Sg) : Option (Sg) := tk (cd E a0) 7 (ss (si σ a0 15 (0 : Int32)) (fun s1 => bv (fX7_clearsCounts E a0 s1) (fun s2 => bd (fx (fun rec a => bX7_spreads_11 E a0 (fun u0 t => rec (u0, t)) a.1 a.2) FU ((0 : Int32), s2)) (fun o14 s15 => bd (fx (fun rec a => bX7_spreads_35 E a0 (fun u0 t => rec (u0, t)) a.1 a.2) FU ((0 : Int32), s15)) (fun o30 s31 => dr (rf E a0 0) E 100 (fun x32 => ck (17 : Int32) (ln E x32) (ss (si s31 x32 (17 : Int32).toNatClampNeg (0 : Int32)) (fun s34 => bd (fX7_way E a0 s34) (fun r37 s35 => bd (if ¬ r37 = (1 : Int32) then (bv (fX7_spreadsPerfectly E a0 s35) (fun s40 => some ((), s40))) else (ck (18 : Int32) (ln E x32) (ss (si s35 x32 (18 : Int32).toNatClampNeg (0 : Int32)) (fun s43 => ck (19 : Int32) (ln E x32) (ss (si s43 x32 (19 : Int32).toNatClampNeg (-1 : Int32)) (fun s45 => bd (fX7_tapes E a0 s45) (fun r48 s46 => lt (r48 / (2 : Int32)) (fun v49 => bd (fx (fun rec a => bX7_spreads_110 E x32 v49 a0 (fun u0 t => rec (u0, t)) a.1 a.2) FU ((0 : Int32), s46)) (fun o61 s62 => ck (13 : Int32) (ln E x32) (ss (si s62 x32 (13 : Int32).toNatClampNeg v49) (fun s64 => some ((), s64)))))))))))) (fun w38 s39 => bv (fX7_beginsPass E a0 s39) (fun s65 => ck (7 : Int32) (ln E x32) (ss (si s65 x32 (7 : Int32).toNatClampNeg (2 : Int32)) (fun s68 => bv (fX7_looksWhetherMerged E a0 s68) (fun s69 => some s69))))))))))))))
def fX7_canSpread (E : En) (a0 : Nat) (σ : Sg) : Option (Int32 × Sg) := tk (cd E a0) 7 (dr (rf E a0 0) E 100 (fun x1 => ck (7 : Int32) (ln E x1) (bd (if (gi σ x1 (7 : Int32).toNatClampNeg) ≤ 0 then (some ((0 : Int32), σ)) else (bd (fX7_way E a0 σ) (fun r7 s5 => if ¬ r7 = (1 : Int32) then (some ((1 : Int32), s5)) else (bd (fX7_tapes E a0 s5) (fun r10 s8 => if r10 ≤ (3 : Int32) then (some ((0 : Int32), s8)) else (some ((1 : Int32), s8))))))) (fun w3 s4 => kb w3 (some (w3, s4))))))
def fX7_spread (E : En) (a0 : Nat) (σ : Sg) : Option (Int32 × Sg) := tk (cd E a0) 7 (bd (fX7_canSpread E a0 σ) (fun r3 s1 => if ¬ r3 = 0 then (dr (rf E a0 0) E 100 (fun x4 => ck (7 : Int32) (ln E x4) (if (gi s1 x4 (7 : Int32).toNatClampNeg) ≤ (1 : Int32) then (bv (fX7_remembers E a0 s1) (fun s6 => bv (fX7_spreads E a0 s6) (fun s8 => ck (18 : Int32) (ln E x4) (some ((gi s8 x4 (18 : Int32).toNatClampNeg), s8))))) else (some ((-2 : Int32), s1))))) else (some ((-1 : Int32), s1))))
def fX7_isInHalf (E : En) (a0 : Nat) (a1 : Int32) (a2 : Int32) (σ : Sg) : Option (Int32 × Sg) := tk (cd E a0) 7 (bd (fX7_tapes E a0 σ) (fun r3 s1 => bd (if (r3 / (2 : Int32)) ≤ a1 then (some ((0 : Int32), s1)) else (some ((1 : Int32), s1))) (fun w4 s5 => bd (if ¬ a2 = 0 then (some ((0 : Int32), s5)) else (some ((1 : Int32), s5))) (fun w6 s7 => bd (if ¬ w4 = w6 then (some ((0 : Int32), s7)) else (some ((1 : Int32), s7))) (fun w8 s9 => kb w8 (some (w8, s9)))))))
def fX7_doesGive (E : En) (a0 : Nat) (a1 : Int32) (σ : Sg) : Option (Int32 × Sg) := tk (cd E a0) 7 (dr (rf E a0 0) E 100 (fun x1 => ck (13 : Int32) (ln E x1) (if a1 = (gi σ x1 (13 : Int32).toNatClampNeg) then (some ((0 : Int32), σ)) else (bd (fX7_tapes E a0 σ) (fun r5 s3 => bd (fX7_in E a1 (0 : Int32) (r5 - (1 : Int32)) s3) (fun r8 s6 => if ¬ r8 = 0 then (bd (fX7_way E a0 s6) (fun r11 s9 => if r11 = (0 : Int32) then (some ((1 : Int32), s9)) else (if r11 = (1 : Int32) then (ck (17 : Int32) (ln E x1) (bd (fX7_isInHalf E a0 a1 (gi s9 x1 (17 : Int32).toNatClampNeg) s9) (fun r17 s15 => bd (if r17 = 0 then (some ((0 : Int32), s15)) else (ck ((20 : Int32) + a1) (ln E x1) (if (gi s15 x1 ((20 : Int32) + a1).toNatClampNeg) ≤ 0 then (some ((0 : Int32), s15)) else (some ((1 : Int32), s15))))) (fun w18 s19 => kb w18 (some (w18, s19)))))) else ((ck (15 : Int32) (ln E x1) (bd (if ¬ (((gi s9 x1 (15 : Int32).toNatClampNeg) >>> (a1 &&& 31)) &&& (1 : Int32)) = (1 : Int32) then (some ((0 : Int32), s9)) else (ck (16 : Int32) (ln E x1) (if ¬ (((gi s9 x1 (16 : Int32).toNatClampNeg) >>> (a1 &&& 31)) &&& (1 : Int32)) = 0 then (some ((0 : Int32), s9)) else (ck ((20 : Int32) + a1) (ln E x1) (if (gi s9 x1 ((20 : Int32) + a1).toNatClampNeg) ≤ 0 then (some ((0 : Int32), s9)) else (some ((1 : Int32), s9))))))) (fun w23 s24 => kb w23 (some (w23, s24))))))))) else (some ((0 : Int32), s6))))))))
def bX7_laysTaken_6 (E : En) (a0 : Nat) (rec : Int32 → Int32 → Int32 → Sg → Option ((Int32 × Int32 × Int32) × Sg)) (v1 : Int32) (v2 : Int32) (v3 : Int32) (s4 : Sg) : Option ((Int32 × Int32 × Int32) × Sg) := if (6 : Int32) ≤ v3 then (some ((v1, v2, v3), s4)) else (dr (rf E a0 16) E 100 (fun x9 => bd (fX7_doesGive E a0 v3 s4) (fun r12 s10 => bd (if r12 = 0 then (some ((-1 : Int32), s10)) else (bd (fX7_runAt E a0 v3 (0 : Int32) s10) (fun r17 s15 => some (r17, s15)))) (fun w13 s14 => ck v3 (ln E x9) (ss (si s14 x9 v3.toNatClampNeg w13) (fun s19 => ck v3 (ln E x9) (bd (if (gi s19 x9 v3.toNatClampNeg) = (-1 : Int32) then (some ((v1, v2), s19)) else (dr (rf E a0 0) E 100 (fun x23 => ck v3 (ln E x9) (ck ((1927 : Int32) + (gi s19 x9 v3.toNatClampNeg)) (ln E x23) (if (gi s19 x23 ((1927 : Int32) + (gi s19 x9 v3.toNatClampNeg)).toNatClampNeg) ≤ 0 then (some ((v1, v2), s19)) else (if v2 = 0 then (some ((v1, v2), s19)) else (bd (fX7_isBack E a0 s19) (fun r28 s26 => bd (if r28 = 0 then (some ((1 : Int32), s26)) else (ck v3 (ln E x9) (ck ((2627 : Int32) + (gi s26 x9 v3.toNatClampNeg)) (ln E x23) (if ¬ (gi s26 x23 ((2627 : Int32) + (gi s26 x9 v3.toNatClampNeg)).toNatClampNeg) = (1 : Int32) then (some ((0 : Int32), s26)) else (some ((1 : Int32), s26)))))) (fun w29 s30 => some ((w29, (0 : Int32)), s30)))))))))) (fun w21 s22 => lt (v3 + (1 : Int32)) (fun v33 => rec w21.1 w21.2 v33 s22)))))))))
def fX7_laysTaken (E : En) (a0 : Nat) (σ : Sg) : Option (Int32 × Sg) := tk (cd E a0) 7 (bd (fx (fun rec a => bX7_laysTaken_6 E a0 (fun u0 u1 u2 t => rec ((u0, u1, u2), t)) a.1.1 a.1.2.1 a.1.2.2 a.2) FU (((1 : Int32), (1 : Int32), (0 : Int32)), σ)) (fun o34 s35 => kb o34.1 (some (o34.1, s35))))
def bX7_isInTaken_2 (E : En) (a0 : Nat) (a1 : Int32) (rec : Int32 → Sg → Option (((Int32) ⊕ Int32) × Sg)) (v1 : Int32) (s2 : Sg) : Option (((Int32) ⊕ Int32) × Sg) := if (6 : Int32) ≤ v1 then (some (.inl v1, s2)) else (dr (rf E a0 16) E 100 (fun x7 => ck v1 (ln E x7) (if (gi s2 x7 v1.toNatClampNeg) = (-1 : Int32) then (lt (v1 + (1 : Int32)) (fun v9 => rec v9 s2)) else (dr (rf E a0 0) E 100 (fun x10 => ck v1 (ln E x7) (ck ((1227 : Int32) + (gi s2 x7 v1.toNatClampNeg)) (ln E x10) (ck v1 (ln E x7) (ck ((1227 : Int32) + (gi s2 x7 v1.toNatClampNeg)) (ln E x10) (ck v1 (ln E x7) (ck ((1927 : Int32) + (gi s2 x7 v1.toNatClampNeg)) (ln E x10) (bd (fX7_in E a1 (gi s2 x10 ((1227 : Int32) + (gi s2 x7 v1.toNatClampNeg)).toNatClampNeg) (((gi s2 x10 ((1227 : Int32) + (gi s2 x7 v1.toNatClampNeg)).toNatClampNeg) + (gi s2 x10 ((1927 : Int32) + (gi s2 x7 v1.toNatClampNeg)).toNatClampNeg)) - (1 : Int32)) s2) (fun r19 s17 => if r19 = 0 then (lt (v1 + (1 : Int32)) (fun v20 => rec v20 s17)) else (some (.inr (1 : Int32), s17))))))))))))))
def fX7_isInTaken (E : En) (a0 : Nat) (a1 : Int32) (σ : Sg) : Option (Int32 × Sg) := tk (cd E a0) 7 (bd (fx (fun rec a => bX7_isInTaken_2 E a0 a1 (fun u0 t => rec (u0, t)) a.1 a.2) FU ((0 : Int32), σ)) (fun o21 s22 => sm o21 (fun vo21 => some ((0 : Int32), s22)) (fun rr => some (rr, s22))))
def bX7_shiftsRuns_38 (E : En) (a0 : Nat) (r20 : Int32) (x16 : Nat) (rec : Int32 → Int32 → Sg → Option ((Int32 × Int32) × Sg)) (v21 : Int32) (v22 : Int32) (s23 : Sg) : Option ((Int32 × Int32) × Sg) := if (6 : Int32) ≤ v22 then (some ((v21, v22), s23)) else (dr (rf E a0 16) E 100 (fun x28 => ck v22 (ln E x28) (bd (if (gi s23 x28 v22.toNatClampNeg) = (-1 : Int32) then (some ((0 : Int32), s23)) else (ck v22 (ln E x28) (if (gi s23 x28 v22.toNatClampNeg) = r20 then (some ((0 : Int32), s23)) else (ck v22 (ln E x28) (ck ((1227 : Int32) + (gi s23 x28 v22.toNatClampNeg)) (ln E x16) (ck ((1227 : Int32) + r20) (ln E x16) (if (gi s23 x16 ((1227 : Int32) + r20).toNatClampNeg) ≤ (gi s23 x16 ((1227 : Int32) + (gi s23 x28 v22.toNatClampNeg)).toNatClampNeg) then (some ((0 : Int32), s23)) else (ck v22 (ln E x28) (ck ((1927 : Int32) + (gi s23 x28 v22.toNatClampNeg)) (ln E x16) (some ((gi s23 x16 ((1927 : Int32) + (gi s23 x28 v22.toNatClampNeg)).toNatClampNeg), s23))))))))))) (fun w30 s31 => lt (v21 + w30) (fun v38 => lt (v22 + (1 : Int32)) (fun v39 => rec v38 v39 s31))))))
def bX7_shiftsRuns_12 (E : En) (a0 : Nat) (v1 : Int32) (rec : Int32 → Sg → Option ((Int32) × Sg)) (v10 : Int32) (s11 : Sg) : Option ((Int32) × Sg) := dr (rf E a0 0) E 100 (fun x16 => ck ((20 : Int32) + v1) (ln E x16) (if (gi s11 x16 ((20 : Int32) + v1).toNatClampNeg) ≤ v10 then (some (v10, s11)) else (bd (fX7_runAt E a0 v1 v10 s11) (fun r20 s18 => bd (fx (fun rec a => bX7_shiftsRuns_38 E a0 r20 x16 (fun u0 u1 t => rec ((u0, u1), t)) a.1.1 a.1.2 a.2) FU (((0 : Int32), (0 : Int32)), s18)) (fun o40 s41 => dr (rf E a0 18) E 100 (fun x42 => ck r20 (ln E x42) (ss (si s41 x42 r20.toNatClampNeg o40.1) (fun s44 => lt (v10 + (1 : Int32)) (fun v45 => rec v45 s44)))))))))
def bX7_shiftsRuns_2 (E : En) (a0 : Nat) (rec : Int32 → Sg → Option ((Int32) × Sg)) (v1 : Int32) (s2 : Sg) : Option ((Int32) × Sg) := bd (fX7_tapes E a0 s2) (fun r9 s7 => if r9 ≤ v1 then (some (v1, s7)) else (bd (fx (fun rec a => bX7_shiftsRuns_12 E a0 v1 (fun u0 t => rec (u0, t)) a.1 a.2) FU ((0 : Int32), s7)) (fun o46 s47 => lt (v1 + (1 : Int32)) (fun v48 => rec v48 s47))))
def bX7_shiftsRuns_159 (E : En) (a0 : Nat) (v51 : Int32) (rec : Int32 → Sg → Option ((Int32) × Sg)) (v60 : Int32) (s61 : Sg) : Option ((Int32) × Sg) := dr (rf E a0 0) E 100 (fun x66 => ck ((20 : Int32) + v51) (ln E x66) (if (gi s61 x66 ((20 : Int32) + v51).toNatClampNeg) ≤ v60 then (some (v60, s61)) else (bd (fX7_runAt E a0 v51 v60 s61) (fun r70 s68 => ck ((1227 : Int32) + r70) (ln E x66) (dr (rf E a0 18) E 100 (fun x72 => bd (fX7_runAt E a0 v51 v60 s68) (fun r75 s73 => ck r75 (ln E x72) (ck ((1227 : Int32) + r70) (ln E x66) (ss (si s73 x66 ((1227 : Int32) + r70).toNatClampNeg ((gi s68 x66 ((1227 : Int32) + r70).toNatClampNeg) - (gi s73 x72 r75.toNatClampNeg))) (fun s78 => lt (v60 + (1 : Int32)) (fun v79 => rec v79 s78)))))))))))
def bX7_shiftsRuns_149 (E : En) (a0 : Nat) (rec : Int32 → Sg → Option ((Int32) × Sg)) (v51 : Int32) (s52 : Sg) : Option ((Int32) × Sg) := bd (fX7_tapes E a0 s52) (fun r59 s57 => if r59 ≤ v51 then (some (v51, s57)) else (bd (fx (fun rec a => bX7_shiftsRuns_159 E a0 v51 (fun u0 t => rec (u0, t)) a.1 a.2) FU ((0 : Int32), s57)) (fun o80 s81 => lt (v51 + (1 : Int32)) (fun v82 => rec v82 s81))))
def fX7_shiftsRuns (E : En) (a0 : Nat) (σ : Sg) : Option (Sg) := tk (cd E a0) 7 (bd (fx (fun rec a => bX7_shiftsRuns_2 E a0 (fun u0 t => rec (u0, t)) a.1 a.2) FU ((0 : Int32), σ)) (fun o49 s50 => bd (fx (fun rec a => bX7_shiftsRuns_149 E a0 (fun u0 t => rec (u0, t)) a.1 a.2) FU ((0 : Int32), s50)) (fun o83 s84 => some s84)))
def bX7_gathers_6 (E : En) (a0 : Nat) (rec : Int32 → Int32 → Int32 → Sg → Option ((Int32 × Int32 × Int32) × Sg)) (v1 : Int32) (v2 : Int32) (v3 : Int32) (s4 : Sg) : Option ((Int32 × Int32 × Int32) × Sg) := bd (fX7_many E a0 s4) (fun r11 s9 => if r11 ≤ v3 then (some ((v1, v2, v3), s9)) else (bd (fX7_isInTaken E a0 v3 s9) (fun r14 s12 => bd (if ¬ r14 = 0 then (lt (v1 + (1 : Int32)) (fun v17 => some ((v17, v2), s12))) else (dr (rf E a0 17) E 100 (fun x18 => dr (rf E a0 0) E 100 (fun x19 => ck ((7527 : Int32) + v3) (ln E x19) (ck v2 (ln E x18) (ss (si s12 x18 v2.toNatClampNeg (gi s12 x19 ((7527 : Int32) + v3).toNatClampNeg)) (fun s22 => lt (v2 + (1 : Int32)) (fun v23 => some ((v1, v23), s22))))))))) (fun w15 s16 => lt (v3 + (1 : Int32)) (fun v24 => rec w15.1 w15.2 v24 s16)))))
def bX7_gathers_79 (E : En) (a0 : Nat) (v29 : Int32) (x35 : Nat) (rec : Int32 → Int32 → Sg → Option ((Int32 × Int32) × Sg)) (v39 : Int32) (v40 : Int32) (s41 : Sg) : Option ((Int32 × Int32) × Sg) := dr (rf E a0 0) E 100 (fun x46 => ck v29 (ln E x35) (ck ((1927 : Int32) + (gi s41 x35 v29.toNatClampNeg)) (ln E x46) (if (gi s41 x46 ((1927 : Int32) + (gi s41 x35 v29.toNatClampNeg)).toNatClampNeg) ≤ v40 then (some ((v39, v40), s41)) else (dr (rf E a0 17) E 100 (fun x49 => ck v29 (ln E x35) (ck ((1227 : Int32) + (gi s41 x35 v29.toNatClampNeg)) (ln E x46) (ck (((7527 : Int32) + (gi s41 x46 ((1227 : Int32) + (gi s41 x35 v29.toNatClampNeg)).toNatClampNeg)) + v40) (ln E x46) (ck v39 (ln E x49) (ss (si s41 x49 v39.toNatClampNeg (gi s41 x46 (((7527 : Int32) + (gi s41 x46 ((1227 : Int32) + (gi s41 x35 v29.toNatClampNeg)).toNatClampNeg)) + v40).toNatClampNeg)) (fun s54 => lt (v39 + (1 : Int32)) (fun v55 => lt (v40 + (1 : Int32)) (fun v56 => rec v55 v56 s54))))))))))))
def bX7_gathers_58 (E : En) (a0 : Nat) (rec : Int32 → Int32 → Sg → Option ((Int32 × Int32) × Sg)) (v28 : Int32) (v29 : Int32) (s30 : Sg) : Option ((Int32 × Int32) × Sg) := if (6 : Int32) ≤ v29 then (some ((v28, v29), s30)) else (dr (rf E a0 16) E 100 (fun x35 => ck v29 (ln E x35) (bd (if (gi s30 x35 v29.toNatClampNeg) = (-1 : Int32) then (some (v28, s30)) else (bd (fx (fun rec a => bX7_gathers_79 E a0 v29 x35 (fun u0 u1 t => rec ((u0, u1), t)) a.1.1 a.1.2 a.2) FU ((v28, (0 : Int32)), s30)) (fun o57 s58 => some (o57.1, s58)))) (fun w37 s38 => lt (v29 + (1 : Int32)) (fun v59 => rec w37 v59 s38)))))
def bX7_gathers_156 (E : En) (a0 : Nat) (rec : Int32 → Sg → Option ((Int32) × Sg)) (v64 : Int32) (s65 : Sg) : Option ((Int32) × Sg) := bd (fX7_many E a0 s65) (fun r72 s70 => if r72 ≤ v64 then (some (v64, s70)) else (dr (rf E a0 0) E 100 (fun x73 => dr (rf E a0 17) E 100 (fun x74 => ck v64 (ln E x74) (ck ((7527 : Int32) + v64) (ln E x73) (ss (si s70 x73 ((7527 : Int32) + v64).toNatClampNeg (gi s70 x74 v64.toNatClampNeg)) (fun s77 => lt (v64 + (1 : Int32)) (fun v78 => rec v78 s77))))))))
def fX7_gathers (E : En) (a0 : Nat) (σ : Sg) : Option (Int32 × Sg) := tk (cd E a0) 7 (bd (fx (fun rec a => bX7_gathers_6 E a0 (fun u0 u1 u2 t => rec ((u0, u1, u2), t)) a.1.1 a.1.2.1 a.1.2.2 a.2) FU (((0 : Int32), (0 : Int32), (0 : Int32)), σ)) (fun o25 s26 => lt o25.2.1 (fun v27 => bd (fx (fun rec a => bX7_gathers_58 E a0 (fun u0 u1 t => rec ((u0, u1), t)) a.1.1 a.1.2 a.2) FU ((v27, (0 : Int32)), s26)) (fun o60 s61 => bv (fX7_shiftsRuns E a0 s61) (fun s62 => bd (fx (fun rec a => bX7_gathers_156 E a0 (fun u0 t => rec (u0, t)) a.1 a.2) FU ((0 : Int32), s62)) (fun o79 s80 => some (o25.2.1, s80)))))))
def bX7_goesOnBalanced_11 (E : En) (a0 : Nat) (rec : Int32 → Int32 → Sg → Option ((Int32 × Int32) × Sg)) (v5 : Int32) (v6 : Int32) (s7 : Sg) : Option ((Int32 × Int32) × Sg) := bd (fX7_tapes E a0 s7) (fun r14 s12 => if r14 ≤ v6 then (some ((v5, v6), s12)) else (bd (if v5 = 0 then (some ((0 : Int32), s12)) else (dr (rf E a0 0) E 100 (fun x17 => ck (17 : Int32) (ln E x17) (bd (fX7_isInHalf E a0 v6 (gi s12 x17 (17 : Int32).toNatClampNeg) s12) (fun r21 s19 => if r21 = 0 then (some ((1 : Int32), s19)) else (ck ((20 : Int32) + v6) (ln E x17) (if ¬ (gi s19 x17 ((20 : Int32) + v6).toNatClampNeg) = 0 then (some ((0 : Int32), s19)) else (some ((1 : Int32), s19))))))))) (fun w15 s16 => lt (v6 + (1 : Int32)) (fun v23 => rec w15 v23 s16))))
def fX7_goesOnBalanced (E : En) (a0 : Nat) (σ : Sg) : Option (Sg) := tk (cd E a0) 7 (bd (fX7_tapes E a0 σ) (fun r3 s1 => lt (r3 / (2 : Int32)) (fun v4 => bd (fx (fun rec a => bX7_goesOnBalanced_11 E a0 (fun u0 u1 t => rec ((u0, u1), t)) a.1.1 a.1.2 a.2) FU (((1 : Int32), (0 : Int32)), s1)) (fun o24 s25 => if o24.1 = 0 then (dr (rf E a0 0) E 100 (fun x26 => ck (17 : Int32) (ln E x26) (bd (if ¬ (gi s25 x26 (17 : Int32).toNatClampNeg) = 0 then (some ((v4 - (1 : Int32)), s25)) else (bd (fX7_tapes E a0 s25) (fun r32 s30 => some ((r32 - (1 : Int32)), s30)))) (fun w28 s29 => ck (13 : Int32) (ln E x26) (bd (if ¬ (gi s29 x26 (13 : Int32).toNatClampNeg) = w28 then (ck (13 : Int32) (ln E x26) (some (((gi s29 x26 (13 : Int32).toNatClampNeg) + (1 : Int32)), s29))) else (ck (17 : Int32) (ln E x26) (if ¬ (gi s29 x26 (17 : Int32).toNatClampNeg) = 0 then (some ((0 : Int32), s29)) else (some (v4, s29))))) (fun w34 s35 => ck (13 : Int32) (ln E x26) (ss (si s35 x26 (13 : Int32).toNatClampNeg w34) (fun s39 => some s39)))))))) else (dr (rf E a0 0) E 100 (fun x40 => ck (11 : Int32) (ln E x40) (ck (11 : Int32) (ln E x40) (ss (si s25 x40 (11 : Int32).toNatClampNeg ((gi s25 x40 (11 : Int32).toNatClampNeg) + (1 : Int32))) (fun s43 => ck (17 : Int32) (ln E x40) (ck (17 : Int32) (ln E x40) (ss (si s43 x40 (17 : Int32).toNatClampNeg ((1 : Int32) - (gi s43 x40 (17 : Int32).toNatClampNeg))) (fun s46 => ck (17 : Int32) (ln E x40) (bd (if ¬ (gi s46 x40 (17 : Int32).toNatClampNeg) = 0 then (some ((0 : Int32), s46)) else (some (v4, s46))) (fun w48 s49 => ck (13 : Int32) (ln E x40) (ss (si s49 x40 (13 : Int32).toNatClampNeg w48) (fun s51 => some s51))))))))))))))))
def bX7_emptied_2 (E : En) (a0 : Nat) (rec : Int32 → Sg → Option (((Int32) ⊕ Int32) × Sg)) (v1 : Int32) (s2 : Sg) : Option (((Int32) ⊕ Int32) × Sg) := if (6 : Int32) ≤ v1 then (some (.inl v1, s2)) else (dr (rf E a0 16) E 100 (fun x7 => ck v1 (ln E x7) (if (gi s2 x7 v1.toNatClampNeg) = (-1 : Int32) then (lt (v1 + (1 : Int32)) (fun v9 => rec v9 s2)) else (dr (rf E a0 0) E 100 (fun x10 => ck ((20 : Int32) + v1) (ln E x10) (if ¬ (gi s2 x10 ((20 : Int32) + v1).toNatClampNeg) = 0 then (lt (v1 + (1 : Int32)) (fun v12 => rec v12 s2)) else (some (.inr v1, s2))))))))
def fX7_emptied (E : En) (a0 : Nat) (σ : Sg) : Option (Int32 × Sg) := tk (cd E a0) 7 (bd (fx (fun rec a => bX7_emptied_2 E a0 (fun u0 t => rec (u0, t)) a.1 a.2) FU ((0 : Int32), σ)) (fun o13 s14 => sm o13 (fun vo13 => some ((-1 : Int32), s14)) (fun rr => some (rr, s14))))
def bX7_goesOn_68 (E : En) (a0 : Nat) (rec : Int32 → Int32 → Sg → Option ((Int32 × Int32) × Sg)) (v19 : Int32) (v20 : Int32) (s21 : Sg) : Option ((Int32 × Int32) × Sg) := bd (fX7_tapes E a0 s21) (fun r28 s26 => if r28 ≤ v20 then (some ((v19, v20), s26)) else (bd (fX7_doesGive E a0 v20 s26) (fun r31 s29 => bd (fX7_truth E r31 s29) (fun r34 s32 => lt (v19 + r34) (fun v35 => lt (v20 + (1 : Int32)) (fun v36 => rec v35 v36 s32))))))
def fX7_goesOn (E : En) (a0 : Nat) (σ : Sg) : Option (Sg) := tk (cd E a0) 7 (bd (fX7_way E a0 σ) (fun r3 s1 => if ¬ r3 = (1 : Int32) then (bd (fX7_emptied E a0 s1) (fun r6 s4 => if ¬ r6 = (-1 : Int32) then (dr (rf E a0 0) E 100 (fun x7 => ck (11 : Int32) (ln E x7) (ck (11 : Int32) (ln E x7) (ss (si s4 x7 (11 : Int32).toNatClampNeg ((gi s4 x7 (11 : Int32).toNatClampNeg) + (1 : Int32))) (fun s10 => ck (13 : Int32) (ln E x7) (ss (si s10 x7 (13 : Int32).toNatClampNeg r6) (fun s12 => bd (fX7_way E a0 s12) (fun r15 s13 => if ¬ r15 = 0 then (ck (16 : Int32) (ln E x7) (ck (16 : Int32) (ln E x7) (ss (si s13 x7 (16 : Int32).toNatClampNeg ((gi s13 x7 (16 : Int32).toNatClampNeg) ||| ((1 : Int32) <<< (r6 &&& 31)))) (fun s18 => bd (fx (fun rec a => bX7_goesOn_68 E a0 (fun u0 u1 t => rec ((u0, u1), t)) a.1.1 a.1.2 a.2) FU (((0 : Int32), (0 : Int32)), s18)) (fun o37 s38 => bd (if (2 : Int32) ≤ o37.1 then (some ((), s38)) else (bv (fX7_beginsPass E a0 s38) (fun s41 => some ((), s41)))) (fun w39 s40 => some s40)))))) else (some s13))))))))) else (some s4))) else (bv (fX7_goesOnBalanced E a0 s1) (fun s43 => some s43))))
def bX7_steps_12 (E : En) (a0 : Nat) (r3 : Int32) (rec : Int32 → Int32 → Int32 → Sg → Option ((Int32 × Int32 × Int32) × Sg)) (v4 : Int32) (v5 : Int32) (v6 : Int32) (s7 : Sg) : Option ((Int32 × Int32 × Int32) × Sg) := if (6 : Int32) ≤ v6 then (some ((v4, v5, v6), s7)) else (dr (rf E a0 16) E 100 (fun x12 => ck v6 (ln E x12) (bd (if (gi s7 x12 v6.toNatClampNeg) = (-1 : Int32) then (some ((v4, v5), s7)) else (bd (fX7_takesFirst E a0 v6 s7) (fun r18 s16 => dr (rf E a0 0) E 100 (fun x19 => ck v6 (ln E x12) (ck ((1927 : Int32) + (gi s16 x12 v6.toNatClampNeg)) (ln E x19) (lt (v4 + (gi s16 x19 ((1927 : Int32) + (gi s16 x12 v6.toNatClampNeg)).toNatClampNeg)) (fun v22 => bd (if ¬ v5 = (-1 : Int32) then (some (v5, s16)) else (ck v6 (ln E x12) (some ((gi s16 x12 v6.toNatClampNeg), s16)))) (fun w23 s24 => ck v6 (ln E x12) (ck ((1927 : Int32) + (gi s24 x12 v6.toNatClampNeg)) (ln E x19) (bd (if (gi s24 x19 ((1927 : Int32) + (gi s24 x12 v6.toNatClampNeg)).toNatClampNeg) ≤ 0 then (some ((0 : Int32), s24)) else (ck v6 (ln E x12) (ck ((2627 : Int32) + (gi s24 x12 v6.toNatClampNeg)) (ln E x19) (bd (fX7_isBack E a0 s24) (fun r34 s32 => bd (if r34 = 0 then (some ((1 : Int32), s32)) else (bd (if ¬ r3 = 0 then (some ((0 : Int32), s32)) else (some ((1 : Int32), s32))) (fun w37 s38 => bd (fX7_truth E w37 s38) (fun r41 s39 => some (r41, s39))))) (fun w35 s36 => if ¬ (gi s24 x19 ((2627 : Int32) + (gi s24 x12 v6.toNatClampNeg)).toNatClampNeg) = w35 then (some ((0 : Int32), s36)) else (some ((1 : Int32), s36)))))))) (fun w28 s29 => ck (12 : Int32) (ln E x19) (bd (if w28 = 0 then (some ((0 : Int32), s29)) else (ck v6 (ln E x12) (ck ((1927 : Int32) + (gi s29 x12 v6.toNatClampNeg)) (ln E x19) (some ((gi s29 x19 ((1927 : Int32) + (gi s29 x12 v6.toNatClampNeg)).toNatClampNeg), s29))))) (fun w43 s44 => ck (12 : Int32) (ln E x19) (ss (si s44 x19 (12 : Int32).toNatClampNeg ((gi s29 x19 (12 : Int32).toNatClampNeg) + w43)) (fun s48 => some ((v22, w23), s48)))))))))))))))) (fun w14 s15 => lt (v6 + (1 : Int32)) (fun v49 => rec w14.1 w14.2 v49 s15)))))
def fX7_steps (E : En) (a0 : Nat) (σ : Sg) : Option (Int32 × Sg) := tk (cd E a0) 7 (bd (fX7_laysTaken E a0 σ) (fun r3 s1 => bd (fx (fun rec a => bX7_steps_12 E a0 r3 (fun u0 u1 u2 t => rec ((u0, u1, u2), t)) a.1.1 a.1.2.1 a.1.2.2 a.2) FU (((0 : Int32), (-1 : Int32), (0 : Int32)), s1)) (fun o50 s51 => bd (fX7_gathers E a0 s51) (fun r54 s52 => dr (rf E a0 0) E 100 (fun x55 => ck ((1227 : Int32) + o50.2.1) (ln E x55) (ss (si s52 x55 ((1227 : Int32) + o50.2.1).toNatClampNeg r54) (fun s57 => ck ((1927 : Int32) + o50.2.1) (ln E x55) (ss (si s57 x55 ((1927 : Int32) + o50.2.1).toNatClampNeg o50.1) (fun s59 => bd (if ¬ r3 = 0 then (some ((0 : Int32), s59)) else (if o50.1 ≤ 0 then (some ((0 : Int32), s59)) else (some ((1 : Int32), s59)))) (fun w60 s61 => bd (fX7_truth E w60 s61) (fun r64 s62 => ck ((2627 : Int32) + o50.2.1) (ln E x55) (ss (si s62 x55 ((2627 : Int32) + o50.2.1).toNatClampNeg r64) (fun s66 => bv (fX7_sorts E a0 r54 o50.1 r3 s66) (fun s67 => bd (fX7_isBack E a0 s67) (fun r71 s69 => bd (if r71 = 0 then (ck (13 : Int32) (ln E x55) (bv (fX7_comesLast E a0 (gi s69 x55 (13 : Int32).toNatClampNeg) o50.2.1 s69) (fun s75 => some ((), s75)))) else (ck (13 : Int32) (ln E x55) (bv (fX7_comesFirst E a0 (gi s69 x55 (13 : Int32).toNatClampNeg) o50.2.1 s69) (fun s78 => some ((), s78))))) (fun w72 s73 => ck (9 : Int32) (ln E x55) (ck (9 : Int32) (ln E x55) (ss (si s73 x55 (9 : Int32).toNatClampNeg ((gi s73 x55 (9 : Int32).toNatClampNeg) + o50.1)) (fun s82 => ck (10 : Int32) (ln E x55) (ck (10 : Int32) (ln E x55) (ss (si s82 x55 (10 : Int32).toNatClampNeg ((gi s82 x55 (10 : Int32).toNatClampNeg) + (1 : Int32))) (fun s85 => bv (fX7_goesOn E a0 s85) (fun s86 => bv (fX7_looksWhetherMerged E a0 s86) (fun s88 => some (o50.1, s88)))))))))))))))))))))))))
def fX7_isSpread (E : En) (a0 : Nat) (σ : Sg) : Option (Int32 × Sg) := tk (cd E a0) 7 (dr (rf E a0 0) E 100 (fun x1 => ck (7 : Int32) (ln E x1) (bd (if (gi σ x1 (7 : Int32).toNatClampNeg) ≤ (1 : Int32) then (some ((0 : Int32), σ)) else (some ((1 : Int32), σ))) (fun w3 s4 => kb w3 (some (w3, s4))))))
def fX7_refused (E : En) (a0 : Nat) (σ : Sg) : Option (Int32 × Sg) := tk (cd E a0) 7 (bd (fX7_isSpread E a0 σ) (fun r3 s1 => bd (if ¬ r3 = 0 then (dr (rf E a0 0) E 100 (fun x6 => ck (7 : Int32) (ln E x6) (if ¬ (gi s1 x6 (7 : Int32).toNatClampNeg) = (3 : Int32) then (some ((0 : Int32), s1)) else (some ((-2 : Int32), s1))))) else (some ((-1 : Int32), s1))) (fun w4 s5 => some (w4, s5))))
def fX7_step (E : En) (a0 : Nat) (σ : Sg) : Option (Int32 × Sg) := tk (cd E a0) 7 (bd (fX7_refused E a0 σ) (fun r3 s1 => if r3 = 0 then (bv (fX7_remembers E a0 s1) (fun s4 => bd (fX7_steps E a0 s4) (fun r8 s6 => some (r8, s6)))) else (bd (fX7_refused E a0 s1) (fun r11 s9 => some (r11, s9)))))
def bX7_phase_26 (E : En) (x6 : Nat) (v8 : Int32) (a0 : Nat) (rec : Int32 → Sg → Option ((Int32) × Sg)) (v9 : Int32) (s10 : Sg) : Option ((Int32) × Sg) := ck (11 : Int32) (ln E x6) (if ¬ (gi s10 x6 (11 : Int32).toNatClampNeg) = v8 then (some (v9, s10)) else (ck (7 : Int32) (ln E x6) (if ¬ (gi s10 x6 (7 : Int32).toNatClampNeg) = (2 : Int32) then (some (v9, s10)) else (bd (fX7_steps E a0 s10) (fun r19 s17 => lt (v9 + (1 : Int32)) (fun v20 => rec v20 s17))))))
def fX7_phase (E : En) (a0 : Nat) (σ : Sg) : Option (Int32 × Sg) := tk (cd E a0) 7 (bd (fX7_refused E a0 σ) (fun r3 s1 => if r3 = 0 then (bv (fX7_remembers E a0 s1) (fun s4 => dr (rf E a0 0) E 100 (fun x6 => ck (11 : Int32) (ln E x6) (lt (gi s4 x6 (11 : Int32).toNatClampNeg) (fun v8 => bd (fx (fun rec a => bX7_phase_26 E x6 v8 a0 (fun u0 t => rec (u0, t)) a.1 a.2) FU ((0 : Int32), s4)) (fun o21 s22 => some (o21, s22))))))) else (bd (fX7_refused E a0 s1) (fun r25 s23 => some (r25, s23)))))
def bX7_all_18 (E : En) (a0 : Nat) (rec : Int32 → Sg → Option ((Int32) × Sg)) (v6 : Int32) (s7 : Sg) : Option ((Int32) × Sg) := dr (rf E a0 0) E 100 (fun x12 => ck (7 : Int32) (ln E x12) (if ¬ (gi s7 x12 (7 : Int32).toNatClampNeg) = (2 : Int32) then (some (v6, s7)) else (bd (fX7_steps E a0 s7) (fun r16 s14 => lt (v6 + (1 : Int32)) (fun v17 => rec v17 s14)))))
def fX7_all (E : En) (a0 : Nat) (σ : Sg) : Option (Int32 × Sg) := tk (cd E a0) 7 (bd (fX7_refused E a0 σ) (fun r3 s1 => if r3 = 0 then (bv (fX7_remembers E a0 s1) (fun s4 => bd (fx (fun rec a => bX7_all_18 E a0 (fun u0 t => rec (u0, t)) a.1 a.2) FU ((0 : Int32), s4)) (fun o18 s19 => some (o18, s19)))) else (bd (fX7_refused E a0 s1) (fun r22 s20 => some (r22, s20)))))
def fX7_record (E : En) (a0 : Nat) (a1 : Int32) (a2 : Int32) (σ : Sg) : Option (Int32 × Sg) := tk (cd E a0) 7 (bd (fX7_many E a0 σ) (fun r3 s1 => bd (fX7_in E a1 (0 : Int32) (r3 - (1 : Int32)) s1) (fun r6 s4 => if r6 = 0 then (some ((-1 : Int32), s4)) else (bd (fX7_in E a2 (0 : Int32) (1 : Int32) s4) (fun r9 s7 => if ¬ r9 = 0 then (bd (if ¬ a2 = 0 then (dr (rf E a0 0) E 100 (fun x12 => ck (7 : Int32) (ln E x12) (if (gi s7 x12 (7 : Int32).toNatClampNeg) ≤ 0 then (some ((-1 : Int32), s7)) else (ck ((326 : Int32) + a1) (ln E x12) (some ((gi s7 x12 ((326 : Int32) + a1).toNatClampNeg), s7)))))) else (dr (rf E a0 0) E 100 (fun x15 => ck ((26 : Int32) + a1) (ln E x15) (some ((gi s7 x15 ((26 : Int32) + a1).toNatClampNeg), s7))))) (fun w10 s11 => some (w10, s11))) else (some ((-1 : Int32), s7)))))))
def fX7_run (E : En) (a0 : Nat) (a1 : Int32) (a2 : Int32) (σ : Sg) : Option (Int32 × Sg) := tk (cd E a0) 7 (dr (rf E a0 0) E 100 (fun x1 => ck (7 : Int32) (ln E x1) (if (gi σ x1 (7 : Int32).toNatClampNeg) = 0 then (some ((-1 : Int32), σ)) else (ck (14 : Int32) (ln E x1) (bd (fX7_in E a1 (0 : Int32) ((gi σ x1 (14 : Int32).toNatClampNeg) - (1 : Int32)) σ) (fun r6 s4 => if r6 = 0 then (some ((-1 : Int32), s4)) else (if (-2 : Int32) ≤ a2 then (if 0 ≤ a2 then (bd (fX7_runSize E a0 a1 s4) (fun r9 s7 => bd (if r9 ≤ a2 then (some ((-3 : Int32), s7)) else (ck ((926 : Int32) + a1) (ln E x1) (ck (((626 : Int32) + (gi s7 x1 ((926 : Int32) + a1).toNatClampNeg)) + a2) (ln E x1) (some ((gi s7 x1 (((626 : Int32) + (gi s7 x1 ((926 : Int32) + a1).toNatClampNeg)) + a2).toNatClampNeg), s7))))) (fun w10 s11 => some (w10, s11)))) else (bd (if ¬ a2 = (-1 : Int32) then (bd (fX7_doesFall E a0 a1 s4) (fun r18 s16 => bd (fX7_truth E r18 s16) (fun r21 s19 => some (r21, s19)))) else (bd (fX7_runSize E a0 a1 s4) (fun r24 s22 => some (r24, s22)))) (fun w14 s15 => some (w14, s15)))) else (some ((-1 : Int32), s4)))))))))
def bX7_tape_40 (E : En) (a0 : Nat) (a1 : Int32) (rec : Int32 → Int32 → Int32 → Sg → Option ((Int32 × Int32 × Int32) × Sg)) (v13 : Int32) (v14 : Int32) (v15 : Int32) (s16 : Sg) : Option ((Int32 × Int32 × Int32) × Sg) := dr (rf E a0 0) E 100 (fun x21 => ck ((20 : Int32) + a1) (ln E x21) (if (gi s16 x21 ((20 : Int32) + a1).toNatClampNeg) ≤ v15 then (some ((v13, v14, v15), s16)) else (bd (fX7_runAt E a0 a1 v15 s16) (fun r25 s23 => ck ((1927 : Int32) + r25) (ln E x21) (bd (if ¬ (gi s23 x21 ((1927 : Int32) + r25).toNatClampNeg) = 0 then (some ((0 : Int32), s23)) else (some ((1 : Int32), s23))) (fun w27 s28 => bd (fX7_truth E w27 s28) (fun r31 s29 => lt (v13 + r31) (fun v32 => bd (fX7_runAt E a0 a1 v15 s29) (fun r35 s33 => ck ((1927 : Int32) + r35) (ln E x21) (lt (v14 + (gi s33 x21 ((1927 : Int32) + r35).toNatClampNeg)) (fun v37 => lt (v15 + (1 : Int32)) (fun v38 => rec v32 v37 v38 s33))))))))))))
def fX7_tape (E : En) (a0 : Nat) (a1 : Int32) (a2 : Int32) (σ : Sg) : Option (Int32 × Sg) := tk (cd E a0) 7 (bd (fX7_isSpread E a0 σ) (fun r3 s1 => if r3 = 0 then (some ((-1 : Int32), s1)) else (bd (fX7_tapes E a0 s1) (fun r6 s4 => bd (fX7_in E a1 (0 : Int32) (r6 - (1 : Int32)) s4) (fun r9 s7 => if r9 = 0 then (some ((-1 : Int32), s7)) else (bd (fX7_in E a2 (0 : Int32) (3 : Int32) s7) (fun r12 s10 => if ¬ r12 = 0 then (bd (fx (fun rec a => bX7_tape_40 E a0 a1 (fun u0 u1 u2 t => rec ((u0, u1, u2), t)) a.1.1 a.1.2.1 a.1.2.2 a.2) FU (((0 : Int32), (0 : Int32), (0 : Int32)), s10)) (fun o39 s40 => bd (if ¬ a2 = 0 then (if ¬ a2 = (1 : Int32) then (if ¬ a2 = (2 : Int32) then (dr (rf E a0 0) E 100 (fun x43 => ck (13 : Int32) (ln E x43) (bd (if ¬ (gi s40 x43 (13 : Int32).toNatClampNeg) = a1 then (some ((0 : Int32), s40)) else (some ((1 : Int32), s40))) (fun w45 s46 => bd (fX7_truth E w45 s46) (fun r49 s47 => some (r49, s47)))))) else (some (o39.2.1, s40))) else (some (o39.1, s40))) else (dr (rf E a0 0) E 100 (fun x50 => ck ((20 : Int32) + a1) (ln E x50) (some ((gi s40 x50 ((20 : Int32) + a1).toNatClampNeg), s40))))) (fun w41 s42 => some (w41, s42)))) else (some ((-1 : Int32), s10)))))))))
def fX7_on (E : En) (a0 : Nat) (a1 : Int32) (a2 : Int32) (a3 : Int32) (σ : Sg) : Option (Int32 × Sg) := tk (cd E a0) 7 (bd (fX7_isSpread E a0 σ) (fun r3 s1 => if r3 = 0 then (some ((-1 : Int32), s1)) else (bd (fX7_tapes E a0 s1) (fun r6 s4 => bd (fX7_in E a1 (0 : Int32) (r6 - (1 : Int32)) s4) (fun r9 s7 => if r9 = 0 then (some ((-1 : Int32), s7)) else (dr (rf E a0 0) E 100 (fun x10 => ck ((20 : Int32) + a1) (ln E x10) (bd (fX7_in E a2 (0 : Int32) ((gi s7 x10 ((20 : Int32) + a1).toNatClampNeg) - (1 : Int32)) s7) (fun r14 s12 => if r14 = 0 then (some ((-1 : Int32), s12)) else (if (-2 : Int32) ≤ a3 then (bd (fX7_runAt E a0 a1 a2 s12) (fun r17 s15 => if ¬ a3 = (-2 : Int32) then (bd (if ¬ a3 = (-1 : Int32) then (ck ((1927 : Int32) + r17) (ln E x10) (if (gi s15 x10 ((1927 : Int32) + r17).toNatClampNeg) ≤ a3 then (some ((-3 : Int32), s15)) else (ck ((1227 : Int32) + r17) (ln E x10) (ck (((7527 : Int32) + (gi s15 x10 ((1227 : Int32) + r17).toNatClampNeg)) + a3) (ln E x10) (some ((gi s15 x10 (((7527 : Int32) + (gi s15 x10 ((1227 : Int32) + r17).toNatClampNeg)) + a3).toNatClampNeg), s15)))))) else (ck ((1927 : Int32) + r17) (ln E x10) (some ((gi s15 x10 ((1927 : Int32) + r17).toNatClampNeg), s15)))) (fun w18 s19 => some (w18, s19))) else (ck ((2627 : Int32) + r17) (ln E x10) (some ((gi s15 x10 ((2627 : Int32) + r17).toNatClampNeg), s15))))) else (some ((-1 : Int32), s12))))))))))))
def fX7_sorted (E : En) (a0 : Nat) (a1 : Int32) (σ : Sg) : Option (Int32 × Sg) := tk (cd E a0) 7 (bd (fX7_many E a0 σ) (fun r3 s1 => bd (fX7_in E a1 (0 : Int32) (r3 - (1 : Int32)) s1) (fun r6 s4 => if ¬ r6 = 0 then (dr (rf E a0 0) E 100 (fun x7 => ck (7 : Int32) (ln E x7) (bd (if ¬ (gi s4 x7 (7 : Int32).toNatClampNeg) = (3 : Int32) then (some ((-2 : Int32), s4)) else (ck ((7527 : Int32) + a1) (ln E x7) (some ((gi s4 x7 ((7527 : Int32) + a1).toNatClampNeg), s4)))) (fun w9 s10 => some (w9, s10))))) else (some ((-1 : Int32), s4)))))
def bX7_notesStand_2 (E : En) (a0 : Nat) (rec : Int32 → Sg → Option ((Int32) × Sg)) (v1 : Int32) (s2 : Sg) : Option ((Int32) × Sg) := if (6 : Int32) ≤ v1 then (some (v1, s2)) else (dr (rf E a0 19) E 100 (fun x7 => bd (fX7_tapes E a0 s2) (fun r10 s8 => bd (if r10 ≤ v1 then (some ((0 : Int32), s8)) else (dr (rf E a0 0) E 100 (fun x13 => ck ((20 : Int32) + v1) (ln E x13) (some ((gi s8 x13 ((20 : Int32) + v1).toNatClampNeg), s8))))) (fun w11 s12 => ck (((6 : Int32) * (gi s2 a0 20)) + v1) (ln E x7) (ss (si s12 x7 (((6 : Int32) * (gi s2 a0 20)) + v1).toNatClampNeg w11) (fun s16 => lt (v1 + (1 : Int32)) (fun v17 => rec v17 s16)))))))
def bX7_notesStand_63 (E : En) (a0 : Nat) (v20 : Int32) (rec : Int32 → Int32 → Sg → Option ((Int32 × Int32) × Sg)) (v26 : Int32) (v27 : Int32) (s28 : Sg) : Option ((Int32 × Int32) × Sg) := if (6 : Int32) ≤ v27 then (some ((v26, v27), s28)) else (bd (if v26 = 0 then (some ((0 : Int32), s28)) else (dr (rf E a0 19) E 100 (fun x35 => ck (((6 : Int32) * v20) + v27) (ln E x35) (ck (((6 : Int32) * (gi s28 a0 20)) + v27) (ln E x35) (if ¬ (gi s28 x35 (((6 : Int32) * v20) + v27).toNatClampNeg) = (gi s28 x35 (((6 : Int32) * (gi s28 a0 20)) + v27).toNatClampNeg) then (some ((0 : Int32), s28)) else (some ((1 : Int32), s28))))))) (fun w33 s34 => lt (v27 + (1 : Int32)) (fun v38 => rec w33 v38 s34)))
def bX7_notesStand_51 (E : En) (a0 : Nat) (rec : Int32 → Sg → Option (((Int32) ⊕ Unit) × Sg)) (v20 : Int32) (s21 : Sg) : Option (((Int32) ⊕ Unit) × Sg) := if (gi s21 a0 20) ≤ v20 then (some (.inl v20, s21)) else (bd (fx (fun rec a => bX7_notesStand_63 E a0 v20 (fun u0 u1 t => rec ((u0, u1), t)) a.1.1 a.1.2 a.2) FU (((1 : Int32), (0 : Int32)), s21)) (fun o39 s40 => if o39.1 = 0 then (lt (v20 + (1 : Int32)) (fun v41 => rec v41 s40)) else (some (.inr (), s40))))
def fX7_notesStand (E : En) (a0 : Nat) (σ : Sg) : Option (Sg) := tk (cd E a0) 7 (bd (fx (fun rec a => bX7_notesStand_2 E a0 (fun u0 t => rec (u0, t)) a.1 a.2) FU ((0 : Int32), σ)) (fun o18 s19 => bd (fx (fun rec a => bX7_notesStand_51 E a0 (fun u0 t => rec (u0, t)) a.1 a.2) FU ((0 : Int32), s19)) (fun o42 s43 => sm o42 (fun vo42 => ss (si s43 a0 20 ((gi s43 a0 20) + (1 : Int32))) (fun s44 => some s44)) (fun rr => some s43))))
def bX7_goesThrough_43 (E : En) (x4 : Nat) (a0 : Nat) (rec : Sg → Option ((Unit) × Sg))  (s16 : Sg) : Option ((Unit) × Sg) := ck (7 : Int32) (ln E x4) (if ¬ (gi s16 x4 (7 : Int32).toNatClampNeg) = (2 : Int32) then (some ((), s16)) else (bd (fX7_steps E a0 s16) (fun r24 s22 => bv (fX7_notesStand E a0 s22) (fun s25 => rec s25))))
def fX7_goesThrough (E : En) (a0 : Nat) (a1 : Int32) (a2 : Int32) (a3 : Int32) (a4 : Int32) (σ : Sg) : Option (Int32 × Sg) := tk (cd E a0) 7 (dr (rf E a0 1) E 100 (fun x1 => bv (fX7_keepsIn E a0 x1 (0 : Int32) σ) (fun s2 => dr (rf E a0 0) E 100 (fun x4 => ck (2 : Int32) (ln E x4) (ss (si s2 x4 (2 : Int32).toNatClampNeg a2) (fun s6 => ck (3 : Int32) (ln E x4) (ss (si s6 x4 (3 : Int32).toNatClampNeg a1) (fun s8 => ck (5 : Int32) (ln E x4) (ss (si s8 x4 (5 : Int32).toNatClampNeg a3) (fun s10 => ss (si s10 a0 20 (0 : Int32)) (fun s11 => bv (fX7_spreads E a0 s11) (fun s12 => bv (fX7_notesStand E a0 s12) (fun s14 => bd (fx (fun rec a => bX7_goesThrough_43 E x4 a0 (fun t => rec ((), t))  a.2) FU ((), s14)) (fun o27 s28 => bd (if (4 : Int32) ≤ a4 then (if ¬ a4 = (4 : Int32) then (ck (19 : Int32) (ln E x4) (some ((gi s28 x4 (19 : Int32).toNatClampNeg), s28))) else (ck (18 : Int32) (ln E x4) (some ((gi s28 x4 (18 : Int32).toNatClampNeg), s28)))) else (ck ((9 : Int32) + a4) (ln E x4) (some ((gi s28 x4 ((9 : Int32) + a4).toNatClampNeg), s28)))) (fun w29 s30 => bv (fX7_laysFrom E a0 x1 (0 : Int32) s30) (fun s34 => some (w29, s34)))))))))))))))))
def fX7_plan (E : En) (a0 : Nat) (a1 : Int32) (σ : Sg) : Option (Int32 × Sg) := tk (cd E a0) 7 (bd (fX7_canSpread E a0 σ) (fun r3 s1 => if r3 = 0 then (some ((-1 : Int32), s1)) else (bd (fX7_in E a1 (0 : Int32) (5 : Int32) s1) (fun r6 s4 => if ¬ r6 = 0 then (bd (fX7_way E a0 s4) (fun r9 s7 => bd (fX7_tapes E a0 s7) (fun r12 s10 => dr (rf E a0 0) E 100 (fun x13 => ck (5 : Int32) (ln E x13) (bd (fX7_goesThrough E a0 r9 r12 (gi s10 x13 (5 : Int32).toNatClampNeg) a1 s10) (fun r17 s15 => some (r17, s15))))))) else (some ((-1 : Int32), s4))))))
def fX7_planned (E : En) (a0 : Nat) (a1 : Int32) (a2 : Int32) (a3 : Int32) (σ : Sg) : Option (Int32 × Sg) := tk (cd E a0) 7 (dr (rf E a0 0) E 100 (fun x1 => ck (7 : Int32) (ln E x1) (if (gi σ x1 (7 : Int32).toNatClampNeg) = 0 then (some ((-1 : Int32), σ)) else (bd (fX7_canSet E (2 : Int32) a1 σ) (fun r5 s3 => if r5 = 0 then (some ((-1 : Int32), s3)) else (bd (fX7_canSet E (1 : Int32) a2 s3) (fun r8 s6 => if r8 = 0 then (some ((-1 : Int32), s6)) else (bd (fX7_canSet E (4 : Int32) a3 s6) (fun r11 s9 => if r11 = 0 then (some ((-1 : Int32), s9)) else (if ¬ a1 = (1 : Int32) then (bd (fX7_goesThrough E a0 a1 a2 a3 (0 : Int32) s9) (fun r14 s12 => some (r14, s12))) else (if ¬ a2 = (3 : Int32) then (bd (fX7_goesThrough E a0 a1 a2 a3 (0 : Int32) s9) (fun r17 s15 => some (r17, s15))) else (some ((-1 : Int32), s9)))))))))))))
def fX7_stands (E : En) (a0 : Nat) (σ : Sg) : Option (Int32 × Sg) := tk (cd E a0) 7 (bd (fX7_canSpread E a0 σ) (fun r3 s1 => if ¬ r3 = 0 then (bd (fX7_way E a0 s1) (fun r6 s4 => bd (fX7_tapes E a0 s4) (fun r9 s7 => dr (rf E a0 0) E 100 (fun x10 => ck (5 : Int32) (ln E x10) (bd (fX7_goesThrough E a0 r6 r9 (gi s7 x10 (5 : Int32).toNatClampNeg) (0 : Int32) s7) (fun r14 s12 => some ((gi s12 a0 20), s12))))))) else (some ((-1 : Int32), s1))))
def bX7_depth_80 (E : En) (a0 : Nat) (x4 : Nat) (v11 : Int32) (rec : Int32 → Int32 → Sg → Option ((Int32 × Int32) × Sg)) (v27 : Int32) (v28 : Int32) (s29 : Sg) : Option ((Int32 × Int32) × Sg) := bd (fX7_many E a0 s29) (fun r36 s34 => if r36 ≤ v28 then (some ((v27, v28), s34)) else (ck ((7527 : Int32) + v28) (ln E x4) (bd (if ¬ (gi s34 x4 ((7527 : Int32) + v28).toNatClampNeg) = v11 then (some ((0 : Int32), s34)) else (bd (fX7_isInTaken E a0 v28 s34) (fun r42 s40 => if r42 = 0 then (some ((0 : Int32), s40)) else (some ((1 : Int32), s40))))) (fun w38 s39 => bd (fX7_truth E w38 s39) (fun r45 s43 => lt (v27 + r45) (fun v46 => lt (v28 + (1 : Int32)) (fun v47 => rec v46 v47 s43)))))))
def bX7_depth_61 (E : En) (x4 : Nat) (a0 : Nat) (v11 : Int32) (rec : Int32 → Sg → Option ((Int32) × Sg)) (v17 : Int32) (s18 : Sg) : Option ((Int32) × Sg) := ck (7 : Int32) (ln E x4) (if ¬ (gi s18 x4 (7 : Int32).toNatClampNeg) = (2 : Int32) then (some (v17, s18)) else (bd (fX7_laysTaken E a0 s18) (fun r26 s24 => bd (fx (fun rec a => bX7_depth_80 E a0 x4 v11 (fun u0 u1 t => rec ((u0, u1), t)) a.1.1 a.1.2 a.2) FU ((v17, (0 : Int32)), s24)) (fun o48 s49 => bd (fX7_steps E a0 s49) (fun r52 s50 => rec o48.1 s50)))))
def fX7_depth (E : En) (a0 : Nat) (a1 : Int32) (σ : Sg) : Option (Int32 × Sg) := tk (cd E a0) 7 (bd (fX7_canSpread E a0 σ) (fun r3 s1 => if r3 = 0 then (some ((-1 : Int32), s1)) else (dr (rf E a0 0) E 100 (fun x4 => ck (14 : Int32) (ln E x4) (bd (fX7_in E a1 (0 : Int32) ((gi s1 x4 (14 : Int32).toNatClampNeg) - (1 : Int32)) s1) (fun r8 s6 => if ¬ r8 = 0 then (ck ((926 : Int32) + a1) (ln E x4) (ck ((626 : Int32) + (gi s6 x4 ((926 : Int32) + a1).toNatClampNeg)) (ln E x4) (lt (gi s6 x4 ((626 : Int32) + (gi s6 x4 ((926 : Int32) + a1).toNatClampNeg)).toNatClampNeg) (fun v11 => dr (rf E a0 1) E 100 (fun x12 => bv (fX7_keepsIn E a0 x12 (0 : Int32) s6) (fun s13 => bv (fX7_spreads E a0 s13) (fun s15 => bd (fx (fun rec a => bX7_depth_61 E x4 a0 v11 (fun u0 t => rec (u0, t)) a.1 a.2) FU ((0 : Int32), s15)) (fun o53 s54 => bv (fX7_laysFrom E a0 x12 (0 : Int32) s54) (fun s55 => some (o53, s55)))))))))) else (some ((-1 : Int32), s6))))))))
def fX7_givesUnits (E : En) (a0 : Nat) (a1 : Int32) (σ : Sg) : Option (Int32 × Sg) := tk (cd E a0) 7 (bd (if a1 = (gi σ a0 23) then (some ((0 : Int32), σ)) else (dr (rf E a0 21) E 100 (fun x3 => ck a1 (ln E x3) (if (gi σ x3 a1.toNatClampNeg) ≤ 0 then (some ((0 : Int32), σ)) else (some ((1 : Int32), σ)))))) (fun w1 s2 => bd (if w1 = 0 then (some ((0 : Int32), s2)) else (bd (fX7_way E a0 s2) (fun r9 s7 => if r9 = 0 then (some ((1 : Int32), s7)) else (if ¬ (((gi s7 a0 24) >>> (a1 &&& 31)) &&& (1 : Int32)) = (1 : Int32) then (some ((0 : Int32), s7)) else (if ¬ (((gi s7 a0 25) >>> (a1 &&& 31)) &&& (1 : Int32)) = 0 then (some ((0 : Int32), s7)) else (some ((1 : Int32), s7))))))) (fun w5 s6 => kb w5 (some (w5, s6)))))
def bX7_beginsUnits_7 (E : En) (a0 : Nat) (rec : Int32 → Sg → Option ((Int32) × Sg)) (v2 : Int32) (s3 : Sg) : Option ((Int32) × Sg) := bd (fX7_tapes E a0 s3) (fun r10 s8 => if r10 ≤ v2 then (some (v2, s8)) else (dr (rf E a0 21) E 100 (fun x11 => ck v2 (ln E x11) (bd (if (gi s8 x11 v2.toNatClampNeg) ≤ 0 then (some ((0 : Int32), s8)) else (some ((1 : Int32), s8))) (fun w13 s14 => bd (fX7_truth E w13 s14) (fun r17 s15 => ss (si s15 a0 24 ((gi s8 a0 24) ||| (r17 <<< (v2 &&& 31)))) (fun s18 => lt (v2 + (1 : Int32)) (fun v19 => rec v19 s18))))))))
def fX7_beginsUnits (E : En) (a0 : Nat) (σ : Sg) : Option (Sg) := tk (cd E a0) 7 (ss (si σ a0 24 (0 : Int32)) (fun s1 => bd (fx (fun rec a => bX7_beginsUnits_7 E a0 (fun u0 t => rec (u0, t)) a.1 a.2) FU ((0 : Int32), s1)) (fun o20 s21 => ss (si s21 a0 25 ((1 : Int32) <<< ((gi s21 a0 23) &&& 31))) (fun s22 => some s22))))
def bX7_goesUnits_11 (E : En) (a0 : Nat) (rec : Int32 → Int32 → Int32 → Int32 → Sg → Option ((Int32 × Int32 × Int32 × Int32) × Sg)) (v1 : Int32) (v2 : Int32) (v3 : Int32) (v4 : Int32) (s5 : Sg) : Option ((Int32 × Int32 × Int32 × Int32) × Sg) := bd (fX7_tapes E a0 s5) (fun r12 s10 => if r12 ≤ v4 then (some ((v1, v2, v3, v4), s10)) else (bd (fX7_givesUnits E a0 v4 s10) (fun r15 s13 => bd (if r15 = 0 then (some ((v1, v2, v3), s13)) else (dr (rf E a0 21) E 100 (fun x18 => ck v4 (ln E x18) (bd (if v1 ≤ (gi s13 x18 v4.toNatClampNeg) then (some (v3, s13)) else (some (v4, s13))) (fun w20 s21 => ck v4 (ln E x18) (lt (imin v1 (gi s21 x18 v4.toNatClampNeg)) (fun v23 => dr (rf E a0 22) E 100 (fun x24 => ck v4 (ln E x24) (lt (v2 + (gi s21 x24 v4.toNatClampNeg)) (fun v26 => some ((v23, v26, w20), s21))))))))))) (fun w16 s17 => lt (v4 + (1 : Int32)) (fun v27 => rec w16.1 w16.2.1 w16.2.2 v27 s17)))))
def bX7_goesUnits_84 (E : En) (a0 : Nat) (o28 : Int32 × Int32 × Int32 × Int32) (rec : Int32 → Sg → Option ((Int32) × Sg)) (v31 : Int32) (s32 : Sg) : Option ((Int32) × Sg) := bd (fX7_tapes E a0 s32) (fun r39 s37 => if r39 ≤ v31 then (some (v31, s37)) else (dr (rf E a0 21) E 100 (fun x40 => ck v31 (ln E x40) (bd (fX7_givesUnits E a0 v31 s37) (fun r44 s42 => bd (if r44 = 0 then (some ((0 : Int32), s42)) else (some (o28.1, s42))) (fun w45 s46 => ck v31 (ln E x40) (ss (si s46 x40 v31.toNatClampNeg ((gi s37 x40 v31.toNatClampNeg) - w45)) (fun s48 => lt (v31 + (1 : Int32)) (fun v49 => rec v49 s48)))))))))
def bX7_goesUnits_162 (E : En) (a0 : Nat) (rec : Int32 → Int32 → Sg → Option ((Int32 × Int32) × Sg)) (v60 : Int32) (v61 : Int32) (s62 : Sg) : Option ((Int32 × Int32) × Sg) := bd (fX7_tapes E a0 s62) (fun r69 s67 => if r69 ≤ v61 then (some ((v60, v61), s67)) else (bd (fX7_givesUnits E a0 v61 s67) (fun r72 s70 => bd (fX7_truth E r72 s70) (fun r75 s73 => lt (v60 + r75) (fun v76 => lt (v61 + (1 : Int32)) (fun v77 => rec v76 v77 s73))))))
def fX7_goesUnits (E : En) (a0 : Nat) (σ : Sg) : Option (Int32 × Sg) := tk (cd E a0) 7 (bd (fx (fun rec a => bX7_goesUnits_11 E a0 (fun u0 u1 u2 u3 t => rec ((u0, u1, u2, u3), t)) a.1.1 a.1.2.1 a.1.2.2.1 a.1.2.2.2 a.2) FU (((2147483647 : Int32), (0 : Int32), (-1 : Int32), (0 : Int32)), σ)) (fun o28 s29 => lt (gi s29 a0 23) (fun v30 => bd (fx (fun rec a => bX7_goesUnits_84 E a0 o28 (fun u0 t => rec (u0, t)) a.1 a.2) FU ((0 : Int32), s29)) (fun o50 s51 => dr (rf E a0 21) E 100 (fun x52 => ck v30 (ln E x52) (ss (si s51 x52 v30.toNatClampNeg o28.1) (fun s54 => dr (rf E a0 22) E 100 (fun x55 => ck v30 (ln E x55) (ss (si s54 x55 v30.toNatClampNeg o28.2.1) (fun s57 => ss (si s57 a0 23 o28.2.2.1) (fun s58 => ss (si s58 a0 25 ((gi s58 a0 25) ||| ((1 : Int32) <<< (o28.2.2.1 &&& 31)))) (fun s59 => bd (fx (fun rec a => bX7_goesUnits_162 E a0 (fun u0 u1 t => rec ((u0, u1), t)) a.1.1 a.1.2 a.2) FU (((0 : Int32), (0 : Int32)), s59)) (fun o78 s79 => bd (if (2 : Int32) ≤ o78.1 then (some ((), s79)) else (bv (fX7_beginsUnits E a0 s79) (fun s82 => some ((), s82)))) (fun w80 s81 => some ((o28.1 * o28.2.1), s81)))))))))))))))
def bX7_isMoreThanOne_4 (E : En) (a0 : Nat) (rec : Int32 → Int32 → Sg → Option ((Int32 × Int32) × Sg)) (v1 : Int32) (v2 : Int32) (s3 : Sg) : Option ((Int32 × Int32) × Sg) := bd (fX7_tapes E a0 s3) (fun r10 s8 => if r10 ≤ v2 then (some ((v1, v2), s8)) else (dr (rf E a0 21) E 100 (fun x11 => ck v2 (ln E x11) (lt (v1 + (gi s8 x11 v2.toNatClampNeg)) (fun v13 => lt (v2 + (1 : Int32)) (fun v14 => rec v13 v14 s8))))))
def fX7_isMoreThanOne (E : En) (a0 : Nat) (σ : Sg) : Option (Int32 × Sg) := tk (cd E a0) 7 (bd (fx (fun rec a => bX7_isMoreThanOne_4 E a0 (fun u0 u1 t => rec ((u0, u1), t)) a.1.1 a.1.2 a.2) FU (((0 : Int32), (0 : Int32)), σ)) (fun o15 s16 => bd (if o15.1 ≤ (1 : Int32) then (some ((0 : Int32), s16)) else (some ((1 : Int32), s16))) (fun w17 s18 => kb w17 (some (w17, s18)))))
def bX7_units_38 (E : En) (a0 : Nat) (v10 : Int32) (rec : Int32 → Sg → Option ((Int32) × Sg)) (v16 : Int32) (s17 : Sg) : Option ((Int32) × Sg) := if (6 : Int32) ≤ v16 then (some (v16, s17)) else (dr (rf E a0 21) E 100 (fun x22 => bd (if v10 ≤ v16 then (some ((0 : Int32), s17)) else (dr (rf E a0 11) E 100 (fun x25 => ck v16 (ln E x25) (some ((gi s17 x25 v16.toNatClampNeg), s17))))) (fun w23 s24 => ck v16 (ln E x22) (ss (si s24 x22 v16.toNatClampNeg w23) (fun s28 => dr (rf E a0 22) E 100 (fun x29 => ck v16 (ln E x29) (ss (si s28 x29 v16.toNatClampNeg (1 : Int32)) (fun s31 => lt (v16 + (1 : Int32)) (fun v32 => rec v32 s31)))))))))
def bX7_units_89 (E : En) (a0 : Nat) (rec : Int32 → Sg → Option ((Int32) × Sg)) (v38 : Int32) (s39 : Sg) : Option ((Int32) × Sg) := bd (fX7_isMoreThanOne E a0 s39) (fun r46 s44 => if r46 = 0 then (some (v38, s44)) else (bd (fX7_goesUnits E a0 s44) (fun r49 s47 => lt (v38 + r49) (fun v50 => rec v50 s47))))
def fX7_units (E : En) (a0 : Nat) (a1 : Int32) (σ : Sg) : Option (Int32 × Sg) := tk (cd E a0) 7 (bd (fX7_in E a1 (0 : Int32) (5 : Int32) σ) (fun r3 s1 => if r3 = 0 then (some ((-1 : Int32), s1)) else (bd (fX7_way E a0 s1) (fun r6 s4 => if ¬ r6 = (1 : Int32) then (bd (fX7_tapes E a0 s4) (fun r9 s7 => lt (r9 - (1 : Int32)) (fun v10 => bd (fX7_way E a0 s7) (fun r13 s11 => bv (fX7_laysPerfect E a0 a1 r13 v10 s11) (fun s14 => bd (fx (fun rec a => bX7_units_38 E a0 v10 (fun u0 t => rec (u0, t)) a.1 a.2) FU ((0 : Int32), s14)) (fun o33 s34 => ss (si s34 a0 23 v10) (fun s35 => bv (fX7_beginsUnits E a0 s35) (fun s36 => bd (fx (fun rec a => bX7_units_89 E a0 (fun u0 t => rec (u0, t)) a.1 a.2) FU ((0 : Int32), s36)) (fun o51 s52 => some (o51, s52)))))))))) else (some ((-1 : Int32), s4))))))
def bX7_takesLeast_4 (E : En) (a1 : Int32) (a0 : Nat) (rec : Int32 → Int32 → Sg → Option ((Int32 × Int32) × Sg)) (v1 : Int32) (v2 : Int32) (s3 : Sg) : Option ((Int32 × Int32) × Sg) := if a1 ≤ v2 then (some ((v1, v2), s3)) else (dr (rf E a0 26) E 100 (fun x8 => ck v2 (ln E x8) (ck v1 (ln E x8) (bd (if (gi s3 x8 v1.toNatClampNeg) ≤ (gi s3 x8 v2.toNatClampNeg) then (some (v1, s3)) else (some (v2, s3))) (fun w11 s12 => lt (v2 + (1 : Int32)) (fun v13 => rec w11 v13 s12))))))
def fX7_takesLeast (E : En) (a0 : Nat) (a1 : Int32) (σ : Sg) : Option (Int32 × Sg) := tk (cd E a0) 7 (bd (fx (fun rec a => bX7_takesLeast_4 E a1 a0 (fun u0 u1 t => rec ((u0, u1), t)) a.1.1 a.1.2 a.2) FU (((0 : Int32), (1 : Int32)), σ)) (fun o14 s15 => dr (rf E a0 26) E 100 (fun x16 => ck o14.1 (ln E x16) (lt (gi s15 x16 o14.1.toNatClampNeg) (fun v18 => ck (a1 - (1 : Int32)) (ln E x16) (ck o14.1 (ln E x16) (ss (si s15 x16 o14.1.toNatClampNeg (gi s15 x16 (a1 - (1 : Int32)).toNatClampNeg)) (fun s21 => some (v18, s21)))))))))
def bX7_least_25 (E : En) (x4 : Nat) (a0 : Nat) (rec : Int32 → Int32 → Sg → Option ((Int32 × Int32) × Sg)) (v6 : Int32) (v7 : Int32) (s8 : Sg) : Option ((Int32 × Int32) × Sg) := ck (14 : Int32) (ln E x4) (if (gi s8 x4 (14 : Int32).toNatClampNeg) ≤ v7 then (some ((v6, v7), s8)) else (dr (rf E a0 26) E 100 (fun x14 => bd (fX7_runSize E a0 v7 s8) (fun r17 s15 => ck v6 (ln E x14) (ss (si s15 x14 v6.toNatClampNeg r17) (fun s19 => lt (v6 + (1 : Int32)) (fun v20 => lt (v7 + (1 : Int32)) (fun v21 => rec v20 v21 s19))))))))
def bX7_least_56 (E : En) (a1 : Int32) (a0 : Nat) (rec : Int32 → Sg → Option ((Int32) × Sg)) (v24 : Int32) (s25 : Sg) : Option ((Int32) × Sg) := nz (a1 - (1 : Int32)) (if (im (v24 - (1 : Int32)) (a1 - (1 : Int32))) = 0 then (some (v24, s25)) else (dr (rf E a0 26) E 100 (fun x31 => ck v24 (ln E x31) (ss (si s25 x31 v24.toNatClampNeg (0 : Int32)) (fun s33 => lt (v24 + (1 : Int32)) (fun v34 => rec v34 s33))))))
def bX7_least_92 (E : En) (a1 : Int32) (a0 : Nat) (rec : Int32 → Int32 → Int32 → Sg → Option ((Int32 × Int32 × Int32) × Sg)) (v44 : Int32) (v45 : Int32) (v46 : Int32) (s47 : Sg) : Option ((Int32 × Int32 × Int32) × Sg) := if a1 ≤ v46 then (some ((v44, v45, v46), s47)) else (bd (fX7_takesLeast E a0 v44 s47) (fun r54 s52 => lt (v45 + r54) (fun v55 => lt (v44 + (-1 : Int32)) (fun v56 => lt (v46 + (1 : Int32)) (fun v57 => rec v56 v55 v57 s52)))))
def bX7_least_81 (E : En) (a1 : Int32) (a0 : Nat) (rec : Int32 → Int32 → Sg → Option ((Int32 × Int32) × Sg)) (v37 : Int32) (v38 : Int32) (s39 : Sg) : Option ((Int32 × Int32) × Sg) := if v37 ≤ (1 : Int32) then (some ((v37, v38), s39)) else (bd (fx (fun rec a => bX7_least_92 E a1 a0 (fun u0 u1 u2 t => rec ((u0, u1, u2), t)) a.1.1 a.1.2.1 a.1.2.2 a.2) FU ((v37, (0 : Int32), (0 : Int32)), s39)) (fun o58 s59 => dr (rf E a0 26) E 100 (fun x60 => ck o58.1 (ln E x60) (ss (si s59 x60 o58.1.toNatClampNeg o58.2.1) (fun s62 => lt (o58.1 + (1 : Int32)) (fun v63 => lt (v38 + o58.2.1) (fun v64 => rec v63 v64 s62)))))))
def fX7_least (E : En) (a0 : Nat) (a1 : Int32) (σ : Sg) : Option (Int32 × Sg) := tk (cd E a0) 7 (bd (fX7_in E a1 (2 : Int32) (5 : Int32) σ) (fun r3 s1 => if r3 = 0 then (some ((-1 : Int32), s1)) else (dr (rf E a0 0) E 100 (fun x4 => ck (7 : Int32) (ln E x4) (if ¬ (gi s1 x4 (7 : Int32).toNatClampNeg) = 0 then (bd (fx (fun rec a => bX7_least_25 E x4 a0 (fun u0 u1 t => rec ((u0, u1), t)) a.1.1 a.1.2 a.2) FU (((0 : Int32), (0 : Int32)), s1)) (fun o22 s23 => bd (fx (fun rec a => bX7_least_56 E a1 a0 (fun u0 t => rec (u0, t)) a.1 a.2) FU (o22.1, s23)) (fun o35 s36 => bd (fx (fun rec a => bX7_least_81 E a1 a0 (fun u0 u1 t => rec ((u0, u1), t)) a.1.1 a.1.2 a.2) FU ((o35, (0 : Int32)), s36)) (fun o65 s66 => some (o65.2, s66))))) else (some ((-1 : Int32), s1)))))))
def bX7_oftenOf_4 (E : En) (a0 : Nat) (a1 : Int32) (rec : Int32 → Int32 → Sg → Option ((Int32 × Int32) × Sg)) (v1 : Int32) (v2 : Int32) (s3 : Sg) : Option ((Int32 × Int32) × Sg) := bd (fX7_many E a0 s3) (fun r10 s8 => if r10 ≤ v2 then (some ((v1, v2), s8)) else (dr (rf E a0 0) E 100 (fun x11 => ck ((26 : Int32) + v2) (ln E x11) (bd (if ¬ (gi s8 x11 ((26 : Int32) + v2).toNatClampNeg) = a1 then (some ((0 : Int32), s8)) else (some ((1 : Int32), s8))) (fun w13 s14 => bd (fX7_truth E w13 s14) (fun r17 s15 => lt (v1 + r17) (fun v18 => lt (v2 + (1 : Int32)) (fun v19 => rec v18 v19 s15))))))))
def fX7_oftenOf (E : En) (a0 : Nat) (a1 : Int32) (σ : Sg) : Option (Int32 × Sg) := tk (cd E a0) 7 (bd (fx (fun rec a => bX7_oftenOf_4 E a0 a1 (fun u0 u1 t => rec ((u0, u1), t)) a.1.1 a.1.2 a.2) FU (((0 : Int32), (0 : Int32)), σ)) (fun o20 s21 => some (o20.1, s21)))
def bX7_key_32 (E : En) (a0 : Nat) (a1 : Int32) (rec : Int32 → Int32 → Int32 → Sg → Option ((Int32 × Int32 × Int32) × Sg)) (v7 : Int32) (v8 : Int32) (v9 : Int32) (s10 : Sg) : Option ((Int32 × Int32 × Int32) × Sg) := bd (fX7_many E a0 s10) (fun r17 s15 => if r17 ≤ v9 then (some ((v7, v8, v9), s15)) else (dr (rf E a0 0) E 100 (fun x18 => ck ((26 : Int32) + v9) (ln E x18) (bd (if ¬ (gi s15 x18 ((26 : Int32) + v9).toNatClampNeg) = a1 then (some ((v7, v8), s15)) else (bd (if ¬ v7 = (-2 : Int32) then (some (v7, s15)) else (some (v9, s15))) (fun w22 s23 => some ((w22, v9), s23)))) (fun w20 s21 => lt (v9 + (1 : Int32)) (fun v24 => rec w20.1 w20.2 v24 s21))))))
def fX7_key (E : En) (a0 : Nat) (a1 : Int32) (a2 : Int32) (σ : Sg) : Option (Int32 × Sg) := tk (cd E a0) 7 (bd (fX7_in E a1 (0 : Int32) (255 : Int32) σ) (fun r3 s1 => if r3 = 0 then (some ((-1 : Int32), s1)) else (bd (fX7_in E a2 (0 : Int32) (2 : Int32) s1) (fun r6 s4 => if ¬ r6 = 0 then (bd (fx (fun rec a => bX7_key_32 E a0 a1 (fun u0 u1 u2 t => rec ((u0, u1, u2), t)) a.1.1 a.1.2.1 a.1.2.2 a.2) FU (((-2 : Int32), (-2 : Int32), (0 : Int32)), s4)) (fun o25 s26 => bd (if ¬ a2 = 0 then (if ¬ a2 = (1 : Int32) then (some (o25.2.1, s26)) else (some (o25.1, s26))) else (bd (fX7_oftenOf E a0 a1 s26) (fun r31 s29 => some (r31, s29)))) (fun w27 s28 => some (w27, s28)))) else (some ((-1 : Int32), s4))))))
def bX7_keys_48 (E : En) (v7 : Int32) (x16 : Nat) (v18 : Int32) (rec : Int32 → Int32 → Sg → Option ((Int32 × Int32) × Sg)) (v19 : Int32) (v20 : Int32) (s21 : Sg) : Option ((Int32 × Int32) × Sg) := if v7 ≤ v20 then (some ((v19, v20), s21)) else (bd (if v19 = 0 then (some ((0 : Int32), s21)) else (ck ((26 : Int32) + v20) (ln E x16) (if (gi s21 x16 ((26 : Int32) + v20).toNatClampNeg) = v18 then (some ((0 : Int32), s21)) else (some ((1 : Int32), s21))))) (fun w26 s27 => lt (v20 + (1 : Int32)) (fun v29 => rec w26 v29 s27)))
def bX7_keys_21 (E : En) (a0 : Nat) (rec : Int32 → Int32 → Int32 → Int32 → Sg → Option ((Int32 × Int32 × Int32 × Int32) × Sg)) (v4 : Int32) (v5 : Int32) (v6 : Int32) (v7 : Int32) (s8 : Sg) : Option ((Int32 × Int32 × Int32 × Int32) × Sg) := bd (fX7_many E a0 s8) (fun r15 s13 => if r15 ≤ v7 then (some ((v4, v5, v6, v7), s13)) else (dr (rf E a0 0) E 100 (fun x16 => ck ((26 : Int32) + v7) (ln E x16) (lt (gi s13 x16 ((26 : Int32) + v7).toNatClampNeg) (fun v18 => bd (fx (fun rec a => bX7_keys_48 E v7 x16 v18 (fun u0 u1 t => rec ((u0, u1), t)) a.1.1 a.1.2 a.2) FU (((1 : Int32), (0 : Int32)), s13)) (fun o30 s31 => bd (if o30.1 = 0 then (some ((v4, v5, v6), s31)) else (lt (v4 + (1 : Int32)) (fun v34 => bd (fX7_oftenOf E a0 v18 s31) (fun r37 s35 => bd (if r37 ≤ v6 then (some (v5, s35)) else (some (v18, s35))) (fun w38 s39 => lt (imax v6 r37) (fun v40 => some ((v34, w38, v40), s39))))))) (fun w32 s33 => lt (v7 + (1 : Int32)) (fun v41 => rec w32.1 w32.2.1 w32.2.2 v41 s33))))))))
def fX7_keys (E : En) (a0 : Nat) (a1 : Int32) (σ : Sg) : Option (Int32 × Sg) := tk (cd E a0) 7 (bd (fX7_in E a1 (0 : Int32) (2 : Int32) σ) (fun r3 s1 => if ¬ r3 = 0 then (bd (fx (fun rec a => bX7_keys_21 E a0 (fun u0 u1 u2 u3 t => rec ((u0, u1, u2, u3), t)) a.1.1 a.1.2.1 a.1.2.2.1 a.1.2.2.2 a.2) FU (((0 : Int32), (-1 : Int32), (0 : Int32), (0 : Int32)), s1)) (fun o42 s43 => bd (if ¬ a1 = 0 then (if ¬ a1 = (1 : Int32) then (some (o42.2.2.1, s43)) else (some (o42.2.1, s43))) else (some (o42.1, s43))) (fun w44 s45 => some (w44, s45)))) else (some ((-1 : Int32), s1))))
def bX7_inversions_16 (E : En) (a0 : Nat) (v2 : Int32) (rec : Int32 → Int32 → Sg → Option ((Int32 × Int32) × Sg)) (v12 : Int32) (v13 : Int32) (s14 : Sg) : Option ((Int32 × Int32) × Sg) := bd (fX7_many E a0 s14) (fun r21 s19 => if r21 ≤ v13 then (some ((v12, v13), s19)) else (dr (rf E a0 0) E 100 (fun x22 => ck ((26 : Int32) + v2) (ln E x22) (ck ((26 : Int32) + v13) (ln E x22) (bd (if (gi s19 x22 ((26 : Int32) + v2).toNatClampNeg) ≤ (gi s19 x22 ((26 : Int32) + v13).toNatClampNeg) then (some ((0 : Int32), s19)) else (some ((1 : Int32), s19))) (fun w25 s26 => bd (fX7_truth E w25 s26) (fun r29 s27 => lt (v12 + r29) (fun v30 => lt (v13 + (1 : Int32)) (fun v31 => rec v30 v31 s27)))))))))
def bX7_inversions_4 (E : En) (a0 : Nat) (rec : Int32 → Int32 → Sg → Option ((Int32 × Int32) × Sg)) (v1 : Int32) (v2 : Int32) (s3 : Sg) : Option ((Int32 × Int32) × Sg) := bd (fX7_many E a0 s3) (fun r10 s8 => if r10 ≤ v2 then (some ((v1, v2), s8)) else (lt (v2 + (1 : Int32)) (fun v11 => bd (fx (fun rec a => bX7_inversions_16 E a0 v2 (fun u0 u1 t => rec ((u0, u1), t)) a.1.1 a.1.2 a.2) FU ((v1, v11), s8)) (fun o32 s33 => lt (v2 + (1 : Int32)) (fun v34 => rec o32.1 v34 s33)))))
def fX7_inversions (E : En) (a0 : Nat) (σ : Sg) : Option (Int32 × Sg) := tk (cd E a0) 7 (bd (fx (fun rec a => bX7_inversions_4 E a0 (fun u0 u1 t => rec ((u0, u1), t)) a.1.1 a.1.2 a.2) FU (((0 : Int32), (0 : Int32)), σ)) (fun o35 s36 => some (o35.1, s36)))
def bX7_naturalRuns_18 (E : En) (a0 : Nat) (rec : Int32 → Int32 → Sg → Option ((Int32 × Int32) × Sg)) (v9 : Int32) (v10 : Int32) (s11 : Sg) : Option ((Int32 × Int32) × Sg) := bd (fX7_many E a0 s11) (fun r18 s16 => if r18 ≤ v10 then (some ((v9, v10), s16)) else (dr (rf E a0 0) E 100 (fun x19 => ck ((26 : Int32) + v10) (ln E x19) (ck (((26 : Int32) + v10) - (1 : Int32)) (ln E x19) (bd (if (gi s16 x19 (((26 : Int32) + v10) - (1 : Int32)).toNatClampNeg) ≤ (gi s16 x19 ((26 : Int32) + v10).toNatClampNeg) then (some ((0 : Int32), s16)) else (some ((1 : Int32), s16))) (fun w22 s23 => bd (fX7_truth E w22 s23) (fun r26 s24 => lt (v9 + r26) (fun v27 => lt (v10 + (1 : Int32)) (fun v28 => rec v27 v28 s24)))))))))
def fX7_naturalRuns (E : En) (a0 : Nat) (σ : Sg) : Option (Int32 × Sg) := tk (cd E a0) 7 (bd (fX7_many E a0 σ) (fun r3 s1 => bd (if r3 ≤ 0 then (some ((0 : Int32), s1)) else (some ((1 : Int32), s1))) (fun w4 s5 => bd (fX7_truth E w4 s5) (fun r8 s6 => bd (fx (fun rec a => bX7_naturalRuns_18 E a0 (fun u0 u1 t => rec ((u0, u1), t)) a.1.1 a.1.2 a.2) FU ((r8, (1 : Int32)), s6)) (fun o29 s30 => some (o29.1, s30))))))
def bX7_midst_14 (E : En) (a0 : Nat) (v1 : Int32) (rec : Int32 → Int32 → Sg → Option ((Int32 × Int32) × Sg)) (v10 : Int32) (v11 : Int32) (s12 : Sg) : Option ((Int32 × Int32) × Sg) := bd (fX7_many E a0 s12) (fun r19 s17 => if r19 ≤ v11 then (some ((v10, v11), s17)) else (bd (fX7_isLess E a0 v11 v1 s17) (fun r22 s20 => bd (fX7_truth E r22 s20) (fun r25 s23 => lt (v10 + r25) (fun v26 => lt (v11 + (1 : Int32)) (fun v27 => rec v26 v27 s23))))))
def bX7_midst_2 (E : En) (a0 : Nat) (rec : Int32 → Sg → Option (((Int32) ⊕ Int32) × Sg)) (v1 : Int32) (s2 : Sg) : Option (((Int32) ⊕ Int32) × Sg) := bd (fX7_many E a0 s2) (fun r9 s7 => if r9 ≤ v1 then (some (.inl v1, s7)) else (bd (fx (fun rec a => bX7_midst_14 E a0 v1 (fun u0 u1 t => rec ((u0, u1), t)) a.1.1 a.1.2 a.2) FU (((0 : Int32), (0 : Int32)), s7)) (fun o28 s29 => bd (fX7_many E a0 s29) (fun r32 s30 => if ¬ o28.1 = (r32 / (2 : Int32)) then (lt (v1 + (1 : Int32)) (fun v33 => rec v33 s30)) else (some (.inr v1, s30))))))
def fX7_midst (E : En) (a0 : Nat) (σ : Sg) : Option (Int32 × Sg) := tk (cd E a0) 7 (bd (fx (fun rec a => bX7_midst_2 E a0 (fun u0 t => rec (u0, t)) a.1 a.2) FU ((0 : Int32), σ)) (fun o34 s35 => sm o34 (fun vo34 => some ((-1 : Int32), s35)) (fun rr => some (rr, s35))))
def fX7_about (E : En) (a0 : Nat) (a1 : Int32) (σ : Sg) : Option (Int32 × Sg) := tk (cd E a0) 7 (if a1 = (0 : Int32) then (bd (fX7_inversions E a0 σ) (fun r4 s2 => some (r4, s2))) else (if a1 = (1 : Int32) then (bd (fX7_naturalRuns E a0 σ) (fun r8 s6 => some (r8, s6))) else (if a1 = (2 : Int32) then (bd (fX7_midst E a0 σ) (fun r12 s10 => some (r12, s10))) else ((some ((-1 : Int32), σ))))))
def bX7_laysWrites_87 (E : En) (a0 : Nat) (v29 : Int32) (r3 : Int32) (rec : Int32 → Sg → Option ((Int32) × Sg)) (v30 : Int32) (s31 : Sg) : Option ((Int32) × Sg) := if v30 ≤ 0 then (some (v30, s31)) else (dr (rf E a0 27) E 100 (fun x36 => ck (v30 - (1 : Int32)) (ln E x36) (bd (fX7_isLess E a0 v29 (gi s31 x36 (v30 - (1 : Int32)).toNatClampNeg) s31) (fun r40 s38 => if ¬ r40 = r3 then (some (v30, s38)) else (ck (v30 - (1 : Int32)) (ln E x36) (ck v30 (ln E x36) (ss (si s38 x36 v30.toNatClampNeg (gi s38 x36 (v30 - (1 : Int32)).toNatClampNeg)) (fun s43 => dr (rf E a0 28) E 100 (fun x44 => ck (v30 - (1 : Int32)) (ln E x44) (ck v30 (ln E x44) (ss (si s43 x44 v30.toNatClampNeg (gi s43 x44 (v30 - (1 : Int32)).toNatClampNeg)) (fun s47 => lt (v30 + (-1 : Int32)) (fun v48 => rec v48 s47)))))))))))))
def bX7_laysWrites_25 (E : En) (a0 : Nat) (v5 : Int32) (r3 : Int32) (rec : Int32 → Int32 → Sg → Option ((Int32 × Int32) × Sg)) (v14 : Int32) (v15 : Int32) (s16 : Sg) : Option ((Int32 × Int32) × Sg) := dr (rf E a0 16) E 100 (fun x21 => ck v5 (ln E x21) (if (gi s16 x21 v5.toNatClampNeg) = (-1 : Int32) then (some ((v14, v15), s16)) else (dr (rf E a0 0) E 100 (fun x23 => ck v5 (ln E x21) (ck ((1927 : Int32) + (gi s16 x21 v5.toNatClampNeg)) (ln E x23) (if (gi s16 x23 ((1927 : Int32) + (gi s16 x21 v5.toNatClampNeg)).toNatClampNeg) ≤ v15 then (some ((v14, v15), s16)) else (ck v5 (ln E x21) (ck ((1227 : Int32) + (gi s16 x21 v5.toNatClampNeg)) (ln E x23) (ck (((7527 : Int32) + (gi s16 x23 ((1227 : Int32) + (gi s16 x21 v5.toNatClampNeg)).toNatClampNeg)) + v15) (ln E x23) (lt (gi s16 x23 (((7527 : Int32) + (gi s16 x23 ((1227 : Int32) + (gi s16 x21 v5.toNatClampNeg)).toNatClampNeg)) + v15).toNatClampNeg) (fun v29 => bd (fx (fun rec a => bX7_laysWrites_87 E a0 v29 r3 (fun u0 t => rec (u0, t)) a.1 a.2) FU (v14, s16)) (fun o49 s50 => dr (rf E a0 27) E 100 (fun x51 => ck o49 (ln E x51) (ss (si s50 x51 o49.toNatClampNeg v29) (fun s53 => dr (rf E a0 28) E 100 (fun x54 => ck o49 (ln E x54) (ss (si s53 x54 o49.toNatClampNeg v5) (fun s56 => lt (v14 + (1 : Int32)) (fun v57 => lt (v15 + (1 : Int32)) (fun v58 => rec v57 v58 s56))))))))))))))))))))
def bX7_laysWrites_9 (E : En) (a0 : Nat) (r3 : Int32) (rec : Int32 → Int32 → Sg → Option ((Int32 × Int32) × Sg)) (v4 : Int32) (v5 : Int32) (s6 : Sg) : Option ((Int32 × Int32) × Sg) := if (6 : Int32) ≤ v5 then (some ((v4, v5), s6)) else (dr (rf E a0 29) E 100 (fun x11 => ck v5 (ln E x11) (ss (si s6 x11 v5.toNatClampNeg (0 : Int32)) (fun s13 => bd (fx (fun rec a => bX7_laysWrites_25 E a0 v5 r3 (fun u0 u1 t => rec ((u0, u1), t)) a.1.1 a.1.2 a.2) FU ((v4, (0 : Int32)), s13)) (fun o59 s60 => lt (v5 + (1 : Int32)) (fun v61 => rec o59.1 v61 s60))))))
def fX7_laysWrites (E : En) (a0 : Nat) (σ : Sg) : Option (Int32 × Sg) := tk (cd E a0) 7 (bd (fX7_laysTaken E a0 σ) (fun r3 s1 => bd (fx (fun rec a => bX7_laysWrites_9 E a0 r3 (fun u0 u1 t => rec ((u0, u1), t)) a.1.1 a.1.2 a.2) FU (((0 : Int32), (0 : Int32)), s1)) (fun o62 s63 => some (o62.1, s63))))
def bX7_forecast_39 (E : En) (r8 : Int32) (a0 : Nat) (a1 : Int32) (x4 : Nat) (a2 : Int32) (rec : Int32 → Int32 → Sg → Option (((Int32 × Int32) ⊕ Int32) × Sg)) (v9 : Int32) (v10 : Int32) (s11 : Sg) : Option (((Int32 × Int32) ⊕ Int32) × Sg) := if r8 ≤ v10 then (some (.inl (v9, v10), s11)) else (dr (rf E a0 28) E 100 (fun x16 => ck v10 (ln E x16) (lt (gi s11 x16 v10.toNatClampNeg) (fun v18 => dr (rf E a0 29) E 100 (fun x19 => ck v18 (ln E x19) (ck v18 (ln E x19) (ss (si s11 x19 v18.toNatClampNeg ((gi s11 x19 v18.toNatClampNeg) + (1 : Int32))) (fun s22 => ck v18 (ln E x19) (nz a1 (if ¬ (im (gi s22 x19 v18.toNatClampNeg) a1) = 0 then (lt (v10 + (1 : Int32)) (fun v25 => rec v9 v25 s22)) else (ck v18 (ln E x19) (dr (rf E a0 16) E 100 (fun x27 => ck v18 (ln E x27) (ck ((1927 : Int32) + (gi s22 x27 v18.toNatClampNeg)) (ln E x4) (if (gi s22 x4 ((1927 : Int32) + (gi s22 x27 v18.toNatClampNeg)).toNatClampNeg) ≤ (gi s22 x19 v18.toNatClampNeg) then (lt (v10 + (1 : Int32)) (fun v30 => rec v9 v30 s22)) else (if ¬ v9 = a2 then (lt (v9 + (1 : Int32)) (fun v31 => lt (v10 + (1 : Int32)) (fun v32 => rec v31 v32 s22))) else (some (.inr v18, s22))))))))))))))))))
def fX7_forecast (E : En) (a0 : Nat) (a1 : Int32) (a2 : Int32) (σ : Sg) : Option (Int32 × Sg) := tk (cd E a0) 7 (bd (fX7_in E a1 (1 : Int32) (16 : Int32) σ) (fun r3 s1 => if r3 = 0 then (some ((-1 : Int32), s1)) else (if a2 < (-1 : Int32) then (some ((-1 : Int32), s1)) else (dr (rf E a0 0) E 100 (fun x4 => ck (7 : Int32) (ln E x4) (if (gi s1 x4 (7 : Int32).toNatClampNeg) = (2 : Int32) then (bd (fX7_laysWrites E a0 s1) (fun r8 s6 => bd (fx (fun rec a => bX7_forecast_39 E r8 a0 a1 x4 a2 (fun u0 u1 t => rec ((u0, u1), t)) a.1.1 a.1.2 a.2) FU (((0 : Int32), (0 : Int32)), s6)) (fun o33 s34 => sm o33 (fun vo33 => bd (if ¬ a2 = (-1 : Int32) then (some ((-2 : Int32), s34)) else (some (vo33.1, s34))) (fun w35 s36 => some (w35, s36))) (fun rr => some (rr, s34))))) else (some ((-1 : Int32), s1))))))))
def bX7_needs_48 (E : En) (a0 : Nat) (x16 : Nat) (a1 : Int32) (rec : Int32 → Int32 → Sg → Option ((Int32 × Int32) × Sg)) (v21 : Int32) (v22 : Int32) (s23 : Sg) : Option ((Int32 × Int32) × Sg) := if (6 : Int32) ≤ v22 then (some ((v21, v22), s23)) else (dr (rf E a0 16) E 100 (fun x28 => ck v22 (ln E x28) (bd (if ¬ (gi s23 x28 v22.toNatClampNeg) = (-1 : Int32) then (ck v22 (ln E x28) (ck ((1927 : Int32) + (gi s23 x28 v22.toNatClampNeg)) (ln E x16) (nz a1 (some (((((gi s23 x16 ((1927 : Int32) + (gi s23 x28 v22.toNatClampNeg)).toNatClampNeg) + a1) - (1 : Int32)) / a1), s23))))) else (some ((0 : Int32), s23))) (fun w30 s31 => lt (v21 + w30) (fun v35 => lt (v22 + (1 : Int32)) (fun v36 => rec v35 v36 s31))))))
def bX7_needs_30 (E : En) (a0 : Nat) (a1 : Int32) (rec : Int32 → Sg → Option ((Int32) × Sg)) (v10 : Int32) (s11 : Sg) : Option ((Int32) × Sg) := dr (rf E a0 0) E 100 (fun x16 => ck (7 : Int32) (ln E x16) (if ¬ (gi s11 x16 (7 : Int32).toNatClampNeg) = (2 : Int32) then (some (v10, s11)) else (bd (fX7_laysTaken E a0 s11) (fun r20 s18 => bd (fx (fun rec a => bX7_needs_48 E a0 x16 a1 (fun u0 u1 t => rec ((u0, u1), t)) a.1.1 a.1.2 a.2) FU ((v10, (0 : Int32)), s18)) (fun o37 s38 => bd (fX7_steps E a0 s38) (fun r41 s39 => rec o37.1 s39))))))
def fX7_needs (E : En) (a0 : Nat) (a1 : Int32) (σ : Sg) : Option (Int32 × Sg) := tk (cd E a0) 7 (bd (fX7_in E a1 (1 : Int32) (16 : Int32) σ) (fun r3 s1 => if r3 = 0 then (some ((-1 : Int32), s1)) else (bd (fX7_isSpread E a0 s1) (fun r6 s4 => if ¬ r6 = 0 then (dr (rf E a0 1) E 100 (fun x7 => bv (fX7_keepsIn E a0 x7 (0 : Int32) s4) (fun s8 => bd (fx (fun rec a => bX7_needs_30 E a0 a1 (fun u0 t => rec (u0, t)) a.1 a.2) FU ((0 : Int32), s8)) (fun o42 s43 => bv (fX7_laysFrom E a0 x7 (0 : Int32) s43) (fun s44 => some (o42, s44)))))) else (some ((-1 : Int32), s4))))))
def fX7_keep (E : En) (a0 : Nat) (a1 : Int32) (σ : Sg) : Option (Int32 × Sg) := tk (cd E a0) 7 (bd (fX7_in E a1 (0 : Int32) (1 : Int32) σ) (fun r3 s1 => if ¬ r3 = 0 then (dr (rf E a0 3) E 100 (fun x4 => bv (fX7_keepsIn E a0 x4 ((7827 : Int32) * a1) s1) (fun s5 => ss (si s5 a0 5 ((gi s5 a0 5) ||| ((1 : Int32) <<< (a1 &&& 31)))) (fun s7 => bd (fX7_many E a0 s7) (fun r10 s8 => some (r10, s8)))))) else (some ((-1 : Int32), s1))))
def fX7_back (E : En) (a0 : Nat) (a1 : Int32) (σ : Sg) : Option (Int32 × Sg) := tk (cd E a0) 7 (bd (fX7_in E a1 (0 : Int32) (1 : Int32) σ) (fun r3 s1 => if ¬ r3 = 0 then (if ¬ (((gi s1 a0 5) >>> (a1 &&& 31)) &&& (1 : Int32)) = 0 then (dr (rf E a0 0) E 100 (fun x4 => ck (8 : Int32) (ln E x4) (lt (gi s1 x4 (8 : Int32).toNatClampNeg) (fun v6 => dr (rf E a0 3) E 100 (fun x7 => bv (fX7_laysFrom E a0 x7 ((7827 : Int32) * a1) s1) (fun s8 => ck (8 : Int32) (ln E x4) (ss (si s8 x4 (8 : Int32).toNatClampNeg v6) (fun s11 => ss (si s11 a0 4 (0 : Int32)) (fun s12 => bd (fX7_many E a0 s12) (fun r15 s13 => some (r15, s13))))))))))) else (some ((-2 : Int32), s1))) else (some ((-1 : Int32), s1))))
def fX7_count (E : En) (a0 : Nat) (a1 : Int32) (σ : Sg) : Option (Int32 × Sg) := tk (cd E a0) 7 (if a1 = (0 : Int32) then (bd (fX7_many E a0 σ) (fun r4 s2 => some (r4, s2))) else (if a1 = (1 : Int32) then (dr (rf E a0 0) E 100 (fun x6 => ck (7 : Int32) (ln E x6) (bd (if (gi σ x6 (7 : Int32).toNatClampNeg) ≤ 0 then (some ((0 : Int32), σ)) else (ck (14 : Int32) (ln E x6) (some ((gi σ x6 (14 : Int32).toNatClampNeg), σ)))) (fun w8 s9 => some (w8, s9))))) else (if a1 = (2 : Int32) then (dr (rf E a0 0) E 100 (fun x12 => ck (((1 : Int32) + a1) - (2 : Int32)) (ln E x12) (some ((gi σ x12 (((1 : Int32) + a1) - (2 : Int32)).toNatClampNeg), σ)))) else (if a1 = (3 : Int32) then (dr (rf E a0 0) E 100 (fun x15 => ck (((1 : Int32) + a1) - (2 : Int32)) (ln E x15) (some ((gi σ x15 (((1 : Int32) + a1) - (2 : Int32)).toNatClampNeg), σ)))) else (if a1 = (4 : Int32) then (dr (rf E a0 0) E 100 (fun x18 => ck (((1 : Int32) + a1) - (2 : Int32)) (ln E x18) (some ((gi σ x18 (((1 : Int32) + a1) - (2 : Int32)).toNatClampNeg), σ)))) else (if a1 = (5 : Int32) then (dr (rf E a0 0) E 100 (fun x21 => ck (((1 : Int32) + a1) - (2 : Int32)) (ln E x21) (some ((gi σ x21 (((1 : Int32) + a1) - (2 : Int32)).toNatClampNeg), σ)))) else (if a1 = (6 : Int32) then (dr (rf E a0 0) E 100 (fun x24 => ck (((1 : Int32) + a1) - (2 : Int32)) (ln E x24) (some ((gi σ x24 (((1 : Int32) + a1) - (2 : Int32)).toNatClampNeg), σ)))) else (if a1 = (7 : Int32) then (dr (rf E a0 0) E 100 (fun x27 => ck (7 : Int32) (ln E x27) (some ((gi σ x27 (7 : Int32).toNatClampNeg), σ)))) else (if a1 = (8 : Int32) then (bd (fX7_isSpread E a0 σ) (fun r32 s30 => bd (if r32 = 0 then (some ((0 : Int32), s30)) else (dr (rf E a0 0) E 100 (fun x35 => ck (((9 : Int32) + a1) - (8 : Int32)) (ln E x35) (some ((gi s30 x35 (((9 : Int32) + a1) - (8 : Int32)).toNatClampNeg), s30))))) (fun w33 s34 => some (w33, s34)))) else (if a1 = (9 : Int32) then (bd (fX7_isSpread E a0 σ) (fun r40 s38 => bd (if r40 = 0 then (some ((0 : Int32), s38)) else (dr (rf E a0 0) E 100 (fun x43 => ck (((9 : Int32) + a1) - (8 : Int32)) (ln E x43) (some ((gi s38 x43 (((9 : Int32) + a1) - (8 : Int32)).toNatClampNeg), s38))))) (fun w41 s42 => some (w41, s42)))) else (if a1 = (10 : Int32) then (bd (fX7_isSpread E a0 σ) (fun r48 s46 => bd (if r48 = 0 then (some ((0 : Int32), s46)) else (dr (rf E a0 0) E 100 (fun x51 => ck (((9 : Int32) + a1) - (8 : Int32)) (ln E x51) (some ((gi s46 x51 (((9 : Int32) + a1) - (8 : Int32)).toNatClampNeg), s46))))) (fun w49 s50 => some (w49, s50)))) else (if a1 = (11 : Int32) then (bd (fX7_isSpread E a0 σ) (fun r56 s54 => bd (if r56 = 0 then (some ((0 : Int32), s54)) else (dr (rf E a0 0) E 100 (fun x59 => ck (((9 : Int32) + a1) - (8 : Int32)) (ln E x59) (some ((gi s54 x59 (((9 : Int32) + a1) - (8 : Int32)).toNatClampNeg), s54))))) (fun w57 s58 => some (w57, s58)))) else (if a1 = (12 : Int32) then (some ((gi σ a0 4), σ)) else (if a1 = (13 : Int32) then (dr (rf E a0 0) E 100 (fun x63 => ck (8 : Int32) (ln E x63) (some ((gi σ x63 (8 : Int32).toNatClampNeg), σ)))) else (if a1 = (14 : Int32) then (some ((gi σ a0 7), σ)) else (if a1 = (15 : Int32) then (dr (rf E a0 0) E 100 (fun x67 => ck (6 : Int32) (ln E x67) (some ((gi σ x67 (6 : Int32).toNatClampNeg), σ)))) else ((some ((-1 : Int32), σ)))))))))))))))))))
def bL_law_18 (L : Nat) (xs : Nat → Int32) (E : En) (a1 : Nat) (a2 : Nat) (rec : Int32 → Sg → Option (((Int32) ⊕ Int32) × Sg)) (v1 : Int32) (s2 : Sg) : Option (((Int32) ⊕ Int32) × Sg) := if ((nI L) - (6 : Int32)) < v1 then (some (.inl v1, s2)) else (ck v1 L (if ((xs v1.toNatClampNeg) &&& (63 : Int32)) = (0 : Int32) then (ck (v1 + (1 : Int32)) L (ck (v1 + (2 : Int32)) L (ck (v1 + (3 : Int32)) L (ck (v1 + (4 : Int32)) L (ck (v1 + (5 : Int32)) L (bd (fX6_feed E a1 (xs (v1 + (1 : Int32)).toNatClampNeg) (xs (v1 + (2 : Int32)).toNatClampNeg) (xs (v1 + (3 : Int32)).toNatClampNeg) (xs (v1 + (4 : Int32)).toNatClampNeg) (xs (v1 + (5 : Int32)).toNatClampNeg) s2) (fun r16 s14 => ck (v1 + (1 : Int32)) L (ck (v1 + (2 : Int32)) L (ck (v1 + (3 : Int32)) L (ck (v1 + (4 : Int32)) L (ck (v1 + (5 : Int32)) L (bd (fX7_feed E a2 (xs (v1 + (1 : Int32)).toNatClampNeg) (xs (v1 + (2 : Int32)).toNatClampNeg) (xs (v1 + (3 : Int32)).toNatClampNeg) (xs (v1 + (4 : Int32)).toNatClampNeg) (xs (v1 + (5 : Int32)).toNatClampNeg) s14) (fun r24 s22 => if r16 = r24 then (lt (v1 + (6 : Int32)) (fun v25 => rec v25 s22)) else (some (.inr (0 : Int32), s22))))))))))))))) else (if ((xs v1.toNatClampNeg) &&& (63 : Int32)) = (1 : Int32) then (ck (v1 + (1 : Int32)) L (bd (fX6_end E a1 (xs (v1 + (1 : Int32)).toNatClampNeg) s2) (fun r30 s28 => ck (v1 + (1 : Int32)) L (bd (fX7_end E a2 (xs (v1 + (1 : Int32)).toNatClampNeg) s28) (fun r34 s32 => if r30 = r34 then (lt (v1 + (6 : Int32)) (fun v35 => rec v35 s32)) else (some (.inr (0 : Int32), s32))))))) else (if ((xs v1.toNatClampNeg) &&& (63 : Int32)) = (2 : Int32) then (bd (fX6_tell E a1 s2) (fun r39 s37 => bd (fX7_tell E a2 s37) (fun r42 s40 => if r39 = r42 then (lt (v1 + (6 : Int32)) (fun v43 => rec v43 s40)) else (some (.inr (0 : Int32), s40))))) else (if ((xs v1.toNatClampNeg) &&& (63 : Int32)) = (3 : Int32) then (ck (v1 + (1 : Int32)) L (ck (v1 + (2 : Int32)) L (bd (fX6_drawn E a1 (xs (v1 + (1 : Int32)).toNatClampNeg) (xs (v1 + (2 : Int32)).toNatClampNeg) s2) (fun r49 s47 => ck (v1 + (1 : Int32)) L (ck (v1 + (2 : Int32)) L (bd (fX7_drawn E a2 (xs (v1 + (1 : Int32)).toNatClampNeg) (xs (v1 + (2 : Int32)).toNatClampNeg) s47) (fun r54 s52 => if r49 = r54 then (lt (v1 + (6 : Int32)) (fun v55 => rec v55 s52)) else (some (.inr (0 : Int32), s52))))))))) else (if ((xs v1.toNatClampNeg) &&& (63 : Int32)) = (4 : Int32) then (ck (v1 + (1 : Int32)) L (bd (fX6_draws E a1 (xs (v1 + (1 : Int32)).toNatClampNeg) s2) (fun r60 s58 => ck (v1 + (1 : Int32)) L (bd (fX7_draws E a2 (xs (v1 + (1 : Int32)).toNatClampNeg) s58) (fun r64 s62 => if r60 = r64 then (lt (v1 + (6 : Int32)) (fun v65 => rec v65 s62)) else (some (.inr (0 : Int32), s62))))))) else (if ((xs v1.toNatClampNeg) &&& (63 : Int32)) = (5 : Int32) then (bd (fX6_clear E a1 s2) (fun r69 s67 => bd (fX7_clear E a2 s67) (fun r72 s70 => if r69 = r72 then (lt (v1 + (6 : Int32)) (fun v73 => rec v73 s70)) else (some (.inr (0 : Int32), s70))))) else (if ((xs v1.toNatClampNeg) &&& (63 : Int32)) = (6 : Int32) then (ck (v1 + (1 : Int32)) L (ck (v1 + (2 : Int32)) L (bd (fX6_settle E a1 (xs (v1 + (1 : Int32)).toNatClampNeg) (xs (v1 + (2 : Int32)).toNatClampNeg) s2) (fun r79 s77 => ck (v1 + (1 : Int32)) L (ck (v1 + (2 : Int32)) L (bd (fX7_settle E a2 (xs (v1 + (1 : Int32)).toNatClampNeg) (xs (v1 + (2 : Int32)).toNatClampNeg) s77) (fun r84 s82 => if r79 = r84 then (lt (v1 + (6 : Int32)) (fun v85 => rec v85 s82)) else (some (.inr (0 : Int32), s82))))))))) else (if ((xs v1.toNatClampNeg) &&& (63 : Int32)) = (7 : Int32) then (bd (fX6_grow E a1 s2) (fun r89 s87 => bd (fX7_grow E a2 s87) (fun r92 s90 => if r89 = r92 then (lt (v1 + (6 : Int32)) (fun v93 => rec v93 s90)) else (some (.inr (0 : Int32), s90))))) else (if ((xs v1.toNatClampNeg) &&& (63 : Int32)) = (8 : Int32) then (bd (fX6_spread E a1 s2) (fun r97 s95 => bd (fX7_spread E a2 s95) (fun r100 s98 => if r97 = r100 then (lt (v1 + (6 : Int32)) (fun v101 => rec v101 s98)) else (some (.inr (0 : Int32), s98))))) else (if ((xs v1.toNatClampNeg) &&& (63 : Int32)) = (9 : Int32) then (bd (fX6_step E a1 s2) (fun r105 s103 => bd (fX7_step E a2 s103) (fun r108 s106 => if r105 = r108 then (lt (v1 + (6 : Int32)) (fun v109 => rec v109 s106)) else (some (.inr (0 : Int32), s106))))) else (if ((xs v1.toNatClampNeg) &&& (63 : Int32)) = (10 : Int32) then (bd (fX6_phase E a1 s2) (fun r113 s111 => bd (fX7_phase E a2 s111) (fun r116 s114 => if r113 = r116 then (lt (v1 + (6 : Int32)) (fun v117 => rec v117 s114)) else (some (.inr (0 : Int32), s114))))) else (if ((xs v1.toNatClampNeg) &&& (63 : Int32)) = (11 : Int32) then (bd (fX6_all E a1 s2) (fun r121 s119 => bd (fX7_all E a2 s119) (fun r124 s122 => if r121 = r124 then (lt (v1 + (6 : Int32)) (fun v125 => rec v125 s122)) else (some (.inr (0 : Int32), s122))))) else (if ((xs v1.toNatClampNeg) &&& (63 : Int32)) = (12 : Int32) then (ck (v1 + (1 : Int32)) L (ck (v1 + (2 : Int32)) L (bd (fX6_record E a1 (xs (v1 + (1 : Int32)).toNatClampNeg) (xs (v1 + (2 : Int32)).toNatClampNeg) s2) (fun r131 s129 => ck (v1 + (1 : Int32)) L (ck (v1 + (2 : Int32)) L (bd (fX7_record E a2 (xs (v1 + (1 : Int32)).toNatClampNeg) (xs (v1 + (2 : Int32)).toNatClampNeg) s129) (fun r136 s134 => if r131 = r136 then (lt (v1 + (6 : Int32)) (fun v137 => rec v137 s134)) else (some (.inr (0 : Int32), s134))))))))) else (if ((xs v1.toNatClampNeg) &&& (63 : Int32)) = (13 : Int32) then (ck (v1 + (1 : Int32)) L (ck (v1 + (2 : Int32)) L (bd (fX6_run E a1 (xs (v1 + (1 : Int32)).toNatClampNeg) (xs (v1 + (2 : Int32)).toNatClampNeg) s2) (fun r143 s141 => ck (v1 + (1 : Int32)) L (ck (v1 + (2 : Int32)) L (bd (fX7_run E a2 (xs (v1 + (1 : Int32)).toNatClampNeg) (xs (v1 + (2 : Int32)).toNatClampNeg) s141) (fun r148 s146 => if r143 = r148 then (lt (v1 + (6 : Int32)) (fun v149 => rec v149 s146)) else (some (.inr (0 : Int32), s146))))))))) else (if ((xs v1.toNatClampNeg) &&& (63 : Int32)) = (14 : Int32) then (ck (v1 + (1 : Int32)) L (ck (v1 + (2 : Int32)) L (bd (fX6_tape E a1 (xs (v1 + (1 : Int32)).toNatClampNeg) (xs (v1 + (2 : Int32)).toNatClampNeg) s2) (fun r155 s153 => ck (v1 + (1 : Int32)) L (ck (v1 + (2 : Int32)) L (bd (fX7_tape E a2 (xs (v1 + (1 : Int32)).toNatClampNeg) (xs (v1 + (2 : Int32)).toNatClampNeg) s153) (fun r160 s158 => if r155 = r160 then (lt (v1 + (6 : Int32)) (fun v161 => rec v161 s158)) else (some (.inr (0 : Int32), s158))))))))) else (if ((xs v1.toNatClampNeg) &&& (63 : Int32)) = (15 : Int32) then (ck (v1 + (1 : Int32)) L (ck (v1 + (2 : Int32)) L (ck (v1 + (3 : Int32)) L (bd (fX6_on E a1 (xs (v1 + (1 : Int32)).toNatClampNeg) (xs (v1 + (2 : Int32)).toNatClampNeg) (xs (v1 + (3 : Int32)).toNatClampNeg) s2) (fun r168 s166 => ck (v1 + (1 : Int32)) L (ck (v1 + (2 : Int32)) L (ck (v1 + (3 : Int32)) L (bd (fX7_on E a2 (xs (v1 + (1 : Int32)).toNatClampNeg) (xs (v1 + (2 : Int32)).toNatClampNeg) (xs (v1 + (3 : Int32)).toNatClampNeg) s166) (fun r174 s172 => if r168 = r174 then (lt (v1 + (6 : Int32)) (fun v175 => rec v175 s172)) else (some (.inr (0 : Int32), s172))))))))))) else (if ((xs v1.toNatClampNeg) &&& (63 : Int32)) = (16 : Int32) then (ck (v1 + (1 : Int32)) L (bd (fX6_sorted E a1 (xs (v1 + (1 : Int32)).toNatClampNeg) s2) (fun r180 s178 => ck (v1 + (1 : Int32)) L (bd (fX7_sorted E a2 (xs (v1 + (1 : Int32)).toNatClampNeg) s178) (fun r184 s182 => if r180 = r184 then (lt (v1 + (6 : Int32)) (fun v185 => rec v185 s182)) else (some (.inr (0 : Int32), s182))))))) else (if ((xs v1.toNatClampNeg) &&& (63 : Int32)) = (17 : Int32) then (ck (v1 + (1 : Int32)) L (ck (v1 + (2 : Int32)) L (bd (fX6_perfect E a1 (xs (v1 + (1 : Int32)).toNatClampNeg) (xs (v1 + (2 : Int32)).toNatClampNeg) s2) (fun r191 s189 => ck (v1 + (1 : Int32)) L (ck (v1 + (2 : Int32)) L (bd (fX7_perfect E a2 (xs (v1 + (1 : Int32)).toNatClampNeg) (xs (v1 + (2 : Int32)).toNatClampNeg) s189) (fun r196 s194 => if r191 = r196 then (lt (v1 + (6 : Int32)) (fun v197 => rec v197 s194)) else (some (.inr (0 : Int32), s194))))))))) else (if ((xs v1.toNatClampNeg) &&& (63 : Int32)) = (18 : Int32) then (ck (v1 + (1 : Int32)) L (bd (fX6_plan E a1 (xs (v1 + (1 : Int32)).toNatClampNeg) s2) (fun r202 s200 => ck (v1 + (1 : Int32)) L (bd (fX7_plan E a2 (xs (v1 + (1 : Int32)).toNatClampNeg) s200) (fun r206 s204 => if r202 = r206 then (lt (v1 + (6 : Int32)) (fun v207 => rec v207 s204)) else (some (.inr (0 : Int32), s204))))))) else (if ((xs v1.toNatClampNeg) &&& (63 : Int32)) = (19 : Int32) then (ck (v1 + (1 : Int32)) L (ck (v1 + (2 : Int32)) L (ck (v1 + (3 : Int32)) L (bd (fX6_planned E a1 (xs (v1 + (1 : Int32)).toNatClampNeg) (xs (v1 + (2 : Int32)).toNatClampNeg) (xs (v1 + (3 : Int32)).toNatClampNeg) s2) (fun r214 s212 => ck (v1 + (1 : Int32)) L (ck (v1 + (2 : Int32)) L (ck (v1 + (3 : Int32)) L (bd (fX7_planned E a2 (xs (v1 + (1 : Int32)).toNatClampNeg) (xs (v1 + (2 : Int32)).toNatClampNeg) (xs (v1 + (3 : Int32)).toNatClampNeg) s212) (fun r220 s218 => if r214 = r220 then (lt (v1 + (6 : Int32)) (fun v221 => rec v221 s218)) else (some (.inr (0 : Int32), s218))))))))))) else (if ((xs v1.toNatClampNeg) &&& (63 : Int32)) = (20 : Int32) then (ck (v1 + (1 : Int32)) L (bd (fX6_least E a1 (xs (v1 + (1 : Int32)).toNatClampNeg) s2) (fun r226 s224 => ck (v1 + (1 : Int32)) L (bd (fX7_least E a2 (xs (v1 + (1 : Int32)).toNatClampNeg) s224) (fun r230 s228 => if r226 = r230 then (lt (v1 + (6 : Int32)) (fun v231 => rec v231 s228)) else (some (.inr (0 : Int32), s228))))))) else (if ((xs v1.toNatClampNeg) &&& (63 : Int32)) = (21 : Int32) then (ck (v1 + (1 : Int32)) L (bd (fX6_depth E a1 (xs (v1 + (1 : Int32)).toNatClampNeg) s2) (fun r236 s234 => ck (v1 + (1 : Int32)) L (bd (fX7_depth E a2 (xs (v1 + (1 : Int32)).toNatClampNeg) s234) (fun r240 s238 => if r236 = r240 then (lt (v1 + (6 : Int32)) (fun v241 => rec v241 s238)) else (some (.inr (0 : Int32), s238))))))) else (if ((xs v1.toNatClampNeg) &&& (63 : Int32)) = (22 : Int32) then (ck (v1 + (1 : Int32)) L (bd (fX6_units E a1 (xs (v1 + (1 : Int32)).toNatClampNeg) s2) (fun r246 s244 => ck (v1 + (1 : Int32)) L (bd (fX7_units E a2 (xs (v1 + (1 : Int32)).toNatClampNeg) s244) (fun r250 s248 => if r246 = r250 then (lt (v1 + (6 : Int32)) (fun v251 => rec v251 s248)) else (some (.inr (0 : Int32), s248))))))) else (if ((xs v1.toNatClampNeg) &&& (63 : Int32)) = (23 : Int32) then (bd (fX6_stands E a1 s2) (fun r255 s253 => bd (fX7_stands E a2 s253) (fun r258 s256 => if r255 = r258 then (lt (v1 + (6 : Int32)) (fun v259 => rec v259 s256)) else (some (.inr (0 : Int32), s256))))) else (if ((xs v1.toNatClampNeg) &&& (63 : Int32)) = (24 : Int32) then (ck (v1 + (1 : Int32)) L (ck (v1 + (2 : Int32)) L (bd (fX6_key E a1 (xs (v1 + (1 : Int32)).toNatClampNeg) (xs (v1 + (2 : Int32)).toNatClampNeg) s2) (fun r265 s263 => ck (v1 + (1 : Int32)) L (ck (v1 + (2 : Int32)) L (bd (fX7_key E a2 (xs (v1 + (1 : Int32)).toNatClampNeg) (xs (v1 + (2 : Int32)).toNatClampNeg) s263) (fun r270 s268 => if r265 = r270 then (lt (v1 + (6 : Int32)) (fun v271 => rec v271 s268)) else (some (.inr (0 : Int32), s268))))))))) else (if ((xs v1.toNatClampNeg) &&& (63 : Int32)) = (25 : Int32) then (ck (v1 + (1 : Int32)) L (bd (fX6_keys E a1 (xs (v1 + (1 : Int32)).toNatClampNeg) s2) (fun r276 s274 => ck (v1 + (1 : Int32)) L (bd (fX7_keys E a2 (xs (v1 + (1 : Int32)).toNatClampNeg) s274) (fun r280 s278 => if r276 = r280 then (lt (v1 + (6 : Int32)) (fun v281 => rec v281 s278)) else (some (.inr (0 : Int32), s278))))))) else (if ((xs v1.toNatClampNeg) &&& (63 : Int32)) = (26 : Int32) then (ck (v1 + (1 : Int32)) L (bd (fX6_about E a1 (xs (v1 + (1 : Int32)).toNatClampNeg) s2) (fun r286 s284 => ck (v1 + (1 : Int32)) L (bd (fX7_about E a2 (xs (v1 + (1 : Int32)).toNatClampNeg) s284) (fun r290 s288 => if r286 = r290 then (lt (v1 + (6 : Int32)) (fun v291 => rec v291 s288)) else (some (.inr (0 : Int32), s288))))))) else (if ((xs v1.toNatClampNeg) &&& (63 : Int32)) = (27 : Int32) then (ck (v1 + (1 : Int32)) L (ck (v1 + (2 : Int32)) L (bd (fX6_forecast E a1 (xs (v1 + (1 : Int32)).toNatClampNeg) (xs (v1 + (2 : Int32)).toNatClampNeg) s2) (fun r297 s295 => ck (v1 + (1 : Int32)) L (ck (v1 + (2 : Int32)) L (bd (fX7_forecast E a2 (xs (v1 + (1 : Int32)).toNatClampNeg) (xs (v1 + (2 : Int32)).toNatClampNeg) s295) (fun r302 s300 => if r297 = r302 then (lt (v1 + (6 : Int32)) (fun v303 => rec v303 s300)) else (some (.inr (0 : Int32), s300))))))))) else (if ((xs v1.toNatClampNeg) &&& (63 : Int32)) = (28 : Int32) then (ck (v1 + (1 : Int32)) L (bd (fX6_needs E a1 (xs (v1 + (1 : Int32)).toNatClampNeg) s2) (fun r308 s306 => ck (v1 + (1 : Int32)) L (bd (fX7_needs E a2 (xs (v1 + (1 : Int32)).toNatClampNeg) s306) (fun r312 s310 => if r308 = r312 then (lt (v1 + (6 : Int32)) (fun v313 => rec v313 s310)) else (some (.inr (0 : Int32), s310))))))) else (if ((xs v1.toNatClampNeg) &&& (63 : Int32)) = (29 : Int32) then (bd (fX6_undo E a1 s2) (fun r317 s315 => bd (fX7_undo E a2 s315) (fun r320 s318 => if r317 = r320 then (lt (v1 + (6 : Int32)) (fun v321 => rec v321 s318)) else (some (.inr (0 : Int32), s318))))) else (if ((xs v1.toNatClampNeg) &&& (63 : Int32)) = (30 : Int32) then (ck (v1 + (1 : Int32)) L (bd (fX6_keep E a1 (xs (v1 + (1 : Int32)).toNatClampNeg) s2) (fun r326 s324 => ck (v1 + (1 : Int32)) L (bd (fX7_keep E a2 (xs (v1 + (1 : Int32)).toNatClampNeg) s324) (fun r330 s328 => if r326 = r330 then (lt (v1 + (6 : Int32)) (fun v331 => rec v331 s328)) else (some (.inr (0 : Int32), s328))))))) else (if ((xs v1.toNatClampNeg) &&& (63 : Int32)) = (31 : Int32) then (ck (v1 + (1 : Int32)) L (bd (fX6_back E a1 (xs (v1 + (1 : Int32)).toNatClampNeg) s2) (fun r336 s334 => ck (v1 + (1 : Int32)) L (bd (fX7_back E a2 (xs (v1 + (1 : Int32)).toNatClampNeg) s334) (fun r340 s338 => if r336 = r340 then (lt (v1 + (6 : Int32)) (fun v341 => rec v341 s338)) else (some (.inr (0 : Int32), s338))))))) else (if ((xs v1.toNatClampNeg) &&& (63 : Int32)) = (32 : Int32) then (ck (v1 + (1 : Int32)) L (bd (fX6_count E a1 (xs (v1 + (1 : Int32)).toNatClampNeg) s2) (fun r346 s344 => ck (v1 + (1 : Int32)) L (bd (fX7_count E a2 (xs (v1 + (1 : Int32)).toNatClampNeg) s344) (fun r350 s348 => if r346 = r350 then (lt (v1 + (6 : Int32)) (fun v351 => rec v351 s348)) else (some (.inr (0 : Int32), s348))))))) else ((lt (v1 + (6 : Int32)) (fun v352 => rec v352 s2)))))))))))))))))))))))))))))))))))))
def fL_law (L : Nat) (xs : Nat → Int32) (E : En) (a1 a2 : Nat) (σ : Sg) : Option (Int32 × Sg) := tk (cd E a1) 6 (tk (cd E a2) 7 (bd (fx (fun rec a => bL_law_18 L xs E a1 a2 (fun u0 t => rec (u0, t)) a.1 a.2) FU ((0 : Int32), σ)) (fun o353 s354 => sm o353 (fun vo353 => some ((1 : Int32), s354)) (fun rr => some (rr, s354)))))
def gX3_init (E : En) (a0 : Nat) (σ : Sg) : Option (En × Sg) := nwc E σ 100 300 (fun e1 s2 => tk (cd e1 a0) 3 (src e1 a0 0 (E.1) (fun e4 => nwc e4 s2 100 300 (fun e5 s6 => tk (cd e5 a0) 3 (src e5 a0 1 (e4.1) (fun e8 => some (e8, s6)))))))
def gX0_init (E : En) (a0 : Nat) (σ : Sg) : Option (En × Sg) := nwc E σ 100 300 (fun e1 s2 => tk (cd e1 a0) 0 (src e1 a0 0 (E.1) (fun e4 => nwc e4 s2 100 300 (fun e5 s6 => tk (cd e5 a0) 0 (src e5 a0 1 (e4.1) (fun e8 => nwc e8 s6 100 16 (fun e9 s10 => tk (cd e9 a0) 0 (src e9 a0 4 (e8.1) (fun e12 => some (e12, s10))))))))))
def gX2_init (E : En) (a0 : Nat) (σ : Sg) : Option (En × Sg) := nwc E σ 100 5 (fun e1 s2 => tk (cd e1 a0) 2 (src e1 a0 0 (E.1) (fun e4 => some (e4, s2))))
def gX5_init (E : En) (a0 : Nat) (σ : Sg) : Option (En × Sg) := nwc E σ 100 256 (fun e1 s2 => tk (cd e1 a0) 5 (src e1 a0 0 (E.1) (fun e4 => some (e4, s2))))
def gX1_init_300 (E : En) (a0 : Nat) (σ : Sg) : Option (En × Sg) := tk (cd E a0) 1 (ss (si σ a0 2 (1 : Int32)) (fun s2 => nwc E s2 104 6 (fun e3 s4 => tk (cd e3 a0) 1 (src e3 a0 4 (E.1) (fun e6 => nwc e6 s4 101 6 (fun e7 s8 => tk (cd e7 a0) 1 (src e7 a0 10 (e6.1) (fun e10 => nwc e10 s8 100 6 (fun e11 s12 => tk (cd e11 a0) 1 (src e11 a0 12 (e10.1) (fun e14 => nwc e14 s12 100 6 (fun e15 s16 => tk (cd e15 a0) 1 (src e15 a0 13 (e14.1) (fun e18 => nwc e18 s16 2 3 (fun e19 s20 => bc (gX2_init e19 (e18.1) s20) (fun e21 s22 => tk (cd e21 a0) 1 (src e21 a0 17 (e18.1) (fun e25 => nwc e25 s22 100 6 (fun e26 s27 => tk (cd e26 a0) 1 (src e26 a0 18 (e25.1) (fun e29 => nwc e29 s27 100 300 (fun e30 s31 => tk (cd e30 a0) 1 (src e30 a0 5 (e29.1) (fun e33 => nwc e33 s31 101 300 (fun e34 s35 => tk (cd e34 a0) 1 (src e34 a0 6 (e33.1) (fun e37 => tk (cd e37 a0) 1 (dr (rf e37 a0 4) e37 104 (fun x39 => nwc e37 s35 5 3 (fun e40 s41 => bc (gX5_init e40 (e37.1) s41) (fun e42 s43 => tk (cd e42 x39) 104 (ck (0 : Int32) (ln e42 x39) (tk (cd e42 (e37.1)) 5 (src e42 x39 (0 : Int32).toNatClampNeg (e37.1) (fun e48 => tk (cd e48 a0) 1 (dr (rf e48 a0 4) e48 104 (fun x50 => nwc e48 s43 5 3 (fun e51 s52 => bc (gX5_init e51 (e48.1) s52) (fun e53 s54 => tk (cd e53 x50) 104 (ck (1 : Int32) (ln e53 x50) (tk (cd e53 (e48.1)) 5 (src e53 x50 (1 : Int32).toNatClampNeg (e48.1) (fun e59 => tk (cd e59 a0) 1 (dr (rf e59 a0 4) e59 104 (fun x61 => nwc e59 s54 5 3 (fun e62 s63 => bc (gX5_init e62 (e59.1) s63) (fun e64 s65 => tk (cd e64 x61) 104 (ck (2 : Int32) (ln e64 x61) (tk (cd e64 (e59.1)) 5 (src e64 x61 (2 : Int32).toNatClampNeg (e59.1) (fun e70 => tk (cd e70 a0) 1 (dr (rf e70 a0 4) e70 104 (fun x72 => nwc e70 s65 5 3 (fun e73 s74 => bc (gX5_init e73 (e70.1) s74) (fun e75 s76 => tk (cd e75 x72) 104 (ck (3 : Int32) (ln e75 x72) (tk (cd e75 (e70.1)) 5 (src e75 x72 (3 : Int32).toNatClampNeg (e70.1) (fun e81 => tk (cd e81 a0) 1 (dr (rf e81 a0 4) e81 104 (fun x83 => nwc e81 s76 5 3 (fun e84 s85 => bc (gX5_init e84 (e81.1) s85) (fun e86 s87 => tk (cd e86 x83) 104 (ck (4 : Int32) (ln e86 x83) (tk (cd e86 (e81.1)) 5 (src e86 x83 (4 : Int32).toNatClampNeg (e81.1) (fun e92 => tk (cd e92 a0) 1 (dr (rf e92 a0 4) e92 104 (fun x94 => nwc e92 s87 5 3 (fun e95 s96 => bc (gX5_init e95 (e92.1) s96) (fun e97 s98 => tk (cd e97 x94) 104 (ck (5 : Int32) (ln e97 x94) (tk (cd e97 (e92.1)) 5 (src e97 x94 (5 : Int32).toNatClampNeg (e92.1) (fun e103 => some (e103, s98))))))))))))))))))))))))))))))))))))))))))))))))))))))))))))))))))))))))))))
def gX4_init (E : En) (a0 : Nat) (σ : Sg) : Option (En × Sg) := nwc E σ 3 4 (fun e1 s2 => bc (gX3_init e1 (E.1) s2) (fun e3 s4 => tk (cd e3 a0) 4 (src e3 a0 0 (E.1) (fun e7 => ncl e7 s4 (fun e8 s9 => tk (cd e8 e7.1) 100 (tk (cd e8 a0) 4 (src e8 a0 1 (e7.1) (fun e12 => nwc e12 s9 0 6 (fun e13 s14 => bc (gX0_init e13 (e12.1) s14) (fun e15 s16 => tk (cd e15 a0) 4 (src e15 a0 3 (e12.1) (fun e19 => nwc e19 s16 1 19 (fun e20 s21 => bc (gX1_init_300 e20 (e19.1) s21) (fun e22 s23 => tk (cd e22 a0) 4 (src e22 a0 4 (e19.1) (fun e26 => nwc e26 s23 100 300 (fun e27 s28 => tk (cd e27 a0) 4 (src e27 a0 5 (e26.1) (fun e30 => nwc e30 s28 100 6 (fun e31 s32 => tk (cd e31 a0) 4 (src e31 a0 6 (e30.1) (fun e34 => some (e34, s32)))))))))))))))))))))))
def gX1_init_700 (E : En) (a0 : Nat) (σ : Sg) : Option (En × Sg) := tk (cd E a0) 1 (ss (si σ a0 2 (1 : Int32)) (fun s2 => nwc E s2 104 6 (fun e3 s4 => tk (cd e3 a0) 1 (src e3 a0 4 (E.1) (fun e6 => nwc e6 s4 101 6 (fun e7 s8 => tk (cd e7 a0) 1 (src e7 a0 10 (e6.1) (fun e10 => nwc e10 s8 100 6 (fun e11 s12 => tk (cd e11 a0) 1 (src e11 a0 12 (e10.1) (fun e14 => nwc e14 s12 100 6 (fun e15 s16 => tk (cd e15 a0) 1 (src e15 a0 13 (e14.1) (fun e18 => nwc e18 s16 2 3 (fun e19 s20 => bc (gX2_init e19 (e18.1) s20) (fun e21 s22 => tk (cd e21 a0) 1 (src e21 a0 17 (e18.1) (fun e25 => nwc e25 s22 100 6 (fun e26 s27 => tk (cd e26 a0) 1 (src e26 a0 18 (e25.1) (fun e29 => nwc e29 s27 100 700 (fun e30 s31 => tk (cd e30 a0) 1 (src e30 a0 5 (e29.1) (fun e33 => nwc e33 s31 101 700 (fun e34 s35 => tk (cd e34 a0) 1 (src e34 a0 6 (e33.1) (fun e37 => tk (cd e37 a0) 1 (dr (rf e37 a0 4) e37 104 (fun x39 => nwc e37 s35 5 3 (fun e40 s41 => bc (gX5_init e40 (e37.1) s41) (fun e42 s43 => tk (cd e42 x39) 104 (ck (0 : Int32) (ln e42 x39) (tk (cd e42 (e37.1)) 5 (src e42 x39 (0 : Int32).toNatClampNeg (e37.1) (fun e48 => tk (cd e48 a0) 1 (dr (rf e48 a0 4) e48 104 (fun x50 => nwc e48 s43 5 3 (fun e51 s52 => bc (gX5_init e51 (e48.1) s52) (fun e53 s54 => tk (cd e53 x50) 104 (ck (1 : Int32) (ln e53 x50) (tk (cd e53 (e48.1)) 5 (src e53 x50 (1 : Int32).toNatClampNeg (e48.1) (fun e59 => tk (cd e59 a0) 1 (dr (rf e59 a0 4) e59 104 (fun x61 => nwc e59 s54 5 3 (fun e62 s63 => bc (gX5_init e62 (e59.1) s63) (fun e64 s65 => tk (cd e64 x61) 104 (ck (2 : Int32) (ln e64 x61) (tk (cd e64 (e59.1)) 5 (src e64 x61 (2 : Int32).toNatClampNeg (e59.1) (fun e70 => tk (cd e70 a0) 1 (dr (rf e70 a0 4) e70 104 (fun x72 => nwc e70 s65 5 3 (fun e73 s74 => bc (gX5_init e73 (e70.1) s74) (fun e75 s76 => tk (cd e75 x72) 104 (ck (3 : Int32) (ln e75 x72) (tk (cd e75 (e70.1)) 5 (src e75 x72 (3 : Int32).toNatClampNeg (e70.1) (fun e81 => tk (cd e81 a0) 1 (dr (rf e81 a0 4) e81 104 (fun x83 => nwc e81 s76 5 3 (fun e84 s85 => bc (gX5_init e84 (e81.1) s85) (fun e86 s87 => tk (cd e86 x83) 104 (ck (4 : Int32) (ln e86 x83) (tk (cd e86 (e81.1)) 5 (src e86 x83 (4 : Int32).toNatClampNeg (e81.1) (fun e92 => tk (cd e92 a0) 1 (dr (rf e92 a0 4) e92 104 (fun x94 => nwc e92 s87 5 3 (fun e95 s96 => bc (gX5_init e95 (e92.1) s96) (fun e97 s98 => tk (cd e97 x94) 104 (ck (5 : Int32) (ln e97 x94) (tk (cd e97 (e92.1)) 5 (src e97 x94 (5 : Int32).toNatClampNeg (e92.1) (fun e103 => some (e103, s98))))))))))))))))))))))))))))))))))))))))))))))))))))))))))))))))))))))))))))
def gX6_init (E : En) (a0 : Nat) (σ : Sg) : Option (En × Sg) := nwc E σ 100 200 (fun e1 s2 => tk (cd e1 a0) 6 (src e1 a0 0 (E.1) (fun e4 => nwc e4 s2 4 7 (fun e5 s6 => bc (gX4_init e5 (e4.1) s6) (fun e7 s8 => tk (cd e7 a0) 6 (src e7 a0 3 (e4.1) (fun e11 => nwc e11 s8 105 8 (fun e12 s13 => tk (cd e12 a0) 6 (src e12 a0 4 (e11.1) (fun e15 => nwc e15 s13 100 8 (fun e16 s17 => tk (cd e16 a0) 6 (src e16 a0 5 (e15.1) (fun e19 => nwc e19 s17 105 2 (fun e20 s21 => tk (cd e20 a0) 6 (src e20 a0 8 (e19.1) (fun e23 => nwc e23 s21 101 2 (fun e24 s25 => tk (cd e24 a0) 6 (src e24 a0 9 (e23.1) (fun e27 => nwc e27 s25 1 19 (fun e28 s29 => bc (gX1_init_700 e28 (e27.1) s29) (fun e30 s31 => tk (cd e30 a0) 6 (src e30 a0 10 (e27.1) (fun e34 => nwc e34 s31 2 3 (fun e35 s36 => bc (gX2_init e35 (e34.1) s36) (fun e37 s38 => tk (cd e37 a0) 6 (src e37 a0 11 (e34.1) (fun e41 => nwc e41 s38 100 300 (fun e42 s43 => tk (cd e42 a0) 6 (src e42 a0 12 (e41.1) (fun e45 => nwc e45 s43 103 700 (fun e46 s47 => tk (cd e46 a0) 6 (src e46 a0 13 (e45.1) (fun e49 => tk (cd e49 a0) 6 (dr (rf e49 a0 4) e49 105 (fun x51 => nwc e49 s47 4 7 (fun e52 s53 => bc (gX4_init e52 (e49.1) s53) (fun e54 s55 => tk (cd e54 x51) 105 (ck (0 : Int32) (ln e54 x51) (tk (cd e54 (e49.1)) 4 (src e54 x51 (0 : Int32).toNatClampNeg (e49.1) (fun e60 => tk (cd e60 a0) 6 (dr (rf e60 a0 4) e60 105 (fun x62 => nwc e60 s55 4 7 (fun e63 s64 => bc (gX4_init e63 (e60.1) s64) (fun e65 s66 => tk (cd e65 x62) 105 (ck (1 : Int32) (ln e65 x62) (tk (cd e65 (e60.1)) 4 (src e65 x62 (1 : Int32).toNatClampNeg (e60.1) (fun e71 => tk (cd e71 a0) 6 (dr (rf e71 a0 4) e71 105 (fun x73 => nwc e71 s66 4 7 (fun e74 s75 => bc (gX4_init e74 (e71.1) s75) (fun e76 s77 => tk (cd e76 x73) 105 (ck (2 : Int32) (ln e76 x73) (tk (cd e76 (e71.1)) 4 (src e76 x73 (2 : Int32).toNatClampNeg (e71.1) (fun e82 => tk (cd e82 a0) 6 (dr (rf e82 a0 4) e82 105 (fun x84 => nwc e82 s77 4 7 (fun e85 s86 => bc (gX4_init e85 (e82.1) s86) (fun e87 s88 => tk (cd e87 x84) 105 (ck (3 : Int32) (ln e87 x84) (tk (cd e87 (e82.1)) 4 (src e87 x84 (3 : Int32).toNatClampNeg (e82.1) (fun e93 => tk (cd e93 a0) 6 (dr (rf e93 a0 4) e93 105 (fun x95 => nwc e93 s88 4 7 (fun e96 s97 => bc (gX4_init e96 (e93.1) s97) (fun e98 s99 => tk (cd e98 x95) 105 (ck (4 : Int32) (ln e98 x95) (tk (cd e98 (e93.1)) 4 (src e98 x95 (4 : Int32).toNatClampNeg (e93.1) (fun e104 => tk (cd e104 a0) 6 (dr (rf e104 a0 4) e104 105 (fun x106 => nwc e104 s99 4 7 (fun e107 s108 => bc (gX4_init e107 (e104.1) s108) (fun e109 s110 => tk (cd e109 x106) 105 (ck (5 : Int32) (ln e109 x106) (tk (cd e109 (e104.1)) 4 (src e109 x106 (5 : Int32).toNatClampNeg (e104.1) (fun e115 => tk (cd e115 a0) 6 (dr (rf e115 a0 4) e115 105 (fun x117 => nwc e115 s110 4 7 (fun e118 s119 => bc (gX4_init e118 (e115.1) s119) (fun e120 s121 => tk (cd e120 x117) 105 (ck (6 : Int32) (ln e120 x117) (tk (cd e120 (e115.1)) 4 (src e120 x117 (6 : Int32).toNatClampNeg (e115.1) (fun e126 => tk (cd e126 a0) 6 (dr (rf e126 a0 4) e126 105 (fun x128 => nwc e126 s121 4 7 (fun e129 s130 => bc (gX4_init e129 (e126.1) s130) (fun e131 s132 => tk (cd e131 x128) 105 (ck (7 : Int32) (ln e131 x128) (tk (cd e131 (e126.1)) 4 (src e131 x128 (7 : Int32).toNatClampNeg (e126.1) (fun e137 => tk (cd e137 a0) 6 (dr (rf e137 a0 8) e137 105 (fun x139 => nwc e137 s132 4 7 (fun e140 s141 => bc (gX4_init e140 (e137.1) s141) (fun e142 s143 => tk (cd e142 x139) 105 (ck (0 : Int32) (ln e142 x139) (tk (cd e142 (e137.1)) 4 (src e142 x139 (0 : Int32).toNatClampNeg (e137.1) (fun e148 => tk (cd e148 a0) 6 (dr (rf e148 a0 8) e148 105 (fun x150 => nwc e148 s143 4 7 (fun e151 s152 => bc (gX4_init e151 (e148.1) s152) (fun e153 s154 => tk (cd e153 x150) 105 (ck (1 : Int32) (ln e153 x150) (tk (cd e153 (e148.1)) 4 (src e153 x150 (1 : Int32).toNatClampNeg (e148.1) (fun e159 => some (e159, s154))))))))))))))))))))))))))))))))))))))))))))))))))))))))))))))))))))))))))))))))))))))))))))))))))))))))))))))))))
def gX7_init (E : En) (a0 : Nat) (σ : Sg) : Option (En × Sg) := nwc E σ 100 7827 (fun e1 s2 => tk (cd e1 a0) 7 (src e1 a0 0 (E.1) (fun e4 => nwc e4 s2 100 7827 (fun e5 s6 => tk (cd e5 a0) 7 (src e5 a0 1 (e4.1) (fun e8 => nwc e8 s6 100 62616 (fun e9 s10 => tk (cd e9 a0) 7 (src e9 a0 2 (e8.1) (fun e12 => nwc e12 s10 100 15654 (fun e13 s14 => tk (cd e13 a0) 7 (src e13 a0 3 (e12.1) (fun e16 => nwc e16 s14 102 200 (fun e17 s18 => tk (cd e17 a0) 7 (src e17 a0 6 (e16.1) (fun e20 => nwc e20 s18 100 16 (fun e21 s22 => tk (cd e21 a0) 7 (src e21 a0 8 (e20.1) (fun e24 => nwc e24 s22 100 16 (fun e25 s26 => tk (cd e25 a0) 7 (src e25 a0 9 (e24.1) (fun e28 => nwc e28 s26 100 6 (fun e29 s30 => tk (cd e29 a0) 7 (src e29 a0 11 (e28.1) (fun e32 => nwc e32 s30 100 6 (fun e33 s34 => tk (cd e33 a0) 7 (src e33 a0 12 (e32.1) (fun e36 => nwc e36 s34 100 6 (fun e37 s38 => tk (cd e37 a0) 7 (src e37 a0 13 (e36.1) (fun e40 => nwc e40 s38 100 6 (fun e41 s42 => tk (cd e41 a0) 7 (src e41 a0 14 (e40.1) (fun e44 => nwc e44 s42 100 6 (fun e45 s46 => tk (cd e45 a0) 7 (src e45 a0 16 (e44.1) (fun e48 => nwc e48 s46 100 300 (fun e49 s50 => tk (cd e49 a0) 7 (src e49 a0 17 (e48.1) (fun e52 => nwc e52 s50 100 700 (fun e53 s54 => tk (cd e53 a0) 7 (src e53 a0 18 (e52.1) (fun e56 => nwc e56 s54 100 4800 (fun e57 s58 => tk (cd e57 a0) 7 (src e57 a0 19 (e56.1) (fun e60 => nwc e60 s58 100 6 (fun e61 s62 => tk (cd e61 a0) 7 (src e61 a0 21 (e60.1) (fun e64 => nwc e64 s62 100 6 (fun e65 s66 => tk (cd e65 a0) 7 (src e65 a0 22 (e64.1) (fun e68 => nwc e68 s66 100 306 (fun e69 s70 => tk (cd e69 a0) 7 (src e69 a0 26 (e68.1) (fun e72 => nwc e72 s70 100 300 (fun e73 s74 => tk (cd e73 a0) 7 (src e73 a0 27 (e72.1) (fun e76 => nwc e76 s74 100 300 (fun e77 s78 => tk (cd e77 a0) 7 (src e77 a0 28 (e76.1) (fun e80 => nwc e80 s78 100 6 (fun e81 s82 => tk (cd e81 a0) 7 (src e81 a0 29 (e80.1) (fun e84 => tk (cd e84 a0) 7 (dr (rf e84 a0 0) e84 100 (fun x86 => tk (cd e84 x86) 100 (ck (1 : Int32) (ln e84 x86) (ss (si s82 x86 (1 : Int32).toNatClampNeg (4 : Int32)) (fun s89 => tk (cd e84 a0) 7 (dr (rf e84 a0 0) e84 100 (fun x91 => tk (cd e84 x91) 100 (ck (2 : Int32) (ln e84 x91) (ss (si s89 x91 (2 : Int32).toNatClampNeg (4 : Int32)) (fun s94 => some (e84, s94))))))))))))))))))))))))))))))))))))))))))))))))))))))))))))))))))))))))))
def E0 : En := (0, fun _ => (999, 0), fun _ _ => none)
def S0 : Sg := (fun _ _ => 0, fun _ _ => 0)
/-- the law, as a pure text -/
def lawAll (L : Nat) (xs : Nat → Int32) : Option (Int32 × Sg) := nwc E0 S0 6 14 (fun e1 s1 => bc (gX6_init e1 (E0.1) s1) (fun e2 s2 => nwc e2 s2 7 30 (fun e3 s3 => bc (gX7_init e3 (e2.1) s3) (fun e4 s4 => fL_law L xs e4 (E0.1) (e2.1) s4))))
end
section
/-! what the constructors have made -/
def LArr (E : En) (a c n : Nat) : Prop := cd E a = c ∧ ln E a = n
def LTape (E : En) (a : Nat) : Prop := cd E a = 5 ∧ rf E a 0 = some (a + 1) ∧ LArr E (a + 1) 100 256
def LNum (E : En) (a : Nat) : Prop := cd E a = 2 ∧ rf E a 0 = some (a + 1) ∧ LArr E (a + 1) 100 5
def LRec (E : En) (a : Nat) : Prop := cd E a = 3 ∧ rf E a 0 = some (a + 1) ∧ rf E a 1 = some (a + 2) ∧ LArr E (a + 1) 100 300 ∧ LArr E (a + 2) 100 300
def LGro (E : En) (a : Nat) : Prop := cd E a = 0 ∧ rf E a 0 = some (a + 1) ∧ rf E a 1 = some (a + 2) ∧ rf E a 4 = some (a + 3) ∧ LArr E (a + 1) 100 300 ∧ LArr E (a + 2) 100 300 ∧ LArr E (a + 3) 100 16
def LMill (E : En) (a N : Nat) : Prop := cd E a = 1 ∧ rf E a 4 = some (a + 1) ∧ rf E a 10 = some (a + 2) ∧ rf E a 12 = some (a + 3) ∧ rf E a 13 = some (a + 4) ∧ rf E a 17 = some (a + 5) ∧ rf E a 18 = some (a + 7) ∧ rf E a 5 = some (a + 8) ∧ rf E a 6 = some (a + 9) ∧ LArr E (a + 1) 104 6 ∧ LArr E (a + 2) 101 6 ∧ LArr E (a + 3) 100 6 ∧ LArr E (a + 4) 100 6 ∧ LNum E (a + 5) ∧ LArr E (a + 7) 100 6 ∧ LArr E (a + 8) 100 N ∧ LArr E (a + 9) 101 N ∧ ∀ t, t < 6 → rf E (a + 1) t = some (a + 10 + 2 * t) ∧ LTape E (a + 10 + 2 * t)
def LSta (E : En) (b : Nat) : Prop := cd E b = 4 ∧ rf E b 0 = some (b + 1) ∧ rf E b 1 = some (b + 4) ∧ rf E b 3 = some (b + 5) ∧ rf E b 4 = some (b + 9) ∧ rf E b 5 = some (b + 31) ∧ rf E b 6 = some (b + 32) ∧ LRec E (b + 1) ∧ LArr E (b + 4) 100 6 ∧ LGro E (b + 5) ∧ LMill E (b + 9) 300 ∧ LArr E (b + 31) 100 300 ∧ LArr E (b + 32) 100 6
def LRun (E : En) : Prop := cd E 0 = 6 ∧ rf E 0 0 = some 1 ∧ rf E 0 3 = some 2 ∧ rf E 0 4 = some 35 ∧ rf E 0 5 = some 36 ∧ rf E 0 8 = some 37 ∧ rf E 0 9 = some 38 ∧ rf E 0 10 = some 39 ∧ rf E 0 11 = some 61 ∧ rf E 0 12 = some 63 ∧ rf E 0 13 = some 64 ∧ LArr E 1 100 200 ∧ LSta E 2 ∧ LArr E 35 105 8 ∧ LArr E 36 100 8 ∧ LArr E 37 105 2 ∧ LArr E 38 101 2 ∧ LMill E 39 700 ∧ LNum E 61 ∧ LArr E 63 100 300 ∧ LArr E 64 103 700 ∧ (∀ j, j < 8 → rf E 35 j = some (65 + 33 * j) ∧ LSta E (65 + 33 * j)) ∧ ∀ j, j < 2 → rf E 37 j = some (329 + 33 * j) ∧ LSta E (329 + 33 * j)
def LMod (E : En) : Prop := cd E 395 = 7 ∧ rf E 395 0 = some 396 ∧ rf E 395 1 = some 397 ∧ rf E 395 2 = some 398 ∧ rf E 395 3 = some 399 ∧ rf E 395 6 = some 400 ∧ rf E 395 8 = some 401 ∧ rf E 395 9 = some 402 ∧ rf E 395 11 = some 403 ∧ rf E 395 12 = some 404 ∧ rf E 395 13 = some 405 ∧ rf E 395 14 = some 406 ∧ rf E 395 16 = some 407 ∧ rf E 395 17 = some 408 ∧ rf E 395 18 = some 409 ∧ rf E 395 19 = some 410 ∧ rf E 395 21 = some 411 ∧ rf E 395 22 = some 412 ∧ rf E 395 26 = some 413 ∧ rf E 395 27 = some 414 ∧ rf E 395 28 = some 415 ∧ rf E 395 29 = some 416
def LMo2 (E : En) : Prop := LArr E 396 100 7827 ∧ LArr E 397 100 7827 ∧ LArr E 398 100 62616 ∧ LArr E 399 100 15654 ∧ LArr E 400 102 200 ∧ LArr E 401 100 16 ∧ LArr E 402 100 16 ∧ LArr E 403 100 6 ∧ LArr E 404 100 6 ∧ LArr E 405 100 6 ∧ LArr E 406 100 6 ∧ LArr E 407 100 6 ∧ LArr E 408 100 300 ∧ LArr E 409 100 700 ∧ LArr E 410 100 4800 ∧ LArr E 411 100 6 ∧ LArr E 412 100 6 ∧ LArr E 413 100 306 ∧ LArr E 414 100 300 ∧ LArr E 415 100 300 ∧ LArr E 416 100 6
/-- what the numbers are at first, where it matters -/
def SFirst (σ : Sg) : Prop := gi σ 0 1 = 0 ∧ gi σ 0 2 = 0 ∧ gi σ 0 6 = 0 ∧ gi σ 0 7 = 0 ∧ gi σ 38 0 = 0 ∧ gi σ 38 1 = 0 ∧ gi σ 2 2 = 0 ∧ gi σ 3 2 = 0 ∧ gi σ 3 3 = 0 ∧ (∀ j, j < 6 → gi σ 6 j = stv 0 j) ∧ gi σ 395 4 = 0 ∧ gi σ 395 5 = 0 ∧ gi σ 395 7 = 0 ∧ ∀ j, j < 20 → gi σ 396 j = if j = 1 ∨ j = 2 then 4 else 0
def ini : Option ((En × Sg) × Nat) := nwc E0 S0 6 14 (fun e1 s1 => bc (gX6_init e1 (E0.1) s1) (fun e2 s2 => nwc e2 s2 7 30 (fun e3 s3 => bc (gX7_init e3 (e2.1) s3) (fun e4 s4 => some ((e4, s4), e2.1)))))
theorem lawAll_eq {L : Nat} {xs : Nat → Int32} {r : (En × Sg) × Nat} (h : ini = some r) : lawAll L xs = fL_law L xs r.1.1 0 r.2 r.1.2 := by
  unfold ini nwc at h
  unfold lawAll nwc
  dsimp only at h ⊢
  cases h1 : gX6_init (nwE E0 6 14) E0.1 (zs S0 E0.1) with
  | none => rw [h1] at h; cases h
  | some r1 =>
    rw [h1] at h
    simp only [bc] at h ⊢
    cases h2 : gX7_init (nwE r1.1 7 30) r1.1.1 (zs r1.2 r1.1.1) with
    | none => rw [h2] at h; cases h
    | some r2 =>
      rw [h2] at h
      simp only [Option.some.injEq] at h
      subst h
      rfl
def dArr (E : En) (a c n : Nat) : Decidable (LArr E a c n) := by unfold LArr; infer_instance
def dTape (E : En) (a : Nat) : Decidable (LTape E a) := by
  unfold LTape
  have i1 : ∀ a c n, Decidable (LArr E a c n) := dArr E
  infer_instance
def dNum (E : En) (a : Nat) : Decidable (LNum E a) := by
  unfold LNum
  have i1 : ∀ a c n, Decidable (LArr E a c n) := dArr E
  infer_instance
def dRec (E : En) (a : Nat) : Decidable (LRec E a) := by
  unfold LRec
  have i1 : ∀ a c n, Decidable (LArr E a c n) := dArr E
  infer_instance
def dGro (E : En) (a : Nat) : Decidable (LGro E a) := by
  unfold LGro
  have i1 : ∀ a c n, Decidable (LArr E a c n) := dArr E
  infer_instance
def dMill (E : En) (a N : Nat) : Decidable (LMill E a N) := by
  unfold LMill
  have i1 : ∀ a c n, Decidable (LArr E a c n) := dArr E
  have i2 : ∀ a, Decidable (LNum E a) := dNum E
  have i3 : ∀ a, Decidable (LTape E a) := dTape E
  have i4 : Decidable (∀ t, t < 6 → rf E (a + 1) t = some (a + 10 + 2 * t) ∧ LTape E (a + 10 + 2 * t)) := Nat.decidableBallLT 6 _
  infer_instance
def dSta (E : En) (a : Nat) : Decidable (LSta E a) := by
  unfold LSta
  have i1 : ∀ a c n, Decidable (LArr E a c n) := dArr E
  have i2 : ∀ a, Decidable (LRec E a) := dRec E
  have i3 : ∀ a, Decidable (LGro E a) := dGro E
  have i4 : ∀ a n, Decidable (LMill E a n) := dMill E
  infer_instance
def dRun (E : En) : Decidable (LRun E) := by
  unfold LRun
  have i1 : ∀ a c n, Decidable (LArr E a c n) := dArr E
  have i2 : ∀ a, Decidable (LSta E a) := dSta E
  have i3 : ∀ a, Decidable (LNum E a) := dNum E
  have i4 : ∀ a n, Decidable (LMill E a n) := dMill E
  have i5 : Decidable (∀ j, j < 8 → rf E 35 j = some (65 + 33 * j) ∧ LSta E (65 + 33 * j)) := Nat.decidableBallLT 8 _
  have i6 : Decidable (∀ j, j < 2 → rf E 37 j = some (329 + 33 * j) ∧ LSta E (329 + 33 * j)) := Nat.decidableBallLT 2 _
  infer_instance
def dMod (E : En) : Decidable (LMod E) := by unfold LMod; infer_instance
def dMo2 (E : En) : Decidable (LMo2 E) := by
  unfold LMo2
  have i1 : ∀ a c n, Decidable (LArr E a c n) := dArr E
  infer_instance
def dFst (σ : Sg) : Decidable (SFirst σ) := by
  unfold SFirst
  have i1 : Decidable (∀ j, j < 6 → gi σ 6 j = stv 0 j) := Nat.decidableBallLT 6 _
  have i2 : Decidable (∀ j, j < 20 → gi σ 396 j = if j = 1 ∨ j = 2 then 4 else 0) := Nat.decidableBallLT 20 _
  infer_instance
def iniOk : Bool := match ini with
  | some r => decide (r.2 = 395) && (@decide _ (dRun r.1.1) && (@decide _ (dMod r.1.1) && (@decide _ (dMo2 r.1.1) && @decide _ (dFst r.1.2))))
  | none => false
set_option maxRecDepth 100000 in
theorem iniOk_t : iniOk = true := by decide +kernel
theorem ini_ok : ∃ E σ, ini = some ((E, σ), 395) ∧ LRun E ∧ LMod E ∧ LMo2 E ∧ SFirst σ := by
  have h := iniOk_t
  unfold iniOk at h
  cases hi : ini with
  | none => rw [hi] at h; cases h
  | some r =>
    rw [hi] at h
    simp only [Bool.and_eq_true, decide_eq_true_eq] at h
    obtain ⟨h1, h2, h3, h4, h5⟩ := h
    obtain ⟨⟨E, σ⟩, n⟩ := r
    cases h1
    exact ⟨E, σ, rfl, h2, h3, h4, h5⟩
end
section
theorem gi_si {σ : Sg} {a k b j : Nat} {v : Int32} : gi (si σ a k v) b j = if b = a ∧ j = k then v else gi σ b j := by
  unfold gi si
  by_cases h : b = a
  · subst h
    by_cases h2 : j = k <;> simp [upd, h2]
  · simp [h]
theorem gi_sl {σ : Sg} {a k b j : Nat} {v : Int64} : gi (sl σ a k v) b j = gi σ b j := rfl
theorem gl_si {σ : Sg} {a k b j : Nat} {v : Int32} : gl (si σ a k v) b j = gl σ b j := rfl
theorem gl_sl {σ : Sg} {a k b j : Nat} {v : Int64} : gl (sl σ a k v) b j = if b = a ∧ j = k then v else gl σ b j := by
  unfold gl sl
  by_cases h : b = a
  · subst h
    by_cases h2 : j = k <;> simp [vp_updL, h2]
  · simp [h]
theorem gi_sc {σ : Sg} {a b sp dp n x j : Nat} : gi (sc σ a b sp dp n) x j = if x = b ∧ dp ≤ j ∧ j < dp + n then gi σ a (sp + (j - dp)) else gi σ x j := by
  unfold gi sc
  by_cases h : x = b
  · subst h
    by_cases h2 : dp ≤ j ∧ j < dp + n <;> simp [va_cpy, h2]
  · simp [h]
theorem gl_sc {σ : Sg} {a b sp dp n x j : Nat} : gl (sc σ a b sp dp n) x j = gl σ x j := rfl
theorem tk_ok {β : Type} {x c : Nat} {k : Option β} (h : x = c) : tk x c k = k := by simp [tk, h]
theorem dr_ok {β : Type} {r : Option Nat} {E : En} {c x : Nat} {f : Nat → Option β} (h : r = some x) (h2 : cd E x = c) : dr r E c f = f x := by simp [dr, h, tk, h2]
theorem ck_n {β : Type} {j n : Nat} {k : Option β} (h : j < n) (hn : n ≤ 2 ^ 31) : ck (nI j) n k = k := by
  unfold ck
  rw [if_pos]
  exact ⟨nI_pos' (by omega), by rw [nI_clamp (by omega)]; exact h⟩
theorem kb_0 {β : Type} {k : Option β} : kb 0 k = k := by simp [kb]
theorem kb_1 {β : Type} {k : Option β} : kb 1 k = k := by simp [kb]
theorem bd_ok {α β : Type} {v : α} {σ : Sg} {f : α → Sg → Option β} : bd (some (v, σ)) f = f v σ := rfl
theorem bv_ok {β : Type} {σ : Sg} {f : Sg → Option β} : bv (some σ) f = f σ := rfl
theorem fx_ok {α β : Type} {F : (α → Option β) → α → Option β} (I : Nat → α → Prop) (Q : β → Prop) (step : ∀ k a rec, I k a → (∀ j a', j < k → I j a' → ∃ b, rec a' = some b ∧ Q b) → ∃ b, F rec a = some b ∧ Q b) : ∀ n k a, k < n → I k a → ∃ b, fx F n a = some b ∧ Q b := by
  intro n
  induction n with
  | zero => intro k a h; omega
  | succ n ih => intro k a h hI; exact step k a (fx F n) hI (fun j a' hj hI' => ih j a' (by omega) hI')
theorem ad1 (i : Nat) : nI i + (1 : Int32) = nI (i + 1) := nI_add i 1
theorem ad2 (i : Nat) : nI i + (2 : Int32) = nI (i + 2) := nI_add i 2
theorem ad3 (i : Nat) : nI i + (3 : Int32) = nI (i + 3) := nI_add i 3
theorem ad4 (i : Nat) : nI i + (4 : Int32) = nI (i + 4) := nI_add i 4
theorem ad5 (i : Nat) : nI i + (5 : Int32) = nI (i + 5) := nI_add i 5
theorem ad6 (i : Nat) : nI i + (6 : Int32) = nI (i + 6) := nI_add i 6
theorem ad7 (i : Nat) : nI i + (7 : Int32) = nI (i + 7) := nI_add i 7
/-- class and reference answer alike, and the bond between them stays -/
def Ok (J : Sg → Prop) (f g : Sg → Option (Int32 × Sg)) : Prop := ∀ σ, J σ → ∃ r s1 s2, f σ = some (r, s1) ∧ g s1 = some (r, s2) ∧ J s2
set_option maxHeartbeats 4000000 in
theorem law_ok {E : En} {J : Sg → Prop} (hc6 : cd E 0 = 6) (hc7 : cd E 395 = 7) (H_feed : ∀ p0 p1 p2 p3 p4 : Int32, Ok J (fX6_feed E 0 p0 p1 p2 p3 p4) (fX7_feed E 395 p0 p1 p2 p3 p4)) (H_end : ∀ p0 : Int32, Ok J (fX6_end E 0 p0) (fX7_end E 395 p0)) (H_tell : Ok J (fX6_tell E 0) (fX7_tell E 395)) (H_drawn : ∀ p0 p1 : Int32, Ok J (fX6_drawn E 0 p0 p1) (fX7_drawn E 395 p0 p1)) (H_draws : ∀ p0 : Int32, Ok J (fX6_draws E 0 p0) (fX7_draws E 395 p0)) (H_clear : Ok J (fX6_clear E 0) (fX7_clear E 395)) (H_settle : ∀ p0 p1 : Int32, Ok J (fX6_settle E 0 p0 p1) (fX7_settle E 395 p0 p1)) (H_grow : Ok J (fX6_grow E 0) (fX7_grow E 395)) (H_spread : Ok J (fX6_spread E 0) (fX7_spread E 395)) (H_step : Ok J (fX6_step E 0) (fX7_step E 395)) (H_phase : Ok J (fX6_phase E 0) (fX7_phase E 395)) (H_all : Ok J (fX6_all E 0) (fX7_all E 395)) (H_record : ∀ p0 p1 : Int32, Ok J (fX6_record E 0 p0 p1) (fX7_record E 395 p0 p1)) (H_run : ∀ p0 p1 : Int32, Ok J (fX6_run E 0 p0 p1) (fX7_run E 395 p0 p1)) (H_tape : ∀ p0 p1 : Int32, Ok J (fX6_tape E 0 p0 p1) (fX7_tape E 395 p0 p1)) (H_on : ∀ p0 p1 p2 : Int32, Ok J (fX6_on E 0 p0 p1 p2) (fX7_on E 395 p0 p1 p2)) (H_sorted : ∀ p0 : Int32, Ok J (fX6_sorted E 0 p0) (fX7_sorted E 395 p0)) (H_perfect : ∀ p0 p1 : Int32, Ok J (fX6_perfect E 0 p0 p1) (fX7_perfect E 395 p0 p1)) (H_plan : ∀ p0 : Int32, Ok J (fX6_plan E 0 p0) (fX7_plan E 395 p0)) (H_planned : ∀ p0 p1 p2 : Int32, Ok J (fX6_planned E 0 p0 p1 p2) (fX7_planned E 395 p0 p1 p2)) (H_least : ∀ p0 : Int32, Ok J (fX6_least E 0 p0) (fX7_least E 395 p0)) (H_depth : ∀ p0 : Int32, Ok J (fX6_depth E 0 p0) (fX7_depth E 395 p0)) (H_units : ∀ p0 : Int32, Ok J (fX6_units E 0 p0) (fX7_units E 395 p0)) (H_stands : Ok J (fX6_stands E 0) (fX7_stands E 395)) (H_key : ∀ p0 p1 : Int32, Ok J (fX6_key E 0 p0 p1) (fX7_key E 395 p0 p1)) (H_keys : ∀ p0 : Int32, Ok J (fX6_keys E 0 p0) (fX7_keys E 395 p0)) (H_about : ∀ p0 : Int32, Ok J (fX6_about E 0 p0) (fX7_about E 395 p0)) (H_forecast : ∀ p0 p1 : Int32, Ok J (fX6_forecast E 0 p0 p1) (fX7_forecast E 395 p0 p1)) (H_needs : ∀ p0 : Int32, Ok J (fX6_needs E 0 p0) (fX7_needs E 395 p0)) (H_undo : Ok J (fX6_undo E 0) (fX7_undo E 395)) (H_keep : ∀ p0 : Int32, Ok J (fX6_keep E 0 p0) (fX7_keep E 395 p0)) (H_back : ∀ p0 : Int32, Ok J (fX6_back E 0 p0) (fX7_back E 395 p0)) (H_count : ∀ p0 : Int32, Ok J (fX6_count E 0 p0) (fX7_count E 395 p0))
    {L : Nat} (hL : L ≤ 3072) (xs : Nat → Int32) {σ : Sg} (hJ : J σ) : ∃ σ', fL_law L xs E 0 395 σ = some (1, σ') := by
  unfold fL_law
  rw [tk_ok hc6, tk_ok hc7]
  have key := fx_ok (F := fun (rec : Int32 × Sg → Option ((Int32 ⊕ Int32) × Sg)) (a : Int32 × Sg) => bL_law_18 L xs E 0 395 (fun u0 t => rec (u0, t)) a.1 a.2) (fun k a => ∃ i, a.1 = nI i ∧ i ≤ L + 6 ∧ k = L + 7 - i ∧ J a.2) (fun b => ∃ v, b.1 = .inl v) ?_ FU (L + 7) ((0 : Int32), σ) (by show L + 7 < 1000000; omega) ⟨0, rfl, by omega, by omega, hJ⟩
  · obtain ⟨⟨o, s⟩, e, v, hv⟩ := key
    cases hv
    rw [e]
    exact ⟨s, rfl⟩
  · rintro k ⟨v1, s2⟩ rec ⟨i, hi, hi2, rfl, hJ⟩ IH
    dsimp only at hi hJ ⊢
    subst hi
    unfold bL_law_18
    have hlt : ((nI L) - (6 : Int32)) < nI i ↔ L < i + 6 := by
      rw [Int32.lt_iff_toInt_lt, show (6 : Int32) = nI 6 from rfl, pk_sub_toInt (by omega) (by omega), nI_toInt (by omega)]
      omega
    by_cases hx : L < i + 6
    · rw [if_pos (hlt.mpr hx)]
      exact ⟨_, rfl, _, rfl⟩
    · rw [if_neg (fun h => hx (hlt.mp h)), ck_n (by omega) (by omega)]
      simp only [ad1, ad2, ad3, ad4, ad5]
      rw [nI_clamp (n := i) (by omega), nI_clamp (n := i + 1) (by omega), nI_clamp (n := i + 2) (by omega), nI_clamp (n := i + 3) (by omega), nI_clamp (n := i + 4) (by omega), nI_clamp (n := i + 5) (by omega)]
      have go : ∀ s, J s → ∃ b, lt (nI i + (6 : Int32)) (fun v => rec (v, s)) = some b ∧ ∃ v, b.1 = .inl v := by
        intro s hs
        unfold lt
        rw [ad6]
        exact IH (L + 7 - (i + 6)) _ (by omega) ⟨i + 6, rfl, by omega, rfl, hs⟩
      have k1 : ∀ {k : Option ((Int32 ⊕ Int32) × Sg)}, ck (nI (i + 1)) L k = k := fun {_} => ck_n (by omega) (by omega)
      have k2 : ∀ {k : Option ((Int32 ⊕ Int32) × Sg)}, ck (nI (i + 2)) L k = k := fun {_} => ck_n (by omega) (by omega)
      have k3 : ∀ {k : Option ((Int32 ⊕ Int32) × Sg)}, ck (nI (i + 3)) L k = k := fun {_} => ck_n (by omega) (by omega)
      have k4 : ∀ {k : Option ((Int32 ⊕ Int32) × Sg)}, ck (nI (i + 4)) L k = k := fun {_} => ck_n (by omega) (by omega)
      have k5 : ∀ {k : Option ((Int32 ⊕ Int32) × Sg)}, ck (nI (i + 5)) L k = k := fun {_} => ck_n (by omega) (by omega)
      simp only [k1, k2, k3, k4, k5]
      generalize xs i &&& 63 = w
      by_cases h0 : w = (0 : Int32)
      · rw [if_pos h0]
        obtain ⟨r, s1, s3, e1, e2, hJ2⟩ := H_feed _ _ _ _ _ s2 hJ
        rw [e1]
        simp only [bd_ok]
        rw [e2]
        simp only [bd_ok, if_true]
        exact go s3 hJ2
      rw [if_neg h0]
      by_cases h1 : w = (1 : Int32)
      · rw [if_pos h1]
        obtain ⟨r, s1, s3, e1, e2, hJ2⟩ := H_end _ s2 hJ
        rw [e1]
        simp only [bd_ok]
        rw [e2]
        simp only [bd_ok, if_true]
        exact go s3 hJ2
      rw [if_neg h1]
      by_cases h2 : w = (2 : Int32)
      · rw [if_pos h2]
        obtain ⟨r, s1, s3, e1, e2, hJ2⟩ := H_tell s2 hJ
        rw [e1]
        simp only [bd_ok]
        rw [e2]
        simp only [bd_ok, if_true]
        exact go s3 hJ2
      rw [if_neg h2]
      by_cases h3 : w = (3 : Int32)
      · rw [if_pos h3]
        obtain ⟨r, s1, s3, e1, e2, hJ2⟩ := H_drawn _ _ s2 hJ
        rw [e1]
        simp only [bd_ok]
        rw [e2]
        simp only [bd_ok, if_true]
        exact go s3 hJ2
      rw [if_neg h3]
      by_cases h4 : w = (4 : Int32)
      · rw [if_pos h4]
        obtain ⟨r, s1, s3, e1, e2, hJ2⟩ := H_draws _ s2 hJ
        rw [e1]
        simp only [bd_ok]
        rw [e2]
        simp only [bd_ok, if_true]
        exact go s3 hJ2
      rw [if_neg h4]
      by_cases h5 : w = (5 : Int32)
      · rw [if_pos h5]
        obtain ⟨r, s1, s3, e1, e2, hJ2⟩ := H_clear s2 hJ
        rw [e1]
        simp only [bd_ok]
        rw [e2]
        simp only [bd_ok, if_true]
        exact go s3 hJ2
      rw [if_neg h5]
      by_cases h6 : w = (6 : Int32)
      · rw [if_pos h6]
        obtain ⟨r, s1, s3, e1, e2, hJ2⟩ := H_settle _ _ s2 hJ
        rw [e1]
        simp only [bd_ok]
        rw [e2]
        simp only [bd_ok, if_true]
        exact go s3 hJ2
      rw [if_neg h6]
      by_cases h7 : w = (7 : Int32)
      · rw [if_pos h7]
        obtain ⟨r, s1, s3, e1, e2, hJ2⟩ := H_grow s2 hJ
        rw [e1]
        simp only [bd_ok]
        rw [e2]
        simp only [bd_ok, if_true]
        exact go s3 hJ2
      rw [if_neg h7]
      by_cases h8 : w = (8 : Int32)
      · rw [if_pos h8]
        obtain ⟨r, s1, s3, e1, e2, hJ2⟩ := H_spread s2 hJ
        rw [e1]
        simp only [bd_ok]
        rw [e2]
        simp only [bd_ok, if_true]
        exact go s3 hJ2
      rw [if_neg h8]
      by_cases h9 : w = (9 : Int32)
      · rw [if_pos h9]
        obtain ⟨r, s1, s3, e1, e2, hJ2⟩ := H_step s2 hJ
        rw [e1]
        simp only [bd_ok]
        rw [e2]
        simp only [bd_ok, if_true]
        exact go s3 hJ2
      rw [if_neg h9]
      by_cases h10 : w = (10 : Int32)
      · rw [if_pos h10]
        obtain ⟨r, s1, s3, e1, e2, hJ2⟩ := H_phase s2 hJ
        rw [e1]
        simp only [bd_ok]
        rw [e2]
        simp only [bd_ok, if_true]
        exact go s3 hJ2
      rw [if_neg h10]
      by_cases h11 : w = (11 : Int32)
      · rw [if_pos h11]
        obtain ⟨r, s1, s3, e1, e2, hJ2⟩ := H_all s2 hJ
        rw [e1]
        simp only [bd_ok]
        rw [e2]
        simp only [bd_ok, if_true]
        exact go s3 hJ2
      rw [if_neg h11]
      by_cases h12 : w = (12 : Int32)
      · rw [if_pos h12]
        obtain ⟨r, s1, s3, e1, e2, hJ2⟩ := H_record _ _ s2 hJ
        rw [e1]
        simp only [bd_ok]
        rw [e2]
        simp only [bd_ok, if_true]
        exact go s3 hJ2
      rw [if_neg h12]
      by_cases h13 : w = (13 : Int32)
      · rw [if_pos h13]
        obtain ⟨r, s1, s3, e1, e2, hJ2⟩ := H_run _ _ s2 hJ
        rw [e1]
        simp only [bd_ok]
        rw [e2]
        simp only [bd_ok, if_true]
        exact go s3 hJ2
      rw [if_neg h13]
      by_cases h14 : w = (14 : Int32)
      · rw [if_pos h14]
        obtain ⟨r, s1, s3, e1, e2, hJ2⟩ := H_tape _ _ s2 hJ
        rw [e1]
        simp only [bd_ok]
        rw [e2]
        simp only [bd_ok, if_true]
        exact go s3 hJ2
      rw [if_neg h14]
      by_cases h15 : w = (15 : Int32)
      · rw [if_pos h15]
        obtain ⟨r, s1, s3, e1, e2, hJ2⟩ := H_on _ _ _ s2 hJ
        rw [e1]
        simp only [bd_ok]
        rw [e2]
        simp only [bd_ok, if_true]
        exact go s3 hJ2
      rw [if_neg h15]
      by_cases h16 : w = (16 : Int32)
      · rw [if_pos h16]
        obtain ⟨r, s1, s3, e1, e2, hJ2⟩ := H_sorted _ s2 hJ
        rw [e1]
        simp only [bd_ok]
        rw [e2]
        simp only [bd_ok, if_true]
        exact go s3 hJ2
      rw [if_neg h16]
      by_cases h17 : w = (17 : Int32)
      · rw [if_pos h17]
        obtain ⟨r, s1, s3, e1, e2, hJ2⟩ := H_perfect _ _ s2 hJ
        rw [e1]
        simp only [bd_ok]
        rw [e2]
        simp only [bd_ok, if_true]
        exact go s3 hJ2
      rw [if_neg h17]
      by_cases h18 : w = (18 : Int32)
      · rw [if_pos h18]
        obtain ⟨r, s1, s3, e1, e2, hJ2⟩ := H_plan _ s2 hJ
        rw [e1]
        simp only [bd_ok]
        rw [e2]
        simp only [bd_ok, if_true]
        exact go s3 hJ2
      rw [if_neg h18]
      by_cases h19 : w = (19 : Int32)
      · rw [if_pos h19]
        obtain ⟨r, s1, s3, e1, e2, hJ2⟩ := H_planned _ _ _ s2 hJ
        rw [e1]
        simp only [bd_ok]
        rw [e2]
        simp only [bd_ok, if_true]
        exact go s3 hJ2
      rw [if_neg h19]
      by_cases h20 : w = (20 : Int32)
      · rw [if_pos h20]
        obtain ⟨r, s1, s3, e1, e2, hJ2⟩ := H_least _ s2 hJ
        rw [e1]
        simp only [bd_ok]
        rw [e2]
        simp only [bd_ok, if_true]
        exact go s3 hJ2
      rw [if_neg h20]
      by_cases h21 : w = (21 : Int32)
      · rw [if_pos h21]
        obtain ⟨r, s1, s3, e1, e2, hJ2⟩ := H_depth _ s2 hJ
        rw [e1]
        simp only [bd_ok]
        rw [e2]
        simp only [bd_ok, if_true]
        exact go s3 hJ2
      rw [if_neg h21]
      by_cases h22 : w = (22 : Int32)
      · rw [if_pos h22]
        obtain ⟨r, s1, s3, e1, e2, hJ2⟩ := H_units _ s2 hJ
        rw [e1]
        simp only [bd_ok]
        rw [e2]
        simp only [bd_ok, if_true]
        exact go s3 hJ2
      rw [if_neg h22]
      by_cases h23 : w = (23 : Int32)
      · rw [if_pos h23]
        obtain ⟨r, s1, s3, e1, e2, hJ2⟩ := H_stands s2 hJ
        rw [e1]
        simp only [bd_ok]
        rw [e2]
        simp only [bd_ok, if_true]
        exact go s3 hJ2
      rw [if_neg h23]
      by_cases h24 : w = (24 : Int32)
      · rw [if_pos h24]
        obtain ⟨r, s1, s3, e1, e2, hJ2⟩ := H_key _ _ s2 hJ
        rw [e1]
        simp only [bd_ok]
        rw [e2]
        simp only [bd_ok, if_true]
        exact go s3 hJ2
      rw [if_neg h24]
      by_cases h25 : w = (25 : Int32)
      · rw [if_pos h25]
        obtain ⟨r, s1, s3, e1, e2, hJ2⟩ := H_keys _ s2 hJ
        rw [e1]
        simp only [bd_ok]
        rw [e2]
        simp only [bd_ok, if_true]
        exact go s3 hJ2
      rw [if_neg h25]
      by_cases h26 : w = (26 : Int32)
      · rw [if_pos h26]
        obtain ⟨r, s1, s3, e1, e2, hJ2⟩ := H_about _ s2 hJ
        rw [e1]
        simp only [bd_ok]
        rw [e2]
        simp only [bd_ok, if_true]
        exact go s3 hJ2
      rw [if_neg h26]
      by_cases h27 : w = (27 : Int32)
      · rw [if_pos h27]
        obtain ⟨r, s1, s3, e1, e2, hJ2⟩ := H_forecast _ _ s2 hJ
        rw [e1]
        simp only [bd_ok]
        rw [e2]
        simp only [bd_ok, if_true]
        exact go s3 hJ2
      rw [if_neg h27]
      by_cases h28 : w = (28 : Int32)
      · rw [if_pos h28]
        obtain ⟨r, s1, s3, e1, e2, hJ2⟩ := H_needs _ s2 hJ
        rw [e1]
        simp only [bd_ok]
        rw [e2]
        simp only [bd_ok, if_true]
        exact go s3 hJ2
      rw [if_neg h28]
      by_cases h29 : w = (29 : Int32)
      · rw [if_pos h29]
        obtain ⟨r, s1, s3, e1, e2, hJ2⟩ := H_undo s2 hJ
        rw [e1]
        simp only [bd_ok]
        rw [e2]
        simp only [bd_ok, if_true]
        exact go s3 hJ2
      rw [if_neg h29]
      by_cases h30 : w = (30 : Int32)
      · rw [if_pos h30]
        obtain ⟨r, s1, s3, e1, e2, hJ2⟩ := H_keep _ s2 hJ
        rw [e1]
        simp only [bd_ok]
        rw [e2]
        simp only [bd_ok, if_true]
        exact go s3 hJ2
      rw [if_neg h30]
      by_cases h31 : w = (31 : Int32)
      · rw [if_pos h31]
        obtain ⟨r, s1, s3, e1, e2, hJ2⟩ := H_back _ s2 hJ
        rw [e1]
        simp only [bd_ok]
        rw [e2]
        simp only [bd_ok, if_true]
        exact go s3 hJ2
      rw [if_neg h31]
      by_cases h32 : w = (32 : Int32)
      · rw [if_pos h32]
        obtain ⟨r, s1, s3, e1, e2, hJ2⟩ := H_count _ s2 hJ
        rw [e1]
        simp only [bd_ok]
        rw [e2]
        simp only [bd_ok, if_true]
        exact go s3 hJ2
      rw [if_neg h32]
      exact go s2 hJ
end
section
/-! leaves: one row of a tape, small readers of the reference -/
def bI : Bool → Int32
  | true => 1
  | false => 0
theorem cl0_ : (0 : Int32).toNatClampNeg = 0 := by decide
theorem ck_l {β : Type} {i : Int32} {n : Nat} {k : Option β} (h : 0 ≤ i ∧ i.toNatClampNeg < n) : ck i n k = k := by unfold ck; rw [if_pos h]
theorem sub_n {a b : Nat} (h : b ≤ a) : nI a - nI b = nI (a - b) := pk_sub h
theorem ss_ok {β : Type} {x : Sg} {f : Sg → Option β} : ss x f = f x := rfl
theorem lt_ok {α β : Type} {x : α} {f : α → Option β} : lt x f = f x := rfl
theorem fx_1 {α β : Type} {F : (α → Option β) → α → Option β} {n : Nat} {a : α} : fx F (n + 1) a = F (fx F n) a := rfl
theorem tape_size {E : En} {a : Nat} {σ : Sg} (h : LTape E a) {lo hi : Nat} (h1 : gi σ a 1 = nI lo) (h2 : gi σ a 2 = nI hi) (hle : lo ≤ hi) : fX5_size E a σ = some (nI (hi - lo), σ) := by
  unfold fX5_size
  rw [tk_ok h.1, h1, h2, sub_n hle]
theorem tape_wipe {E : En} {a : Nat} {σ : Sg} (h : LTape E a) : fX5_wipe E a σ = some (si (si σ a 1 0) a 2 0) := by
  unfold fX5_wipe
  rw [tk_ok h.1]
  rfl
theorem tape_at {E : En} {a : Nat} {σ : Sg} (h : LTape E a) {lo hi k : Nat} (b : Bool) (h1 : gi σ a 1 = nI lo) (h2 : gi σ a 2 = nI hi) (hle : lo ≤ hi) (hhi : hi ≤ 256) (hk : k < 2 ^ 30) : fX5_at E a (nI k) (bI b) σ = some (if k < hi - lo then gi σ (a + 1) (if b then hi - 1 - k else lo + k) else -2, σ) := by
  unfold fX5_at
  rw [tk_ok h.1, if_neg (nI_pos (by omega)), tape_size h h1 h2 hle, bd_ok]
  by_cases hc : k < hi - lo
  · rw [if_pos (nI_lt hc (by omega)), if_pos hc, dr_ok h.2.1 h.2.2.1]
    cases b with
    | false =>
      rw [if_pos (show bI false = 0 from rfl), bd_ok, h1, nI_add, h.2.2.2, ck_n (by omega) (by omega), nI_clamp (by omega)]
      rfl
    | true =>
      rw [if_neg (show ¬ bI true = 0 by decide), bd_ok, h2, show (1 : Int32) = nI 1 from rfl, sub_n (by omega), sub_n (by omega), h.2.2.2, ck_n (by omega) (by omega), nI_clamp (by omega)]
      rfl
  · rw [if_neg (nI_nlt (by omega) (by omega)), if_neg hc]
theorem tape_write {E : En} {a : Nat} {σ : Sg} (h : LTape E a) {hi : Nat} {v : Int32} (h2 : gi σ a 2 = nI hi) (hhi : hi < 256) : fX5_write E a v σ = some (si (si σ (a + 1) hi v) a 2 (nI (hi + 1))) := by
  unfold fX5_write
  rw [tk_ok h.1, h2, show (256 : Int32) = nI 256 from rfl, if_neg (nI_ge hhi (by omega)), dr_ok h.2.1 h.2.2.1, h.2.2.2, ck_n (by omega) (by omega), nI_clamp (by omega)]
  rw [ss_ok, ss_ok, gi_si, if_neg (by omega), h2, ad1, bd_ok]
theorem tape_drop {E : En} {a : Nat} {σ : Sg} (h : LTape E a) {lo hi : Nat} (b : Bool) (h1 : gi σ a 1 = nI lo) (h2 : gi σ a 2 = nI hi) (hlt : lo < hi) (hhi : hi ≤ 256) :
    ∃ σ', fX5_drop E a (bI b) σ = some σ' ∧ (∀ x j, x ≠ a → gi σ' x j = gi σ x j) ∧ (∀ x j, gl σ' x j = gl σ x j) ∧ (∀ j, j ≠ 1 → j ≠ 2 → gi σ' a j = gi σ a j) ∧
      gi σ' a 1 = nI (if hi - lo = 1 then 0 else if b then lo else lo + 1) ∧ gi σ' a 2 = nI (if hi - lo = 1 then 0 else if b then hi - 1 else hi) := by
  unfold fX5_drop
  rw [tk_ok h.1, h1, h2, if_pos (nI_lt hlt (by omega))]
  cases b with
  | false =>
    rw [if_pos (show bI false = 0 from rfl)]
    unfold ss
    rw [bd_ok, ad1]
    have e1 : gi (si σ a 1 (nI (lo + 1))) a 1 = nI (lo + 1) := by rw [gi_si, if_pos ⟨rfl, rfl⟩]
    have e2 : gi (si σ a 1 (nI (lo + 1))) a 2 = nI hi := by rw [gi_si, if_neg (by omega), h2]
    rw [e1, e2]
    by_cases hc : hi - lo = 1
    · rw [if_neg (fun q => q (by rw [show lo + 1 = hi by omega])), tape_wipe h, bv_ok, bd_ok]
      refine ⟨_, rfl, fun x j hx => ?_, fun x j => rfl, fun j h1 h2 => ?_, ?_, ?_⟩
      · simp [gi_si, hx]
      · simp [gi_si, h1, h2]
      · simp [gi_si, hc]; rfl
      · simp [gi_si, hc]; rfl
    · rw [if_pos (fun q => absurd ((nI_eq (by omega) (by omega)).mp q) (by omega)), bd_ok]
      refine ⟨_, rfl, fun x j hx => ?_, fun x j => rfl, fun j h1 h2 => ?_, ?_, ?_⟩
      · simp [gi_si, hx]
      · simp [gi_si, h1]
      · simp [gi_si, hc]
      · simp [gi_si, hc, h2]
  | true =>
    rw [if_neg (show ¬ bI true = 0 by decide)]
    unfold ss
    rw [show (1 : Int32) = nI 1 from rfl, sub_n (by omega), bd_ok]
    have e1 : gi (si σ a 2 (nI (hi - 1))) a 1 = nI lo := by rw [gi_si, if_neg (by omega), h1]
    have e2 : gi (si σ a 2 (nI (hi - 1))) a 2 = nI (hi - 1) := by rw [gi_si, if_pos ⟨rfl, rfl⟩]
    rw [e1, e2]
    by_cases hc : hi - lo = 1
    · rw [if_neg (fun q => q (by rw [show hi - 1 = lo by omega])), tape_wipe h, bv_ok, bd_ok]
      refine ⟨_, rfl, fun x j hx => ?_, fun x j => rfl, fun j h1 h2 => ?_, ?_, ?_⟩
      · simp [gi_si, hx]
      · simp [gi_si, h1, h2]
      · simp [gi_si, hc]; rfl
      · simp [gi_si, hc]; rfl
    · rw [if_pos (fun q => absurd ((nI_eq (by omega) (by omega)).mp q) (by omega)), bd_ok]
      refine ⟨_, rfl, fun x j hx => ?_, fun x j => rfl, fun j h1 h2 => ?_, ?_, ?_⟩
      · simp [gi_si, hx]
      · simp [gi_si, h2]
      · simp [gi_si, hc, h1]
      · simp [gi_si, hc]
end
section
def bt (x : Int32) (i : Nat) : Bool := x.toBitVec.getLsbD i
theorem b_ext {x y : Int32} (h : ∀ i, i < 32 → bt x i = bt y i) : x = y := Int32.toBitVec_inj.mp (BitVec.eq_of_getLsbD_eq (fun i hi => h i hi))
theorem b_and (x y : Int32) (i : Nat) : bt (x &&& y) i = (bt x i && bt y i) := by unfold bt; rw [Int32.toBitVec_and, BitVec.getLsbD_and]
theorem b_big {x : Int32} {i : Nat} (h : 32 ≤ i) : bt x i = false := BitVec.getLsbD_of_ge _ _ h
theorem b_255 (i : Nat) : bt 255 i = decide (i < 8) := by
  rcases Nat.lt_or_ge i 32 with h | h
  · exact (by decide +kernel : ∀ i, i < 32 → bt 255 i = decide (i < 8)) i h
  · rw [b_big h, decide_eq_false (by omega)]
theorem s_l : ∀ n, n < 32 → ((nI n &&& 31).toBitVec.smod 32).toNat = n := by decide +kernel
theorem s_u : ∀ n, n < 32 → (((nI n).toUInt32 &&& Int32.toUInt32 31).toBitVec % 32).toNat = n := by decide +kernel
theorem b_ushr (n : Nat) (hn : n < 32) (x : Int32) (i : Nat) : bt ((x.toUInt32 >>> ((nI n).toUInt32 &&& Int32.toUInt32 31)).toInt32) i = bt x (n + i) := by
  show (x.toUInt32 >>> ((nI n).toUInt32 &&& Int32.toUInt32 31)).toBitVec.getLsbD i = x.toUInt32.toBitVec.getLsbD (n + i)
  rw [UInt32.toBitVec_shiftRight]
  show (x.toUInt32.toBitVec >>> (((nI n).toUInt32 &&& Int32.toUInt32 31).toBitVec % 32).toNat).getLsbD i = _
  rw [s_u n hn, BitVec.getLsbD_ushiftRight]
theorem b_sshr (n : Nat) (hn : n < 32) (x : Int32) {i : Nat} (hi : i < 32) : bt (x >>> (nI n &&& 31)) i = if n + i < 32 then bt x (n + i) else bt x 31 := by
  unfold bt
  rw [Int32.toBitVec_shiftRight]
  show (x.toBitVec.sshiftRight ((nI n &&& 31).toBitVec.smod 32).toNat).getLsbD i = _
  rw [s_l n hn, BitVec.getLsbD_sshiftRight, BitVec.msb_eq_getLsbD_last]
  simp [hi]
theorem bp_b (x : Int32) : x.toInt8.toInt32 &&& 255 = x &&& 255 := by
  apply Int32.toBitVec_inj.mp
  rw [Int32.toBitVec_and, Int32.toBitVec_and, Int8.toBitVec_toInt32, Int32.toBitVec_toInt8]
  apply BitVec.eq_of_getLsbD_eq
  intro i hi
  rw [BitVec.getLsbD_and, BitVec.getLsbD_and]
  have hm : ∀ i < 32, 8 ≤ i → (255 : Int32).toBitVec.getLsbD i = false := by decide
  rcases Nat.lt_or_ge i 8 with z | z
  · rw [BitVec.getLsbD_signExtend, BitVec.getLsbD_signExtend, if_pos z, if_pos hi]
    simp only [z, hi, decide_true, Bool.true_and]
  · rw [hm i hi z]; simp
theorem by_eq (a : Int32) {n : Nat} (h : n ≤ 24) : (a >>> (nI n &&& 31)).toInt8.toInt32 &&& 255 = iu a (nI n) &&& 255 := by
  rw [bp_b]
  apply b_ext
  intro i hi
  rw [b_and, b_and, b_255]
  unfold iu
  rw [b_ushr n (by omega), b_sshr n (by omega) a hi]
  by_cases h8 : i < 8
  · rw [if_pos (by omega)]
  · rw [decide_eq_false h8, Bool.and_false, Bool.and_false]
theorem by_rng (x : Int32) : ∃ j : Nat, j < 256 ∧ x &&& 255 = nI j := by
  obtain ⟨j, h1, h2⟩ := pk_andE x (m := 255) 8 (by decide)
  exact ⟨j, by simpa using h1, h2⟩
theorem by_nar (x : Int32) : vp_nar .byte (x.toInt8.toInt32) = x.toInt8.toInt32 := pk_vb x
end
section
/-! the bond between class and reference -/
def lc (σ : Sg) (b : Nat) : Nat → Nat → Int32 := fun x k => if x < 33 then gi σ (b + x) k else 0
def rw7 (σ : Sg) (a off : Nat) : Nat → Int32 := fun j => if j < 7827 then gi σ a (off + j) else 0
/-- a state on paper: keys, how many, settings, stage, steps so far -/
abbrev Cu : Type := (Nat → Nat) × Nat × (Nat → Nat) × Nat × Nat
abbrev cF (c : Cu) : Nat → Nat := c.1
abbrev cN (c : Cu) : Nat := c.2.1
abbrev cS (c : Cu) : Nat → Nat := c.2.2.1
abbrev cT (c : Cu) : Nat := c.2.2.2.1
abbrev cI (c : Cu) : Nat := c.2.2.2.2
def insR (f : Nat → Nat) (n : Nat) : List Nat → List Nat
  | [] => [n]
  | a :: l => if f n < f a then n :: a :: l else a :: insR f n l
/-- the records in rising order -/
def rs (f : Nat → Nat) : Nat → List Nat
  | 0 => []
  | n + 1 => insR f n (rs f n)
def gtC (f : Nat → Nat) (k : Nat) : Nat → Nat
  | 0 => 0
  | n + 1 => gtC f k n + (if k < f n then 1 else 0)
/-- how many inversions -/
def inv (f : Nat → Nat) : Nat → Nat
  | 0 => 0
  | n + 1 => inv f n + gtC f (f n) n
def stL (j : Nat) : Nat := match j with
  | 0 => 2 | 1 => 3 | _ => 0
def stH (j : Nat) : Nat := match j with
  | 0 => 16 | 1 => 6 | 2 => 2 | _ => 1
def Wf (c : Cu) : Prop := cN c ≤ 300 ∧ (∀ i, i < cN c → cF c i < 256) ∧ (∀ j, j < 6 → stL j ≤ cS c j ∧ cS c j ≤ stH j) ∧ cT c ≤ 3 ∧ (1 ≤ cT c → 0 < cN c) ∧ (2 ≤ cT c → cS c 2 ≠ 1 ∨ 3 < cS c 1)
/-- the class's state, by the cells of one State; CG, CM: what is grown, what is on the tapes -/
def CS (CG CM : (Nat → Nat → Int32) → Cu → Prop) (l : Nat → Nat → Int32) (c : Cu) : Prop :=
  l 1 2 = nI (cN c) ∧ (∀ i, i < cN c → l 2 i = nI (cF c i)) ∧ (∀ i, i < cN c → l 3 i = nI ((rs (cF c) (cN c)).getD i 0)) ∧ l 1 3 = nI (inv (cF c) (cN c)) ∧ (∀ j, j < 6 → l 4 j = nI (cS c j)) ∧ l 0 2 = nI (cT c) ∧ (1 ≤ cT c → CG l c) ∧ (2 ≤ cT c → CM l c)
/-- the reference's state, by one row of numbers -/
def MR (MG MM : (Nat → Int32) → Cu → Prop) (r : Nat → Int32) (c : Cu) (x : Nat) : Prop :=
  r 0 = nI (cN c) ∧ (∀ i, i < cN c → r (26 + i) = nI (cF c i)) ∧ (∀ j, j < 6 → r (1 + j) = nI (cS c j)) ∧ r 7 = nI (cT c) ∧ r 8 = nI x ∧ (1 ≤ cT c → MG r c) ∧ (2 ≤ cT c → MM r c)
abbrev Ab : Type := (Nat → Nat) × Nat × Cu × Nat × List (Cu × Nat) × (Nat → Option (Cu × Nat))
abbrev aB (a : Ab) : Nat → Nat := a.1
abbrev aN (a : Ab) : Nat := a.2.1
abbrev aC (a : Ab) : Cu := a.2.2.1
abbrev aX (a : Ab) : Nat := a.2.2.2.1
abbrev aH (a : Ab) : List (Cu × Nat) := a.2.2.2.2.1
abbrev aS (a : Ab) : Nat → Option (Cu × Nat) := a.2.2.2.2.2
/-- what can be undone (the last first), the shelves: in the class, in the reference -/
def HC (CG CM : (Nat → Nat → Int32) → Cu → Prop) (σ : Sg) (h : List (Cu × Nat)) : Prop := gi σ 0 6 = nI h.length ∧ ∃ p, p < 8 ∧ gi σ 0 7 = nI p ∧ ∀ i q, h[i]? = some q → CS CG CM (lc σ (65 + 33 * ((p + 15 - i) % 8))) q.1 ∧ gi σ 36 ((p + 15 - i) % 8) = nI q.2
def SC (CG CM : (Nat → Nat → Int32) → Cu → Prop) (σ : Sg) (s : Nat → Option (Cu × Nat)) : Prop := ∀ i, i < 2 → gi σ 38 i = bI (s i).isSome ∧ ∀ q, s i = some q → CS CG CM (lc σ (329 + 33 * i)) q.1
def HM (MG MM : (Nat → Int32) → Cu → Prop) (σ : Sg) (h : List (Cu × Nat)) : Prop := gi σ 395 4 = nI h.length ∧ ∀ i q, h[i]? = some q → MR MG MM (rw7 σ 398 (7827 * (h.length - 1 - i))) q.1 q.2
def SM (MG MM : (Nat → Int32) → Cu → Prop) (σ : Sg) (s : Nat → Option (Cu × Nat)) : Prop := ∃ w : Nat, w < 4 ∧ gi σ 395 5 = nI w ∧ ∀ i, i < 2 → w.testBit i = (s i).isSome ∧ ∀ q, s i = some q → MR MG MM (rw7 σ 399 (7827 * i)) q.1 q.2
def RC (CG CM : (Nat → Nat → Int32) → Cu → Prop) (σ : Sg) (a : Ab) : Prop := gi σ 0 1 = nI (aN a) ∧ (∀ i, i < aN a → gi σ 1 i = nI (aB a i)) ∧ gi σ 0 2 = nI (aX a) ∧ CS CG CM (lc σ 2) (aC a) ∧ HC CG CM σ (aH a) ∧ SC CG CM σ (aS a)
def RM (MG MM : (Nat → Int32) → Cu → Prop) (σ : Sg) (a : Ab) : Prop := gi σ 395 7 = nI (aN a) ∧ (∀ i, i < aN a → gi σ 400 i &&& 255 = nI (aB a i)) ∧ MR MG MM (rw7 σ 396 0) (aC a) (aX a) ∧ HM MG MM σ (aH a) ∧ SM MG MM σ (aS a)
def Wfa (a : Ab) : Prop := aN a ≤ 200 ∧ (∀ i, i < aN a → aB a i < 256) ∧ Wf (aC a) ∧ aX a < 2 ^ 31 ∧ (aH a).length ≤ 8 ∧ (∀ q ∈ aH a, Wf q.1 ∧ q.2 < 2 ^ 31) ∧ ∀ i q, aS a i = some q → Wf q.1
def JJ (CG CM : (Nat → Nat → Int32) → Cu → Prop) (MG MM : (Nat → Int32) → Cu → Prop) (σ : Sg) : Prop := ∃ a, Wfa a ∧ RC CG CM σ a ∧ RM MG MM σ a
/-- a call answers r and leads from a to a' -/
def SpC (CG CM : (Nat → Nat → Int32) → Cu → Prop) (f : Sg → Option (Int32 × Sg)) (r : Int32) (a a' : Ab) : Prop := ∀ σ, RC CG CM σ a → ∃ s, f σ = some (r, s) ∧ RC CG CM s a' ∧ ∀ x k, 395 ≤ x → gi s x k = gi σ x k
def SpM (MG MM : (Nat → Int32) → Cu → Prop) (f : Sg → Option (Int32 × Sg)) (r : Int32) (a a' : Ab) : Prop := ∀ σ, RM MG MM σ a → ∃ s, f σ = some (r, s) ∧ RM MG MM s a' ∧ ∀ x k, x < 395 → gi s x k = gi σ x k
theorem gs_ne {σ : Sg} {a k b j : Nat} {v : Int32} (h : b ≠ a ∨ j ≠ k) : gi (si σ a k v) b j = gi σ b j := by rw [gi_si, if_neg (by omega)]
theorem gs_eq {σ : Sg} {a k : Nat} {v : Int32} : gi (si σ a k v) a k = v := by rw [gi_si, if_pos ⟨rfl, rfl⟩]
theorem lc_same {σ σ' : Sg} {b : Nat} (h : ∀ x k, b ≤ x → x < b + 33 → gi σ' x k = gi σ x k) : lc σ' b = lc σ b := by
  funext x k
  unfold lc
  split
  · exact h _ _ (by omega) (by omega)
  · rfl
theorem rw_same {σ σ' : Sg} {a off : Nat} (h : ∀ k, gi σ' a k = gi σ a k) : rw7 σ' a off = rw7 σ a off := by
  funext k
  unfold rw7
  split
  · exact h _
  · rfl
section BD
variable {CG CM : (Nat → Nat → Int32) → Cu → Prop} {MG MM : (Nat → Int32) → Cu → Prop} {σ σ' : Sg} {h : List (Cu × Nat)} {s : Nat → Option (Cu × Nat)} {a a' : Ab}
theorem hc_same (H : HC CG CM σ h) (h1 : gi σ' 0 6 = gi σ 0 6) (h2 : gi σ' 0 7 = gi σ 0 7) (h4 : ∀ k, gi σ' 36 k = gi σ 36 k) (h5 : ∀ x k, 65 ≤ x → x < 329 → gi σ' x k = gi σ x k) : HC CG CM σ' h := by
  obtain ⟨a2, p, hp, a4, a5⟩ := H
  refine ⟨h1.trans a2, p, hp, h2.trans a4, fun i q hq => ?_⟩
  obtain ⟨b3, b4⟩ := a5 i q hq
  refine ⟨?_, (h4 _).trans b4⟩
  rw [lc_same (fun x k g1 g2 => h5 x k (by omega) (by omega))]
  exact b3
theorem sc_same (H : SC CG CM σ s) (h2 : ∀ k, gi σ' 38 k = gi σ 38 k) (h5 : ∀ x k, 329 ≤ x → x < 395 → gi σ' x k = gi σ x k) : SC CG CM σ' s := by
  intro i hi
  obtain ⟨b1, b3⟩ := H i hi
  refine ⟨(h2 i).trans b1, fun q hq => ?_⟩
  rw [lc_same (fun x k g1 g2 => h5 x k (by omega) (by omega))]
  exact b3 q hq
theorem hm_same (H : HM MG MM σ h) (h3 : gi σ' 395 4 = gi σ 395 4) (h6 : ∀ k, gi σ' 398 k = gi σ 398 k) : HM MG MM σ' h := ⟨h3.trans H.1, fun i q hq => by rw [rw_same h6]; exact H.2 i q hq⟩
theorem sm_same (H : SM MG MM σ s) (h1 : gi σ' 395 5 = gi σ 395 5) (h6 : ∀ k, gi σ' 399 k = gi σ 399 k) : SM MG MM σ' s := by
  obtain ⟨w, hw, a1, a2⟩ := H
  exact ⟨w, hw, h1.trans a1, fun i hi => ⟨(a2 i hi).1, fun q hq => by rw [rw_same h6]; exact (a2 i hi).2 q hq⟩⟩
/-- cells that the bond speaks of -/
def esC (x k : Nat) : Prop := (x = 0 ∧ (k = 1 ∨ k = 2 ∨ k = 6 ∨ k = 7)) ∨ x = 1 ∨ (2 ≤ x ∧ x < 35) ∨ x = 36 ∨ x = 38 ∨ (65 ≤ x ∧ x < 395)
def esM (x k : Nat) : Prop := (x = 395 ∧ (k = 4 ∨ k = 5 ∨ k = 7)) ∨ x = 396 ∨ x = 398 ∨ x = 399 ∨ x = 400
theorem rc_same (H : RC CG CM σ a) (h : ∀ x k, esC x k → gi σ' x k = gi σ x k) : RC CG CM σ' a := by
  obtain ⟨h1, h2, h3, h4, h5, h6⟩ := H
  refine ⟨(h 0 1 (by unfold esC; omega)).trans h1, fun i hi => (h 1 i (by unfold esC; omega)).trans (h2 i hi), (h 0 2 (by unfold esC; omega)).trans h3, ?_, ?_, ?_⟩
  · rw [lc_same (σ := σ) (fun x k g1 g2 => h x k (by unfold esC; omega))]; exact h4
  · exact hc_same h5 (h _ _ (by unfold esC; omega)) (h _ _ (by unfold esC; omega)) (fun k => h _ _ (by unfold esC; omega)) (fun x k g1 g2 => h _ _ (by unfold esC; omega))
  · exact sc_same h6 (fun k => h _ _ (by unfold esC; omega)) (fun x k g1 g2 => h _ _ (by unfold esC; omega))
theorem rm_same (H : RM MG MM σ a) (h : ∀ x k, esM x k → gi σ' x k = gi σ x k) : RM MG MM σ' a := by
  obtain ⟨h1, h2, h3, h4, h5⟩ := H
  refine ⟨(h _ _ (by unfold esM; omega)).trans h1, fun i hi => by rw [h 400 i (by unfold esM; omega)]; exact h2 i hi, ?_, ?_, ?_⟩
  · rw [rw_same (σ := σ) (fun k => h 396 k (by unfold esM; omega))]; exact h3
  · exact hm_same h4 (h _ _ (by unfold esM; omega)) (fun k => h _ _ (by unfold esM; omega))
  · exact sm_same h5 (h _ _ (by unfold esM; omega)) (fun k => h _ _ (by unfold esM; omega))
theorem ok_of {f g : Sg → Option (Int32 × Sg)} (H : ∀ a, Wfa a → ∃ r a', Wfa a' ∧ SpC CG CM f r a a' ∧ SpM MG MM g r a a') : Ok (JJ CG CM MG MM) f g := by
  rintro σ ⟨a, hw, hc, hm⟩
  obtain ⟨r, a', hw', h1, h2⟩ := H a hw
  obtain ⟨s1, e1, c1, f1⟩ := h1 σ hc
  obtain ⟨s2, e2, c2, f2⟩ := h2 s1 (rm_same hm (fun x k he => f1 x k (by unfold esM at he; omega)))
  exact ⟨r, s1, s2, e1, e2, a', hw', rc_same c1 (fun x k he => f2 x k (by unfold esC at he; omega)), c2⟩
/-- a call that only looks, and writes beside -/
theorem spc_q {f : Sg → Option (Int32 × Sg)} {r : Int32} (H : ∀ σ, RC CG CM σ a → ∃ s, f σ = some (r, s) ∧ (∀ x k, esC x k → gi s x k = gi σ x k) ∧ ∀ x k, 395 ≤ x → gi s x k = gi σ x k) : SpC CG CM f r a a := by
  intro σ hc
  obtain ⟨s, e, h1, h2⟩ := H σ hc
  exact ⟨s, e, rc_same hc h1, h2⟩
theorem spm_q {f : Sg → Option (Int32 × Sg)} {r : Int32} (H : ∀ σ, RM MG MM σ a → ∃ s, f σ = some (r, s) ∧ (∀ x k, esM x k → gi s x k = gi σ x k) ∧ ∀ x k, x < 395 → gi s x k = gi σ x k) : SpM MG MM f r a a := by
  intro σ hc
  obtain ⟨s, e, h1, h2⟩ := H σ hc
  exact ⟨s, e, rm_same hc h1, h2⟩
theorem ok_end {E : En} (hR : LRun E) (hM : LMod E) (p0 : Int32) : Ok (JJ CG CM MG MM) (fX6_end E 0 p0) (fX7_end E 395 p0) := by
  refine ok_of (fun a hw => ?_)
  by_cases h1 : p0 < 0
  · refine ⟨-1, a, hw, spc_q (fun σ hc => ⟨σ, ?_, fun _ _ _ => rfl, fun _ _ _ => rfl⟩), spm_q (fun σ hc => ⟨σ, ?_, fun _ _ _ => rfl, fun _ _ _ => rfl⟩)⟩
    · unfold fX6_end; rw [tk_ok hR.1, if_pos h1]
    · unfold fX7_end; rw [tk_ok hM.1, if_pos h1]
  obtain ⟨j, hj, rfl⟩ := nI_of h1
  by_cases h2 : j ≤ aN a
  · have hn := hw.1
    refine ⟨nI j, (aB a, j, a.2.2), ⟨Nat.le_trans h2 hn, fun i hi => hw.2.1 i (Nat.lt_of_lt_of_le hi h2), hw.2.2⟩, fun σ hc => ⟨si σ 0 1 (nI j), ?_, ⟨gs_eq, fun i hi => ?_, ?_, ?_, ?_, ?_⟩, fun x k hx => gs_ne (by omega)⟩, fun σ hc => ⟨si σ 395 7 (nI j), ?_, ⟨gs_eq, fun i hi => ?_, ?_, ?_, ?_⟩, fun x k hx => gs_ne (by omega)⟩⟩
    · unfold fX6_end; rw [tk_ok hR.1, if_neg h1, hc.1, if_pos (nI_le h2 (by omega)), ss_ok]
    · rw [gs_ne (by omega)]; exact hc.2.1 i (Nat.lt_of_lt_of_le hi h2)
    · rw [gs_ne (by omega)]; exact hc.2.2.1
    · rw [lc_same (σ := σ) (fun x k g1 g2 => gs_ne (by omega))]; exact hc.2.2.2.1
    · exact hc_same hc.2.2.2.2.1 (gs_ne (by omega)) (gs_ne (by omega)) (fun k => gs_ne (by omega)) (fun x k g1 g2 => gs_ne (by omega))
    · exact sc_same hc.2.2.2.2.2 (fun k => gs_ne (by omega)) (fun x k g1 g2 => gs_ne (by omega))
    · unfold fX7_end; rw [tk_ok hM.1, if_neg h1, hc.1, if_pos (nI_le h2 (by omega)), ss_ok]
    · rw [gs_ne (by omega)]; exact hc.2.1 i (Nat.lt_of_lt_of_le hi h2)
    · rw [rw_same (σ := σ) (fun k => gs_ne (by omega))]; exact hc.2.2.1
    · exact hm_same hc.2.2.2.1 (gs_ne (by omega)) (fun k => gs_ne (by omega))
    · exact sm_same hc.2.2.2.2 (gs_ne (by omega)) (fun k => gs_ne (by omega))
  · have hn := hw.1
    have h3 : ¬ nI j ≤ nI (aN a) := fun q => h2 ((nI_leI hj (by omega)).mp q)
    refine ⟨-1, a, hw, spc_q (fun σ hc => ⟨σ, ?_, fun _ _ _ => rfl, fun _ _ _ => rfl⟩), spm_q (fun σ hc => ⟨σ, ?_, fun _ _ _ => rfl, fun _ _ _ => rfl⟩)⟩
    · unfold fX6_end; rw [tk_ok hR.1, if_neg h1, hc.1, if_neg h3]
    · unfold fX7_end; rw [tk_ok hM.1, if_neg h1, hc.1, if_neg h3]
theorem ok_draws {E : En} (hR : LRun E) (hM : LMod E) (hM2 : LMo2 E) (hmx : ∀ r r' c, (∀ j, j ≠ 8 → r' j = r j) → (MG r c → MG r' c) ∧ (MM r c → MM r' c)) (p0 : Int32) : Ok (JJ CG CM MG MM) (fX6_draws E 0 p0) (fX7_draws E 395 p0) := by
  refine ok_of (fun a hw => ?_)
  by_cases h1 : 0 ≤ p0
  · obtain ⟨j, hj, rfl⟩ := nI_of (Int32.not_lt.mpr h1)
    refine ⟨nI (aX a), (aB a, aN a, aC a, j, a.2.2.2.2), ⟨hw.1, hw.2.1, hw.2.2.1, hj, hw.2.2.2.2⟩, fun σ hc => ⟨si σ 0 2 (nI j), ?_, ⟨?_, fun i hi => ?_, gs_eq, ?_, ?_, ?_⟩, fun x k hx => gs_ne (by omega)⟩, fun σ hc => ⟨si σ 396 8 (nI j), ?_, ⟨?_, fun i hi => ?_, ?_, ?_, ?_⟩, fun x k hx => gs_ne (by omega)⟩⟩
    · unfold fX6_draws; rw [tk_ok hR.1, if_pos h1, lt_ok, ss_ok, hc.2.2.1]
    · rw [gs_ne (by omega)]; exact hc.1
    · rw [gs_ne (by omega)]; exact hc.2.1 i hi
    · rw [lc_same (σ := σ) (fun x k g1 g2 => gs_ne (by omega))]; exact hc.2.2.2.1
    · exact hc_same hc.2.2.2.2.1 (gs_ne (by omega)) (gs_ne (by omega)) (fun k => gs_ne (by omega)) (fun x k g1 g2 => gs_ne (by omega))
    · exact sc_same hc.2.2.2.2.2 (fun k => gs_ne (by omega)) (fun x k g1 g2 => gs_ne (by omega))
    · have hm8 : gi σ 396 8 = nI (aX a) := by simpa [rw7] using hc.2.2.1.2.2.2.2.1
      unfold fX7_draws
      rw [tk_ok hM.1, if_pos h1, dr_ok hM.2.1 hM2.1.1, hM2.1.2, show (8 : Int32) = nI 8 from rfl, ck_n (by omega) (by omega), lt_ok, ck_n (by omega) (by omega), ss_ok, nI_clamp (by omega), hm8]
    · rw [gs_ne (by omega)]; exact hc.1
    · rw [gs_ne (by omega)]; exact hc.2.1 i hi
    · obtain ⟨m1, m2, m3, m4, m5, m6, m7⟩ := hc.2.2.1
      have e : ∀ i, i ≠ 8 → rw7 (si σ 396 8 (nI j)) 396 0 i = rw7 σ 396 0 i := by
        intro i hi
        unfold rw7
        rw [gs_ne (by omega)]
      refine ⟨(e 0 (by omega)).trans m1, fun i hi => ?_, fun i hi => ?_, (e 7 (by omega)).trans m4, ?_, fun q => (hmx _ _ (aC a) e).1 (m6 q), fun q => (hmx _ _ (aC a) e).2 (m7 q)⟩
      · rw [e _ (by omega)]; exact m2 i hi
      · rw [e _ (by omega)]; exact m3 i hi
      · simp [rw7, gs_eq]
    · exact hm_same hc.2.2.2.1 (gs_ne (by omega)) (fun k => gs_ne (by omega))
    · exact sm_same hc.2.2.2.2 (gs_ne (by omega)) (fun k => gs_ne (by omega))
  · refine ⟨-1, a, hw, spc_q (fun σ hc => ⟨σ, ?_, fun _ _ _ => rfl, fun _ _ _ => rfl⟩), spm_q (fun σ hc => ⟨σ, ?_, fun _ _ _ => rfl, fun _ _ _ => rfl⟩)⟩
    · unfold fX6_draws; rw [tk_ok hR.1, if_neg h1]
    · unfold fX7_draws; rw [tk_ok hM.1, if_neg h1]
end BD
end
section
theorem tb_1 {E : En} (hR : LRun E) {a : Int32} {rec : Int32 → Sg → Option (Int32 × Sg)} {s n : Nat} {σ : Sg} (hs : s < 2 ^ 31) (h : gi σ 0 1 = nI n) (hn : n < 200) : bX6_takeBytes_3 E 0 a rec (nI s) σ = rec (nI s + (-8)) (si (si σ 1 n (iu a (nI s) &&& 255)) 0 1 (nI (n + 1))) := by
  unfold bX6_takeBytes_3
  rw [if_neg (nI_pos hs), h, show (200 : Int32) = nI 200 from rfl, if_neg (nI_ge hn (by omega)), dr_ok hR.2.1 hR.2.2.2.2.2.2.2.2.2.2.2.1.1, hR.2.2.2.2.2.2.2.2.2.2.2.1.2, ck_n hn (by omega), ss_ok, ss_ok, nI_clamp (by omega), gs_ne (by omega), h, ad1, lt_ok]
theorem pu_1 {E : En} (hM : LMod E) (hM2 : LMo2 E) {a : Int32} {rec : Int32 → Sg → Option (Int32 × Sg)} {s n : Nat} {σ : Sg} (hs : s < 2 ^ 31) (h : gi σ 395 7 = nI n) (hn : n < 200) : bX7_puts_3 E 395 a rec (nI s) σ = rec (nI s + (-8)) (si (si σ 400 n ((a >>> (nI s &&& 31)).toInt8.toInt32)) 395 7 (nI (n + 1))) := by
  unfold bX7_puts_3
  rw [if_neg (nI_pos hs), h, dr_ok hM.2.2.2.2.2.1 hM2.2.2.2.2.1.1, hM2.2.2.2.2.1.2, ck_n hn (by omega), ss_ok, ss_ok, nI_clamp (by omega), gs_ne (by omega), h, ad1, lt_ok, by_nar]
theorem take4 {E : En} (hR : LRun E) {a : Int32} {n : Nat} {σ : Sg} (h : gi σ 0 1 = nI n) (hn : n + 4 ≤ 200) : ∃ σ', fX6_takeBytes E 0 a σ = some σ' ∧ gi σ' 0 1 = nI (n + 4) ∧ (∀ i, i < 4 → gi σ' 1 (n + i) = iu a (nI (24 - 8 * i)) &&& 255) ∧ ∀ x k, ¬ (x = 0 ∧ k = 1) → ¬ (x = 1 ∧ n ≤ k ∧ k < n + 4) → gi σ' x k = gi σ x k := by
  unfold fX6_takeBytes
  rw [tk_ok hR.1, show FU = 999995 + 1 + 1 + 1 + 1 + 1 from rfl, fx_1]
  dsimp only
  rw [show (24 : Int32) = nI 24 from rfl, tb_1 hR (by omega) h (by omega), fx_1]
  dsimp only
  rw [show nI 24 + (-8 : Int32) = nI 16 from by decide, tb_1 hR (by omega) gs_eq (by omega), fx_1]
  dsimp only
  rw [show nI 16 + (-8 : Int32) = nI 8 from by decide, tb_1 hR (by omega) gs_eq (by omega), fx_1]
  dsimp only
  rw [show nI 8 + (-8 : Int32) = nI 0 from by decide, tb_1 hR (by omega) gs_eq (by omega), fx_1]
  dsimp only
  rw [show nI 0 + (-8 : Int32) = -8 from by decide]
  unfold bX6_takeBytes_3
  rw [if_pos (by decide), bd_ok]
  refine ⟨_, rfl, gs_eq, fun i hi => ?_, fun x k h1 h2 => ?_⟩
  · rcases (show i = 0 ∨ i = 1 ∨ i = 2 ∨ i = 3 by omega) with rfl | rfl | rfl | rfl
    · rw [gs_ne (by omega), gs_ne (by omega), gs_ne (by omega), gs_ne (by omega), gs_ne (by omega), gs_ne (by omega), gs_ne (by omega)]; exact gs_eq
    · rw [gs_ne (by omega), gs_ne (by omega), gs_ne (by omega), gs_ne (by omega), gs_ne (by omega)]; exact gs_eq
    · rw [gs_ne (by omega), gs_ne (by omega), gs_ne (by omega)]; exact gs_eq
    · rw [gs_ne (by omega)]; exact gs_eq
  · rw [gs_ne (by omega), gs_ne (by omega), gs_ne (by omega), gs_ne (by omega), gs_ne (by omega), gs_ne (by omega), gs_ne (by omega), gs_ne (by omega)]
theorem put4 {E : En} (hM : LMod E) (hM2 : LMo2 E) {a : Int32} {n : Nat} {σ : Sg} (h : gi σ 395 7 = nI n) (hn : n + 4 ≤ 200) : ∃ σ', fX7_puts E 395 a σ = some σ' ∧ gi σ' 395 7 = nI (n + 4) ∧ (∀ i, i < 4 → gi σ' 400 (n + i) &&& 255 = iu a (nI (24 - 8 * i)) &&& 255) ∧ ∀ x k, ¬ (x = 395 ∧ k = 7) → ¬ (x = 400 ∧ n ≤ k ∧ k < n + 4) → gi σ' x k = gi σ x k := by
  unfold fX7_puts
  rw [tk_ok hM.1, show FU = 999995 + 1 + 1 + 1 + 1 + 1 from rfl, fx_1]
  dsimp only
  rw [show (24 : Int32) = nI 24 from rfl, pu_1 hM hM2 (by omega) h (by omega), fx_1]
  dsimp only
  rw [show nI 24 + (-8 : Int32) = nI 16 from by decide, pu_1 hM hM2 (by omega) gs_eq (by omega), fx_1]
  dsimp only
  rw [show nI 16 + (-8 : Int32) = nI 8 from by decide, pu_1 hM hM2 (by omega) gs_eq (by omega), fx_1]
  dsimp only
  rw [show nI 8 + (-8 : Int32) = nI 0 from by decide, pu_1 hM hM2 (by omega) gs_eq (by omega), fx_1]
  dsimp only
  rw [show nI 0 + (-8 : Int32) = -8 from by decide]
  unfold bX7_puts_3
  rw [if_pos (by decide), bd_ok]
  refine ⟨_, rfl, gs_eq, fun i hi => ?_, fun x k h1 h2 => ?_⟩
  · rcases (show i = 0 ∨ i = 1 ∨ i = 2 ∨ i = 3 by omega) with rfl | rfl | rfl | rfl
    · rw [gs_ne (by omega), gs_ne (by omega), gs_ne (by omega), gs_ne (by omega), gs_ne (by omega), gs_ne (by omega), gs_ne (by omega), Nat.add_zero, gs_eq]; exact by_eq a (by omega)
    · rw [gs_ne (by omega), gs_ne (by omega), gs_ne (by omega), gs_ne (by omega), gs_ne (by omega), gs_eq]; exact by_eq a (by omega)
    · rw [gs_ne (by omega), gs_ne (by omega), gs_ne (by omega), show n + 2 = n + 1 + 1 from rfl, gs_eq]; exact by_eq a (by omega)
    · rw [gs_ne (by omega), show n + 3 = n + 1 + 1 + 1 from rfl, gs_eq]; exact by_eq a (by omega)
  · rw [gs_ne (by omega), gs_ne (by omega), gs_ne (by omega), gs_ne (by omega), gs_ne (by omega), gs_ne (by omega), gs_ne (by omega), gs_ne (by omega)]
/-- the class takes twenty bytes -/
theorem take20 {E : En} (hR : LRun E) {p : Nat → Int32} {n : Nat} {σ : Sg} (h : gi σ 0 1 = nI n) (hn : n + 20 ≤ 200) : ∃ σ', fX6_feed E 0 (p 0) (p 1) (p 2) (p 3) (p 4) σ = some (nI (n + 20), σ') ∧ gi σ' 0 1 = nI (n + 20) ∧ (∀ i, i < 20 → gi σ' 1 (n + i) = iu (p (i / 4)) (nI (24 - 8 * (i % 4))) &&& 255) ∧ ∀ x k, ¬ (x = 0 ∧ k = 1) → ¬ (x = 1 ∧ n ≤ k ∧ k < n + 20) → gi σ' x k = gi σ x k := by
  unfold fX6_feed
  rw [tk_ok hR.1, h, show (20 : Int32) = nI 20 from rfl, nI_add, show (200 : Int32) = nI 200 from rfl, if_pos (nI_le hn (by omega))]
  obtain ⟨s1, e1, a1, b1, c1⟩ := take4 hR (a := p 0) h (by omega)
  obtain ⟨s2, e2, a2, b2, c2⟩ := take4 hR (a := p 1) a1 (by omega)
  obtain ⟨s3, e3, a3, b3, c3⟩ := take4 hR (a := p 2) a2 (by omega)
  obtain ⟨s4, e4, a4, b4, c4⟩ := take4 hR (a := p 3) a3 (by omega)
  obtain ⟨s5, e5, a5, b5, c5⟩ := take4 hR (a := p 4) a4 (by omega)
  rw [e1, bv_ok, e2, bv_ok, e3, bv_ok, e4, bv_ok, e5, bv_ok, a5]
  refine ⟨s5, by rw [show n + 4 + 4 + 4 + 4 + 4 = n + 20 by omega], by rw [a5, show n + 4 + 4 + 4 + 4 + 4 = n + 20 by omega], fun i hi => ?_, fun x k g1 g2 => ?_⟩
  · rcases (show i < 4 ∨ (4 ≤ i ∧ i < 8) ∨ (8 ≤ i ∧ i < 12) ∨ (12 ≤ i ∧ i < 16) ∨ (16 ≤ i ∧ i < 20) by omega) with q | q | q | q | q
    · rw [c5 _ _ (by omega) (by omega), c4 _ _ (by omega) (by omega), c3 _ _ (by omega) (by omega), c2 _ _ (by omega) (by omega), b1 i (by omega), show i / 4 = 0 by omega, show i % 4 = i by omega]
    · rw [c5 _ _ (by omega) (by omega), c4 _ _ (by omega) (by omega), c3 _ _ (by omega) (by omega), show n + i = n + 4 + (i - 4) by omega, b2 (i - 4) (by omega), show i / 4 = 1 by omega, show i % 4 = i - 4 by omega]
    · rw [c5 _ _ (by omega) (by omega), c4 _ _ (by omega) (by omega), show n + i = n + 4 + 4 + (i - 8) by omega, b3 (i - 8) (by omega), show i / 4 = 2 by omega, show i % 4 = i - 8 by omega]
    · rw [c5 _ _ (by omega) (by omega), show n + i = n + 4 + 4 + 4 + (i - 12) by omega, b4 (i - 12) (by omega), show i / 4 = 3 by omega, show i % 4 = i - 12 by omega]
    · rw [show n + i = n + 4 + 4 + 4 + 4 + (i - 16) by omega, b5 (i - 16) (by omega), show i / 4 = 4 by omega, show i % 4 = i - 16 by omega]
  · rw [c5 _ _ g1 (by omega), c4 _ _ g1 (by omega), c3 _ _ g1 (by omega), c2 _ _ g1 (by omega), c1 _ _ g1 (by omega)]
theorem put20 {E : En} (hM : LMod E) (hM2 : LMo2 E) {p : Nat → Int32} {n : Nat} {σ : Sg} (h : gi σ 395 7 = nI n) (hn : n + 20 ≤ 200) : ∃ σ', fX7_feed E 395 (p 0) (p 1) (p 2) (p 3) (p 4) σ = some (nI (n + 20), σ') ∧ gi σ' 395 7 = nI (n + 20) ∧ (∀ i, i < 20 → gi σ' 400 (n + i) &&& 255 = iu (p (i / 4)) (nI (24 - 8 * (i % 4))) &&& 255) ∧ ∀ x k, ¬ (x = 395 ∧ k = 7) → ¬ (x = 400 ∧ n ≤ k ∧ k < n + 20) → gi σ' x k = gi σ x k := by
  unfold fX7_feed
  rw [tk_ok hM.1, h, show (20 : Int32) = nI 20 from rfl, nI_add, show (200 : Int32) = nI 200 from rfl, if_pos (nI_le hn (by omega))]
  obtain ⟨s1, e1, a1, b1, c1⟩ := put4 hM hM2 (a := p 0) h (by omega)
  obtain ⟨s2, e2, a2, b2, c2⟩ := put4 hM hM2 (a := p 1) a1 (by omega)
  obtain ⟨s3, e3, a3, b3, c3⟩ := put4 hM hM2 (a := p 2) a2 (by omega)
  obtain ⟨s4, e4, a4, b4, c4⟩ := put4 hM hM2 (a := p 3) a3 (by omega)
  obtain ⟨s5, e5, a5, b5, c5⟩ := put4 hM hM2 (a := p 4) a4 (by omega)
  rw [e1, bv_ok, e2, bv_ok, e3, bv_ok, e4, bv_ok, e5, bv_ok, a5]
  refine ⟨s5, by rw [show n + 4 + 4 + 4 + 4 + 4 = n + 20 by omega], by rw [a5, show n + 4 + 4 + 4 + 4 + 4 = n + 20 by omega], fun i hi => ?_, fun x k g1 g2 => ?_⟩
  · rcases (show i < 4 ∨ (4 ≤ i ∧ i < 8) ∨ (8 ≤ i ∧ i < 12) ∨ (12 ≤ i ∧ i < 16) ∨ (16 ≤ i ∧ i < 20) by omega) with q | q | q | q | q
    · rw [c5 _ _ (by omega) (by omega), c4 _ _ (by omega) (by omega), c3 _ _ (by omega) (by omega), c2 _ _ (by omega) (by omega), b1 i (by omega), show i / 4 = 0 by omega, show i % 4 = i by omega]
    · rw [c5 _ _ (by omega) (by omega), c4 _ _ (by omega) (by omega), c3 _ _ (by omega) (by omega), show n + i = n + 4 + (i - 4) by omega, b2 (i - 4) (by omega), show i / 4 = 1 by omega, show i % 4 = i - 4 by omega]
    · rw [c5 _ _ (by omega) (by omega), c4 _ _ (by omega) (by omega), show n + i = n + 4 + 4 + (i - 8) by omega, b3 (i - 8) (by omega), show i / 4 = 2 by omega, show i % 4 = i - 8 by omega]
    · rw [c5 _ _ (by omega) (by omega), show n + i = n + 4 + 4 + 4 + (i - 12) by omega, b4 (i - 12) (by omega), show i / 4 = 3 by omega, show i % 4 = i - 12 by omega]
    · rw [show n + i = n + 4 + 4 + 4 + 4 + (i - 16) by omega, b5 (i - 16) (by omega), show i / 4 = 4 by omega, show i % 4 = i - 16 by omega]
  · rw [c5 _ _ g1 (by omega), c4 _ _ g1 (by omega), c3 _ _ g1 (by omega), c2 _ _ g1 (by omega), c1 _ _ g1 (by omega)]
theorem ok_feed {CG CM : (Nat → Nat → Int32) → Cu → Prop} {MG MM : (Nat → Int32) → Cu → Prop} {E : En} (hR : LRun E) (hM : LMod E) (hM2 : LMo2 E) (p0 p1 p2 p3 p4 : Int32) : Ok (JJ CG CM MG MM) (fX6_feed E 0 p0 p1 p2 p3 p4) (fX7_feed E 395 p0 p1 p2 p3 p4) := by
  refine ok_of (fun a hw => ?_)
  by_cases h1 : aN a + 20 ≤ 200
  · let p : Nat → Int32 := fun i => match i with | 0 => p0 | 1 => p1 | 2 => p2 | 3 => p3 | _ => p4
    have hb : ∀ i : Nat, ∃ j : Nat, j < 256 ∧ iu (p (i / 4)) (nI (24 - 8 * (i % 4))) &&& 255 = nI j := fun i => by_rng _
    have hex : ∃ bf : Nat → Nat, ∀ i, bf i < 256 ∧ iu (p (i / 4)) (nI (24 - 8 * (i % 4))) &&& 255 = nI (bf i) := ⟨fun i => (hb i).choose, fun i => (hb i).choose_spec⟩
    obtain ⟨bf, hbf⟩ := hex
    refine ⟨nI (aN a + 20), (fun i => if i < aN a then aB a i else bf (i - aN a), aN a + 20, a.2.2), ⟨h1, fun i hi => ?_, hw.2.2⟩, fun σ hc => ?_, fun σ hc => ?_⟩
    · show (if i < aN a then aB a i else bf (i - aN a)) < 256
      split
      · exact hw.2.1 i (by assumption)
      · exact (hbf _).1
    · obtain ⟨s1, e1, a1, a2, a3⟩ := take20 hR (p := p) hc.1 h1
      refine ⟨s1, e1, ⟨a1, fun i hi => ?_, ?_, ?_, ?_, ?_⟩, fun x k hx => a3 _ _ (by omega) (by omega)⟩
      · show gi s1 1 i = nI (if i < aN a then aB a i else bf (i - aN a))
        have hi : i < aN a + 20 := hi
        by_cases q : i < aN a
        · rw [if_pos q, a3 _ _ (by omega) (by omega)]; exact hc.2.1 i q
        · rw [if_neg q, show i = aN a + (i - aN a) by omega, a2 (i - aN a) (by omega), (hbf _).2, show aN a + (i - aN a) - aN a = i - aN a by omega]
      · rw [a3 _ _ (by omega) (by omega)]; exact hc.2.2.1
      · rw [lc_same (σ := σ) (fun x k g1 g2 => a3 _ _ (by omega) (by omega))]; exact hc.2.2.2.1
      · exact hc_same hc.2.2.2.2.1 (a3 _ _ (by omega) (by omega)) (a3 _ _ (by omega) (by omega)) (fun k => a3 _ _ (by omega) (by omega)) (fun x k g1 g2 => a3 _ _ (by omega) (by omega))
      · exact sc_same hc.2.2.2.2.2 (fun k => a3 _ _ (by omega) (by omega)) (fun x k g1 g2 => a3 _ _ (by omega) (by omega))
    · obtain ⟨s1, e1, a1, a2, a3⟩ := put20 hM hM2 (p := p) hc.1 h1
      refine ⟨s1, e1, ⟨a1, fun i hi => ?_, ?_, ?_, ?_⟩, fun x k hx => a3 _ _ (by omega) (by omega)⟩
      · show gi s1 400 i &&& 255 = nI (if i < aN a then aB a i else bf (i - aN a))
        have hi : i < aN a + 20 := hi
        by_cases q : i < aN a
        · rw [if_pos q, a3 _ _ (by omega) (by omega)]; exact hc.2.1 i q
        · rw [if_neg q, show i = aN a + (i - aN a) by omega, a2 (i - aN a) (by omega), (hbf _).2, show aN a + (i - aN a) - aN a = i - aN a by omega]
      · rw [rw_same (σ := σ) (fun k => a3 _ _ (by omega) (by omega))]; exact hc.2.2.1
      · exact hm_same hc.2.2.2.1 (a3 _ _ (by omega) (by omega)) (fun k => a3 _ _ (by omega) (by omega))
      · exact sm_same hc.2.2.2.2 (a3 _ _ (by omega) (by omega)) (fun k => a3 _ _ (by omega) (by omega))
  · have hn := hw.1
    have hq : ¬ nI (aN a) + (20 : Int32) ≤ 200 := by
      rw [show (20 : Int32) = nI 20 from rfl, nI_add, show (200 : Int32) = nI 200 from rfl]
      exact nI_ge (by omega) (by omega)
    refine ⟨-1, a, hw, spc_q (fun σ hc => ⟨σ, ?_, fun _ _ _ => rfl, fun _ _ _ => rfl⟩), spm_q (fun σ hc => ⟨σ, ?_, fun _ _ _ => rfl, fun _ _ _ => rfl⟩)⟩
    · unfold fX6_feed; rw [tk_ok hR.1, hc.1, if_neg hq]
    · unfold fX7_feed; rw [tk_ok hM.1, hc.1, if_neg hq]
end
section
/-! rows of numbers are copied: the reference's keepsIn, laysFrom, remembers; its small readers -/
theorem mkeep {E : En} (hM : LMod E) (hM2 : LMo2 E) {a N off : Nat} {σ : Sg} (ha : LArr E a 100 N) (hN : N < 2 ^ 30) (hoff : off + 7827 ≤ N) (hne : a ≠ 396) : ∃ σ', fX7_keepsIn E 395 a (nI off) σ = some σ' ∧ ∀ x j, gi σ' x j = if x = a ∧ off ≤ j ∧ j < off + 7827 then gi σ 396 (j - off) else gi σ x j := by
  unfold fX7_keepsIn
  rw [tk_ok hM.1, tk_ok ha.1]
  have key := fx_ok (F := fun (rec : Int32 × Sg → Option (Int32 × Sg)) (b : Int32 × Sg) => bX7_keepsIn_2 E 395 (nI off) a (fun u0 t => rec (u0, t)) b.1 b.2) (fun k b => ∃ i, b.1 = nI i ∧ i ≤ 7827 ∧ k = 7827 - i ∧ ∀ x j, gi b.2 x j = if x = a ∧ off ≤ j ∧ j < off + i then gi σ 396 (j - off) else gi σ x j) (fun b => ∀ x j, gi b.2 x j = if x = a ∧ off ≤ j ∧ j < off + 7827 then gi σ 396 (j - off) else gi σ x j) ?_ FU 7827 ((0 : Int32), σ) (by show 7827 < 1000000; omega) ⟨0, rfl, by omega, by omega, fun x j => by rw [if_neg (by omega)]⟩
  · obtain ⟨⟨v, s⟩, e, h⟩ := key
    rw [e, bd_ok]
    exact ⟨s, rfl, h⟩
  · rintro k ⟨v, s⟩ rec ⟨i, hi, hi2, rfl, h⟩ IH
    dsimp only at hi h ⊢
    subst hi
    unfold bX7_keepsIn_2
    by_cases hc : i = 7827
    · subst hc
      rw [show (7827 : Int32) = nI 7827 from rfl, if_pos (nI_le (Nat.le_refl _) (by omega))]
      exact ⟨_, rfl, h⟩
    · rw [show (7827 : Int32) = nI 7827 from rfl, if_neg (nI_ge (by omega) (by omega)), dr_ok hM.2.1 hM2.1.1, hM2.1.2, ck_n (by omega) (by omega), nI_add, ha.2, ck_n (by omega) (by omega), ss_ok, lt_ok, nI_clamp (by omega), nI_clamp (by omega), ad1]
      refine IH (7827 - (i + 1)) _ (by omega) ⟨i + 1, rfl, by omega, rfl, fun x j => ?_⟩
      rw [gi_si, h, h, if_neg (show ¬ (396 = a ∧ off ≤ i ∧ i < off + i) by omega)]
      by_cases hx : x = a
      · by_cases hj : j = off + i
        · rw [if_pos ⟨hx, hj⟩, if_pos (by omega), show j - off = i by omega]
        · rw [if_neg (by omega)]
          by_cases hj2 : off ≤ j ∧ j < off + i
          · rw [if_pos (by omega), if_pos (by omega)]
          · rw [if_neg (by omega), if_neg (by omega)]
      · rw [if_neg (by omega), if_neg (by omega), if_neg (by omega)]
theorem mlays {E : En} (hM : LMod E) (hM2 : LMo2 E) {a N off : Nat} {σ : Sg} (ha : LArr E a 100 N) (hN : N < 2 ^ 30) (hoff : off + 7827 ≤ N) (hne : a ≠ 396) : ∃ σ', fX7_laysFrom E 395 a (nI off) σ = some σ' ∧ ∀ x j, gi σ' x j = if x = 396 ∧ j < 7827 then gi σ a (off + j) else gi σ x j := by
  unfold fX7_laysFrom
  rw [tk_ok hM.1, tk_ok ha.1]
  have key := fx_ok (F := fun (rec : Int32 × Sg → Option (Int32 × Sg)) (b : Int32 × Sg) => bX7_laysFrom_2 E 395 (nI off) a (fun u0 t => rec (u0, t)) b.1 b.2) (fun k b => ∃ i, b.1 = nI i ∧ i ≤ 7827 ∧ k = 7827 - i ∧ ∀ x j, gi b.2 x j = if x = 396 ∧ j < i then gi σ a (off + j) else gi σ x j) (fun b => ∀ x j, gi b.2 x j = if x = 396 ∧ j < 7827 then gi σ a (off + j) else gi σ x j) ?_ FU 7827 ((0 : Int32), σ) (by show 7827 < 1000000; omega) ⟨0, rfl, by omega, by omega, fun x j => by rw [if_neg (by omega)]⟩
  · obtain ⟨⟨v, s⟩, e, h⟩ := key
    rw [e, bd_ok]
    exact ⟨s, rfl, h⟩
  · rintro k ⟨v, s⟩ rec ⟨i, hi, hi2, rfl, h⟩ IH
    dsimp only at hi h ⊢
    subst hi
    unfold bX7_laysFrom_2
    by_cases hc : i = 7827
    · subst hc
      rw [show (7827 : Int32) = nI 7827 from rfl, if_pos (nI_le (Nat.le_refl _) (by omega))]
      exact ⟨_, rfl, h⟩
    · rw [show (7827 : Int32) = nI 7827 from rfl, if_neg (nI_ge (by omega) (by omega)), dr_ok hM.2.1 hM2.1.1, nI_add, ha.2, ck_n (by omega) (by omega), hM2.1.2, ck_n (by omega) (by omega), ss_ok, lt_ok, nI_clamp (by omega), nI_clamp (by omega), ad1]
      refine IH (7827 - (i + 1)) _ (by omega) ⟨i + 1, rfl, by omega, rfl, fun x j => ?_⟩
      rw [gi_si, h, h, if_neg (show ¬ (a = 396 ∧ off + i < i) by omega)]
      by_cases hx : x = 396
      · by_cases hj : j = i
        · rw [if_pos ⟨hx, hj⟩, if_pos (by omega), hj]
        · rw [if_neg (by omega)]
          by_cases hj2 : j < i
          · rw [if_pos (by omega), if_pos (by omega)]
          · rw [if_neg (by omega), if_neg (by omega)]
      · rw [if_neg (by omega), if_neg (by omega), if_neg (by omega)]
/-- a row more to undo -/
theorem mrem {E : En} (hM : LMod E) (hM2 : LMo2 E) {p : Nat} {σ : Sg} (hp : p ≤ 8) (h4 : gi σ 395 4 = nI p) : ∃ σ', fX7_remembers E 395 σ = some σ' ∧ gi σ' 395 4 = nI (if p = 8 then 8 else p + 1) ∧ (∀ x k, ¬ (x = 395 ∧ k = 4) → x ≠ 398 → gi σ' x k = gi σ x k) ∧
    (∀ j, j < 7827 → gi σ' 398 (7827 * (if p = 8 then 7 else p) + j) = gi σ 396 j) ∧ ∀ j, j < 7827 * (if p = 8 then 7 else p) → gi σ' 398 j = gi σ 398 (if p = 8 then j + 7827 else j) := by
  unfold fX7_remembers
  rw [tk_ok hM.1, h4]
  by_cases hc : p = 8
  · subst hc
    rw [if_neg (fun q => q rfl)]
    have key := fx_ok (F := fun (rec : Int32 × Sg → Option (Int32 × Sg)) (b : Int32 × Sg) => bX7_remembers_13 E 395 (fun u0 t => rec (u0, t)) b.1 b.2) (fun k b => ∃ i, b.1 = nI (7827 + i) ∧ i ≤ 54789 ∧ k = 54789 - i ∧ ∀ x j, gi b.2 x j = if x = 398 ∧ j < i then gi σ 398 (j + 7827) else gi σ x j) (fun b => ∀ x j, gi b.2 x j = if x = 398 ∧ j < 54789 then gi σ 398 (j + 7827) else gi σ x j) ?_ FU 54789 ((7827 : Int32), σ) (by show 54789 < 1000000; omega) ⟨0, rfl, by omega, by omega, fun x j => by rw [if_neg (by omega)]⟩
    · obtain ⟨⟨v, s⟩, e, h⟩ := key
      dsimp only at h
      have h40 : gi s 395 4 = nI 8 := by rw [h, if_neg (by omega), h4]
      rw [e, bd_ok, ss_ok, bd_ok, dr_ok hM.2.2.2.1 hM2.2.2.1.1, gs_eq, h40, show (1 : Int32) = nI 1 from rfl, sub_n (by omega), show (7827 : Int32) = nI 7827 from rfl, pk_mul]
      obtain ⟨s3, e3, g3⟩ := mkeep hM hM2 (σ := si s 395 4 (nI (8 - 1))) (a := 398) (off := 7827 * (8 - 1)) hM2.2.2.1 (by omega) (by omega) (by omega)
      rw [e3, bv_ok, ss_ok, g3, if_neg (by omega), gs_eq]
      refine ⟨_, rfl, ?_, fun x k q1 q2 => ?_, fun j hj => ?_, fun j hj => ?_⟩
      · rw [gs_eq]; rfl
      · rw [gs_ne (by omega), g3, if_neg (by omega), gs_ne (by omega), h, if_neg (by omega)]
      · rw [if_pos rfl, gs_ne (by omega), g3, if_pos (by omega), gs_ne (by omega), h, if_neg (by omega), show 7827 * 7 + j - 7827 * (8 - 1) = j by omega]
      · rw [if_pos rfl] at hj ⊢
        rw [gs_ne (by omega), g3, if_neg (by omega), gs_ne (by omega), h, if_pos (by omega)]
    · rintro k ⟨v, s⟩ rec ⟨i, hi, hi2, rfl, h⟩ IH
      dsimp only at hi h ⊢
      subst hi
      unfold bX7_remembers_13
      by_cases hc : i = 54789
      · subst hc
        rw [show (62616 : Int32) = nI 62616 from rfl, if_pos (nI_le (by omega) (by omega))]
        exact ⟨_, rfl, h⟩
      · rw [show (62616 : Int32) = nI 62616 from rfl, if_neg (nI_ge (by omega) (by omega)), dr_ok hM.2.2.2.1 hM2.2.2.1.1, hM2.2.2.1.2, ck_n (by omega) (by omega), show (7827 : Int32) = nI 7827 from rfl, sub_n (by omega), ck_n (by omega) (by omega), ss_ok, lt_ok, nI_clamp (by omega), nI_clamp (by omega), ad1]
        refine IH (54789 - (i + 1)) _ (by omega) ⟨i + 1, rfl, by omega, rfl, fun x j => ?_⟩
        rw [gi_si, h, h, if_neg (show ¬ (398 = 398 ∧ 7827 + i < i) by omega)]
        by_cases hx : x = 398
        · by_cases hj : j = i
          · rw [if_pos (by omega), if_pos (by omega), hj, Nat.add_comm]
          · rw [if_neg (by omega)]
            by_cases hj2 : j < i
            · rw [if_pos (by omega), if_pos (by omega)]
            · rw [if_neg (by omega), if_neg (by omega)]
        · rw [if_neg (by omega), if_neg (by omega), if_neg (by omega)]
  · rw [if_pos (show ¬ nI p = 8 from fun q => hc ((nI_eq (by omega) (by omega)).mp q)), bd_ok, dr_ok hM.2.2.2.1 hM2.2.2.1.1, h4, show (7827 : Int32) = nI 7827 from rfl, pk_mul]
    obtain ⟨s3, e3, g3⟩ := mkeep hM hM2 (σ := σ) (a := 398) (off := 7827 * p) hM2.2.2.1 (by omega) (by omega) (by omega)
    rw [e3, bv_ok, ss_ok, g3, if_neg (by omega), h4, ad1]
    refine ⟨_, rfl, ?_, fun x k q1 q2 => ?_, fun j hj => ?_, fun j hj => ?_⟩
    · rw [gs_eq, if_neg hc]
    · rw [gs_ne (by omega), g3, if_neg (by omega)]
    · rw [if_neg hc, gs_ne (by omega), g3, if_pos (by omega), show 7827 * p + j - 7827 * p = j by omega]
    · rw [if_neg hc] at hj ⊢
      rw [gs_ne (by omega), g3, if_neg (by omega)]
theorem m_many {E : En} (hM : LMod E) (hM2 : LMo2 E) {σ : Sg} : fX7_many E 395 σ = some (gi σ 396 0, σ) := by
  unfold fX7_many
  rw [tk_ok hM.1, dr_ok hM.2.1 hM2.1.1, hM2.1.2, show (0 : Int32) = nI 0 from rfl, ck_n (by omega) (by omega), nI_clamp (by omega)]
theorem m_room {E : En} (hM : LMod E) (hM2 : LMo2 E) {σ : Sg} : fX7_room E 395 σ = some (gi σ 396 1, σ) := by
  unfold fX7_room
  rw [tk_ok hM.1, dr_ok hM.2.1 hM2.1.1, hM2.1.2, show (1 : Int32) = nI 1 from rfl, ck_n (by omega) (by omega), nI_clamp (by omega)]
theorem m_tapes {E : En} (hM : LMod E) (hM2 : LMo2 E) {σ : Sg} : fX7_tapes E 395 σ = some (gi σ 396 2, σ) := by
  unfold fX7_tapes
  rw [tk_ok hM.1, dr_ok hM.2.1 hM2.1.1, hM2.1.2, show (2 : Int32) = nI 2 from rfl, ck_n (by omega) (by omega), nI_clamp (by omega)]
theorem m_way {E : En} (hM : LMod E) (hM2 : LMo2 E) {σ : Sg} : fX7_way E 395 σ = some (gi σ 396 3, σ) := by
  unfold fX7_way
  rw [tk_ok hM.1, dr_ok hM.2.1 hM2.1.1, hM2.1.2, show (3 : Int32) = nI 3 from rfl, ck_n (by omega) (by omega), nI_clamp (by omega)]
theorem m_in {E : En} {v l h : Int32} {σ : Sg} : fX7_in E v l h σ = some (if l ≤ v ∧ v ≤ h then 1 else 0, σ) := by
  unfold fX7_in
  by_cases h1 : v < l
  · rw [if_pos h1, bd_ok, kb_0, if_neg (fun q => absurd q.1 (Int32.not_le.mpr h1))]
  · rw [if_neg h1]
    by_cases h2 : h < v
    · rw [if_pos h2, bd_ok, kb_0, if_neg (fun q => absurd q.2 (Int32.not_le.mpr h2))]
    · rw [if_neg h2, bd_ok, kb_1, if_pos ⟨Int32.not_lt.mp h1, Int32.not_lt.mp h2⟩]
theorem m_truth {E : En} {v : Int32} {σ : Sg} : fX7_truth E v σ = some (if v = 0 then 0 else 1, σ) := by
  unfold fX7_truth
  by_cases h : v = 0
  · rw [if_pos h, bd_ok, if_pos h]
  · rw [if_neg h, bd_ok, if_neg h]
end
section
/-! acts: what is remembered ahead of each -/
theorem im_n {a d : Nat} (ha : a < 2 ^ 31) (h0 : 0 < d) (hd : d < 2 ^ 31) : im (nI a) (nI d) = nI (a % d) := pk_rem ha h0 hd
theorem imin_n {a b : Nat} (ha : a < 2 ^ 31) (hb : b < 2 ^ 31) : imin (nI a) (nI b) = nI (min a b) := by
  unfold imin
  by_cases h : b < a
  · rw [if_pos (nI_lt h ha), Nat.min_eq_right (by omega)]
  · rw [if_neg (nI_nlt (by omega) hb), Nat.min_eq_left (by omega)]
theorem imax_n {a b : Nat} (ha : a < 2 ^ 31) (hb : b < 2 ^ 31) : imax (nI a) (nI b) = nI (max a b) := by
  unfold imax
  by_cases h : a < b
  · rw [if_pos (nI_lt h hb), Nat.max_eq_right (by omega)]
  · rw [if_neg (nI_nlt (by omega) ha), Nat.max_eq_left (by omega)]
/-- a State is copied into another one -/
def CPY (E : En) (CG CM : (Nat → Nat → Int32) → Cu → Prop) : Prop := ∀ (σ : Sg) (b b2 : Nat) (c : Cu), LSta E b → LSta E b2 → (b + 33 ≤ b2 ∨ b2 + 33 ≤ b) → Wf c → CS CG CM (lc σ b2) c → ∃ σ', fX4_copyFrom E b b2 σ = some σ' ∧ CS CG CM (lc σ' b) c ∧ ∀ x k, (x < b ∨ b + 33 ≤ x) → gi σ' x k = gi σ x k
/-- an act is remembered -/
def rem (a : Ab) : Ab := (aB a, aN a, aC a, aX a, (aC a, aX a) :: (aH a).take 7, aS a)
theorem rem_wf {a : Ab} (h : Wfa a) : Wfa (rem a) := by
  obtain ⟨h1, h2, h3, h4, h5, h6, h7⟩ := h
  refine ⟨h1, h2, h3, h4, ?_, fun q hq => ?_, h7⟩
  · show ((aC a, aX a) :: (aH a).take 7).length ≤ 8
    simp only [List.length_cons, List.length_take]
    omega
  · rcases List.mem_cons.mp hq with rfl | hq
    · exact ⟨h3, h4⟩
    · exact h6 q (List.mem_of_mem_take hq)
theorem rem_len (h : List (Cu × Nat)) (q : Cu × Nat) (hl : h.length ≤ 8) : (q :: h.take 7).length = if h.length = 8 then 8 else h.length + 1 := by
  simp only [List.length_cons, List.length_take]
  split <;> omega
section AC
variable {CG CM : (Nat → Nat → Int32) → Cu → Prop} {MG MM : (Nat → Int32) → Cu → Prop} {σ : Sg} {a : Ab} {E : En}
theorem c_rem (hR : LRun E) (hcp : CPY E CG CM) (hw : Wfa a) (hc : RC CG CM σ a) : ∃ s, fX6_remember E 0 σ = some s ∧ RC CG CM s (rem a) ∧ (∀ x k, 2 ≤ x → x < 35 → gi s x k = gi σ x k) ∧ ∀ x k, 395 ≤ x → gi s x k = gi σ x k := by
  obtain ⟨c1, c2, c3, c4, ⟨c5, p, hp, c6, c7⟩, c8⟩ := hc
  have hl := hw.2.2.2.2.1
  obtain ⟨r0, r1, r3, r4, r5, r8, r9, r10, r11, r12, r13, l1, l2, l35, l36, l37, l38, l39, l61, l63, l64, lp, ls⟩ := hR
  obtain ⟨lp1, lp2⟩ := lp p hp
  unfold fX6_remember
  rw [tk_ok r0, dr_ok r4 l35.1, c6, l35.2, ck_n hp (by omega), nI_clamp (by omega), dr_ok lp1 lp2.1, dr_ok r3 l2.1]
  obtain ⟨s, e1, e2, e3⟩ := hcp σ (65 + 33 * p) 2 (aC a) lp2 l2 (Or.inr (by omega)) hw.2.2.1 c4
  have f7 : gi s 0 7 = nI p := by rw [e3 _ _ (by omega)]; exact c6
  have f2 : gi s 0 2 = nI (aX a) := by rw [e3 _ _ (by omega)]; exact c3
  have f6 : gi s 0 6 = nI (aH a).length := by rw [e3 _ _ (by omega)]; exact c5
  rw [e1, bv_ok, dr_ok r5 l36.1, f7, l36.2, ck_n hp (by omega), nI_clamp (by omega), f2, ss_ok, ss_ok, ss_ok, gs_ne (by omega), f7, ad1, show (8 : Int32) = nI 8 from rfl, im_n (by omega) (by omega) (by omega), gs_ne (by omega), gs_ne (by omega), f6, ad1, imin_n (by omega) (by omega)]
  refine ⟨_, rfl, ⟨?_, fun i hi => ?_, ?_, ?_, ⟨?_, (p + 1) % 8, Nat.mod_lt _ (by omega), ?_, fun i q hq => ?_⟩, ?_⟩, fun x k h1 h2 => ?_, fun x k h1 => ?_⟩
  · rw [gs_ne (by omega), gs_ne (by omega), gs_ne (by omega), e3 _ _ (by omega)]; exact c1
  · rw [gs_ne (by omega), gs_ne (by omega), gs_ne (by omega), e3 _ _ (by omega)]; exact c2 i hi
  · rw [gs_ne (by omega), gs_ne (by omega), gs_ne (by omega)]; exact f2
  · rw [lc_same (σ := σ) (fun x k g1 g2 => by rw [gs_ne (by omega), gs_ne (by omega), gs_ne (by omega), e3 _ _ (by omega)])]; exact c4
  · rw [gs_eq]
    show _ = nI ((aC a, aX a) :: (aH a).take 7).length
    rw [rem_len _ _ hl]
    congr 1
    split <;> omega
  · rw [gs_ne (by omega), gs_eq]
  · have hq : ((aC a, aX a) :: (aH a).take 7)[i]? = some q := hq
    cases i with
    | zero =>
      simp only [List.getElem?_cons_zero, Option.some.injEq] at hq
      subst hq
      rw [show ((p + 1) % 8 + 15 - 0) % 8 = p by omega]
      refine ⟨?_, ?_⟩
      · rw [lc_same (σ := s) (fun x k g1 g2 => by rw [gs_ne (by omega), gs_ne (by omega), gs_ne (by omega)])]; exact e2
      · rw [gs_ne (by omega), gs_ne (by omega), gs_eq]
    | succ j =>
      rw [List.getElem?_cons_succ] at hq
      have hj : j < 7 := by
        have := (List.getElem?_eq_some_iff.mp hq).1
        simp only [List.length_take] at this
        omega
      rw [List.getElem?_take_of_lt hj] at hq
      obtain ⟨q1, q2⟩ := c7 j q hq
      have hij : ((p + 1) % 8 + 15 - (j + 1)) % 8 = (p + 15 - j) % 8 := by omega
      have hnp : (p + 15 - j) % 8 ≠ p := by omega
      rw [hij]
      generalize (p + 15 - j) % 8 = r at hnp q1 q2 hij ⊢
      refine ⟨?_, ?_⟩
      · have hr : r < 8 := by omega
        rw [lc_same (σ := σ) (fun x k g1 g2 => by rw [gs_ne (by omega), gs_ne (by omega), gs_ne (by omega), e3 _ _ (by omega)])]; exact q1
      · rw [gs_ne (by omega), gs_ne (by omega), gs_ne (by omega), e3 _ _ (by omega)]; exact q2
  · exact sc_same c8 (fun k => by rw [gs_ne (by omega), gs_ne (by omega), gs_ne (by omega), e3 _ _ (by omega)]) (fun x k g1 g2 => by rw [gs_ne (by omega), gs_ne (by omega), gs_ne (by omega), e3 _ _ (by omega)])
  · rw [gs_ne (by omega), gs_ne (by omega), gs_ne (by omega), e3 _ _ (by omega)]
  · rw [gs_ne (by omega), gs_ne (by omega), gs_ne (by omega), e3 _ _ (by omega)]
theorem m_rem (hM : LMod E) (hM2 : LMo2 E) (hw : Wfa a) (hc : RM MG MM σ a) : ∃ s, fX7_remembers E 395 σ = some s ∧ RM MG MM s (rem a) ∧ (∀ k, gi s 396 k = gi σ 396 k) ∧ ∀ x k, x < 395 → gi s x k = gi σ x k := by
  obtain ⟨c1, c2, c3, ⟨c4, c5⟩, c6⟩ := hc
  have hl := hw.2.2.2.2.1
  obtain ⟨s, e1, e2, e3, e4, e5⟩ := mrem hM hM2 hl c4
  refine ⟨s, e1, ⟨?_, fun i hi => ?_, ?_, ⟨?_, fun i q hq => ?_⟩, ?_⟩, fun k => e3 _ _ (by omega) (by omega), fun x k h => e3 _ _ (by omega) (by omega)⟩
  · rw [e3 _ _ (by omega) (by omega)]; exact c1
  · rw [e3 _ _ (by omega) (by omega)]; exact c2 i hi
  · rw [rw_same (σ := σ) (fun k => e3 _ _ (by omega) (by omega))]; exact c3
  · rw [e2]
    show _ = nI ((aC a, aX a) :: (aH a).take 7).length
    rw [rem_len _ _ hl]
  · have hq : ((aC a, aX a) :: (aH a).take 7)[i]? = some q := hq
    show MR MG MM (rw7 s 398 (7827 * (((aC a, aX a) :: (aH a).take 7).length - 1 - i))) q.1 q.2
    rw [rem_len _ _ hl]
    cases i with
    | zero =>
      simp only [List.getElem?_cons_zero, Option.some.injEq] at hq
      subst hq
      have : rw7 s 398 (7827 * ((if (aH a).length = 8 then 8 else (aH a).length + 1) - 1 - 0)) = rw7 σ 396 0 := by
        funext j
        unfold rw7
        split
        · next hj =>
          rw [show (if (aH a).length = 8 then 8 else (aH a).length + 1) - 1 - 0 = if (aH a).length = 8 then 7 else (aH a).length by split <;> omega, e4 j hj, Nat.zero_add]
        · rfl
      rw [this]
      exact c3
    | succ j =>
      rw [List.getElem?_cons_succ] at hq
      have hj : j < 7 := by
        have := (List.getElem?_eq_some_iff.mp hq).1
        simp only [List.length_take] at this
        omega
      rw [List.getElem?_take_of_lt hj] at hq
      have hjl : j < (aH a).length := (List.getElem?_eq_some_iff.mp hq).1
      have : rw7 s 398 (7827 * ((if (aH a).length = 8 then 8 else (aH a).length + 1) - 1 - (j + 1))) = rw7 σ 398 (7827 * ((aH a).length - 1 - j)) := by
        funext k
        unfold rw7
        split
        · next hk =>
          by_cases h8 : (aH a).length = 8
          · rw [if_pos h8, e5 _ (by rw [if_pos h8]; omega), if_pos h8, h8]
            congr 1
            omega
          · rw [if_neg h8, e5 _ (by rw [if_neg h8]; omega), if_neg h8]
            congr 1
            omega
        · rfl
      rw [this]
      exact c5 j q hq
  · exact sm_same c6 (e3 _ _ (by omega) (by omega)) (fun k => e3 _ _ (by omega) (by omega))
end AC
end
section
/-! clear, settle -/
theorem m_begins {E : En} (hM : LMod E) (hM2 : LMo2 E) {σ : Sg} : ∃ s, fX7_begins E 395 σ = some s ∧ gi s 396 7 = 0 ∧ (∀ k, k ≠ 7 → k ≠ 9 → k ≠ 10 → k ≠ 11 → k ≠ 12 → k ≠ 14 → k ≠ 18 → gi s 396 k = gi σ 396 k) ∧ ∀ x k, x ≠ 396 → gi s x k = gi σ x k := by
  unfold fX7_begins fX7_clearsCounts
  rw [tk_ok hM.1, dr_ok hM.2.1 hM2.1.1, hM2.1.2]
  simp only [tk_ok hM.1, dr_ok hM.2.1 hM2.1.1, hM2.1.2, ss_ok, bv_ok]
  simp only [show (7 : Int32) = nI 7 from rfl, show (9 : Int32) = nI 9 from rfl, show (10 : Int32) = nI 10 from rfl, show (11 : Int32) = nI 11 from rfl, show (12 : Int32) = nI 12 from rfl, show (14 : Int32) = nI 14 from rfl, show (18 : Int32) = nI 18 from rfl]
  rw [ck_n (by omega) (by omega), ck_n (by omega) (by omega), ck_n (by omega) (by omega), ck_n (by omega) (by omega), ck_n (by omega) (by omega), ck_n (by omega) (by omega), ck_n (by omega) (by omega)]
  rw [nI_clamp (n := 7) (by omega), nI_clamp (n := 9) (by omega), nI_clamp (n := 10) (by omega), nI_clamp (n := 11) (by omega), nI_clamp (n := 12) (by omega), nI_clamp (n := 14) (by omega), nI_clamp (n := 18) (by omega), bv_ok]
  refine ⟨_, rfl, ?_, fun k h1 h2 h3 h4 h5 h6 h7 => ?_, fun x k h => ?_⟩
  · rw [gs_ne (by omega), gs_ne (by omega), gs_ne (by omega), gs_ne (by omega), gs_ne (by omega), gs_ne (by omega), gs_eq]
  · rw [gs_ne (by omega), gs_ne (by omega), gs_ne (by omega), gs_ne (by omega), gs_ne (by omega), gs_ne (by omega), gs_ne (by omega)]
  · rw [gs_ne (by omega), gs_ne (by omega), gs_ne (by omega), gs_ne (by omega), gs_ne (by omega), gs_ne (by omega), gs_ne (by omega)]
def setC (a : Ab) (c : Cu) : Ab := (aB a, aN a, c, a.2.2.2)
theorem lc_at {σ : Sg} {b x k : Nat} (h : x < 33) : lc σ b x k = gi σ (b + x) k := by simp [lc, h]
theorem rw_at {σ : Sg} {a off k : Nat} (h : k < 7827) : rw7 σ a off k = gi σ a (off + k) := by simp [rw7, h]
section CL
variable {CG CM : (Nat → Nat → Int32) → Cu → Prop} {MG MM : (Nat → Int32) → Cu → Prop} {E : En}
theorem ok_clear (hR : LRun E) (hM : LMod E) (hM2 : LMo2 E) (hcp : CPY E CG CM) : Ok (JJ CG CM MG MM) (fX6_clear E 0) (fX7_clear E 395) := by
  refine ok_of (fun a hw => ?_)
  have hwc := hw.2.2.1
  have hn := hwc.1
  refine ⟨nI (cN (aC a)), setC (rem a) (cF (aC a), 0, cS (aC a), 0, 0), ?_, fun σ hc => ?_, fun σ hc => ?_⟩
  · obtain ⟨h1, h2, h3, h4, h5, h6, h7⟩ := rem_wf hw
    exact ⟨h1, h2, ⟨Nat.zero_le _, fun i hi => absurd hi (Nat.not_lt_zero i), hwc.2.2.1, Nat.zero_le _, fun h => absurd h (by show ¬ 1 ≤ 0; omega), fun h => absurd h (by show ¬ 2 ≤ 0; omega)⟩, h4, h5, h6, h7⟩
  · obtain ⟨s, e1, e2, e3, e4⟩ := c_rem hR hcp hw hc
    obtain ⟨d1, d2, d3, d4, d5, d6⟩ := e2
    have hsz : gi s 3 2 = nI (cN (aC a)) := by have := d4.1; rw [lc_at (by omega)] at this; exact this
    refine ⟨si (si (si s 3 2 0) 3 3 0) 2 2 0, ?_, ⟨?_, fun i hi => ?_, ?_, ?_, ?_, ?_⟩, fun x k hx => ?_⟩
    · unfold fX6_clear fX3_wipe
      rw [tk_ok hR.1, e1, bv_ok, dr_ok hR.2.2.1 hR.2.2.2.2.2.2.2.2.2.2.2.2.1.1, dr_ok hR.2.2.2.2.2.2.2.2.2.2.2.2.1.2.1 hR.2.2.2.2.2.2.2.2.2.2.2.2.1.2.2.2.2.2.2.2.1.1, lt_ok, hsz, tk_ok hR.2.2.2.2.2.2.2.2.2.2.2.2.1.2.2.2.2.2.2.2.1.1, ss_ok, ss_ok, bv_ok, ss_ok]
    · rw [gs_ne (by omega), gs_ne (by omega), gs_ne (by omega)]; exact d1
    · rw [gs_ne (by omega), gs_ne (by omega), gs_ne (by omega)]; exact d2 i hi
    · rw [gs_ne (by omega), gs_ne (by omega), gs_ne (by omega)]; exact d3
    · refine ⟨?_, fun i hi => absurd hi (Nat.not_lt_zero i), fun i hi => absurd hi (Nat.not_lt_zero i), ?_, fun j hj => ?_, ?_, fun h => absurd h (by show ¬ 1 ≤ 0; omega), fun h => absurd h (by show ¬ 2 ≤ 0; omega)⟩
      · rw [lc_at (by omega), gs_ne (by omega), gs_ne (by omega), gs_eq]; rfl
      · rw [lc_at (by omega), gs_ne (by omega), gs_eq]; rfl
      · rw [lc_at (by omega), gs_ne (by omega), gs_ne (by omega), gs_ne (by omega)]
        have := d4.2.2.2.2.1 j hj
        rw [lc_at (by omega)] at this
        exact this
      · rw [lc_at (by omega), gs_eq]; rfl
    · exact hc_same d5 (by rw [gs_ne (by omega), gs_ne (by omega), gs_ne (by omega)]) (by rw [gs_ne (by omega), gs_ne (by omega), gs_ne (by omega)]) (fun k => by rw [gs_ne (by omega), gs_ne (by omega), gs_ne (by omega)]) (fun x k g1 g2 => by rw [gs_ne (by omega), gs_ne (by omega), gs_ne (by omega)])
    · exact sc_same d6 (fun k => by rw [gs_ne (by omega), gs_ne (by omega), gs_ne (by omega)]) (fun x k g1 g2 => by rw [gs_ne (by omega), gs_ne (by omega), gs_ne (by omega)])
    · rw [gs_ne (by omega), gs_ne (by omega), gs_ne (by omega)]; exact e4 x k hx
  · obtain ⟨s, e1, e2, e3, e4⟩ := m_rem hM hM2 hw hc
    obtain ⟨d1, d2, d3, d4, d5⟩ := e2
    obtain ⟨s2, g1, g2, g3, g4⟩ := m_begins hM hM2 (σ := si s 396 0 0)
    have h0 : gi s 396 0 = nI (cN (aC a)) := by have := d3.1; rw [rw_at (by omega)] at this; exact this
    refine ⟨s2, ?_, ⟨?_, fun i hi => ?_, ?_, ?_, ?_⟩, fun x k hx => ?_⟩
    · unfold fX7_clear
      rw [tk_ok hM.1, e1, bv_ok, m_many hM hM2, bd_ok, dr_ok hM.2.1 hM2.1.1, hM2.1.2, show (0 : Int32) = nI 0 from rfl, ck_n (by omega) (by omega), nI_clamp (by omega), ss_ok, show nI 0 = (0 : Int32) from rfl, g1, bv_ok, h0]
    · rw [g4 _ _ (by omega), gs_ne (by omega)]; exact d1
    · rw [g4 _ _ (by omega), gs_ne (by omega)]; exact d2 i hi
    · refine ⟨?_, fun i hi => absurd hi (Nat.not_lt_zero i), fun j hj => ?_, ?_, ?_, fun h => absurd h (by show ¬ 1 ≤ 0; omega), fun h => absurd h (by show ¬ 2 ≤ 0; omega)⟩
      · rw [rw_at (by omega), g3 _ (by omega) (by omega) (by omega) (by omega) (by omega) (by omega) (by omega), gs_eq]; rfl
      · rw [rw_at (by omega), g3 _ (by omega) (by omega) (by omega) (by omega) (by omega) (by omega) (by omega), gs_ne (by omega)]
        have := d3.2.2.1 j hj
        rw [rw_at (by omega)] at this
        exact this
      · rw [rw_at (by omega), g2]; rfl
      · rw [rw_at (by omega), g3 _ (by omega) (by omega) (by omega) (by omega) (by omega) (by omega) (by omega), gs_ne (by omega)]
        have := d3.2.2.2.2.1
        rw [rw_at (by omega)] at this
        exact this
    · exact hm_same d4 (by rw [g4 _ _ (by omega), gs_ne (by omega)]) (fun k => by rw [g4 _ _ (by omega), gs_ne (by omega)])
    · exact sm_same d5 (by rw [g4 _ _ (by omega), gs_ne (by omega)]) (fun k => by rw [g4 _ _ (by omega), gs_ne (by omega)])
    · rw [g4 _ _ (by omega), gs_ne (by omega)]; exact e4 x k hx
theorem stv_1 {j : Nat} (h : j < 6) : stv 1 j = nI (stL j) := by
  rcases (show j = 0 ∨ j = 1 ∨ j = 2 ∨ j = 3 ∨ j = 4 ∨ j = 5 by omega) with rfl | rfl | rfl | rfl | rfl | rfl <;> rfl
theorem stv_2 {j : Nat} (h : j < 6) : stv 2 j = nI (stH j) := by
  rcases (show j = 0 ∨ j = 1 ∨ j = 2 ∨ j = 3 ∨ j = 4 ∨ j = 5 by omega) with rfl | rfl | rfl | rfl | rfl | rfl <;> rfl
theorem kb_i {β : Type} {c : Prop} [Decidable c] {k : Int32 → Option β} : kb (if c then (1 : Int32) else 0) (k (if c then 1 else 0)) = k (if c then 1 else 0) := by
  split
  · exact kb_1
  · exact kb_0
theorem c_fits {j : Nat} (h : j < 6) {p1 : Int32} {σ : Sg} : fX6_fits E (nI j) p1 σ = some (if nI (stL j) ≤ p1 ∧ p1 ≤ nI (stH j) then 1 else 0, σ) := by
  unfold fX6_fits
  rw [if_neg (nI_pos (by omega)), show (6 : Int32) = nI 6 from rfl, if_neg (nI_ge h (by omega)), ck_n h (by omega), nI_clamp (by omega), ck_n h (by omega), stv_1 h, stv_2 h]
  by_cases h1 : p1 < nI (stL j)
  · rw [if_pos h1, bd_ok, kb_0, if_neg (fun q => absurd q.1 (Int32.not_le.mpr h1))]
  · rw [if_neg h1]
    by_cases h2 : nI (stH j) < p1
    · rw [if_pos h2, bd_ok, kb_0, if_neg (fun q => absurd q.2 (Int32.not_le.mpr h2))]
    · rw [if_neg h2, bd_ok, kb_1, if_pos ⟨Int32.not_lt.mp h1, Int32.not_lt.mp h2⟩]
theorem c_fitsN {p0 p1 : Int32} {σ : Sg} (h : p0 < 0 ∨ nI 6 ≤ p0) : fX6_fits E p0 p1 σ = some (0, σ) := by
  unfold fX6_fits
  by_cases h1 : p0 < 0
  · rw [if_pos h1, bd_ok, kb_0]
  · rw [if_neg h1, show (6 : Int32) = nI 6 from rfl, if_pos (h.resolve_left h1), bd_ok, kb_0]
theorem m_can {j : Nat} (h : j < 6) {p1 : Int32} {σ : Sg} : fX7_canSet E (nI j) p1 σ = some (if nI (stL j) ≤ p1 ∧ p1 ≤ nI (stH j) then 1 else 0, σ) := by
  unfold fX7_canSet
  rcases (show j = 0 ∨ j = 1 ∨ j = 2 ∨ j = 3 ∨ j = 4 ∨ j = 5 by omega) with rfl | rfl | rfl | rfl | rfl | rfl
  · rw [if_pos (by decide), m_in, bd_ok]; exact kb_i (k := fun r => some (r, σ))
  · rw [if_neg (by decide), if_pos (by decide), m_in, bd_ok]; exact kb_i (k := fun r => some (r, σ))
  · rw [if_neg (by decide), if_neg (by decide), if_pos (by decide), m_in, bd_ok]; exact kb_i (k := fun r => some (r, σ))
  · rw [if_neg (by decide), if_neg (by decide), if_neg (by decide), if_pos (by decide), m_in, bd_ok]; exact kb_i (k := fun r => some (r, σ))
  · rw [if_neg (by decide), if_neg (by decide), if_neg (by decide), if_neg (by decide), if_pos (by decide), m_in, bd_ok]; exact kb_i (k := fun r => some (r, σ))
  · rw [if_neg (by decide), if_neg (by decide), if_neg (by decide), if_neg (by decide), if_neg (by decide), if_pos (by decide), m_in, bd_ok]; exact kb_i (k := fun r => some (r, σ))
theorem m_canN {p0 p1 : Int32} {σ : Sg} (h : p0 < 0 ∨ nI 6 ≤ p0) : fX7_canSet E p0 p1 σ = some (0, σ) := by
  have hn : ∀ j, j < 6 → ¬ p0 = nI j := by
    intro j hj q
    subst q
    rcases h with h | h
    · exact nI_pos (by omega) h
    · exact nI_ge hj (by omega) h
  unfold fX7_canSet
  rw [if_neg (show ¬ p0 = 0 from hn 0 (by omega)), if_neg (show ¬ p0 = 1 from hn 1 (by omega)), if_neg (show ¬ p0 = 2 from hn 2 (by omega)), if_neg (show ¬ p0 = 3 from hn 3 (by omega)), if_neg (show ¬ p0 = 4 from hn 4 (by omega)), if_neg (show ¬ p0 = 5 from hn 5 (by omega))]
theorem st_hi {j : Nat} : stH j ≤ 16 := by
  unfold stH
  split <;> omega
theorem st_lo {j : Nat} : stL j ≤ 3 := by
  unfold stL
  split <;> omega
theorem ok_settle (hR : LRun E) (hM : LMod E) (hM2 : LMo2 E) (hcp : CPY E CG CM) (p0 p1 : Int32) : Ok (JJ CG CM MG MM) (fX6_settle E 0 p0 p1) (fX7_settle E 395 p0 p1) := by
  refine ok_of (fun a hw => ?_)
  have hwc := hw.2.2.1
  have hq0 : ∀ {P : p0 < 0 ∨ nI 6 ≤ p0}, ∃ r a', Wfa a' ∧ SpC CG CM (fX6_settle E 0 p0 p1) r a a' ∧ SpM MG MM (fX7_settle E 395 p0 p1) r a a' := by
    intro P
    refine ⟨-1, a, hw, spc_q (fun σ hc => ⟨σ, ?_, fun _ _ _ => rfl, fun _ _ _ => rfl⟩), spm_q (fun σ hc => ⟨σ, ?_, fun _ _ _ => rfl, fun _ _ _ => rfl⟩)⟩
    · unfold fX6_settle; rw [tk_ok hR.1, c_fitsN P, bd_ok, if_neg (fun q => q rfl)]
    · unfold fX7_settle; rw [tk_ok hM.1, m_canN P, bd_ok, if_neg (fun q => q rfl)]
  rcases pk_ix p0 (n := 6) (by omega) with h | h | ⟨j, hj, rfl⟩
  · exact hq0 (P := Or.inl h)
  · exact hq0 (P := Or.inr h)
  by_cases hf : nI (stL j) ≤ p1 ∧ p1 ≤ nI (stH j)
  · have hsh := st_hi (j := j)
    have hsl : stL j ≤ 3 := st_lo
    obtain ⟨v, hv, rfl⟩ := nI_of2 (x := p1) (M := nI (stH j)) (n := stH j) (nI_toInt (by omega)) (fun q => absurd (Int32.lt_of_le_of_lt hf.1 q) (nI_pos (by omega))) hf.2
    have hlo : stL j ≤ v := (nI_leI (by omega) (by omega)).mp hf.1
    have hst := hwc.2.2.1 j hj
    by_cases he : cS (aC a) j = v
    · refine ⟨-2, a, hw, spc_q (fun σ hc => ⟨σ, ?_, fun _ _ _ => rfl, fun _ _ _ => rfl⟩), spm_q (fun σ hc => ⟨σ, ?_, fun _ _ _ => rfl, fun _ _ _ => rfl⟩)⟩
      · have h4 : gi σ 6 j = nI (cS (aC a) j) := by have := hc.2.2.2.1.2.2.2.2.1 j hj; rw [lc_at (by omega)] at this; exact this
        obtain ⟨r0, r1, r3, r4, r5, r8, r9, r10, r11, r12, r13, l1, l2, lx⟩ := hR
        unfold fX6_settle
        rw [tk_ok r0, c_fits hj, if_pos hf, bd_ok, if_pos (by decide), dr_ok r3 l2.1, dr_ok l2.2.2.1 l2.2.2.2.2.2.2.2.2.1.1, l2.2.2.2.2.2.2.2.2.1.2, ck_n hj (by omega), lt_ok, nI_clamp (by omega), h4, he, if_neg (fun q => q rfl)]
      · have h4 : gi σ 396 (1 + j) = nI (cS (aC a) j) := by have := hc.2.2.1.2.2.1 j hj; rw [rw_at (by omega), Nat.zero_add] at this; exact this
        unfold fX7_settle
        rw [tk_ok hM.1, m_can hj, if_pos hf, bd_ok, if_pos (by decide), dr_ok hM.2.1 hM2.1.1, hM2.1.2, show (1 : Int32) = nI 1 from rfl, nI_add, ck_n (by omega) (by omega), lt_ok, nI_clamp (by omega), h4, he, if_neg (fun q => q rfl)]
    · have hne : ¬ nI (cS (aC a) j) = nI v := fun q => he ((nI_eq (by omega) (by omega)).mp q)
      refine ⟨nI (cS (aC a) j), setC (rem a) (cF (aC a), cN (aC a), fun i => if i = j then v else cS (aC a) i, 0, 0), ?_, fun σ hc => ?_, fun σ hc => ?_⟩
      · obtain ⟨h1, h2, h3, h4, h5, h6, h7⟩ := rem_wf hw
        refine ⟨h1, h2, ⟨hwc.1, hwc.2.1, fun i hi => ?_, Nat.zero_le _, fun h => absurd h (by show ¬ 1 ≤ 0; omega), fun h => absurd h (by show ¬ 2 ≤ 0; omega)⟩, h4, h5, h6, h7⟩
        show stL i ≤ (if i = j then v else cS (aC a) i) ∧ (if i = j then v else cS (aC a) i) ≤ stH i
        split
        · next q => subst q; exact ⟨hlo, hv⟩
        · exact hwc.2.2.1 i hi
      · obtain ⟨s, e1, e2, e3, e4⟩ := c_rem hR hcp hw hc
        have h4 : gi σ 6 j = nI (cS (aC a) j) := by have := hc.2.2.2.1.2.2.2.2.1 j hj; rw [lc_at (by omega)] at this; exact this
        obtain ⟨d1, d2, d3, d4, d5, d6⟩ := e2
        obtain ⟨r0, r1, r3, r4, r5, r8, r9, r10, r11, r12, r13, l1, l2, lx⟩ := hR
        refine ⟨si (si s 6 j (nI v)) 2 2 0, ?_, ⟨?_, fun i hi => ?_, ?_, ?_, ?_, ?_⟩, fun x k hx => ?_⟩
        · unfold fX6_settle
          rw [tk_ok r0, c_fits hj, if_pos hf, bd_ok, if_pos (by decide), dr_ok r3 l2.1, dr_ok l2.2.2.1 l2.2.2.2.2.2.2.2.2.1.1, l2.2.2.2.2.2.2.2.2.1.2, ck_n hj (by omega), lt_ok, nI_clamp (by omega), h4, if_pos hne, e1, bv_ok, ck_n hj (by omega), ss_ok, ss_ok]
        · rw [gs_ne (by omega), gs_ne (by omega)]; exact d1
        · rw [gs_ne (by omega), gs_ne (by omega)]; exact d2 i hi
        · rw [gs_ne (by omega), gs_ne (by omega)]; exact d3
        · obtain ⟨k1, k2, k3, k4, k5, k6, k7, k8⟩ := d4
          refine ⟨?_, fun i hi => ?_, fun i hi => ?_, ?_, fun i hi => ?_, ?_, fun h => absurd h (by show ¬ 1 ≤ 0; omega), fun h => absurd h (by show ¬ 2 ≤ 0; omega)⟩
          · rw [lc_at (by omega), gs_ne (by omega), gs_ne (by omega), ← lc_at (by omega)]; exact k1
          · rw [lc_at (by omega), gs_ne (by omega), gs_ne (by omega), ← lc_at (by omega)]; exact k2 i hi
          · rw [lc_at (by omega), gs_ne (by omega), gs_ne (by omega), ← lc_at (by omega)]; exact k3 i hi
          · rw [lc_at (by omega), gs_ne (by omega), gs_ne (by omega), ← lc_at (by omega)]; exact k4
          · show _ = nI (if i = j then v else cS (aC a) i)
            rw [lc_at (by omega), gs_ne (by omega)]
            by_cases q : i = j
            · rw [if_pos q, q, gs_eq]
            · rw [if_neg q, gs_ne (by omega), ← lc_at (by omega)]; exact k5 i hi
          · rw [lc_at (by omega), gs_eq]; rfl
        · exact hc_same d5 (by rw [gs_ne (by omega), gs_ne (by omega)]) (by rw [gs_ne (by omega), gs_ne (by omega)]) (fun k => by rw [gs_ne (by omega), gs_ne (by omega)]) (fun x k g1 g2 => by rw [gs_ne (by omega), gs_ne (by omega)])
        · exact sc_same d6 (fun k => by rw [gs_ne (by omega), gs_ne (by omega)]) (fun x k g1 g2 => by rw [gs_ne (by omega), gs_ne (by omega)])
        · rw [gs_ne (by omega), gs_ne (by omega)]; exact e4 x k hx
      · obtain ⟨s, e1, e2, e3, e4⟩ := m_rem hM hM2 hw hc
        have h4 : gi σ 396 (1 + j) = nI (cS (aC a) j) := by have := hc.2.2.1.2.2.1 j hj; rw [rw_at (by omega), Nat.zero_add] at this; exact this
        obtain ⟨d1, d2, d3, d4, d5⟩ := e2
        obtain ⟨s2, g1, g2, g3, g4⟩ := m_begins hM hM2 (σ := si s 396 (1 + j) (nI v))
        have g3' : ∀ k, k < 7 ∨ k = 8 ∨ 26 ≤ k → gi s2 396 k = gi (si s 396 (1 + j) (nI v)) 396 k := fun k hk => g3 k (by omega) (by omega) (by omega) (by omega) (by omega) (by omega) (by omega)
        refine ⟨s2, ?_, ⟨?_, fun i hi => ?_, ?_, ?_, ?_⟩, fun x k hx => ?_⟩
        · unfold fX7_settle
          rw [tk_ok hM.1, m_can hj, if_pos hf, bd_ok, if_pos (by decide), dr_ok hM.2.1 hM2.1.1, hM2.1.2, show (1 : Int32) = nI 1 from rfl, nI_add, ck_n (by omega) (by omega), lt_ok, nI_clamp (by omega), h4, if_pos hne, e1, bv_ok, ck_n (by omega) (by omega), ss_ok, g1, bv_ok]
        · rw [g4 _ _ (by omega), gs_ne (by omega)]; exact d1
        · rw [g4 _ _ (by omega), gs_ne (by omega)]; exact d2 i hi
        · obtain ⟨k1, k2, k3, k4, k5, k6, k7⟩ := d3
          have hn := hwc.1
          refine ⟨?_, fun i hi => ?_, fun i hi => ?_, ?_, ?_, fun h => absurd h (by show ¬ 1 ≤ 0; omega), fun h => absurd h (by show ¬ 2 ≤ 0; omega)⟩
          · rw [rw_at (by omega), g3' _ (by omega), gs_ne (by omega), ← rw_at (by omega)]; exact k1
          · have hi : i < cN (aC a) := hi
            rw [rw_at (by omega), g3' _ (by omega), gs_ne (by omega), ← rw_at (by omega)]; exact k2 i hi
          · show _ = nI (if i = j then v else cS (aC a) i)
            rw [rw_at (by omega), g3' _ (by omega), Nat.zero_add]
            by_cases q : i = j
            · rw [if_pos q, q, gs_eq]
            · rw [if_neg q, gs_ne (by omega), ← Nat.zero_add (1 + i), ← rw_at (by omega)]; exact k3 i hi
          · rw [rw_at (by omega), g2]; rfl
          · rw [rw_at (by omega), g3' _ (by omega), gs_ne (by omega), ← rw_at (by omega)]; exact k5
        · exact hm_same d4 (by rw [g4 _ _ (by omega), gs_ne (by omega)]) (fun k => by rw [g4 _ _ (by omega), gs_ne (by omega)])
        · exact sm_same d5 (by rw [g4 _ _ (by omega), gs_ne (by omega)]) (fun k => by rw [g4 _ _ (by omega), gs_ne (by omega)])
        · rw [g4 _ _ (by omega), gs_ne (by omega)]; exact e4 x k hx
  · refine ⟨-1, a, hw, spc_q (fun σ hc => ⟨σ, ?_, fun _ _ _ => rfl, fun _ _ _ => rfl⟩), spm_q (fun σ hc => ⟨σ, ?_, fun _ _ _ => rfl, fun _ _ _ => rfl⟩)⟩
    · unfold fX6_settle; rw [tk_ok hR.1, c_fits hj, if_neg hf, bd_ok, if_neg (fun q => q rfl)]
    · unfold fX7_settle; rw [tk_ok hM.1, m_can hj, if_neg hf, bd_ok, if_neg (fun q => q rfl)]
end CL
end
section
/-! records in rising order -/
theorem insR_len (f : Nat → Nat) (n : Nat) : ∀ l : List Nat, (insR f n l).length = l.length + 1
  | [] => rfl
  | a :: l => by
    unfold insR
    split
    · rfl
    · simp [insR_len f n l]
theorem rs_len (f : Nat → Nat) : ∀ n, (rs f n).length = n
  | 0 => rfl
  | n + 1 => by unfold rs; rw [insR_len, rs_len f n]
theorem insR_mem {f : Nat → Nat} {n x : Nat} : ∀ {l : List Nat}, x ∈ insR f n l ↔ x = n ∨ x ∈ l
  | [] => by simp [insR]
  | a :: l => by
    unfold insR
    split
    · simp
    · simp only [List.mem_cons, insR_mem]
      constructor
      · rintro (h | h | h)
        · exact Or.inr (Or.inl h)
        · exact Or.inl h
        · exact Or.inr (Or.inr h)
      · rintro (h | h | h)
        · exact Or.inr (Or.inl h)
        · exact Or.inl h
        · exact Or.inr (Or.inr h)
theorem rs_mem {f : Nat → Nat} {x : Nat} : ∀ {n : Nat}, x ∈ rs f n ↔ x < n
  | 0 => by simp [rs]
  | n + 1 => by
    unfold rs
    rw [insR_mem, rs_mem]
    omega
theorem insR_srt {f : Nat → Nat} {n : Nat} : ∀ {l : List Nat}, l.Pairwise (fun a b => f a ≤ f b) → (insR f n l).Pairwise (fun a b => f a ≤ f b)
  | [], _ => by simp [insR]
  | a :: l, h => by
    obtain ⟨h1, h2⟩ := List.pairwise_cons.mp h
    unfold insR
    split
    · next hc =>
      refine List.pairwise_cons.mpr ⟨fun b hb => ?_, h⟩
      rcases List.mem_cons.mp hb with rfl | hb
      · omega
      · have := h1 b hb; omega
    · next hc =>
      refine List.pairwise_cons.mpr ⟨fun b hb => ?_, insR_srt h2⟩
      rcases insR_mem.mp hb with rfl | hb
      · omega
      · exact h1 b hb
theorem rs_srt (f : Nat → Nat) : ∀ n, (rs f n).Pairwise (fun a b => f a ≤ f b)
  | 0 => List.Pairwise.nil
  | n + 1 => insR_srt (rs_srt f n)
theorem insR_cnt {f : Nat → Nat} {n : Nat} {p : Nat → Bool} : ∀ {l : List Nat}, (insR f n l).countP p = l.countP p + (if p n then 1 else 0)
  | [] => by simp [insR, List.countP_cons]
  | a :: l => by
    unfold insR
    split
    · simp only [List.countP_cons]
    · simp only [List.countP_cons, insR_cnt]
      omega
theorem rs_gt (f : Nat → Nat) (k : Nat) : ∀ n, (rs f n).countP (fun i => decide (k < f i)) = gtC f k n
  | 0 => rfl
  | n + 1 => by
    unfold rs gtC
    rw [insR_cnt, rs_gt f k n]
    simp
theorem insR_congr {f g : Nat → Nat} {n : Nat} : ∀ {l : List Nat}, f n = g n → (∀ x ∈ l, f x = g x) → insR f n l = insR g n l
  | [], _, _ => rfl
  | a :: l, h, h2 => by
    unfold insR
    rw [h, h2 a List.mem_cons_self, insR_congr h (fun x hx => h2 x (List.mem_cons_of_mem _ hx))]
theorem rs_congr {f g : Nat → Nat} : ∀ {n : Nat}, (∀ i, i < n → f i = g i) → rs f n = rs g n
  | 0, _ => rfl
  | n + 1, h => by
    unfold rs
    rw [rs_congr (n := n) (fun i hi => h i (by omega)), insR_congr (h n (by omega)) (fun x hx => h x (by have := rs_mem.mp hx; omega))]
theorem gtC_congr {f g : Nat → Nat} {k : Nat} : ∀ {n : Nat}, (∀ i, i < n → f i = g i) → gtC f k n = gtC g k n
  | 0, _ => rfl
  | n + 1, h => by
    unfold gtC
    rw [gtC_congr (n := n) (fun i hi => h i (by omega)), h n (by omega)]
theorem inv_congr {f g : Nat → Nat} : ∀ {n : Nat}, (∀ i, i < n → f i = g i) → inv f n = inv g n
  | 0, _ => rfl
  | n + 1, h => by
    unfold inv
    rw [inv_congr (n := n) (fun i hi => h i (by omega)), h n (by omega), gtC_congr (n := n) (fun i hi => h i (by omega))]
theorem ins_at {f : Nat → Nat} {n : Nat} : ∀ {l : List Nat} {p : Nat}, p ≤ l.length → (∀ i, i < p → f (l.getD i 0) ≤ f n) → (p < l.length → f n < f (l.getD p 0)) → ∀ j, (insR f n l).getD j 0 = if j < p then l.getD j 0 else if j = p then n else l.getD (j - 1) 0
  | [], p, hp, _, _, j => by
    have : p = 0 := by simpa using hp
    subst this
    cases j with
    | zero => simp [insR]
    | succ j => simp [insR]
  | a :: l, 0, _, _, h2, j => by
    have h3 : f n < f a := by simpa using h2 (by simp)
    unfold insR
    rw [if_pos h3]
    cases j with
    | zero => simp
    | succ j => simp
  | a :: l, p + 1, hp, h1, h2, j => by
    have h3 : ¬ f n < f a := by have := h1 0 (by omega); simp at this; omega
    unfold insR
    rw [if_neg h3]
    cases j with
    | zero => simp
    | succ j =>
      have ih := ins_at (f := f) (n := n) (l := l) (p := p) (by simpa using hp) (fun i hi => by have := h1 (i + 1) (by omega); simpa using this) (fun hq => by have := h2 (by simp; omega); simpa using this) j
      simp only [List.getD_cons_succ]
      rw [ih]
      by_cases c1 : j < p
      · rw [if_pos c1, if_pos (show j + 1 < p + 1 by omega)]
      · rw [if_neg c1, if_neg (show ¬ j + 1 < p + 1 by omega)]
        by_cases c2 : j = p
        · rw [if_pos c2, if_pos (show j + 1 = p + 1 by omega)]
        · rw [if_neg c2, if_neg (show ¬ j + 1 = p + 1 by omega)]
          cases j with
          | zero => omega
          | succ j => simp
theorem srt_at {f : Nat → Nat} {l : List Nat} (h : l.Pairwise (fun a b => f a ≤ f b)) {i j : Nat} (hij : i ≤ j) (hj : j < l.length) : f (l.getD i 0) ≤ f (l.getD j 0) := by
  have hi : i < l.length := by omega
  rw [List.getD_eq_getElem?_getD, List.getD_eq_getElem?_getD, List.getElem?_eq_getElem hi, List.getElem?_eq_getElem hj]
  simp only [Option.getD_some]
  by_cases he : i = j
  · subst he; exact Nat.le_refl _
  · exact List.pairwise_iff_getElem.mp h i j hi hj (by omega)
theorem cnt_at {p : Nat → Bool} : ∀ {l : List Nat} {q : Nat}, q ≤ l.length → (∀ i, i < q → p (l.getD i 0) = false) → (∀ i, q ≤ i → i < l.length → p (l.getD i 0) = true) → l.countP p = l.length - q
  | [], q, _, _, _ => by simp
  | a :: l, 0, _, _, h2 => by
    have h0 : p a = true := by simpa using h2 0 (by omega) (by simp)
    have ih := cnt_at (p := p) (l := l) (q := 0) (by omega) (fun i hi => absurd hi (Nat.not_lt_zero i)) (fun i h3 h4 => by have := h2 (i + 1) (by omega) (by simpa using h4); simpa using this)
    rw [List.countP_cons, ih, if_pos h0]
    simp
  | a :: l, q + 1, hq, h1, h2 => by
    have h0 : p a = false := by simpa using h1 0 (by omega)
    have ih := cnt_at (p := p) (l := l) (q := q) (by simpa using hq) (fun i hi => by have := h1 (i + 1) (by omega); simpa using this) (fun i h3 h4 => by have := h2 (i + 1) (by omega) (by simpa using h4); simpa using this)
    rw [List.countP_cons, ih, h0]
    simp
def RR (σ : Sg) (F : Nat → Nat) (m : Nat) : Prop := gi σ 3 2 = nI m ∧ (∀ i, i < m → gi σ 4 i = nI (F i)) ∧ (∀ i, i < m → gi σ 5 i = nI ((rs F m).getD i 0)) ∧ gi σ 3 3 = nI (inv F m)
theorem rr_congr {σ : Sg} {F G : Nat → Nat} {m : Nat} (h : RR σ F m) (hg : ∀ i, i < m → F i = G i) : RR σ G m := by
  obtain ⟨h1, h2, h3, h4⟩ := h
  refine ⟨h1, fun i hi => by rw [h2 i hi, hg i hi], fun i hi => by rw [h3 i hi, rs_congr hg], by rw [h4, inv_congr hg]⟩
set_option maxHeartbeats 1000000 in
theorem c_add {E : En} (hL : LRec E 3) {σ : Sg} {F : Nat → Nat} {m : Nat} (hm : m < 300) (hF : ∀ i, i ≤ m → F i < 256) (h : RR σ F m) : ∃ s, fX3_add E 3 (nI (F m)) σ = some s ∧ RR s F (m + 1) ∧ ∀ x k, x ≠ 4 → x ≠ 5 → ¬ (x = 3 ∧ (k = 2 ∨ k = 3)) → gi s x k = gi σ x k := by
  obtain ⟨h1, h2, h3, h4⟩ := h
  obtain ⟨l0, l1, l2, l3, l4⟩ := hL
  have hlen := rs_len F m
  have hsrt := rs_srt F m
  have hlt : ∀ i, i < m → (rs F m).getD i 0 < m := by
    intro i hi
    have : (rs F m).getD i 0 ∈ rs F m := by
      rw [List.getD_eq_getElem?_getD, List.getElem?_eq_getElem (by omega)]
      exact List.getElem_mem _
    exact rs_mem.mp this
  unfold fX3_add
  rw [tk_ok l0, h1, show (300 : Int32) = nI 300 from rfl, if_pos (nI_lt hm (by omega)), lt_ok]
  have key := fx_ok (F := fun (rec : Int32 × Sg → Option (Int32 × Sg)) (b : Int32 × Sg) => bX3_add_16 E 3 (nI (F m)) (fun u0 t => rec (u0, t)) b.1 b.2)
    (fun k b => b.1 = nI k ∧ k ≤ m ∧ (∀ x j, x ≠ 5 → gi b.2 x j = gi σ x j) ∧ (∀ j, j < k → gi b.2 5 j = gi σ 5 j) ∧ (∀ j, k < j → j ≤ m → gi b.2 5 j = gi σ 5 (j - 1)) ∧ ∀ j, k ≤ j → j < m → F m < F ((rs F m).getD j 0))
    (fun b => ∃ p, b.1 = nI p ∧ p ≤ m ∧ (∀ x j, x ≠ 5 → gi b.2 x j = gi σ x j) ∧ (∀ j, j < p → gi b.2 5 j = gi σ 5 j) ∧ (∀ j, p < j → j ≤ m → gi b.2 5 j = gi σ 5 (j - 1)) ∧ (∀ j, p ≤ j → j < m → F m < F ((rs F m).getD j 0)) ∧ (0 < p → F ((rs F m).getD (p - 1) 0) ≤ F m))
    ?_ FU m (nI m, σ) (by show m < 1000000; omega) ⟨rfl, Nat.le_refl _, fun _ _ _ => rfl, fun _ _ => rfl, fun j g1 g2 => by omega, fun j g1 g2 => by omega⟩
  · obtain ⟨⟨v, s⟩, e, p, g0, g1, g2, g3, g4, g5, g6⟩ := key
    dsimp only at g0 g2 g3 g4
    subst g0
    have hle : ∀ i, i < p → F ((rs F m).getD i 0) ≤ F m := fun i hi => Nat.le_trans (srt_at hsrt (i := i) (j := p - 1) (by omega) (by omega)) (g6 (by omega))
    have hins := ins_at (f := F) (n := m) (l := rs F m) (p := p) (by omega) hle (fun hq => g5 p (Nat.le_refl _) (by omega))
    have hcnt : gtC F (F m) m = m - p := by
      rw [← rs_gt, cnt_at (q := p) (by omega) (fun i hi => decide_eq_false (by have := hle i hi; omega)) (fun i a b => decide_eq_true (g5 i a (by omega))), hlen]
    rw [e, bd_ok, dr_ok l2 l4.1, l4.2, ck_n (by omega) (by omega), nI_clamp (by omega), ss_ok, ss_ok, dr_ok l1 l3.1, l3.2]
    have q2 : gi s 3 2 = nI m := by rw [g2 _ _ (by omega)]; exact h1
    have q3 : gi s 3 3 = nI (inv F m) := by rw [g2 _ _ (by omega)]; exact h4
    rw [gs_ne (show (3 : Nat) ≠ 3 ∨ 2 ≠ 3 by omega), gs_ne (show (3 : Nat) ≠ 5 ∨ 2 ≠ p by omega), gs_ne (show (3 : Nat) ≠ 5 ∨ 3 ≠ p by omega), q2, q3, sub_n g1, nI_add, ck_n hm (by omega), nI_clamp (by omega), ss_ok, gs_ne (by omega), gs_ne (by omega), gs_ne (by omega), q2, ad1, ss_ok]
    refine ⟨_, rfl, ⟨gs_eq, fun i hi => ?_, fun i hi => ?_, ?_⟩, fun x k a b c => ?_⟩
    · rw [gs_ne (by omega)]
      by_cases hc : i = m
      · subst hc; exact gs_eq
      · rw [gs_ne (by omega), gs_ne (by omega), gs_ne (by omega), g2 _ _ (by omega)]; exact h2 i (by omega)
    · rw [gs_ne (by omega), gs_ne (by omega), gs_ne (by omega)]
      unfold rs
      rw [hins]
      by_cases c1 : i < p
      · rw [if_pos c1, gs_ne (by omega), g3 i c1]; exact h3 i (by omega)
      · rw [if_neg c1]
        by_cases c2 : i = p
        · rw [if_pos c2, c2, gs_eq]
        · rw [if_neg c2, gs_ne (by omega), g4 i (by omega) (by omega)]; exact h3 (i - 1) (by omega)
    · rw [gs_ne (by omega), gs_ne (by omega), gs_eq]
      show _ = nI (inv F m + gtC F (F m) m)
      rw [hcnt]
    · rw [gs_ne (by omega), gs_ne (by omega), gs_ne (by omega), gs_ne (by omega), g2 _ _ (by omega)]
  · rintro k ⟨v, s⟩ rec ⟨g0, g1, g2, g3, g4, g5⟩ IH
    dsimp only at g0 g2 g3 g4 ⊢
    subst g0
    unfold bX3_add_16
    by_cases hk : k = 0
    · subst hk
      rw [if_pos (by decide)]
      exact ⟨_, rfl, 0, rfl, by omega, g2, g3, g4, g5, fun h => by omega⟩
    · have r5 : gi s 5 (k - 1) = nI ((rs F m).getD (k - 1) 0) := by rw [g3 _ (by omega)]; exact h3 _ (by omega)
      have hl := hlt (k - 1) (by omega)
      have r4 : gi s 4 ((rs F m).getD (k - 1) 0) = nI (F ((rs F m).getD (k - 1) 0)) := by rw [g2 _ _ (by omega)]; exact h2 _ hl
      have b1 := hF m (Nat.le_refl _)
      have b2 := hF _ (Nat.le_of_lt hl)
      rw [if_neg (nI_nle (by omega) (by omega)), dr_ok l1 l3.1, dr_ok l2 l4.1, l3.2, l4.2, show (1 : Int32) = nI 1 from rfl, sub_n (by omega), ck_n (by omega) (by omega), nI_clamp (n := k - 1) (by omega), r5, ck_n (by omega) (by omega), nI_clamp (by omega), r4]
      by_cases hc : F ((rs F m).getD (k - 1) 0) ≤ F m
      · rw [if_pos (nI_le hc (by omega))]
        exact ⟨_, rfl, k, rfl, g1, g2, g3, g4, g5, fun _ => hc⟩
      · rw [if_neg (nI_ge (by omega) (by omega)), ck_n (by omega) (by omega), ck_n (by omega) (by omega), nI_clamp (by omega), ss_ok, lt_ok, show nI k + -nI 1 = nI (k - 1) from sb_m1 (by omega)]
        refine IH (k - 1) _ (by omega) ⟨rfl, by omega, fun x j hx => ?_, fun j hj => ?_, fun j a b => ?_, fun j a b => ?_⟩
        · dsimp only; rw [gs_ne (by omega)]; exact g2 x j hx
        · dsimp only; rw [gs_ne (by omega)]; exact g3 j (by omega)
        · dsimp only
          by_cases hj : j = k
          · subst hj; rw [gs_eq, h3 (j - 1) (by omega)]
          · rw [gs_ne (by omega)]; exact g4 j (by omega) b
        · by_cases hj : j = k - 1
          · subst hj; omega
          · exact g5 j (by omega) b
end
section
/-! tell -/
theorem m_comes {E : En} (hM : LMod E) (hM2 : LMo2 E) {σ : Sg} {n : Nat} {v : Int32} (h : gi σ 396 0 = nI n) (hn : n < 300) : fX7_comes E 395 v σ = some (si (si σ 396 (26 + n) v) 396 0 (nI (n + 1))) := by
  unfold fX7_comes
  rw [tk_ok hM.1, dr_ok hM.2.1 hM2.1.1, m_many hM hM2, bd_ok, h, show (26 : Int32) = nI 26 from rfl, nI_add, hM2.1.2, ck_n (by omega) (by omega), nI_clamp (by omega), ss_ok, show (0 : Int32) = nI 0 from rfl, ck_n (by omega) (by omega), ck_n (by omega) (by omega), nI_clamp (by omega), gs_ne (by omega), h, ss_ok, ad1]
theorem cs_rr {CG CM : (Nat → Nat → Int32) → Cu → Prop} {σ : Sg} {c : Cu} (h : CS CG CM (lc σ 2) c) : RR σ (cF c) (cN c) ∧ (∀ j, j < 6 → gi σ 6 j = nI (cS c j)) ∧ gi σ 2 2 = nI (cT c) := by
  obtain ⟨h1, h2, h3, h4, h5, h6, -, -⟩ := h
  refine ⟨⟨?_, fun i hi => ?_, fun i hi => ?_, ?_⟩, fun j hj => ?_, ?_⟩
  · rw [lc_at (by omega)] at h1; exact h1
  · have := h2 i hi; rw [lc_at (by omega)] at this; exact this
  · have := h3 i hi; rw [lc_at (by omega)] at this; exact this
  · rw [lc_at (by omega)] at h4; exact h4
  · have := h5 j hj; rw [lc_at (by omega)] at this; exact this
  · rw [lc_at (by omega)] at h6; exact h6
theorem rr_cs {CG CM : (Nat → Nat → Int32) → Cu → Prop} {σ : Sg} {F : Nat → Nat} {m : Nat} {st : Nat → Nat} (h : RR σ F m) (h2 : ∀ j, j < 6 → gi σ 6 j = nI (st j)) (h3 : gi σ 2 2 = 0) : CS CG CM (lc σ 2) (F, m, st, 0, 0) := by
  obtain ⟨g1, g2, g3, g4⟩ := h
  refine ⟨?_, fun i hi => ?_, fun i hi => ?_, ?_, fun j hj => ?_, ?_, fun h => absurd h (by show ¬ 1 ≤ 0; omega), fun h => absurd h (by show ¬ 2 ≤ 0; omega)⟩
  · rw [lc_at (by omega)]; exact g1
  · rw [lc_at (by omega)]; exact g2 i hi
  · rw [lc_at (by omega)]; exact g3 i hi
  · rw [lc_at (by omega)]; exact g4
  · rw [lc_at (by omega)]; exact h2 j hj
  · rw [lc_at (by omega)]; exact h3
theorem mr_g {MG MM : (Nat → Int32) → Cu → Prop} {σ : Sg} {c : Cu} {x : Nat} (hn : cN c ≤ 300) (h : MR MG MM (rw7 σ 396 0) c x) : gi σ 396 0 = nI (cN c) ∧ (∀ i, i < cN c → gi σ 396 (26 + i) = nI (cF c i)) ∧ (∀ j, j < 6 → gi σ 396 (1 + j) = nI (cS c j)) ∧ gi σ 396 7 = nI (cT c) ∧ gi σ 396 8 = nI x := by
  obtain ⟨h1, h2, h3, h4, h5, -, -⟩ := h
  refine ⟨?_, fun i hi => ?_, fun j hj => ?_, ?_, ?_⟩
  · rw [rw_at (by omega)] at h1; exact h1
  · have := h2 i hi; rw [rw_at (by omega), Nat.zero_add] at this; exact this
  · have := h3 j hj; rw [rw_at (by omega), Nat.zero_add] at this; exact this
  · rw [rw_at (by omega)] at h4; exact h4
  · rw [rw_at (by omega)] at h5; exact h5
theorem g_mr {MG MM : (Nat → Int32) → Cu → Prop} {σ : Sg} {F : Nat → Nat} {m x : Nat} {st : Nat → Nat} (hn : m ≤ 300) (h1 : gi σ 396 0 = nI m) (h2 : ∀ i, i < m → gi σ 396 (26 + i) = nI (F i)) (h3 : ∀ j, j < 6 → gi σ 396 (1 + j) = nI (st j)) (h4 : gi σ 396 7 = 0) (h5 : gi σ 396 8 = nI x) : MR MG MM (rw7 σ 396 0) (F, m, st, 0, 0) x := by
  refine ⟨?_, fun i hi => ?_, fun j hj => ?_, ?_, ?_, fun h => absurd h (by show ¬ 1 ≤ 0; omega), fun h => absurd h (by show ¬ 2 ≤ 0; omega)⟩
  · rw [rw_at (by omega)]; exact h1
  · have hi : i < m := hi
    rw [rw_at (by omega), Nat.zero_add]; exact h2 i hi
  · rw [rw_at (by omega), Nat.zero_add]; exact h3 j hj
  · rw [rw_at (by omega)]; exact h4
  · rw [rw_at (by omega)]; exact h5
section TL
variable {CG CM : (Nat → Nat → Int32) → Cu → Prop} {MG MM : (Nat → Int32) → Cu → Prop} {E : En}
theorem ok_tell (hR : LRun E) (hM : LMod E) (hM2 : LMo2 E) (hcp : CPY E CG CM) : Ok (JJ CG CM MG MM) (fX6_tell E 0) (fX7_tell E 395) := by
  refine ok_of (fun a hw => ?_)
  have hwc := hw.2.2.1
  have hn := hwc.1
  have hb := hw.1
  obtain ⟨r0, r1, r3, r4, r5, r8, r9, r10, r11, r12, r13, l1, l2, lx⟩ := id hR
  have l3 : LRec E 3 := l2.2.2.2.2.2.2.2.1
  by_cases h0 : aN a = 0
  · refine ⟨-1, a, hw, spc_q (fun σ hc => ⟨σ, ?_, fun _ _ _ => rfl, fun _ _ _ => rfl⟩), spm_q (fun σ hc => ⟨σ, ?_, fun _ _ _ => rfl, fun _ _ _ => rfl⟩)⟩
    · unfold fX6_tell; rw [tk_ok r0, hc.1, h0, if_pos (show nI 0 = 0 from rfl)]
    · unfold fX7_tell; rw [tk_ok hM.1, hc.1, h0, if_pos (show nI 0 = 0 from rfl)]
  have h0' : ¬ nI (aN a) = 0 := nI_ne0 (by omega) (by omega)
  by_cases h1 : cN (aC a) + aN a ≤ 300
  · let F : Nat → Nat := fun j => if j < cN (aC a) then cF (aC a) j else aB a (j - cN (aC a))
    have hFlo : ∀ i, i < cN (aC a) → cF (aC a) i = F i := fun i hi => by show _ = if _ then _ else _; rw [if_pos hi]
    have hFhi : ∀ i, aB a i = F (cN (aC a) + i) := fun i => by show _ = if _ then _ else _; rw [if_neg (by omega), show cN (aC a) + i - cN (aC a) = i by omega]
    have hF : ∀ i, i < cN (aC a) + aN a → F i < 256 := by
      intro i hi
      by_cases q : i < cN (aC a)
      · rw [← hFlo i q]; exact hwc.2.1 i q
      · rw [show i = cN (aC a) + (i - cN (aC a)) by omega, ← hFhi]; exact hw.2.1 _ (by omega)
    refine ⟨nI (cN (aC a) + aN a), (aB a, 0, (F, cN (aC a) + aN a, cS (aC a), 0, 0), (rem a).2.2.2), ?_, fun σ hc => ?_, fun σ hc => ?_⟩
    · obtain ⟨g1, g2, g3, g4, g5, g6, g7⟩ := rem_wf hw
      exact ⟨Nat.zero_le _, fun i hi => absurd hi (Nat.not_lt_zero i), ⟨h1, hF, hwc.2.2.1, Nat.zero_le _, fun h => absurd h (by show ¬ 1 ≤ 0; omega), fun h => absurd h (by show ¬ 2 ≤ 0; omega)⟩, g4, g5, g6, g7⟩
    · obtain ⟨s, e1, e2, e3, e4⟩ := c_rem hR hcp hw hc
      obtain ⟨d1, d2, d3, d4, d5, d6⟩ := e2
      have hsz : gi σ 3 2 = nI (cN (aC a)) := (cs_rr hc.2.2.2.1).1.1
      obtain ⟨k1, k2, k3⟩ := cs_rr d4
      have d1 : gi s 0 1 = nI (aN a) := d1
      have d2 : ∀ i, i < aN a → gi s 1 i = nI (aB a i) := d2
      have key := fx_ok (F := fun (rec : Int32 × Sg → Option (Int32 × Sg)) (b : Int32 × Sg) => bX6_tell_36 E 0 3 (fun u0 t => rec (u0, t)) b.1 b.2)
        (fun k b => ∃ i, b.1 = nI i ∧ i ≤ aN a ∧ k = aN a - i ∧ RR b.2 F (cN (aC a) + i) ∧ ∀ x k, x ≠ 3 → x ≠ 4 → x ≠ 5 → gi b.2 x k = gi s x k)
        (fun b => RR b.2 F (cN (aC a) + aN a) ∧ ∀ x k, x ≠ 3 → x ≠ 4 → x ≠ 5 → gi b.2 x k = gi s x k)
        ?_ FU (aN a) ((0 : Int32), s) (by show aN a < 1000000; omega) ⟨0, rfl, by omega, by omega, rr_congr k1 hFlo, fun _ _ _ _ _ => rfl⟩
      · obtain ⟨⟨v, s2⟩, f1, f2, f3⟩ := key
        dsimp only at f2 f3
        refine ⟨si (si s2 0 1 0) 2 2 0, ?_, ⟨?_, fun i hi => absurd hi (Nat.not_lt_zero i), ?_, ?_, ?_, ?_⟩, fun x k hx => ?_⟩
        · unfold fX6_tell
          rw [tk_ok r0, hc.1, if_neg h0', dr_ok r3 l2.1, dr_ok l2.2.1 l3.1, hsz, nI_add, show (300 : Int32) = nI 300 from rfl, if_pos (nI_le h1 (by omega)), e1, bv_ok]
          rw [f1, bd_ok, ss_ok, ss_ok, gs_ne (by omega), gs_ne (by omega)]
          show some (gi s2 3 2, _) = _
          rw [f2.1]
        · rw [gs_ne (by omega), gs_eq]; rfl
        · rw [gs_ne (by omega), gs_ne (by omega), f3 _ _ (by omega) (by omega) (by omega)]; exact d3
        · refine rr_cs ⟨?_, fun i hi => ?_, fun i hi => ?_, ?_⟩ (fun j hj => ?_) gs_eq
          · rw [gs_ne (by omega), gs_ne (by omega)]; exact f2.1
          · rw [gs_ne (by omega), gs_ne (by omega)]; exact f2.2.1 i hi
          · rw [gs_ne (by omega), gs_ne (by omega)]; exact f2.2.2.1 i hi
          · rw [gs_ne (by omega), gs_ne (by omega)]; exact f2.2.2.2
          · rw [gs_ne (by omega), gs_ne (by omega), f3 _ _ (by omega) (by omega) (by omega)]; exact k2 j hj
        · exact hc_same d5 (by rw [gs_ne (by omega), gs_ne (by omega), f3 _ _ (by omega) (by omega) (by omega)]) (by rw [gs_ne (by omega), gs_ne (by omega), f3 _ _ (by omega) (by omega) (by omega)]) (fun k => by rw [gs_ne (by omega), gs_ne (by omega), f3 _ _ (by omega) (by omega) (by omega)]) (fun x k g1 g2 => by rw [gs_ne (by omega), gs_ne (by omega), f3 _ _ (by omega) (by omega) (by omega)])
        · exact sc_same d6 (fun k => by rw [gs_ne (by omega), gs_ne (by omega), f3 _ _ (by omega) (by omega) (by omega)]) (fun x k g1 g2 => by rw [gs_ne (by omega), gs_ne (by omega), f3 _ _ (by omega) (by omega) (by omega)])
        · rw [gs_ne (by omega), gs_ne (by omega), f3 _ _ (by omega) (by omega) (by omega)]; exact e4 x k hx
      · rintro k ⟨v, s2⟩ rec ⟨i, rfl, hi2, rfl, f2, f3⟩ IH
        dsimp only at f2 f3 ⊢
        unfold bX6_tell_36
        rw [f3 0 1 (by omega) (by omega) (by omega), d1]
        by_cases q : i = aN a
        · subst q
          rw [if_pos (nI_le (Nat.le_refl _) (by omega))]
          exact ⟨_, rfl, f2, f3⟩
        · rw [if_neg (nI_ge (by omega) (by omega)), dr_ok r1 l1.1, l1.2, ck_n (by omega) (by omega), nI_clamp (by omega), f3 1 i (by omega) (by omega) (by omega), d2 i (by omega), hFhi i]
          obtain ⟨s3, g1, g2, g3⟩ := c_add l3 (m := cN (aC a) + i) (by omega) (fun j hj => hF j (by omega)) f2
          rw [g1, bv_ok, lt_ok, ad1]
          exact IH (aN a - (i + 1)) _ (by omega) ⟨i + 1, rfl, by omega, rfl, g2, fun x k h3 h4 h5 => by dsimp only; rw [g3 x k h4 h5 (by omega), f3 x k h3 h4 h5]⟩
    · obtain ⟨s, e1, e2, e3, e4⟩ := m_rem hM hM2 hw hc
      obtain ⟨d1, d2, d3, d4, d5⟩ := e2
      obtain ⟨k1, k2, k3, k4, k5⟩ := mr_g hn hc.2.2.1
      have d1 : gi s 395 7 = nI (aN a) := d1
      have d2 : ∀ i, i < aN a → gi s 400 i &&& 255 = nI (aB a i) := d2
      have key := fx_ok (F := fun (rec : Int32 × Sg → Option (Int32 × Sg)) (b : Int32 × Sg) => bX7_tell_30 E 395 (fun u0 t => rec (u0, t)) b.1 b.2)
        (fun k b => ∃ i, b.1 = nI i ∧ i ≤ aN a ∧ k = aN a - i ∧ gi b.2 396 0 = nI (cN (aC a) + i) ∧ (∀ j, j < cN (aC a) + i → gi b.2 396 (26 + j) = nI (F j)) ∧ (∀ j, 0 < j → j < 26 → gi b.2 396 j = gi σ 396 j) ∧ ∀ x k, x ≠ 396 → gi b.2 x k = gi s x k)
        (fun b => gi b.2 396 0 = nI (cN (aC a) + aN a) ∧ (∀ j, j < cN (aC a) + aN a → gi b.2 396 (26 + j) = nI (F j)) ∧ (∀ j, 0 < j → j < 26 → gi b.2 396 j = gi σ 396 j) ∧ ∀ x k, x ≠ 396 → gi b.2 x k = gi s x k)
        ?_ FU (aN a) ((0 : Int32), s) (by show aN a < 1000000; omega) ⟨0, rfl, by omega, by omega, by dsimp only; rw [e3]; exact k1, fun j hj => by dsimp only; rw [e3, k2 j hj, hFlo j hj], fun j _ _ => e3 j, fun _ _ _ => rfl⟩
      · obtain ⟨⟨v, s2⟩, f1, f2, f3, f4, f5⟩ := key
        dsimp only at f2 f3 f4 f5
        obtain ⟨s3, g1, g2, g3, g4⟩ := m_begins hM hM2 (σ := si s2 395 7 0)
        have g3' : ∀ k, k < 7 ∨ k = 8 ∨ 26 ≤ k → gi s3 396 k = gi s2 396 k := fun k hk => by rw [g3 k (by omega) (by omega) (by omega) (by omega) (by omega) (by omega) (by omega), gs_ne (by omega)]
        refine ⟨s3, ?_, ⟨?_, fun i hi => absurd hi (Nat.not_lt_zero i), ?_, ?_, ?_⟩, fun x k hx => ?_⟩
        · unfold fX7_tell
          rw [tk_ok hM.1, hc.1, if_neg h0', m_many hM hM2, bd_ok, k1, hc.1, nI_add, show (300 : Int32) = nI 300 from rfl, if_pos (nI_le h1 (by omega)), e1, bv_ok]
          rw [f1, bd_ok, ss_ok, g1, bv_ok, m_many hM hM2, bd_ok, g3' 0 (by omega), f2]
        · rw [g4 _ _ (by omega), gs_eq]; rfl
        · refine g_mr h1 (by rw [g3' _ (by omega)]; exact f2) (fun i hi => by rw [g3' _ (by omega)]; exact f3 i hi) (fun j hj => by rw [g3' _ (by omega), f4 _ (by omega) (by omega)]; exact k3 j hj) g2 (by rw [g3' _ (by omega), f4 _ (by omega) (by omega)]; exact k5)
        · exact hm_same d4 (by rw [g4 _ _ (by omega), gs_ne (by omega), f5 _ _ (by omega)]) (fun k => by rw [g4 _ _ (by omega), gs_ne (by omega), f5 _ _ (by omega)])
        · exact sm_same d5 (by rw [g4 _ _ (by omega), gs_ne (by omega), f5 _ _ (by omega)]) (fun k => by rw [g4 _ _ (by omega), gs_ne (by omega), f5 _ _ (by omega)])
        · rw [g4 _ _ (by omega), gs_ne (by omega), f5 _ _ (by omega)]; exact e4 x k hx
      · rintro k ⟨v, s2⟩ rec ⟨i, rfl, hi2, rfl, f2, f3, f4, f5⟩ IH
        dsimp only at f2 f3 f4 f5 ⊢
        unfold bX7_tell_30
        rw [f5 395 7 (by omega), d1]
        by_cases q : i = aN a
        · subst q
          rw [if_pos (nI_le (Nat.le_refl _) (by omega))]
          exact ⟨_, rfl, f2, f3, f4, f5⟩
        · rw [if_neg (nI_ge (by omega) (by omega)), dr_ok hM.2.2.2.2.2.1 hM2.2.2.2.2.1.1, hM2.2.2.2.2.1.2, ck_n (by omega) (by omega), nI_clamp (by omega), f5 400 i (by omega), d2 i (by omega), hFhi i, m_comes hM hM2 f2 (by omega), bv_ok, lt_ok, ad1]
          refine IH (aN a - (i + 1)) _ (by omega) ⟨i + 1, rfl, by omega, rfl, gs_eq, fun j hj => ?_, fun j h3 h4 => ?_, fun x k hx => ?_⟩
          · dsimp only
            rw [gs_ne (by omega)]
            by_cases qq : j = cN (aC a) + i
            · subst qq; exact gs_eq
            · rw [gs_ne (by omega)]; exact f3 j (by omega)
          · dsimp only; rw [gs_ne (by omega), gs_ne (by omega)]; exact f4 j h3 h4
          · dsimp only; rw [gs_ne (by omega), gs_ne (by omega)]; exact f5 x k hx
  · have h2 : ¬ nI (cN (aC a) + aN a) ≤ nI 300 := nI_ge (by omega) (by omega)
    refine ⟨-1, a, hw, spc_q (fun σ hc => ⟨σ, ?_, fun _ _ _ => rfl, fun _ _ _ => rfl⟩), spm_q (fun σ hc => ⟨σ, ?_, fun _ _ _ => rfl, fun _ _ _ => rfl⟩)⟩
    · have hsz : gi σ 3 2 = nI (cN (aC a)) := (cs_rr hc.2.2.2.1).1.1
      unfold fX6_tell
      rw [tk_ok r0, hc.1, if_neg h0', dr_ok r3 l2.1, dr_ok l2.2.1 l3.1, hsz, nI_add, show (300 : Int32) = nI 300 from rfl, if_neg h2]
    · obtain ⟨k1, k2, k3, k4, k5⟩ := mr_g hn hc.2.2.1
      unfold fX7_tell
      rw [tk_ok hM.1, hc.1, if_neg h0', m_many hM hM2, bd_ok, k1, hc.1, nI_add, show (300 : Int32) = nI 300 from rfl, if_neg h2]
end TL
end
section
/-! walking by simp -/
theorem tk_s {β : Type} {c : Nat} {k : Option β} : tk c c k = k := by simp [tk]
theorem dr_s {β : Type} {E : En} {c x : Nat} {f : Nat → Option β} : dr (some x) E c f = tk (cd E x) c (f x) := rfl
theorem i0 : (0 : Int32) = nI 0 := rfl
theorem i1 : (1 : Int32) = nI 1 := rfl
theorem i2 : (2 : Int32) = nI 2 := rfl
theorem i3 : (3 : Int32) = nI 3 := rfl
theorem i4 : (4 : Int32) = nI 4 := rfl
theorem i5 : (5 : Int32) = nI 5 := rfl
theorem i6 : (6 : Int32) = nI 6 := rfl
theorem i7 : (7 : Int32) = nI 7 := rfl
theorem i8 : (8 : Int32) = nI 8 := rfl
theorem mle {a b : Nat} (h : a < 2 ^ 31 ∧ b < 2 ^ 31) : (nI a ≤ nI b) = (a ≤ b) := propext (nI_leI h.1 h.2)
theorem mlt {a b : Nat} (h : a < 2 ^ 31 ∧ b < 2 ^ 31) : (nI a < nI b) = (a < b) := propext (nI_ltI h.1 h.2)
theorem meq {a b : Nat} (h : a < 2 ^ 31 ∧ b < 2 ^ 31) : (nI a = nI b) = (a = b) := propext (nI_eq h.1 h.2)
theorem ck_m {β : Type} {j n : Nat} {k : Option β} (h : j < n ∧ n < 2 ^ 31) : ck (nI j) n k = k := ck_n h.1 (by omega)
/-- a loop that counts up, its state known at each round -/
theorem for_tr {α β : Type} {F : (α → Option β) → α → Option β} {r : β} (n : Nat) (g : Nat → α) {N : Nat} (hN : n < N) (hs : ∀ i rec, i < n → F rec (g i) = rec (g (i + 1))) (he : ∀ rec, F rec (g n) = some r) {a : α} (ha : a = g 0) : fx F N a = some r := by
  subst ha
  have : ∀ k N, k ≤ n → n - k < N → fx F N (g k) = some r := by
    intro k N
    induction N generalizing k with
    | zero => intro h1 h2; omega
    | succ N ih =>
      intro h1 h2
      by_cases h : k = n
      · subst h; exact he _
      · show F (fx F N) (g k) = _
        rw [hs k _ (by omega)]
        exact ih (k + 1) (by omega) (by omega)
  exact this 0 N (by omega) (by omega)
/-- a loop that counts up, with what holds at each round -/
theorem for_in {α β : Type} {F : (α → Option β) → α → Option β} (n : Nat) (I : Nat → α → Prop) (Q : β → Prop) {N : Nat} (hN : n < N) (hs : ∀ i a rec, i < n → I i a → ∃ a', F rec a = rec a' ∧ I (i + 1) a') (he : ∀ a rec, I n a → ∃ b, F rec a = some b ∧ Q b) {a : α} (ha : I 0 a) : ∃ b, fx F N a = some b ∧ Q b := by
  have : ∀ k N a, k ≤ n → n - k < N → I k a → ∃ b, fx F N a = some b ∧ Q b := by
    intro k N
    induction N generalizing k with
    | zero => intro a h1 h2; omega
    | succ N ih =>
      intro a h1 h2 h3
      by_cases h : k = n
      · subst h; exact he a _ h3
      · obtain ⟨a', e, h4⟩ := hs k a (fx F N) (by omega) h3
        show ∃ b, F (fx F N) a = some b ∧ Q b
        rw [e]
        exact ih (k + 1) a' (by omega) (by omega) h4
  exact this 0 N a (by omega) (by omega) ha
theorem bd_tr {α β γ : Type} {F : (α → Option (β × Sg)) → α → Option (β × Sg)} {k : β → Sg → Option γ} (r : β × Sg) (n : Nat) (g : Nat → α) {N : Nat} (hN : n < N) (hs : ∀ i rec, i < n → F rec (g i) = rec (g (i + 1))) (he : ∀ rec, F rec (g n) = some r) {a : α} (ha : a = g 0) : bd (fx F N a) k = k r.1 r.2 := by
  rw [for_tr n g hN hs he ha]; rfl
theorem bd_in {α β γ : Type} {F : (α → Option (β × Sg)) → α → Option (β × Sg)} {k : β → Sg → Option γ} {P : γ → Prop} (n : Nat) (I : Nat → α → Prop) (Q : β × Sg → Prop) {N : Nat} (hN : n < N) {a : α} (ha : I 0 a) (hs : ∀ i a rec, i < n → I i a → ∃ a', F rec a = rec a' ∧ I (i + 1) a') (he : ∀ a rec, I n a → ∃ b, F rec a = some b ∧ Q b) (hk : ∀ v s, Q (v, s) → ∃ r, k v s = some r ∧ P r) : ∃ r, bd (fx F N a) k = some r ∧ P r := by
  obtain ⟨⟨v, s⟩, e, h⟩ := for_in n I Q hN hs he ha
  rw [e]; exact hk v s h
theorem bd_st {β γ : Type} {x : Option (β × Sg)} {k : β → Sg → Option γ} {P : γ → Prop} {Q : β × Sg → Prop} (h : ∃ r, x = some r ∧ Q r) (hk : ∀ v s, Q (v, s) → ∃ r, k v s = some r ∧ P r) : ∃ r, bd x k = some r ∧ P r := by
  obtain ⟨⟨v, s⟩, e, h⟩ := h
  rw [e]; exact hk v s h
theorem bv_st {γ : Type} {x : Option Sg} {k : Sg → Option γ} {P : γ → Prop} {Q : Sg → Prop} (h : ∃ r, x = some r ∧ Q r) (hk : ∀ s, Q s → ∃ r, k s = some r ∧ P r) : ∃ r, bv x k = some r ∧ P r := by
  obtain ⟨s, e, h⟩ := h
  rw [e]; exact hk s h
def oft (F : Nat → Nat) (k : Nat) : Nat → Nat
  | 0 => 0
  | n + 1 => oft F k n + (if F n = k then 1 else 0)
theorem oft_le (F : Nat → Nat) (k : Nat) : ∀ n, oft F k n ≤ n
  | 0 => Nat.le_refl _
  | n + 1 => by have := oft_le F k n; unfold oft; split <;> omega
theorem c_often {E : En} {a n k : Nat} {F : Nat → Nat} {σ : Sg} (hL : LRec E a) (h1 : gi σ a 2 = nI n) (hn : n ≤ 300) (h2 : ∀ i, i < n → gi σ (a + 1) i = nI (F i)) (hF : ∀ i, i < n → F i < 256) (hk : k < 256) : fX3_howOften E a (nI k) σ = some (nI (oft F k n), σ) := by
  obtain ⟨l0, l1, l2, l3, l4⟩ := hL
  unfold fX3_howOften
  rw [tk_ok l0]
  refine bd_tr ((nI (oft F k n), nI n), σ) n (fun i => ((nI (oft F k i), nI i), σ)) (by show n < 1000000; omega) ?_ ?_ rfl
  · intro i rec hi
    have q1 := h2 i hi
    have q2 := hF i hi
    unfold bX3_howOften_4
    simp (disch := omega) only [h1, mle, if_neg, l1, dr_s, l3.1, l3.2, tk_s, ck_m, nI_clamp, q1, meq, lt_ok, ad1]
    by_cases hc : F i = k
    · simp only [hc, not_true, if_false, bd_ok]
      simp only [oft, hc, if_true]
    · simp only [hc, not_false_eq_true, if_true, bd_ok, oft, if_false]
      rfl
  · intro rec
    unfold bX3_howOften_4
    simp (disch := omega) only [h1, mle, if_pos]
theorem m_inT {E : En} {v l h : Int32} {σ : Sg} (q : l ≤ v ∧ v ≤ h) : fX7_in E v l h σ = some (1, σ) := by rw [m_in, if_pos q]
theorem m_inF {E : En} {v l h : Int32} {σ : Sg} (q : ¬ (l ≤ v ∧ v ≤ h)) : fX7_in E v l h σ = some (0, σ) := by rw [m_in, if_neg q]
theorem m_inN {E : En} {v l h : Nat} {σ : Sg} (q : (l ≤ v ∧ v ≤ h) ∧ v < 2 ^ 31 ∧ h < 2 ^ 31) : fX7_in E (nI v) (nI l) (nI h) σ = some (1, σ) := m_inT ⟨nI_le q.1.1 (by omega), nI_le q.1.2 (by omega)⟩
theorem m_inO {E : En} {v l h : Nat} {σ : Sg} (q : (v < l ∨ h < v) ∧ v < 2 ^ 31 ∧ l < 2 ^ 31 ∧ h < 2 ^ 31) : fX7_in E (nI v) (nI l) (nI h) σ = some (0, σ) := m_inF (fun z => by have z1 := (nI_leI (by omega) (by omega)).mp z.1; have z2 := (nI_leI (by omega) (by omega)).mp z.2; omega)
/-- a number lies between two bounds, or not -/
theorem pin (p : Int32) {lo hi : Nat} (hh : hi < 2 ^ 31) (hl : lo < 2 ^ 31) : (∃ n, lo ≤ n ∧ n ≤ hi ∧ p = nI n) ∨ (¬ (nI lo ≤ p ∧ p ≤ nI hi) ∧ (p < nI lo ∨ (¬ p < nI lo ∧ nI hi < p))) := by
  by_cases h1 : p < nI lo
  · exact Or.inr ⟨fun q => absurd q.1 (Int32.not_le.mpr h1), Or.inl h1⟩
  · have h1' := Int32.not_lt.mp h1
    obtain ⟨n, hn, rfl⟩ := nI_of (x := p) (Int32.not_lt.mpr (Int32.le_trans (nI_pos' hl) h1'))
    by_cases h2 : nI hi < nI n
    · exact Or.inr ⟨fun q => absurd q.2 (Int32.not_le.mpr h2), Or.inr ⟨h1, h2⟩⟩
    · exact Or.inl ⟨n, (nI_leI hl hn).mp h1', (nI_leI hn hh).mp (Int32.not_lt.mp h2), rfl⟩
section AC2
variable {CG CM : (Nat → Nat → Int32) → Cu → Prop} {MG MM : (Nat → Int32) → Cu → Prop} {σ σ' : Sg} {a : Ab} {E : En} {c : Cu} {x' : Nat}
/-- an act changes the state that there is now, and x -/
theorem rc_act (h : RC CG CM σ a) (hc : CS CG CM (lc σ' 2) c) (hx : gi σ' 0 2 = nI x') (hf : ∀ x k, x < 2 ∨ 35 ≤ x → ¬ (x = 0 ∧ k = 2) → x < 395 → gi σ' x k = gi σ x k) : RC CG CM σ' (aB a, aN a, c, x', a.2.2.2.2) := by
  obtain ⟨h1, h2, h3, h4, h5, h6⟩ := h
  refine ⟨(hf _ _ (by omega) (by omega) (by omega)).trans h1, fun i hi => (hf _ _ (by omega) (by omega) (by omega)).trans (h2 i hi), hx, hc, ?_, ?_⟩
  · exact hc_same h5 (hf _ _ (by omega) (by omega) (by omega)) (hf _ _ (by omega) (by omega) (by omega)) (fun k => hf _ _ (by omega) (by omega) (by omega)) (fun x k g1 g2 => hf _ _ (by omega) (by omega) (by omega))
  · exact sc_same h6 (fun k => hf _ _ (by omega) (by omega) (by omega)) (fun x k g1 g2 => hf _ _ (by omega) (by omega) (by omega))
theorem rm_act (h : RM MG MM σ a) (hm : MR MG MM (rw7 σ' 396 0) c x') (hf : ∀ x k, (x = 395 ∧ (k = 4 ∨ k = 5 ∨ k = 7)) ∨ (398 ≤ x ∧ x ≤ 400) → gi σ' x k = gi σ x k) : RM MG MM σ' (aB a, aN a, c, x', a.2.2.2.2) := by
  obtain ⟨h1, h2, h3, h4, h5⟩ := h
  refine ⟨(hf _ _ (by omega)).trans h1, fun i hi => by rw [hf _ _ (by omega)]; exact h2 i hi, hm, ?_, ?_⟩
  · exact hm_same h4 (hf _ _ (by omega)) (fun k => hf _ _ (by omega))
  · exact sm_same h5 (hf _ _ (by omega)) (fun k => hf _ _ (by omega))
end AC2
end
section
/-! drawn -/
theorem lm31 {a : Nat} (h : a < 2 ^ 64) : lN a &&& (2147483647 : Int64) = lN (a % 2 ^ 31) := by
  apply Int64.toBitVec_inj.mp
  rw [Int64.toBitVec_and]
  apply BitVec.eq_of_toNat_eq
  rw [BitVec.toNat_and, show (lN a).toBitVec.toNat = a from by show (BitVec.ofNat 64 a).toNat = a; rw [BitVec.toNat_ofNat, Nat.mod_eq_of_lt h], show (2147483647 : Int64).toBitVec.toNat = 2 ^ 31 - 1 from by decide, Nat.and_two_pow_sub_one_eq_mod]
  show a % 2 ^ 31 = (BitVec.ofNat 64 (a % 2 ^ 31)).toNat
  rw [BitVec.toNat_ofNat, Nat.mod_eq_of_lt (a := a % 2 ^ 31) (by omega)]
def nx (x : Nat) : Nat := (x * 1103515245 + 12345) % 2 ^ 31
theorem nx_lt (x : Nat) : nx x < 2 ^ 31 := Nat.mod_lt _ (by decide)
def nxs (x : Nat) : Nat → Nat
  | 0 => x
  | n + 1 => nx (nxs x n)
theorem nxs_lt {x : Nat} (h : x < 2 ^ 31) : ∀ i, nxs x i < 2 ^ 31
  | 0 => h
  | _ + 1 => nx_lt _
theorem c_drawOf {E : En} {σ : Sg} {x m : Nat} (hE : cd E 0 = 6) (h : gi σ 0 2 = nI x) (hx : x < 2 ^ 31) (h1 : 1 ≤ m) (hm : m ≤ 256) : fX6_drawOf E 0 (nI m) σ = some (nI (nx x / 65536 % m), si σ 0 2 (nI (nx x))) := by
  unfold fX6_drawOf
  have hn := nx_lt x
  have h6 : nx x / 65536 < 2 ^ 31 := by omega
  rw [tk_ok hE, ss_ok, h, nI_l hx, show (1103515245 : Int64) = lN 1103515245 from rfl, show (12345 : Int64) = lN 12345 from rfl, lN_mul, lN_add, lm31 (by omega), lN_i, gs_eq, show x * 1103515245 + 12345 = x * 1103515245 + 12345 from rfl]
  show bd (if (1 : Int32) ≤ nI m then _ else _) _ = _
  rw [show (x * 1103515245 + 12345) % 2 ^ 31 = nx x from rfl, show (65536 : Int32) = nI 65536 from rfl, pk_div hn (by omega) (by omega), im_n h6 (by omega) (by omega), i1, if_pos (nI_le h1 (by omega))]
  unfold nz
  rw [if_neg (nI_ne0 (by omega) (by omega)), bd_ok]
theorem m_drawnOf {E : En} {σ : Sg} {x m : Nat} (hM : LMod E) (hM2 : LMo2 E) (h : gi σ 396 8 = nI x) (hx : x < 2 ^ 31) (h1 : 1 ≤ m) (hm : m ≤ 256) : fX7_drawnOf E 395 (nI m) σ = some (nI (nx x / 65536 % m), si σ 396 8 (nI (nx x))) := by
  unfold fX7_drawnOf
  have hn := nx_lt x
  have h6 : nx x / 65536 < 2 ^ 31 := by omega
  rw [tk_ok hM.1, dr_ok hM.2.1 hM2.1.1, hM2.1.2, i8, ck_n (by omega) (by omega), ck_n (by omega) (by omega), nI_clamp (by omega), ss_ok, h, nI_l hx, show (1103515245 : Int64) = lN 1103515245 from rfl, show (12345 : Int64) = lN 12345 from rfl, lN_mul, lN_add, show (2147483648 : Int64) = lN 2147483648 from rfl]
  unfold iml
  rw [pk_lRem (by omega) (by omega) (by omega), lN_i, gs_eq, ck_n (by omega) (by omega), show (x * 1103515245 + 12345) % 2147483648 = nx x from rfl, show (65536 : Int32) = nI 65536 from rfl, pk_div hn (by omega) (by omega), im_n h6 (by omega) (by omega)]
  unfold nz
  rw [if_neg (nI_ne0 (by omega) (by omega))]
section DR
variable {CG CM : (Nat → Nat → Int32) → Cu → Prop} {MG MM : (Nat → Int32) → Cu → Prop} {E : En}
theorem ok_drawn (hR : LRun E) (hM : LMod E) (hM2 : LMo2 E) (hcp : CPY E CG CM) (p q : Int32) : Ok (JJ CG CM MG MM) (fX6_drawn E 0 p q) (fX7_drawn E 395 p q) := by
  refine ok_of (fun a hw => ?_)
  have hwc := hw.2.2.1
  have hn := hwc.1
  obtain ⟨r0, r1, r3, r4, r5, r8, r9, r10, r11, r12, r13, l1, l2, lx⟩ := id hR
  have l3 : LRec E 3 := l2.2.2.2.2.2.2.2.1
  have m0 := hM.1
  by_cases h1 : p < 1
  · refine ⟨-1, a, hw, spc_q (fun σ hc => ⟨σ, ?_, fun _ _ _ => rfl, fun _ _ _ => rfl⟩), spm_q (fun σ hc => ⟨σ, ?_, fun _ _ _ => rfl, fun _ _ _ => rfl⟩)⟩
    · unfold fX6_drawn; rw [tk_ok r0, if_pos h1]
    · unfold fX7_drawn; rw [tk_ok m0, m_inF (fun q => absurd q.1 (Int32.not_le.mpr h1)), bd_ok, if_pos rfl]
  by_cases h2 : 100 < p
  · refine ⟨-1, a, hw, spc_q (fun σ hc => ⟨σ, ?_, fun _ _ _ => rfl, fun _ _ _ => rfl⟩), spm_q (fun σ hc => ⟨σ, ?_, fun _ _ _ => rfl, fun _ _ _ => rfl⟩)⟩
    · unfold fX6_drawn; rw [tk_ok r0, if_neg h1, if_pos h2]
    · unfold fX7_drawn; rw [tk_ok m0, m_inF (fun q => absurd q.2 (Int32.not_le.mpr h2)), bd_ok, if_pos rfl]
  have hin : (1 : Int32) ≤ p ∧ p ≤ 100 := ⟨Int32.not_lt.mp h1, Int32.not_lt.mp h2⟩
  by_cases h3 : q < 1
  · refine ⟨-1, a, hw, spc_q (fun σ hc => ⟨σ, ?_, fun _ _ _ => rfl, fun _ _ _ => rfl⟩), spm_q (fun σ hc => ⟨σ, ?_, fun _ _ _ => rfl, fun _ _ _ => rfl⟩)⟩
    · unfold fX6_drawn; rw [tk_ok r0, if_neg h1, if_neg h2, if_pos h3]
    · unfold fX7_drawn; rw [tk_ok m0, m_inT hin, bd_ok, if_neg (by decide), m_inF (fun q => absurd q.1 (Int32.not_le.mpr h3)), bd_ok, if_pos rfl]
  by_cases h4 : 256 < q
  · refine ⟨-1, a, hw, spc_q (fun σ hc => ⟨σ, ?_, fun _ _ _ => rfl, fun _ _ _ => rfl⟩), spm_q (fun σ hc => ⟨σ, ?_, fun _ _ _ => rfl, fun _ _ _ => rfl⟩)⟩
    · unfold fX6_drawn; rw [tk_ok r0, if_neg h1, if_neg h2, if_neg h3, if_pos h4]
    · unfold fX7_drawn; rw [tk_ok m0, m_inT hin, bd_ok, if_neg (by decide), m_inF (fun q => absurd q.2 (Int32.not_le.mpr h4)), bd_ok, if_pos rfl]
  have hin2 : (1 : Int32) ≤ q ∧ q ≤ 256 := ⟨Int32.not_lt.mp h3, Int32.not_lt.mp h4⟩
  obtain ⟨n, hn0, rfl⟩ := nI_of (x := p) (Int32.not_lt.mpr (Int32.le_trans (by decide) hin.1))
  obtain ⟨m, hm0, rfl⟩ := nI_of (x := q) (Int32.not_lt.mpr (Int32.le_trans (by decide) hin2.1))
  have hn1 : 1 ≤ n := (nI_leI (by omega) hn0).mp hin.1
  have hn2 : n ≤ 100 := (nI_leI hn0 (by omega)).mp hin.2
  have hm1 : 1 ≤ m := (nI_leI (by omega) hm0).mp hin2.1
  have hm2 : m ≤ 256 := (nI_leI hm0 (by omega)).mp hin2.2
  have hsz : ∀ σ, RC CG CM σ a → gi σ 3 2 = nI (cN (aC a)) := fun σ hc => (cs_rr hc.2.2.2.1).1.1
  by_cases h5 : cN (aC a) + n ≤ 300
  · have hx := hw.2.2.2.1
    let F : Nat → Nat := fun j => if j < cN (aC a) then cF (aC a) j else nxs (aX a) (j - cN (aC a) + 1) / 65536 % m
    have hFlo : ∀ i, i < cN (aC a) → cF (aC a) i = F i := fun i hi => by show _ = if _ then _ else _; rw [if_pos hi]
    have hFhi : ∀ i, nx (nxs (aX a) i) / 65536 % m = F (cN (aC a) + i) := fun i => by show _ = if _ then _ else _; rw [if_neg (by omega), show cN (aC a) + i - cN (aC a) = i by omega]; rfl
    have hF : ∀ i, i < cN (aC a) + n → F i < 256 := by
      intro i hi
      by_cases q : i < cN (aC a)
      · rw [← hFlo i q]; exact hwc.2.1 i q
      · rw [show i = cN (aC a) + (i - cN (aC a)) by omega, ← hFhi]; have := Nat.mod_lt (nx (nxs (aX a) (i - cN (aC a))) / 65536) (show 0 < m by omega); omega
    refine ⟨nI (cN (aC a) + n), (aB a, aN a, (F, cN (aC a) + n, cS (aC a), 0, 0), nxs (aX a) n, (rem a).2.2.2.2), ?_, fun σ hc => ?_, fun σ hc => ?_⟩
    · obtain ⟨g1, g2, g3, g4, g5, g6, g7⟩ := rem_wf hw
      exact ⟨g1, g2, ⟨h5, hF, hwc.2.2.1, Nat.zero_le _, fun h => absurd h (by show ¬ 1 ≤ 0; omega), fun h => absurd h (by show ¬ 2 ≤ 0; omega)⟩, nxs_lt hx n, g5, g6, g7⟩
    · obtain ⟨s, e1, e2, e3, e4⟩ := c_rem hR hcp hw hc
      obtain ⟨k1, k2, k3⟩ := cs_rr e2.2.2.2.1
      have d3 : gi s 0 2 = nI (aX a) := e2.2.2.1
      unfold fX6_drawn
      rw [tk_ok r0, if_neg h1, if_neg h2, if_neg h3, if_neg h4, dr_ok r3 l2.1, dr_ok l2.2.1 l3.1, hsz σ hc, nI_add, show (300 : Int32) = nI 300 from rfl, if_pos (nI_le h5 (by omega)), e1, bv_ok]
      obtain ⟨⟨v, s2⟩, f0, f1, f2, f3⟩ := for_in (F := fun (rec : Int32 × Sg → Option (Int32 × Sg)) (b : Int32 × Sg) => bX6_drawn_49 E (nI n) 0 (nI m) 3 (fun u0 t => rec (u0, t)) b.1 b.2) n
        (fun i b => b.1 = nI i ∧ RR b.2 F (cN (aC a) + i) ∧ gi b.2 0 2 = nI (nxs (aX a) i) ∧ ∀ x k, x ≠ 3 → x ≠ 4 → x ≠ 5 → ¬ (x = 0 ∧ k = 2) → gi b.2 x k = gi s x k)
        (fun b => RR b.2 F (cN (aC a) + n) ∧ gi b.2 0 2 = nI (nxs (aX a) n) ∧ ∀ x k, x ≠ 3 → x ≠ 4 → x ≠ 5 → ¬ (x = 0 ∧ k = 2) → gi b.2 x k = gi s x k) (N := FU) (by show n < 1000000; omega)
        (by
          rintro i ⟨v, s2⟩ rec hi ⟨rfl, f1, f2, f3⟩
          dsimp only at f1 f2 f3 ⊢
          obtain ⟨s3, g1, g2, g3⟩ := c_add l3 (σ := si s2 0 2 (nI (nx (nxs (aX a) i)))) (m := cN (aC a) + i) (F := F) (by omega) (fun j hj => hF j (by omega)) ⟨by rw [gs_ne (by omega)]; exact f1.1, fun j hj => by rw [gs_ne (by omega)]; exact f1.2.1 j hj, fun j hj => by rw [gs_ne (by omega)]; exact f1.2.2.1 j hj, by rw [gs_ne (by omega)]; exact f1.2.2.2⟩
          unfold bX6_drawn_49
          rw [if_neg (nI_ge hi (by omega)), c_drawOf r0 f2 (nxs_lt hx i) hm1 hm2, bd_ok, hFhi, g1, bv_ok, lt_ok, ad1]
          refine ⟨_, rfl, rfl, g2, ?_, fun x k h3 h4 h5 h6 => ?_⟩
          · dsimp only; rw [g3 _ _ (by omega) (by omega) (by omega), gs_eq]; rfl
          · dsimp only; rw [g3 _ _ (by omega) (by omega) (by omega), gs_ne (by omega)]; exact f3 x k h3 h4 h5 h6)
        (by
          rintro ⟨v, s2⟩ rec ⟨rfl, f1, f2, f3⟩
          unfold bX6_drawn_49
          rw [if_pos (nI_le (Nat.le_refl _) (by omega))]
          exact ⟨_, rfl, f1, f2, f3⟩)
        (a := ((0 : Int32), s)) ⟨rfl, rr_congr k1 hFlo, d3, fun _ _ _ _ _ _ => rfl⟩
      dsimp only at f1 f2 f3
      rw [f0, bd_ok, ss_ok]
      refine ⟨si s2 2 2 0, ?_, rc_act e2 (c := (F, cN (aC a) + n, cS (aC a), 0, 0)) (rr_cs ⟨?_, fun i hi => ?_, fun i hi => ?_, ?_⟩ (fun j hj => ?_) gs_eq) ?_ (fun x k g1 g2 g3 => ?_), fun x k g => ?_⟩
      · show some (gi (si s2 2 2 0) 3 2, _) = _
        rw [gs_ne (by omega), f1.1]
      · rw [gs_ne (by omega)]; exact f1.1
      · rw [gs_ne (by omega)]; exact f1.2.1 i hi
      · rw [gs_ne (by omega)]; exact f1.2.2.1 i hi
      · rw [gs_ne (by omega)]; exact f1.2.2.2
      · rw [gs_ne (by omega), f3 _ _ (by omega) (by omega) (by omega) (by omega)]; exact k2 j hj
      · rw [gs_ne (by omega)]; exact f2
      · rw [gs_ne (by omega), f3 _ _ (by omega) (by omega) (by omega) (by omega)]
      · rw [gs_ne (by omega), f3 _ _ (by omega) (by omega) (by omega) (by omega)]; exact e4 x k g
    · obtain ⟨s, e1, e2, e3, e4⟩ := m_rem hM hM2 hw hc
      obtain ⟨k1, k2, k3, k4, k5⟩ := mr_g hn hc.2.2.1
      unfold fX7_drawn
      rw [tk_ok m0, m_inT hin, bd_ok, if_neg (by decide), m_inT hin2, bd_ok, if_neg (by decide), m_many hM hM2, bd_ok, k1, nI_add, show (300 : Int32) = nI 300 from rfl, if_pos (nI_le h5 (by omega)), e1, bv_ok]
      obtain ⟨⟨v, s2⟩, f0, f1, f2, f3, f4, f5⟩ := for_in (F := fun (rec : Int32 × Sg → Option (Int32 × Sg)) (b : Int32 × Sg) => bX7_drawn_41 E (nI n) 395 (nI m) (fun u0 t => rec (u0, t)) b.1 b.2) n
        (fun i b => b.1 = nI i ∧ gi b.2 396 0 = nI (cN (aC a) + i) ∧ (∀ j, j < cN (aC a) + i → gi b.2 396 (26 + j) = nI (F j)) ∧ gi b.2 396 8 = nI (nxs (aX a) i) ∧ (∀ j, 0 < j → j < 8 → gi b.2 396 j = gi σ 396 j) ∧ ∀ x k, x ≠ 396 → gi b.2 x k = gi s x k)
        (fun b => gi b.2 396 0 = nI (cN (aC a) + n) ∧ (∀ j, j < cN (aC a) + n → gi b.2 396 (26 + j) = nI (F j)) ∧ gi b.2 396 8 = nI (nxs (aX a) n) ∧ (∀ j, 0 < j → j < 8 → gi b.2 396 j = gi σ 396 j) ∧ ∀ x k, x ≠ 396 → gi b.2 x k = gi s x k) (N := FU) (by show n < 1000000; omega)
        (by
          rintro i ⟨v, s2⟩ rec hi ⟨rfl, f1, f2, f3, f4, f5⟩
          dsimp only at f1 f2 f3 f4 f5 ⊢
          unfold bX7_drawn_41
          rw [if_neg (nI_ge hi (by omega)), m_drawnOf hM hM2 f3 (nxs_lt hx i) hm1 hm2, bd_ok, m_comes hM hM2 (n := cN (aC a) + i) (by rw [gs_ne (by omega)]; exact f1) (by omega), bv_ok, lt_ok, ad1, hFhi]
          refine ⟨_, rfl, rfl, gs_eq, fun j hj => ?_, ?_, fun j h3 h4 => ?_, fun x k hx => ?_⟩
          · dsimp only
            rw [gs_ne (by omega)]
            by_cases qq : j = cN (aC a) + i
            · subst qq; exact gs_eq
            · rw [gs_ne (by omega), gs_ne (by omega)]; exact f2 j (by omega)
          · dsimp only; rw [gs_ne (by omega), gs_ne (by omega), gs_eq]; rfl
          · dsimp only; rw [gs_ne (by omega), gs_ne (by omega), gs_ne (by omega)]; exact f4 j h3 h4
          · dsimp only; rw [gs_ne (by omega), gs_ne (by omega), gs_ne (by omega)]; exact f5 x k hx)
        (by
          rintro ⟨v, s2⟩ rec ⟨rfl, f1⟩
          unfold bX7_drawn_41
          rw [if_pos (nI_le (Nat.le_refl _) (by omega))]
          exact ⟨_, rfl, f1⟩)
        (a := ((0 : Int32), s)) ⟨rfl, (e3 0).trans k1, fun j hj => by dsimp only; rw [e3, k2 j hj, hFlo j hj], (e3 8).trans k5, fun j _ _ => e3 j, fun _ _ _ => rfl⟩
      dsimp only at f1 f2 f3 f4 f5
      obtain ⟨s3, g1, g2, g3, g4⟩ := m_begins hM hM2 (σ := s2)
      have g3' : ∀ k, k < 7 ∨ k = 8 ∨ 26 ≤ k → gi s3 396 k = gi s2 396 k := fun k hk => g3 k (by omega) (by omega) (by omega) (by omega) (by omega) (by omega) (by omega)
      rw [f0, bd_ok, g1, bv_ok, m_many hM hM2, bd_ok, g3' 0 (by omega), f1]
      refine ⟨_, rfl, rm_act e2 (g_mr h5 (by rw [g3' _ (by omega)]; exact f1) (fun i hi => by rw [g3' _ (by omega)]; exact f2 i hi) (fun j hj => by rw [g3' _ (by omega), f4 _ (by omega) (by omega)]; exact k3 j hj) g2 (by rw [g3' _ (by omega)]; exact f3)) (fun x k g => ?_), fun x k g => ?_⟩
      · rw [g4 _ _ (by omega), f5 _ _ (by omega)]
      · rw [g4 _ _ (by omega), f5 _ _ (by omega)]; exact e4 x k g
  · have h6 : ¬ nI (cN (aC a) + n) ≤ nI 300 := nI_ge (by omega) (by omega)
    refine ⟨-1, a, hw, spc_q (fun σ hc => ⟨σ, ?_, fun _ _ _ => rfl, fun _ _ _ => rfl⟩), spm_q (fun σ hc => ⟨σ, ?_, fun _ _ _ => rfl, fun _ _ _ => rfl⟩)⟩
    · unfold fX6_drawn
      rw [tk_ok r0, if_neg h1, if_neg h2, if_neg h3, if_neg h4, dr_ok r3 l2.1, dr_ok l2.2.1 l3.1, hsz σ hc, nI_add, show (300 : Int32) = nI 300 from rfl, if_neg h6]
    · obtain ⟨k1, k2, k3, k4, k5⟩ := mr_g hn hc.2.2.1
      unfold fX7_drawn
      rw [tk_ok m0, m_inT hin, bd_ok, if_neg (by decide), m_inT hin2, bd_ok, if_neg (by decide), m_many hM hM2, bd_ok, k1, nI_add, show (300 : Int32) = nI 300 from rfl, if_neg h6]
end DR
end
section
/-! the mill on paper: a skeleton (how many runs each tape has, where to, what is open, who gives), and what the runs are -/
def cntF (p : Nat → Bool) : Nat → Nat
  | 0 => 0
  | n + 1 => cntF p n + (if p n then 1 else 0)
def sumF (f : Nat → Nat) : Nat → Nat
  | 0 => 0
  | n + 1 => sumF f n + f n
def fstF (p : Nat → Bool) : Nat → Option Nat
  | 0 => none
  | n + 1 => match fstF p n with
    | some x => some x
    | none => if p n then some n else none
def tab {α : Type} (f : Nat → α) (n : Nat) : List α := (List.range n).map f
/-- how many on each tape; the tape that is written; open; whether the lower half gives -/
abbrev Sk : Type := List Nat × Nat × List Bool × Bool
abbrev kc (s : Sk) (t : Nat) : Nat := s.1.getD t 0
abbrev ko (s : Sk) (t : Nat) : Bool := s.2.2.1.getD t false
abbrev kto (s : Sk) : Nat := s.2.1
abbrev klo (s : Sk) : Bool := s.2.2.2
/-- whether a tape may give -/
def flg (w h : Nat) (s : Sk) (t : Nat) : Bool := match w with
  | 0 => !(t == kto s)
  | 1 => decide (t < h) == klo s
  | _ => ko s t
def gvf (w h : Nat) (s : Sk) (t : Nat) : Bool := !(kc s t == 0) && flg w h s t
def lef (T : Nat) (s : Sk) : Nat := sumF (kc s) T
def skc (w T h : Nat) (s : Sk) : List Nat := tab (fun t => if t = kto s then kc s t + 1 else if gvf w h s t then kc s t - 1 else kc s t) T
/-- the skeleton behind a step; whether a phase is over -/
def skn (w T h : Nat) (s : Sk) : Sk × Bool :=
  let cs := skc w T h s
  if w = 1 then
    if cntF (gvf 1 h (cs, s.2)) T = 0 then ((cs, (if klo s then 0 else h), s.2.2.1, !klo s), true)
    else ((cs, (if (if klo s then T - 1 else h - 1) ≤ kto s then (if klo s then h else 0) else kto s + 1), s.2.2.1, klo s), false)
  else match fstF (fun t => gvf w h s t && (cs.getD t 0 == 0)) T with
    | none => ((cs, s.2), false)
    | some e =>
      if w = 0 then ((cs, e, s.2.2.1, klo s), true)
      else if cntF (gvf 2 h (cs, e, tab (fun t => ko s t && !(t == e)) T, klo s)) T < 2 then ((cs, e, tab (fun t => !(cs.getD t 0 == 0) && !(t == e)) T, klo s), true)
      else ((cs, e, tab (fun t => ko s t && !(t == e)) T, klo s), true)
/-- a run: of which that grew it is made, whether it stands down -/
abbrev Rn : Type := List Nat × Bool
abbrev Mi : Type := (Nat → List Rn) × Sk × Nat × Nat × Nat × Nat
abbrev mT (A : Mi) : Nat → List Rn := A.1
abbrev mK (A : Mi) : Sk := A.2.1
abbrev mMo (A : Mi) : Nat := A.2.2.1
abbrev mSt (A : Mi) : Nat := A.2.2.2.1
abbrev mPh (A : Mi) : Nat := A.2.2.2.2.1
abbrev mTu (A : Mi) : Nat := A.2.2.2.2.2
def szl (gl : Nat → Nat) : List Nat → Nat
  | [] => 0
  | i :: l => gl i + szl gl l
abbrev hdr (l : List Rn) : Rn := l.getD 0 ([], false)
/-- what the step takes, one behind the other -/
def catF (g : Nat → Bool) (tp : Nat → List Rn) : Nat → List Nat
  | 0 => []
  | n + 1 => catF g tp n ++ (if g n then (hdr (tp n)).1 else [])
def ldF (g : Nat → Bool) (tp : Nat → List Rn) (T : Nat) : Option Nat := fstF (fun t => g t && !(hdr (tp t)).1.isEmpty) T
/-- whether the lead stands down -/
def ldD (g : Nat → Bool) (tp : Nat → List Rn) (T : Nat) : Option Bool := (ldF g tp T).map (fun t => (hdr (tp t)).2)
def psh (bk : Bool) (r : Rn) (l : List Rn) : List Rn := if bk then r :: l else l ++ [r]
def tuF (gl : Nat → Nat) (g : Nat → Bool) (tp : Nat → List Rn) (d : Bool) (t : Nat) : Nat := if g t then (if (hdr (tp t)).2 = d then 0 else szl gl (hdr (tp t)).1) else 0
def upr (l : List Rn) : List Rn := l.map (fun r => (r.1, false))
/-- the last run stands up -/
def tul (gl : Nat → Nat) (T : Nat) (A : Mi) : Mi := if lef T (mK A) = 1 then (fun t => upr (mT A t), mK A, mMo A, mSt A, mPh A, mTu A + sumF (fun t => if (hdr (mT A t)).2 then szl gl (hdr (mT A t)).1 else 0) T) else A
def stp0 (w T : Nat) (bk : Bool) (gl : Nat → Nat) (A : Mi) : Mi :=
  let g := gvf w (T / 2) (mK A)
  let c := catF g (mT A) T
  let d := ldD g (mT A) T
  let n := skn w T (T / 2) (mK A)
  (fun t => if t = kto (mK A) then psh bk (c, bk && (d == some false)) (mT A t) else if t < T ∧ g t = true then (mT A t).tail else mT A t, n.1, mMo A + szl gl c, mSt A + 1, mPh A + (if n.2 then 1 else 0), mTu A + sumF (tuF gl g (mT A) (bk && (d == some true))) T)
def stp (w T : Nat) (bk : Bool) (gl : Nat → Nat) (A : Mi) : Mi := tul gl T (stp0 w T bk gl A)
/-- what a step needs of the skeleton -/
def oks (w T h : Nat) (s : Sk) : Bool := decide (0 < cntF (gvf w h s) T) && decide (kto s < T) && !(flg w h s (kto s)) && decide (kc s (kto s) < 256) && (decide (¬ w = 0) || decide (cntF (fun t => t == kto s || !(kc s t == 0)) T = T))
def good (w T h : Nat) : Nat → Sk → Bool
  | 0, s => lef T s == 1
  | f + 1, s => if lef T s == 1 then true else oks w T h s && good w T h f (skn w T h s).1
theorem tab_at {α : Type} {f : Nat → α} {n t : Nat} {d : α} (h : t < n) : (tab f n).getD t d = f t := by
  simp [tab, List.getD, h]
theorem cntF_congr {p q : Nat → Bool} : ∀ {n : Nat}, (∀ t, t < n → p t = q t) → cntF p n = cntF q n
  | 0, _ => rfl
  | n + 1, h => by unfold cntF; rw [cntF_congr (fun t ht => h t (by omega)), h n (by omega)]
theorem sumF_congr {p q : Nat → Nat} : ∀ {n : Nat}, (∀ t, t < n → p t = q t) → sumF p n = sumF q n
  | 0, _ => rfl
  | n + 1, h => by unfold sumF; rw [sumF_congr (fun t ht => h t (by omega)), h n (by omega)]
theorem fstF_congr {p q : Nat → Bool} : ∀ {n : Nat}, (∀ t, t < n → p t = q t) → fstF p n = fstF q n
  | 0, _ => rfl
  | n + 1, h => by unfold fstF; rw [fstF_congr (fun t ht => h t (by omega)), h n (by omega)]
theorem fstF_some {p : Nat → Bool} : ∀ {n e : Nat}, fstF p n = some e → e < n ∧ p e = true ∧ ∀ j, j < e → p j = false
  | 0, e, h => by cases h
  | n + 1, e, h => by
    unfold fstF at h
    cases hq : fstF p n with
    | some x =>
      rw [hq] at h
      simp only [Option.some.injEq] at h
      subst h
      obtain ⟨h1, h2, h3⟩ := fstF_some hq
      exact ⟨by omega, h2, h3⟩
    | none =>
      rw [hq] at h
      dsimp only at h
      split at h
      · next hp =>
        simp only [Option.some.injEq] at h
        subst h
        refine ⟨by omega, hp, fun j hj => ?_⟩
        have : ∀ m, fstF p m = none → ∀ j, j < m → p j = false := by
          intro m
          induction m with
          | zero => intro _ j hj; omega
          | succ m ih =>
            intro hm j hj
            unfold fstF at hm
            cases hm' : fstF p m with
            | some x => rw [hm'] at hm; cases hm
            | none =>
              rw [hm'] at hm
              dsimp only at hm
              by_cases hjm : j = m
              · subst hjm
                cases hpj : p j with
                | false => rfl
                | true => rw [hpj] at hm; cases hm
              · exact ih hm' j (by omega)
        exact this _ hq j hj
      · cases h
theorem fstF_none {p : Nat → Bool} : ∀ {n : Nat}, fstF p n = none → ∀ j, j < n → p j = false
  | 0, _, j, hj => by omega
  | n + 1, h, j, hj => by
    unfold fstF at h
    cases hq : fstF p n with
    | some x => rw [hq] at h; cases h
    | none =>
      rw [hq] at h
      dsimp only at h
      by_cases hjn : j = n
      · subst hjn
        cases hpj : p j with
        | false => rfl
        | true => rw [hpj] at h; cases h
      · exact fstF_none hq j (by omega)
theorem cntF_le (p : Nat → Bool) : ∀ n, cntF p n ≤ n
  | 0 => Nat.le_refl _
  | n + 1 => by have := cntF_le p n; unfold cntF; split <;> omega
theorem cntF_pos {p : Nat → Bool} : ∀ {n : Nat}, 0 < cntF p n → ∃ t, t < n ∧ p t = true
  | 0, h => by simp [cntF] at h
  | n + 1, h => by
    unfold cntF at h
    by_cases hp : p n = true
    · exact ⟨n, by omega, hp⟩
    · rw [if_neg hp] at h
      obtain ⟨t, h1, h2⟩ := cntF_pos (p := p) (n := n) (by omega)
      exact ⟨t, by omega, h2⟩
theorem cntF_zero {p : Nat → Bool} : ∀ {n : Nat}, cntF p n = 0 → ∀ t, t < n → p t = false
  | 0, _, t, ht => by omega
  | n + 1, h, t, ht => by
    unfold cntF at h
    by_cases htn : t = n
    · subst htn
      cases hp : p t with
      | false => rfl
      | true => rw [hp] at h; simp at h
    · exact cntF_zero (p := p) (n := n) (by omega) t (by omega)
theorem cntF_all {p : Nat → Bool} : ∀ {n : Nat}, cntF p n = n → ∀ t, t < n → p t = true
  | 0, _, t, ht => by omega
  | n + 1, h, t, ht => by
    unfold cntF at h
    have := cntF_le p n
    by_cases hp : p n = true
    · rw [if_pos hp] at h
      by_cases htn : t = n
      · subst htn; exact hp
      · exact cntF_all (p := p) (n := n) (by omega) t (by omega)
    · rw [if_neg hp] at h; omega
theorem sumF_pos {f : Nat → Nat} : ∀ {n t : Nat}, t < n → f t ≤ sumF f n
  | 0, t, h => by omega
  | n + 1, t, h => by
    unfold sumF
    by_cases htn : t = n
    · subst htn; omega
    · have := sumF_pos (f := f) (n := n) (t := t) (by omega); omega
end
section
/-! skeletons: perfect numbers are merged to one run -/
def pfn (w k : Nat) : Nat → List Nat
  | 0 => tab (fun i => if i = 0 then 1 else 0) k
  | l + 1 => if w = 0 then tab (fun i => (pfn w k l).getD 0 0 + (if i + 1 < k then (pfn w k l).getD (i + 1) 0 else 0)) k else tab (fun i => sumF (fun j => (pfn w k l).getD j 0) (k - i)) k
def opn (T to : Nat) (cs : List Nat) : List Bool := tab (fun t => !(cs.getD t 0 == 0) && !(t == to)) T
def sk0 (w T l : Nat) : Sk := (tab (fun t => (pfn w (T - 1) l).getD t 0) T, T - 1, opn T (T - 1) (tab (fun t => (pfn w (T - 1) l).getD t 0) T), true)
def gdl (w T l : Nat) : Bool := good w T (T / 2) 699 (sk0 w T l) && (cntF (fun t => decide ((pfn w (T - 1) l).getD t 0 ≤ 253)) (T - 1) == T - 1)
theorem gd_03 : cntF (gdl 0 3) 12 = 12 := by decide +kernel
theorem gd_04 : cntF (gdl 0 4) 9 = 9 := by decide +kernel
theorem gd_05 : cntF (gdl 0 5) 8 = 8 := by decide +kernel
theorem gd_06 : cntF (gdl 0 6) 8 = 8 := by decide +kernel
theorem gd_23 : cntF (gdl 2 3) 12 = 12 := by decide +kernel
theorem gd_24 : cntF (gdl 2 4) 7 = 7 := by decide +kernel
theorem gd_25 : cntF (gdl 2 5) 6 = 6 := by decide +kernel
theorem gd_26 : cntF (gdl 2 6) 6 = 6 := by decide +kernel
end
section
/-! the class's mill: what a step takes -/
theorem bI_z {b : Bool} : (bI b = nI 0) = (b = false) := by cases b <;> simp [bI] <;> decide
theorem bI_1 {b : Bool} : (bI b = nI 1) = (b = true) := by cases b <;> simp [bI] <;> decide
theorem bI_e {a b : Bool} : (bI a = bI b) = (a = b) := by cases a <;> cases b <;> simp [bI]
theorem kb_b {β : Type} {b : Bool} {k : Option β} : kb (bI b) k = k := by cases b <;> simp [kb, bI]
theorem nar_b {b : Bool} : vp_nar .boolean (bI b) = bI b := by cases b <;> decide
theorem kb_n0 {β : Type} {k : Option β} : kb (nI 0) k = k := kb_0
theorem kb_n1 {β : Type} {k : Option β} : kb (nI 1) k = k := kb_1
theorem bI_t : nI 1 = bI true := rfl
theorem bI_f : nI 0 = bI false := rfl
theorem bI_n (b : Bool) : bI b = nI (if b then 1 else 0) := by cases b <;> rfl
def idI : List Nat → Int32
  | [] => -1
  | i :: _ => nI i
/-- one tape: its runs, the first that is taken ahead -/
def TP (σ : Sg) (a : Nat) (bk : Bool) (l : List Rn) (L H : Nat) : Prop := gi σ a 1 = nI L ∧ gi σ a 2 = nI H ∧ L ≤ H ∧ H ≤ 256 ∧ H - L = l.length ∧ ∀ k, k < l.length → gi σ (a + 1) (if bk then H - 1 - k else L + k) = idI (l.getD k ([], false)).1
def MB (σ : Sg) (m w T : Nat) (bk : Bool) (nr : Nat) : Prop := gi σ m 0 = nI w ∧ gi σ m 1 = nI T ∧ gi σ m 2 = nI (T / 2) ∧ gi σ m 3 = bI bk ∧ gi σ m 7 = nI nr
def MK (σ : Sg) (m T : Nat) (s : Sk) : Prop := gi σ m 9 = nI (kto s) ∧ gi σ m 11 = bI (klo s) ∧ ∀ t, t < T → gi σ (m + 2) t = bI (ko s t)
theorem c_gives {E : En} {m N w T nr t L H : Nat} {σ : Sg} {bk : Bool} {s : Sk} {l : List Rn} (hL : LMill E m N) (hb : MB σ m w T bk nr) (hk : MK σ m T s) (hT : T ≤ 6) (hw : w ≤ 2) (ht : t < T) (hto : kto s < 6) (htp : TP σ (m + 10 + 2 * t) bk l L H) (hc : kc s t = l.length) : fX1_gives E m (nI t) σ = some (bI (gvf w (T / 2) s t), σ) := by
  obtain ⟨l0, l4, l10, l12, l13, l17, l18, l5, l6, a1, a2, a3, a4, a5, a7, a8, a9, lt⟩ := hL
  obtain ⟨lt1, lt2⟩ := lt t (by omega)
  obtain ⟨b0, b1, b2, b3, b7⟩ := hb
  obtain ⟨k9, k11, ko'⟩ := hk
  have kot := ko' t ht
  have hsz := tape_size lt2 htp.1 htp.2.1 htp.2.2.1
  have t1 := htp.2.2.1
  have t2 := htp.2.2.2.1
  have t3 := htp.2.2.2.2.1
  unfold fX1_gives gvf flg
  rw [hc, ← t3]
  by_cases hz : H - L = 0
  · simp (disch := omega) only [i0, i1, i2, i3, i4, i5, i6, i7, i8, mle, mlt, meq, if_pos, if_neg, dr_s, tk_s, ck_m, nI_clamp, lt_ok, ss_ok, nI_add, pk_mul, sub_n, bd_ok, bv_ok, gs_ne, gs_eq, l0, l4, a1.1, a1.2, lt1, lt2.1, hsz]
    simp only [hz, not_true, if_false]
    rfl
  · simp (disch := omega) only [i0, i1, i2, i3, i4, i5, i6, i7, i8, mle, mlt, meq, if_pos, if_neg, dr_s, tk_s, ck_m, nI_clamp, lt_ok, ss_ok, nI_add, pk_mul, sub_n, bd_ok, bv_ok, gs_ne, gs_eq, l0, l4, a1.1, a1.2, lt1, lt2.1, hsz, hz]
    have hz' : (H - L == 0) = false := by simpa using hz
    rw [hz', if_pos (by simp)]
    match w, hw with
    | 0, _ =>
      simp (disch := omega) only [i0, i1, i2, i3, i4, i5, i6, i7, i8, mle, mlt, meq, if_pos, if_neg, dr_s, tk_s, ck_m, nI_clamp, lt_ok, ss_ok, nI_add, pk_mul, sub_n, bd_ok, bv_ok, gs_ne, gs_eq, b0, k9]
      by_cases hq : t = kto s
      · rw [if_pos hq, bd_ok, kb_n0]; simp [hq]; rfl
      · have hq' : (t == kto s) = false := by simpa using hq
        rw [if_neg hq, bd_ok, kb_n1, hq']; rfl
    | 1, _ =>
      simp (disch := omega) only [i0, i1, i2, i3, i4, i5, i6, i7, i8, mle, mlt, meq, if_pos, if_neg, dr_s, tk_s, ck_m, nI_clamp, lt_ok, ss_ok, nI_add, pk_mul, sub_n, bd_ok, bv_ok, gs_ne, gs_eq, b0, b2]
      by_cases hq : T / 2 ≤ t
      · rw [if_pos hq, bd_ok, k11]
        have : decide (t < T / 2) = false := by simp; omega
        rw [this]
        cases klo s <;> rfl
      · rw [if_neg hq, bd_ok, k11]
        have : decide (t < T / 2) = true := by simp; omega
        rw [this]
        cases klo s <;> rfl
    | 2, _ =>
      simp (disch := omega) only [i0, i1, i2, i3, i4, i5, i6, i7, i8, mle, mlt, meq, if_pos, if_neg, dr_s, tk_s, ck_m, nI_clamp, lt_ok, ss_ok, nI_add, pk_mul, sub_n, bd_ok, bv_ok, gs_ne, gs_eq, b0, l10, a2.1, a2.2, kot, kb_b]
      simp
end
section
/-! what a step takes, in the class -/
def MS (σ : Sg) (m w T : Nat) (bk : Bool) (nr : Nat) (s : Sk) (tp : Nat → List Rn) (L H : Nat → Nat) : Prop := MB σ m w T bk nr ∧ MK σ m T s ∧ (∀ t, t < 6 → TP σ (m + 10 + 2 * t) bk (tp t) (L t) (H t)) ∧ ∀ t, t < T → kc s t = (tp t).length
def esS (m x k : Nat) : Prop := (x = m ∧ (k = 0 ∨ k = 1 ∨ k = 2 ∨ k = 3 ∨ k = 7 ∨ k = 9 ∨ k = 11)) ∨ x = m + 2 ∨ (m + 10 ≤ x ∧ x < m + 22)
theorem tp_fr {σ σ' : Sg} {a L H : Nat} {bk : Bool} {l : List Rn} (h : TP σ a bk l L H) (h1 : ∀ k, gi σ' a k = gi σ a k) (h2 : ∀ k, gi σ' (a + 1) k = gi σ (a + 1) k) : TP σ' a bk l L H :=
  ⟨(h1 1).trans h.1, (h1 2).trans h.2.1, h.2.2.1, h.2.2.2.1, h.2.2.2.2.1, fun k hk => (h2 _).trans (h.2.2.2.2.2 k hk)⟩
theorem ms_fr {σ σ' : Sg} {m w T nr : Nat} {bk : Bool} {s : Sk} {tp : Nat → List Rn} {L H : Nat → Nat} (h : MS σ m w T bk nr s tp L H) (hf : ∀ x k, esS m x k → gi σ' x k = gi σ x k) : MS σ' m w T bk nr s tp L H := by
  obtain ⟨⟨b0, b1, b2, b3, b7⟩, ⟨k9, k11, ko'⟩, ht, hc⟩ := h
  refine ⟨⟨?_, ?_, ?_, ?_, ?_⟩, ⟨?_, ?_, fun t h => ?_⟩, fun t h => ?_, hc⟩
  · rw [hf _ _ (by unfold esS; omega)]; exact b0
  · rw [hf _ _ (by unfold esS; omega)]; exact b1
  · rw [hf _ _ (by unfold esS; omega)]; exact b2
  · rw [hf _ _ (by unfold esS; omega)]; exact b3
  · rw [hf _ _ (by unfold esS; omega)]; exact b7
  · rw [hf _ _ (by unfold esS; omega)]; exact k9
  · rw [hf _ _ (by unfold esS; omega)]; exact k11
  · rw [hf _ _ (by unfold esS; omega)]; exact ko' t h
  · exact tp_fr (ht t h) (fun k => hf _ _ (by unfold esS; omega)) (fun k => hf _ _ (by unfold esS; omega))
theorem ms_gives {E : En} {m N w T nr t : Nat} {σ : Sg} {bk : Bool} {s : Sk} {tp : Nat → List Rn} {L H : Nat → Nat} (hL : LMill E m N) (hms : MS σ m w T bk nr s tp L H) (hT : T ≤ 6) (hw : w ≤ 2) (ht : t < T) (hto : kto s < 6) : fX1_gives E m (nI t) σ = some (bI (gvf w (T / 2) s t), σ) :=
  c_gives hL hms.1 hms.2.1 hT hw ht hto (hms.2.2.1 t (by omega)) (hms.2.2.2 t ht)
/-- of a run: how long, whether down -/
def RD (σ : Sg) (m : Nat) (gl : Nat → Nat) (nr : Nat) (r : Rn) : Prop := (r.1 = [] → r.2 = false) ∧ ∀ i l, r.1 = i :: l → i < nr ∧ gi σ (m + 8) i = nI (szl gl r.1) ∧ gi σ (m + 9) i = bI r.2
theorem c_sizeOf {E : En} {m N nr : Nat} {σ : Sg} {gl : Nat → Nat} {r : Rn} (hL : LMill E m N) (h7 : gi σ m 7 = nI nr) (hn : nr ≤ N) (hN : N ≤ 700) (h : RD σ m gl nr r) : fX1_sizeOf E m (idI r.1) σ = some (nI (szl gl r.1), σ) := by
  obtain ⟨l0, l4, l10, l12, l13, l17, l18, l5, l6, a1, a2, a3, a4, a5, a7, a8, a9, lt⟩ := hL
  unfold fX1_sizeOf
  rw [tk_ok l0]
  cases hr : r.1 with
  | nil => rfl
  | cons i l =>
    obtain ⟨h1, h2, h3⟩ := h.2 i l hr
    rw [hr] at h2
    unfold idI
    simp (disch := omega) only [i0, i1, i2, i3, i4, i5, i6, i7, i8, mle, mlt, meq, if_pos, if_neg, dr_s, tk_s, ck_m, nI_clamp, lt_ok, ss_ok, nI_add, pk_mul, sub_n, bd_ok, bv_ok, gs_ne, gs_eq, h7, l5, a8.1, a8.2, h2]
theorem c_isDown {E : En} {m N nr : Nat} {σ : Sg} {gl : Nat → Nat} {r : Rn} (hL : LMill E m N) (h7 : gi σ m 7 = nI nr) (hn : nr ≤ N) (hN : N ≤ 700) (h : RD σ m gl nr r) : fX1_isDown E m (idI r.1) σ = some (bI r.2, σ) := by
  obtain ⟨l0, l4, l10, l12, l13, l17, l18, l5, l6, a1, a2, a3, a4, a5, a7, a8, a9, lt⟩ := hL
  unfold fX1_isDown
  rw [tk_ok l0]
  cases hr : r.1 with
  | nil => rw [h.1 hr]; rfl
  | cons i l =>
    obtain ⟨h1, h2, h3⟩ := h.2 i l hr
    unfold idI
    simp (disch := omega) only [i0, i1, i2, i3, i4, i5, i6, i7, i8, mle, mlt, meq, if_pos, if_neg, dr_s, tk_s, ck_m, nI_clamp, lt_ok, ss_ok, nI_add, pk_mul, sub_n, bd_ok, bv_ok, gs_ne, gs_eq, h7, l6, a9.1, a9.2, h3]
    cases r.2 <;> rfl
theorem c_isDownA {E : En} {m N : Nat} {σ : Sg} (hL : LMill E m N) : fX1_isDown E m (-2) σ = some (bI false, σ) := by
  unfold fX1_isDown
  rw [tk_ok hL.1]; rfl
theorem c_isDownD {E : En} {m N : Nat} {σ : Sg} (hL : LMill E m N) : fX1_isDown E m (-1) σ = some (bI false, σ) := by
  unfold fX1_isDown
  rw [tk_ok hL.1]; rfl
def tkI (g : Nat → Bool) (tp : Nat → List Rn) (t : Nat) : Int32 := if g t then idI (hdr (tp t)).1 else -2
def ldI (g : Nat → Bool) (tp : Nat → List Rn) (n : Nat) : Int32 := match ldF g tp n with
  | none => -1
  | some t => idI (hdr (tp t)).1
theorem idI_neg {l : List Nat} : idI l < 0 ↔ l = [] ∨ ∃ i r, l = i :: r ∧ nI i < 0 := by
  cases l with
  | nil => simp [idI]
  | cons i r => simp [idI]
theorem nI_nm1 {n : Nat} (h : n < 2 ^ 31) : ¬ nI n = -1 := by
  intro q
  have := nI_pos (n := n) h
  rw [q] at this
  exact this (by decide)
theorem nI_nm2 {n : Nat} (h : n < 2 ^ 31) : ¬ nI n = -2 := by
  intro q
  have := nI_pos (n := n) h
  rw [q] at this
  exact this (by decide)
theorem gv_ne {w h t : Nat} {s : Sk} {n : Nat} (hg : gvf w h s t = true) (hc : kc s t = n) : 0 < n := by
  unfold gvf at hg
  rw [hc] at hg
  cases n with
  | zero => simp at hg
  | succ n => omega
section LK
variable {E : En} {m N w T nr : Nat} {σ : Sg} {bk : Bool} {s : Sk} {tp : Nat → List Rn} {L H : Nat → Nat} {gl : Nat → Nat}
theorem hdr_mem {l : List Rn} (h : 0 < l.length) : hdr l ∈ l := by
  cases l with
  | nil => simp at h
  | cons a l => simp
theorem ms_at0 (hL : LMill E m N) (hms : MS σ m w T bk nr s tp L H) {t : Nat} (ht : t < 6) : fX5_at E (m + 10 + 2 * t) 0 (bI bk) σ = some (if 0 < (tp t).length then idI (hdr (tp t)).1 else -2, σ) := by
  obtain ⟨p1, p2, p3, p4, p5, p6⟩ := hms.2.2.1 t ht
  have hlt := (hL.2.2.2.2.2.2.2.2.2.2.2.2.2.2.2.2.2 t ht).2
  rw [show (0 : Int32) = nI 0 from rfl, tape_at hlt bk p1 p2 p3 p4 (by omega), p5]
  by_cases h : 0 < (tp t).length
  · rw [if_pos h, if_pos h, p6 0 h]
  · rw [if_neg h, if_neg h]
theorem c_look (hL : LMill E m N) (hms : MS σ m w T bk nr s tp L H) (hT : T ≤ 6) (hw : w ≤ 2) (hto : kto s < 6) (hn : nr ≤ N) (hN : N ≤ 700) (hD : ∀ t, t < T → ∀ r ∈ tp t, RD σ m gl nr r) :
    ∃ s', fX1_look E m σ = some s' ∧ (∀ t, t < T → gi s' (m + 4) t = tkI (gvf w (T / 2) s) tp t) ∧ gi s' m 14 = ldI (gvf w (T / 2) s) tp T ∧ gi s' m 15 = bI (bk && (ldD (gvf w (T / 2) s) tp T == some false)) ∧ ∀ x k, x ≠ m + 4 → ¬ (x = m ∧ (k = 14 ∨ k = 15)) → gi s' x k = gi σ x k := by
  obtain ⟨l0, l4, l10, l12, l13, l17, l18, l5, l6, a1, a2, a3, a4, a5, a7, a8, a9, ltp⟩ := id hL
  unfold fX1_look
  rw [tk_ok l0, ss_ok]
  refine bd_in T (fun i a => a.1 = nI i ∧ (∀ t, t < i → gi a.2 (m + 4) t = tkI (gvf w (T / 2) s) tp t) ∧ gi a.2 m 14 = ldI (gvf w (T / 2) s) tp i ∧ ∀ x k, x ≠ m + 4 → ¬ (x = m ∧ k = 14) → gi a.2 x k = gi σ x k)
    (fun a => (∀ t, t < T → gi a.2 (m + 4) t = tkI (gvf w (T / 2) s) tp t) ∧ gi a.2 m 14 = ldI (gvf w (T / 2) s) tp T ∧ ∀ x k, x ≠ m + 4 → ¬ (x = m ∧ k = 14) → gi a.2 x k = gi σ x k) (by show T < 1000000; omega) ⟨rfl, fun t ht => absurd ht (Nat.not_lt_zero t), gs_eq, fun x k h1 h2 => gs_ne (by omega)⟩ ?_ ?_ ?_
  · rintro i ⟨v, s2⟩ rec hi ⟨rfl, f1, f2, f3⟩
    dsimp only at f1 f2 f3 ⊢
    have hms2 : MS s2 m w T bk nr s tp L H := ms_fr hms (fun x k he => f3 x k (by unfold esS at he; omega) (by unfold esS at he; omega))
    obtain ⟨lt1, lt2⟩ := ltp i (by omega)
    have hb1 := hms2.1.2.1
    have hb3 := hms2.1.2.2.2.1
    unfold bX1_look_7
    rw [hb1, if_neg (nI_ge hi (by omega)), dr_ok l13 a4.1, ms_gives hL hms2 hT hw hi hto, bd_ok, a4.2]
    have key : ∀ (v : Int32), v = tkI (gvf w (T / 2) s) tp i → ∃ a', ck (nI i) 6 (ss (si s2 (m + 4) (nI i).toNatClampNeg v) (fun s21 => bd (if ¬ (gi s21 m 14) = (-1 : Int32) then (some ((), s21)) else (ck (nI i) 6 (if (gi s21 (m + 4) (nI i).toNatClampNeg) < 0 then (some ((), s21)) else (ck (nI i) 6 (ss (si s21 m 14 (gi s21 (m + 4) (nI i).toNatClampNeg)) (fun s26 => some ((), s26))))))) (fun w22 s23 => lt (nI i + (1 : Int32)) (fun v27 => rec (v27, s23))))) = rec a' ∧ (a'.1 = nI (i + 1) ∧ (∀ t, t < i + 1 → gi a'.2 (m + 4) t = tkI (gvf w (T / 2) s) tp t) ∧ gi a'.2 m 14 = ldI (gvf w (T / 2) s) tp (i + 1) ∧ ∀ x k, x ≠ m + 4 → ¬ (x = m ∧ k = 14) → gi a'.2 x k = gi σ x k) := by
      intro v hv
      have hnew : ∀ t, t < i + 1 → gi (si s2 (m + 4) i v) (m + 4) t = tkI (gvf w (T / 2) s) tp t := by
        intro t ht
        by_cases hti : t = i
        · subst hti; rw [gs_eq, hv]
        · rw [gs_ne (by omega)]; exact f1 t (by omega)
      have hfr : ∀ x k, x ≠ m + 4 → ¬ (x = m ∧ k = 14) → gi (si s2 (m + 4) i v) x k = gi σ x k := fun x k h1 h2 => by rw [gs_ne (by omega)]; exact f3 x k h1 h2
      rw [ck_n (by omega) (by omega), nI_clamp (by omega), ss_ok, gs_ne (by omega), f2]
      have hl1 : ldF (gvf w (T / 2) s) tp (i + 1) = match ldF (gvf w (T / 2) s) tp i with | some x => some x | none => if (gvf w (T / 2) s i && !(hdr (tp i)).1.isEmpty) = true then some i else none := rfl
      cases hl : ldF (gvf w (T / 2) s) tp i with
      | some t =>
        obtain ⟨q1, q2, q3⟩ := fstF_some hl
        have hid : ldI (gvf w (T / 2) s) tp i = idI (hdr (tp t)).1 := by unfold ldI; rw [hl]
        rw [hl] at hl1
        have hid1 : ldI (gvf w (T / 2) s) tp (i + 1) = idI (hdr (tp t)).1 := by unfold ldI; rw [hl1]
        have hge : gvf w (T / 2) s t = true := by revert q2; cases gvf w (T / 2) s t <;> simp
        have hne : ¬ idI (hdr (tp t)).1 = -1 := by
          have hr := hD t (by omega) _ (hdr_mem (gv_ne hge (hms.2.2.2 t (by omega))))
          cases hz : (hdr (tp t)).1 with
          | nil => rw [hz] at q2; simp at q2
          | cons j l =>
            have := (hr.2 j l hz).1
            exact nI_nm1 (by omega)
        rw [hid, if_pos hne, bd_ok, lt_ok, ad1]
        exact ⟨_, rfl, rfl, hnew, by dsimp only; rw [gs_ne (by omega), f2, hid, hid1], hfr⟩
      | none =>
        have hid : ldI (gvf w (T / 2) s) tp i = -1 := by unfold ldI; rw [hl]
        rw [hl] at hl1
        dsimp only at hl1
        rw [hid, if_neg (by simp), ck_n (by omega) (by omega), gs_eq, hv]
        by_cases hg : gvf w (T / 2) s i = true
        · have hr := hD i (by omega) _ (hdr_mem (gv_ne hg (hms.2.2.2 i (by omega))))
          have hti : tkI (gvf w (T / 2) s) tp i = idI (hdr (tp i)).1 := by unfold tkI; rw [if_pos hg]
          rw [hti]
          cases hz : (hdr (tp i)).1 with
          | nil =>
            have hid1 : ldI (gvf w (T / 2) s) tp (i + 1) = -1 := by unfold ldI; rw [hl1, hz]; simp
            rw [if_pos (show idI [] < 0 by decide), bd_ok, lt_ok, ad1]
            rw [hti, hz] at hv
            exact ⟨_, rfl, rfl, by rw [← hv]; exact hnew, by dsimp only; rw [gs_ne (by omega), f2, hid, hid1], by rw [← hv]; exact hfr⟩
          | cons j l =>
            have hj := (hr.2 j l hz).1
            have hid1 : ldI (gvf w (T / 2) s) tp (i + 1) = nI j := by unfold ldI; rw [hl1, hz, hg, if_pos (by simp)]; show idI (hdr (tp i)).1 = _; rw [hz]; rfl
            rw [show idI (j :: l) = nI j from rfl, if_neg (nI_pos (by omega)), ck_n (by omega) (by omega), ss_ok, bd_ok, lt_ok, ad1]
            rw [hti, hz] at hv
            refine ⟨_, rfl, rfl, fun t ht => ?_, ?_, fun x k h1 h2 => ?_⟩
            · dsimp only; rw [gs_ne (by omega), show nI j = v from hv.symm]; exact hnew t ht
            · dsimp only; rw [gs_eq, hid1]
            · dsimp only; rw [gs_ne (by omega), show nI j = v from hv.symm]; exact hfr x k h1 h2
        · have hg' : gvf w (T / 2) s i = false := by simpa using hg
          have hti : tkI (gvf w (T / 2) s) tp i = -2 := by unfold tkI; rw [if_neg hg]
          have hid1 : ldI (gvf w (T / 2) s) tp (i + 1) = -1 := by unfold ldI; rw [hl1, hg']; simp
          rw [hti] at hv ⊢
          rw [if_pos (by decide), bd_ok, lt_ok, ad1]
          exact ⟨_, rfl, rfl, by rw [← hv]; exact hnew, by dsimp only; rw [gs_ne (by omega), f2, hid, hid1], by rw [← hv]; exact hfr⟩
    by_cases hg : gvf w (T / 2) s i = true
    · rw [hg, if_neg (show ¬ bI true = 0 by decide), dr_ok l4 a1.1, a1.2, ck_n (by omega) (by omega), nI_clamp (by omega), dr_ok lt1 lt2.1, hb3, ms_at0 hL hms2 (by omega), bd_ok, bd_ok, if_pos (gv_ne hg (hms.2.2.2 i hi))]
      have := key (idI (hdr (tp i)).1) (by unfold tkI; rw [if_pos hg])
      rw [nI_clamp (by omega)] at this
      exact this
    · have hg' : gvf w (T / 2) s i = false := by simpa using hg
      rw [hg', if_pos (show bI false = 0 by decide), bd_ok]
      exact key (-2) (by unfold tkI; rw [if_neg hg])
  · rintro ⟨v, s2⟩ rec ⟨rfl, f1, f2, f3⟩
    dsimp only at f1 f2 f3 ⊢
    unfold bX1_look_7
    rw [f3 m 1 (by omega) (by omega), hms.1.2.1, if_pos (nI_le (Nat.le_refl _) (by omega))]
    exact ⟨_, rfl, f1, f2, f3⟩
  · rintro v s2 ⟨f1, f2, f3⟩
    dsimp only at f1 f2 f3 ⊢
    have h3 : gi s2 m 3 = bI bk := by rw [f3 m 3 (by omega) (by omega)]; exact hms.1.2.2.2.1
    have h7 : gi s2 m 7 = nI nr := by rw [f3 m 7 (by omega) (by omega)]; exact hms.1.2.2.2.2
    rw [h3, f2]
    have fin : ∀ b, b = (bk && (ldD (gvf w (T / 2) s) tp T == some false)) → ∃ r, kb (bI b) (ss (si s2 m 15 (bI b)) (fun s36 => some s36)) = some r ∧ ((∀ t, t < T → gi r (m + 4) t = tkI (gvf w (T / 2) s) tp t) ∧ gi r m 14 = ldI (gvf w (T / 2) s) tp T ∧ gi r m 15 = bI (bk && (ldD (gvf w (T / 2) s) tp T == some false)) ∧ ∀ x k, x ≠ m + 4 → ¬ (x = m ∧ (k = 14 ∨ k = 15)) → gi r x k = gi σ x k) := by
      intro b hb
      rw [kb_b, ss_ok]
      exact ⟨_, rfl, fun t ht => by rw [gs_ne (by omega)]; exact f1 t ht, by rw [gs_ne (by omega)]; exact f2, by rw [gs_eq, hb], fun x k h1 h2 => by rw [gs_ne (by omega)]; exact f3 x k h1 (by omega)⟩
    cases hbk : bk with
    | false =>
      rw [if_pos (show bI false = 0 by decide), bd_ok]
      rw [hbk] at fin
      exact fin false rfl
    | true =>
      rw [hbk] at fin
      rw [if_neg (show ¬ bI true = 0 by decide)]
      cases hl : ldF (gvf w (T / 2) s) tp T with
      | none =>
        have hid : ldI (gvf w (T / 2) s) tp T = -1 := by unfold ldI; rw [hl]
        rw [hid] at fin ⊢
        rw [if_pos rfl, bd_ok]
        exact fin false (by unfold ldD; rw [hl]; rfl)
      | some t =>
        obtain ⟨q1, q2, q3⟩ := fstF_some hl
        have hid : ldI (gvf w (T / 2) s) tp T = idI (hdr (tp t)).1 := by unfold ldI; rw [hl]
        have hge : gvf w (T / 2) s t = true := by revert q2; cases gvf w (T / 2) s t <;> simp
        have hr := hD t (by omega) _ (hdr_mem (gv_ne hge (hms.2.2.2 t (by omega))))
        have hr2 : RD s2 m gl nr (hdr (tp t)) := ⟨hr.1, fun i l hz => by rw [f3 _ _ (by omega) (by omega), f3 _ _ (by omega) (by omega)]; exact hr.2 i l hz⟩
        have hne : ¬ idI (hdr (tp t)).1 = -1 := by
          cases hz : (hdr (tp t)).1 with
          | nil => rw [hz] at q2; simp at q2
          | cons j l =>
            have := (hr.2 j l hz).1
            exact nI_nm1 (by omega)
        have hdd : ldD (gvf w (T / 2) s) tp T = some (hdr (tp t)).2 := by unfold ldD; rw [hl]; rfl
        rw [hid] at fin ⊢
        rw [if_neg hne, c_isDown hL h7 hn hN hr2, bd_ok]
        cases hdn : (hdr (tp t)).2 with
        | true =>
          rw [if_pos (show ¬ bI true = 0 by decide), bd_ok]
          exact fin false (by rw [hdd, hdn]; rfl)
        | false =>
          rw [if_neg (show ¬ ¬ bI false = 0 by decide), bd_ok]
          exact fin true (by rw [hdd, hdn]; rfl)
end LK
end
section
/-! a step of the class's mill: the tapes -/
theorem ifc {α : Type} {p q : Prop} [Decidable p] [Decidable q] (h : p ↔ q) {a b : α} : (if p then a else b) = if q then a else b := by
  by_cases hp : p
  · rw [if_pos hp, if_pos (h.mp hp)]
  · rw [if_neg hp, if_neg (fun hq => hp (h.mpr hq))]
theorem tp_drop {E : En} {a L H : Nat} {σ : Sg} {bk : Bool} {l : List Rn} (h : LTape E a) (hp : TP σ a bk l L H) (hl : 0 < l.length) : ∃ σ', fX5_drop E a (bI bk) σ = some σ' ∧ TP σ' a bk l.tail (if H - L = 1 then 0 else if bk then L else L + 1) (if H - L = 1 then 0 else if bk then H - 1 else H) ∧ (∀ x j, x ≠ a → gi σ' x j = gi σ x j) ∧ ∀ x j, gl σ' x j = gl σ x j := by
  obtain ⟨p1, p2, p3, p4, p5, p6⟩ := hp
  obtain ⟨σ', e1, e2, e3, e4, e5, e6⟩ := tape_drop h bk p1 p2 (by omega) p4
  refine ⟨σ', e1, ⟨e5, e6, ?_, ?_, ?_, fun k hk => ?_⟩, e2, e3⟩
  · split
    · omega
    · cases bk <;> simp <;> omega
  · split
    · omega
    · cases bk <;> simp <;> omega
  · rw [List.length_tail]
    split
    · omega
    · cases bk <;> simp <;> omega
  · rw [List.length_tail] at hk
    have h1 : ¬ H - L = 1 := by omega
    rw [e2 _ _ (by omega)]
    simp only [h1, if_false]
    have := p6 (k + 1) (by omega)
    have hg : l.tail.getD k ([], false) = l.getD (k + 1) ([], false) := by cases l <;> simp
    rw [hg, ← this]
    cases bk
    · simp only [Bool.false_eq_true, if_false]; congr 1; omega
    · simp only [if_true]; congr 1; omega
theorem tp_write {E : En} {a H : Nat} {σ : Sg} {bk : Bool} {l : List Rn} {r : Rn} (h : LTape E a) (hp : TP σ a bk l 0 H) (hl : l.length < 256) : ∃ σ', fX5_write E a (idI r.1) σ = some σ' ∧ TP σ' a bk (psh bk r l) 0 (H + 1) ∧ (∀ x j, x ≠ a → x ≠ a + 1 → gi σ' x j = gi σ x j) ∧ ∀ x j, gl σ' x j = gl σ x j := by
  obtain ⟨p1, p2, p3, p4, p5, p6⟩ := hp
  refine ⟨_, tape_write h p2 (by omega), ⟨?_, gs_eq, by omega, by omega, ?_, fun k hk => ?_⟩, fun x j h1 h2 => ?_, fun x j => rfl⟩
  · rw [gs_ne (by omega), gs_ne (by omega)]; exact p1
  · unfold psh; cases bk <;> simp <;> omega
  · rw [gs_ne (by omega)]
    unfold psh at hk ⊢
    cases bk
    · simp only [Bool.false_eq_true, if_false, List.length_append, List.length_singleton] at hk p6 ⊢
      by_cases hkl : k = H
      · subst hkl
        rw [show 0 + k = k by omega, gs_eq]
        congr 1
        have : k = l.length := by omega
        subst this
        simp
      · rw [gs_ne (by omega), p6 k (by omega)]
        congr 2
        rw [List.getD_eq_getElem?_getD, List.getD_eq_getElem?_getD, List.getElem?_append_left (by omega)]
    · simp only [if_true, List.length_cons] at hk p6 ⊢
      cases k with
      | zero => rw [show H + 1 - 1 - 0 = H by omega, gs_eq]; rfl
      | succ k =>
        rw [gs_ne (by omega), show H + 1 - 1 - (k + 1) = H - 1 - k by omega, p6 k (by omega)]
        rfl
  · rw [gs_ne (by omega), gs_ne (by omega)]
def occL (j : Nat) : List Rn → Nat
  | [] => 0
  | r :: l => r.1.count j + occL j l
theorem occL_mem {j : Nat} : ∀ {l : List Rn} {r : Rn}, r ∈ l → j ∈ r.1 → 0 < occL j l
  | [], r, h, _ => by cases h
  | q :: l, r, h, hj => by
    unfold occL
    rcases List.mem_cons.mp h with rfl | h
    · have := List.count_pos_iff.mpr hj; omega
    · have := occL_mem h hj; omega
theorem sumF_two {f : Nat → Nat} : ∀ {n t t' : Nat}, t < n → t' < n → t ≠ t' → f t + f t' ≤ sumF f n
  | 0, t, t', h, _, _ => by omega
  | n + 1, t, t', h, h', hne => by
    unfold sumF
    by_cases h1 : t = n
    · subst h1; have := sumF_pos (f := f) (n := t) (t := t') (by omega); omega
    · by_cases h2 : t' = n
      · subst h2; have := sumF_pos (f := f) (n := t') (t := t) (by omega); omega
      · have := sumF_two (f := f) (n := n) (t := t) (t' := t') (by omega) (by omega) hne; omega
/-- each that grew is in one run at most -/
def Dj (T : Nat) (tp : Nat → List Rn) : Prop := ∀ j, sumF (fun t => occL j (tp t)) T ≤ 1
theorem dj_hd {T : Nat} {tp : Nat → List Rn} (h : Dj T tp) {t t' j : Nat} {r : Rn} (ht : t < T) (ht' : t' < T) (hl : 0 < (tp t).length) (hj : j ∈ (hdr (tp t)).1) (hr : if t' = t then r ∈ (tp t).tail else r ∈ tp t') : j ∉ r.1 := by
  intro hjr
  have h1 := h j
  by_cases he : t' = t
  · subst he
    rw [if_pos rfl] at hr
    have h2 : occL j (tp t') ≤ sumF (fun t => occL j (tp t)) T := sumF_pos (f := fun t => occL j (tp t)) ht
    cases hq : tp t' with
    | nil => rw [hq] at hl; simp at hl
    | cons a l =>
      rw [hq] at hr hj
      rw [hq, show occL j (a :: l) = a.1.count j + occL j l from rfl] at h2
      have h3 := occL_mem (j := j) hr hjr
      have h4 : 0 < a.1.count j := List.count_pos_iff.mpr hj
      simp only [List.tail_cons] at h3
      omega
  · rw [if_neg he] at hr
    have h2 : occL j (tp t) + occL j (tp t') ≤ sumF (fun t => occL j (tp t)) T := sumF_two (f := fun t => occL j (tp t)) ht ht' (fun q => he q.symm)
    have h3 := occL_mem (j := j) hr hjr
    have h4 := occL_mem (j := j) (hdr_mem hl) hj
    omega
def Ld (g : Nat → Bool) (bk : Bool) (L H : Nat → Nat) (t : Nat) : Nat := if g t then (if H t - L t = 1 then 0 else if bk then L t else L t + 1) else L t
def Hd (g : Nat → Bool) (bk : Bool) (L H : Nat → Nat) (t : Nat) : Nat := if g t then (if H t - L t = 1 then 0 else if bk then H t - 1 else H t) else H t
theorem szl_app (gl : Nat → Nat) : ∀ a b : List Nat, szl gl (a ++ b) = szl gl a + szl gl b
  | [], b => by simp [szl]
  | i :: a, b => by simp [szl, szl_app gl a b, Nat.add_assoc]
section AD
variable {E : En} {m N w T nr : Nat} {σ : Sg} {bk : Bool} {s : Sk} {tp : Nat → List Rn} {L H : Nat → Nat} {gl : Nat → Nat}
/-- what is taken goes off its tape -/
theorem c_drops (hL : LMill E m N) (hms : MS σ m w T bk nr s tp L H) (hT : T ≤ 6) (hn : nr ≤ N) (hN : N ≤ 700) (hD : ∀ t, t < T → ∀ r ∈ tp t, RD σ m gl nr r) (d : Bool) {g : Nat → Bool} (hg : ∀ t, t < T → g t = true → 0 < (tp t).length) (htk : ∀ t, t < T → gi σ (m + 4) t = tkI g tp t) {lf tu : Nat} (h8 : gi σ m 8 = nI lf) (hlf : cntF g T ≤ lf) (h3 : gi σ (m + 3) 3 = nI tu) :
    ∃ b, fx (fun rec a => bX1_advance_32 E m (bI d) (fun u0 u1 t => rec ((u0, u1), t)) a.1.1 a.1.2 a.2) FU (((0 : Int32), (0 : Int32)), σ) = some b ∧ (b.1.1 = nI (szl gl (catF g tp T)) ∧ gi b.2 m 8 = nI (lf - cntF g T) ∧ gi b.2 (m + 3) 3 = nI (tu + sumF (tuF gl g tp d) T) ∧ (∀ t, t < 6 → TP b.2 (m + 10 + 2 * t) bk (if t < T ∧ g t = true then (tp t).tail else tp t) (if t < T then Ld g bk L H t else L t) (if t < T then Hd g bk L H t else H t)) ∧ ∀ x k, ¬ (m + 10 ≤ x ∧ x < m + 22) → ¬ (x = m ∧ k = 8) → ¬ (x = m + 3 ∧ k = 3) → gi b.2 x k = gi σ x k) := by
  obtain ⟨l0, l4, l10, l12, l13, l17, l18, l5, l6, a1, a2, a3, a4, a5, a7, a8, a9, ltp⟩ := id hL
  refine for_in T (fun i b => b.1.1 = nI (szl gl (catF g tp i)) ∧ b.1.2 = nI i ∧ gi b.2 m 8 = nI (lf - cntF g i) ∧ gi b.2 (m + 3) 3 = nI (tu + sumF (tuF gl g tp d) i) ∧ (∀ t, t < 6 → TP b.2 (m + 10 + 2 * t) bk (if t < i ∧ g t = true then (tp t).tail else tp t) (if t < i then Ld g bk L H t else L t) (if t < i then Hd g bk L H t else H t)) ∧ ∀ x k, ¬ (m + 10 ≤ x ∧ x < m + 22) → ¬ (x = m ∧ k = 8) → ¬ (x = m + 3 ∧ k = 3) → gi b.2 x k = gi σ x k) _ (by show T < 1000000; omega) ?_ ?_ ⟨rfl, rfl, h8, h3, fun t ht => ?_, fun _ _ _ _ _ => rfl⟩
  · rintro i ⟨⟨v, u⟩, s2⟩ rec hi ⟨f1, f2, f3, f4, f5, f6⟩
    dsimp only at f1 f2 f3 f4 f5 f6 ⊢
    subst f1; subst f2
    obtain ⟨lt1, lt2⟩ := ltp i (by omega)
    have hb1 : gi s2 m 1 = nI T := by rw [f6 _ _ (by omega) (by omega) (by omega)]; exact hms.1.2.1
    have ht4 : gi s2 (m + 4) i = tkI g tp i := by rw [f6 _ _ (by omega) (by omega) (by omega)]; exact htk i hi
    have hcl := cntF_le g i
    unfold bX1_advance_32
    rw [hb1, if_neg (nI_ge hi (by omega)), dr_ok l13 a4.1, a4.2, ck_n (by omega) (by omega), nI_clamp (by omega), ht4]
    by_cases hgi : g i = true
    · have hlen := hg i hi hgi
      have hr := hD i hi _ (hdr_mem hlen)
      have htk' : tkI g tp i = idI (hdr (tp i)).1 := by unfold tkI; rw [if_pos hgi]
      have hne : ¬ idI (hdr (tp i)).1 = -2 := by
        cases hz : (hdr (tp i)).1 with
        | nil => decide
        | cons j l => have := (hr.2 j l hz).1; exact nI_nm2 (by omega)
      have hb3 : gi s2 m 3 = bI bk := by rw [f6 _ _ (by omega) (by omega) (by omega)]; exact hms.1.2.2.2.1
      have hpi := f5 i (by omega)
      rw [if_neg (by omega), if_neg (by omega), if_neg (by omega)] at hpi
      obtain ⟨s3, e1, e2, e3, e4⟩ := tp_drop lt2 hpi hlen
      rw [htk', if_pos hne, dr_ok l4 a1.1, a1.2, ck_n (by omega) (by omega), dr_ok lt1 lt2.1, hb3, e1, bv_ok, ss_ok]
      have hle : cntF g i + 1 ≤ lf := by
        have h1 : cntF g (i + 1) ≤ cntF g T := by
          have : ∀ n, i + 1 ≤ n → cntF g (i + 1) ≤ cntF g n := by
            intro n
            induction n with
            | zero => intro h; omega
            | succ n ih =>
              intro h
              by_cases hin : i = n
              · subst hin; exact Nat.le_refl _
              · have := ih (by omega); show _ ≤ cntF g n + _; omega
          exact this T (by omega)
        have h2 : cntF g (i + 1) = cntF g i + 1 := by show cntF g i + _ = _; rw [if_pos hgi]
        omega
      have g8 : gi s3 m 8 - 1 = nI (lf - cntF g (i + 1)) := by
        rw [e3 _ _ (by omega), f3, i1, sub_n (by omega)]
        show _ = nI (lf - (cntF g i + _))
        rw [if_pos hgi]; congr 1
      rw [g8]
      generalize hs4 : si s3 m 8 (nI (lf - cntF g (i + 1))) = s4
      have q4 : ∀ x k, ¬ (x = m ∧ k = 8) → x ≠ m + 10 + 2 * i → gi s4 x k = gi s2 x k := fun x k h1 h2 => by rw [← hs4, gs_ne (by omega), e3 _ _ (by omega)]
      have q8 : gi s4 m 8 = nI (lf - cntF g (i + 1)) := by rw [← hs4, gs_eq]
      have t4 : gi s4 (m + 4) i = idI (hdr (tp i)).1 := by rw [q4 _ _ (by omega) (by omega), ht4, htk']
      have h7 : gi s4 m 7 = nI nr := by rw [q4 _ _ (by omega) (by omega), f6 _ _ (by omega) (by omega) (by omega)]; exact hms.1.2.2.2.2
      have hr4 : RD s4 m gl nr (hdr (tp i)) := ⟨hr.1, fun j l hz => by rw [q4 _ _ (by omega) (by omega), f6 _ _ (by omega) (by omega) (by omega), q4 _ _ (by omega) (by omega), f6 _ _ (by omega) (by omega) (by omega)]; exact hr.2 j l hz⟩
      have hcat : szl gl (catF g tp (i + 1)) = szl gl (catF g tp i) + szl gl (hdr (tp i)).1 := by
        show szl gl (catF g tp i ++ _) = _
        rw [if_pos hgi, szl_app]
      have tpn : ∀ s5 : Sg, (∀ x k, m + 10 ≤ x → gi s5 x k = gi s3 x k) → ∀ t, t < 6 → TP s5 (m + 10 + 2 * t) bk (if t < i + 1 ∧ g t = true then (tp t).tail else tp t) (if t < i + 1 then Ld g bk L H t else L t) (if t < i + 1 then Hd g bk L H t else H t) := by
        intro s5 h5 t ht
        by_cases hti : t = i
        · subst hti
          rw [if_pos ⟨by omega, hgi⟩, if_pos (by omega), if_pos (by omega)]
          unfold Ld Hd
          rw [if_pos hgi, if_pos hgi]
          exact tp_fr e2 (fun k => h5 _ _ (by omega)) (fun k => h5 _ _ (by omega))
        · have := f5 t ht
          rw [ifc (p := t < i + 1 ∧ g t = true) (q := t < i ∧ g t = true) ⟨fun q => ⟨by omega, q.2⟩, fun q => ⟨by omega, q.2⟩⟩, ifc (p := t < i + 1) (q := t < i) (a := Ld g bk L H t) ⟨fun q => by omega, fun q => by omega⟩, ifc (p := t < i + 1) (q := t < i) (a := Hd g bk L H t) ⟨fun q => by omega, fun q => by omega⟩]
          exact tp_fr this (fun k => by rw [h5 _ _ (by omega), e3 _ _ (by omega)]) (fun k => by rw [h5 _ _ (by omega), e3 _ _ (by omega)])
      rw [ck_n (by omega) (by omega), t4, c_sizeOf hL h7 hn hN hr4, bd_ok, lt_ok, nI_add, ck_n (by omega) (by omega), t4, c_isDown hL h7 hn hN hr4, bd_ok]
      by_cases hd : (hdr (tp i)).2 = d
      · rw [if_pos (by rw [hd]), bd_ok, lt_ok, ad1]
        refine ⟨_, rfl, by dsimp only; rw [hcat], rfl, q8, ?_, tpn s4 (fun x k h => by rw [← hs4, gs_ne (by omega)]), fun x k h1 h2 h3 => by dsimp only; rw [q4 _ _ h2 (by omega)]; exact f6 x k h1 h2 h3⟩
        dsimp only
        rw [q4 _ _ (by omega) (by omega), f4]
        show _ = nI (tu + (sumF (tuF gl g tp d) i + _))
        unfold tuF
        rw [if_pos hgi, if_pos hd]; rfl
      · have h33 : gi s4 (m + 3) 3 = nI (tu + sumF (tuF gl g tp d) i) := by rw [q4 _ _ (by omega) (by omega), f4]
        rw [if_neg (by rw [bI_e]; exact hd), dr_ok l12 a3.1, a3.2, i3, ck_n (by omega) (by omega), ck_n (by omega) (by omega), t4, c_sizeOf hL h7 hn hN hr4, bd_ok, ck_n (by omega) (by omega), nI_clamp (by omega), h33, nI_add, ss_ok, bd_ok, lt_ok, ad1]
        refine ⟨_, rfl, by dsimp only; rw [hcat], rfl, by dsimp only; rw [gs_ne (by omega)]; exact q8, ?_, tpn _ (fun x k h => by rw [gs_ne (by omega), ← hs4, gs_ne (by omega)]), fun x k h1 h2 h3 => by dsimp only; rw [gs_ne (by omega), q4 _ _ h2 (by omega)]; exact f6 x k h1 h2 h3⟩
        dsimp only
        rw [gs_eq]
        show _ = nI (tu + (sumF (tuF gl g tp d) i + tuF gl g tp d i))
        rw [show tuF gl g tp d i = szl gl (hdr (tp i)).1 from by unfold tuF; rw [if_pos hgi, if_neg hd], Nat.add_assoc]
    · have htk' : tkI g tp i = -2 := by unfold tkI; rw [if_neg hgi]
      rw [htk', if_neg (by decide), bd_ok, lt_ok, ad1]
      have hgf : g i = false := by simpa using hgi
      refine ⟨_, rfl, ?_, rfl, ?_, ?_, fun t ht => ?_, f6⟩
      · dsimp only
        show _ = nI (szl gl (catF g tp i ++ _))
        rw [if_neg hgi, List.append_nil]
      · dsimp only
        rw [f3]
        show _ = nI (lf - (cntF g i + _))
        rw [if_neg hgi]; rfl
      · dsimp only
        rw [f4]
        show _ = nI (tu + (sumF (tuF gl g tp d) i + tuF gl g tp d i))
        rw [show tuF gl g tp d i = 0 from by unfold tuF; rw [if_neg hgi]]; rfl
      · have := f5 t ht
        by_cases hti : t = i
        · subst hti
          rw [if_neg (by omega), if_neg (by omega), if_neg (by omega)] at this
          rw [if_neg (fun q => hgi q.2), if_pos (by omega), if_pos (by omega)]
          unfold Ld Hd
          rw [if_neg hgi, if_neg hgi]
          exact this
        · rw [ifc (p := t < i + 1 ∧ g t = true) (q := t < i ∧ g t = true) ⟨fun q => ⟨by omega, q.2⟩, fun q => ⟨by omega, q.2⟩⟩, ifc (p := t < i + 1) (q := t < i) (a := Ld g bk L H t) ⟨fun q => by omega, fun q => by omega⟩, ifc (p := t < i + 1) (q := t < i) (a := Hd g bk L H t) ⟨fun q => by omega, fun q => by omega⟩]
          exact this
  · rintro ⟨⟨v, u⟩, s2⟩ rec ⟨f1, f2, f3, f4, f5, f6⟩
    dsimp only at f1 f2 f3 f4 f5 f6 ⊢
    subst f2
    unfold bX1_advance_32
    rw [f6 m 1 (by omega) (by omega) (by omega), hms.1.2.1, if_pos (nI_le (Nat.le_refl _) (by omega))]
    exact ⟨_, rfl, f1, f3, f4, f5, f6⟩
  · rw [if_neg (by omega), if_neg (by omega), if_neg (by omega)]
    exact hms.2.2.1 t ht
end AD
end
section
/-! a step of the class's mill: phases -/
section PH
variable {E : En} {m N w T nr : Nat} {σ : Sg} {bk : Bool} {s : Sk} {tp : Nat → List Rn} {L H : Nat → Nat} {gl : Nat → Nat}
theorem c_givers (hL : LMill E m N) (hms : MS σ m w T bk nr s tp L H) (hT : T ≤ 6) (hw : w ≤ 2) (hto : kto s < 6) : fX1_givers E m σ = some (nI (cntF (gvf w (T / 2) s) T), σ) := by
  unfold fX1_givers
  rw [tk_ok hL.1]
  have hb1 := hms.1.2.1
  refine bd_tr ((nI (cntF (gvf w (T / 2) s) T), nI T), σ) T (fun i => ((nI (cntF (gvf w (T / 2) s) i), nI i), σ)) (by show T < 1000000; omega) (fun i rec hi => ?_) (fun rec => ?_) rfl
  · unfold bX1_givers_4
    dsimp only
    rw [hb1, if_neg (nI_ge hi (by omega)), ms_gives hL hms hT hw hi hto, bd_ok]
    cases hg : gvf w (T / 2) s i with
    | true => rw [if_neg (show ¬ bI true = 0 by decide), lt_ok, bd_ok, lt_ok, ad1, ad1, show cntF (gvf w (T / 2) s) (i + 1) = cntF (gvf w (T / 2) s) i + 1 from by show _ + _ = _; rw [hg]; rfl]
    | false => rw [if_pos (show bI false = 0 by decide), bd_ok, lt_ok, ad1, show cntF (gvf w (T / 2) s) (i + 1) = cntF (gvf w (T / 2) s) i from by show _ + _ = _; rw [hg]; rfl]
  · unfold bX1_givers_4
    dsimp only
    rw [hb1, if_pos (nI_le (Nat.le_refl _) (by omega))]
def optI : Option Nat → Int32
  | none => -1
  | some e => nI e
theorem c_emptied (hL : LMill E m N) (hms : MS σ m w T bk nr s tp L H) (hT : T ≤ 6) {g : Nat → Bool} (htk : ∀ t, t < T → (gi σ (m + 4) t = -2 ↔ g t = false)) : fX1_emptiedTape E m σ = some (optI (fstF (fun t => g t && (kc s t == 0)) T), σ) := by
  obtain ⟨l0, l4, l10, l12, l13, l17, l18, l5, l6, a1, a2, a3, a4, a5, a7, a8, a9, ltp⟩ := id hL
  have hb1 := hms.1.2.1
  have body : ∀ i rec, i < T → bX1_emptiedTape_2 E m rec (nI i) σ = if (g i && (kc s i == 0)) = true then some (.inr (nI i), σ) else rec (nI (i + 1)) σ := by
    intro i rec hi
    obtain ⟨lt1, lt2⟩ := ltp i (by omega)
    obtain ⟨p1, p2, p3, p4, p5, p6⟩ := hms.2.2.1 i (by omega)
    have hc := hms.2.2.2 i hi
    unfold bX1_emptiedTape_2
    rw [hb1, if_neg (nI_ge hi (by omega)), dr_ok l13 a4.1, a4.2, ck_n (by omega) (by omega), nI_clamp (by omega)]
    by_cases hg : g i = false
    · rw [if_pos ((htk i hi).mpr hg), lt_ok, ad1, hg]; rfl
    · rw [if_neg (fun q => hg ((htk i hi).mp q)), dr_ok l4 a1.1, a1.2, ck_n (by omega) (by omega), dr_ok lt1 lt2.1, tape_size lt2 p1 p2 p3, bd_ok]
      have hg' : g i = true := by simpa using hg
      by_cases hz : kc s i = 0
      · rw [show H i - L i = 0 by omega, if_neg (by simp; rfl), hg', hz]; rfl
      · rw [if_pos (nI_ne0 (by omega) (by omega)), lt_ok, ad1, hg']
        have : (kc s i == 0) = false := by simpa using hz
        rw [this]; rfl
  unfold fX1_emptiedTape
  rw [tk_ok l0]
  cases hf : fstF (fun t => g t && (kc s t == 0)) T with
  | some e =>
    obtain ⟨q1, q2, q3⟩ := fstF_some hf
    refine bd_tr (Sum.inr (nI e), σ) e (fun i => (nI i, σ)) (by show e < 1000000; omega) (fun i rec hi => ?_) (fun rec => ?_) rfl
    · dsimp only; rw [body i _ (by omega), if_neg (by rw [q3 i hi]; decide)]
    · dsimp only; rw [body e _ q1, if_pos q2]
  | none =>
    have q3 := fstF_none hf
    refine bd_tr (Sum.inl (nI T), σ) T (fun i => (nI i, σ)) (by show T < 1000000; omega) (fun i rec hi => ?_) (fun rec => ?_) rfl
    · dsimp only; rw [body i _ (by omega), if_neg (by rw [q3 i hi]; decide)]
    · unfold bX1_emptiedTape_2
      dsimp only
      rw [hb1, if_pos (nI_le (Nat.le_refl _) (by omega))]
theorem c_openPass (hL : LMill E m N) (hms : MS σ m w T bk nr s tp L H) (hT : T ≤ 6) (hto : kto s < 6) : ∃ s', fX1_openPass E m σ = some s' ∧ (∀ t, t < T → gi s' (m + 2) t = bI (!(kc s t == 0) && !(t == kto s))) ∧ ∀ x k, x ≠ m + 2 → gi s' x k = gi σ x k := by
  obtain ⟨l0, l4, l10, l12, l13, l17, l18, l5, l6, a1, a2, a3, a4, a5, a7, a8, a9, ltp⟩ := id hL
  unfold fX1_openPass
  rw [tk_ok l0]
  refine bd_in T (fun i a => a.1 = nI i ∧ (∀ t, t < i → gi a.2 (m + 2) t = bI (!(kc s t == 0) && !(t == kto s))) ∧ ∀ x k, x ≠ m + 2 → gi a.2 x k = gi σ x k)
    (fun a => (∀ t, t < T → gi a.2 (m + 2) t = bI (!(kc s t == 0) && !(t == kto s))) ∧ ∀ x k, x ≠ m + 2 → gi a.2 x k = gi σ x k) (by show T < 1000000; omega) ⟨rfl, fun t ht => absurd ht (Nat.not_lt_zero t), fun _ _ _ => rfl⟩ ?_ ?_ (fun v s2 q => ⟨s2, rfl, q⟩)
  · rintro i ⟨v, s2⟩ rec hi ⟨rfl, f1, f2⟩
    dsimp only at f1 f2 ⊢
    obtain ⟨lt1, lt2⟩ := ltp i (by omega)
    obtain ⟨p1, p2, p3, p4, p5, p6⟩ := hms.2.2.1 i (by omega)
    have hc := hms.2.2.2 i hi
    have hb1 : gi s2 m 1 = nI T := by rw [f2 _ _ (by omega)]; exact hms.1.2.1
    have k9 : gi s2 m 9 = nI (kto s) := by rw [f2 _ _ (by omega)]; exact hms.2.1.1
    unfold bX1_openPass_2
    rw [hb1, if_neg (nI_ge hi (by omega)), dr_ok l10 a2.1, dr_ok l4 a1.1, a1.2, ck_n (by omega) (by omega), nI_clamp (by omega), dr_ok lt1 lt2.1, tape_size (σ := s2) lt2 (by rw [f2 _ _ (by omega)]; exact p1) (by rw [f2 _ _ (by omega)]; exact p2) p3, bd_ok, a2.2]
    have key : ∀ b, b = (!(kc s i == 0) && !(i == kto s)) → ∃ a', ck (nI i) 6 (ss (si s2 (m + 2) i (vp_nar .boolean (bI b))) (fun s17 => lt (nI i + (1 : Int32)) (fun v18 => rec (v18, s17)))) = rec a' ∧ (a'.1 = nI (i + 1) ∧ (∀ t, t < i + 1 → gi a'.2 (m + 2) t = bI (!(kc s t == 0) && !(t == kto s))) ∧ ∀ x k, x ≠ m + 2 → gi a'.2 x k = gi σ x k) := by
      intro b hb
      rw [ck_n (by omega) (by omega), ss_ok, lt_ok, ad1, nar_b]
      refine ⟨_, rfl, rfl, fun t ht => ?_, fun x k hx => ?_⟩
      · dsimp only
        by_cases hti : t = i
        · subst hti; rw [gs_eq, hb]
        · rw [gs_ne (by omega)]; exact f1 t (by omega)
      · dsimp only; rw [gs_ne (by omega)]; exact f2 x k hx
    by_cases hz : kc s i = 0
    · rw [show H i - L i = 0 by omega, if_pos (by decide), bd_ok]
      exact key false (by rw [hz]; rfl)
    · have hz' : (kc s i == 0) = false := by simpa using hz
      rw [if_neg (nI_nle (by omega) (by omega)), k9]
      by_cases hq : i = kto s
      · rw [if_pos (by rw [← hq]), bd_ok]
        exact key false (by rw [hz', ← hq]; simp)
      · have hq' : (i == kto s) = false := by simpa using hq
        rw [if_neg (fun q => hq ((nI_eq (by omega) (by omega)).mp q)), bd_ok]
        exact key true (by rw [hz', hq']; rfl)
  · rintro ⟨v, s2⟩ rec ⟨rfl, f1, f2⟩
    dsimp only at f1 f2 ⊢
    unfold bX1_openPass_2
    rw [f2 _ _ (by omega), hms.1.2.1, if_pos (nI_le (Nat.le_refl _) (by omega))]
    exact ⟨_, rfl, f1, f2⟩
theorem c_firstW (hL : LMill E m N) {b : Bool} {h : Nat} (h11 : gi σ m 11 = bI b) (h2 : gi σ m 2 = nI h) : fX1_firstToWrite E m σ = some (nI (if b then h else 0), σ) := by
  unfold fX1_firstToWrite
  rw [tk_ok hL.1, h11, h2]
  cases b <;> rfl
/-- cells that phases change -/
def esP (m x k : Nat) : Prop := (x = m ∧ (k = 9 ∨ k = 11)) ∨ x = m + 2 ∨ (x = m + 3 ∧ k = 2)
theorem c_endB (hL : LMill E m N) (hms : MS σ m 1 T bk nr s tp L H) (hT : T ≤ 6) (hT3 : 3 ≤ T) (hto : kto s < 6) {ph : Nat} (hp : gi σ (m + 3) 2 = nI ph) :
    ∃ s', fX1_endBalancedPhase E m σ = some s' ∧ MS s' m 1 T bk nr (if cntF (gvf 1 (T / 2) s) T = 0 then (s.1, (if klo s then 0 else T / 2), s.2.2.1, !klo s) else (s.1, (if (if klo s then T - 1 else T / 2 - 1) ≤ kto s then (if klo s then T / 2 else 0) else kto s + 1), s.2.2.1, klo s)) tp L H ∧ gi s' (m + 3) 2 = nI (ph + if cntF (gvf 1 (T / 2) s) T = 0 then 1 else 0) ∧ ∀ x k, ¬ esP m x k → gi s' x k = gi σ x k := by
  obtain ⟨l0, l4, l10, l12, l13, l17, l18, l5, l6, a1, a2, a3, a4, a5, a7, a8, a9, ltp⟩ := id hL
  obtain ⟨⟨b0, b1, b2, b3, b7⟩, ⟨k9, k11, ko'⟩, ht, hc⟩ := id hms
  have hcl := cntF_le (gvf 1 (T / 2) s) T
  unfold fX1_endBalancedPhase
  rw [tk_ok l0, c_givers hL hms hT (by omega) hto, bd_ok]
  by_cases hz : cntF (gvf 1 (T / 2) s) T = 0
  · rw [hz, if_neg (by simp; rfl), dr_ok l12 a3.1, a3.2, i2, ck_n (by omega) (by omega), ck_n (by omega) (by omega), nI_clamp (by omega), hp, ad1, ss_ok, gs_ne (by omega), k11]
    have : bd (if ¬ bI (klo s) = 0 then (some ((0 : Int32), si σ (m + 3) 2 (nI (ph + 1)))) else (some ((1 : Int32), si σ (m + 3) 2 (nI (ph + 1))))) (fun w16 s17 => kb w16 (ss (si s17 m 11 w16) (fun s19 => bd (fX1_firstToWrite E m s19) (fun r22 s20 => ss (si s20 m 9 r22) (fun s23 => some s23))))) = some (si (si (si σ (m + 3) 2 (nI (ph + 1))) m 11 (bI (!klo s))) m 9 (nI (if klo s then 0 else T / 2))) := by
      have h1 : (if ¬ bI (klo s) = 0 then (some ((0 : Int32), si σ (m + 3) 2 (nI (ph + 1)))) else (some ((1 : Int32), si σ (m + 3) 2 (nI (ph + 1))))) = some (bI (!klo s), si σ (m + 3) 2 (nI (ph + 1))) := by cases klo s <;> rfl
      rw [h1, bd_ok, kb_b, ss_ok, c_firstW hL (b := !klo s) (h := T / 2) gs_eq (by rw [gs_ne (by omega), gs_ne (by omega)]; exact b2), bd_ok, ss_ok]
      cases klo s <;> rfl
    rw [this]
    refine ⟨_, rfl, ⟨⟨?_, ?_, ?_, ?_, ?_⟩, ⟨gs_eq, ?_, fun t h => ?_⟩, fun t h => ?_, ?_⟩, ?_, fun x k h => ?_⟩
    · rw [gs_ne (by omega), gs_ne (by omega), gs_ne (by omega)]; exact b0
    · rw [gs_ne (by omega), gs_ne (by omega), gs_ne (by omega)]; exact b1
    · rw [gs_ne (by omega), gs_ne (by omega), gs_ne (by omega)]; exact b2
    · rw [gs_ne (by omega), gs_ne (by omega), gs_ne (by omega)]; exact b3
    · rw [gs_ne (by omega), gs_ne (by omega), gs_ne (by omega)]; exact b7
    · rw [gs_ne (by omega), gs_eq]; rfl
    · rw [gs_ne (by omega), gs_ne (by omega), gs_ne (by omega)]; exact ko' t h
    · exact tp_fr (ht t h) (fun k => by rw [gs_ne (by omega), gs_ne (by omega), gs_ne (by omega)]) (fun k => by rw [gs_ne (by omega), gs_ne (by omega), gs_ne (by omega)])
    · exact hc
    · rw [gs_ne (by omega), gs_ne (by omega), gs_eq]; rfl
    · unfold esP at h; rw [gs_ne (by omega), gs_ne (by omega), gs_ne (by omega)]
  · rw [if_pos (nI_ne0 (by omega) (by omega)), if_neg hz, if_neg hz]
    have hw4 : (if (gi σ m 11) = 0 then (some (((gi σ m 2) - (1 : Int32)), σ)) else (some (((gi σ m 1) - (1 : Int32)), σ))) = some (nI (if klo s then T - 1 else T / 2 - 1), σ) := by
      rw [k11, b1, b2, i1, sub_n (by omega), sub_n (by omega)]
      cases klo s <;> rfl
    rw [hw4, bd_ok, k9]
    have hw6 : (if nI (kto s) < nI (if klo s then T - 1 else T / 2 - 1) then (some ((nI (kto s) + (1 : Int32)), σ)) else (bd (fX1_firstToWrite E m σ) (fun r10 s8 => some (r10, s8)))) = some (nI (if (if klo s then T - 1 else T / 2 - 1) ≤ kto s then (if klo s then T / 2 else 0) else kto s + 1), σ) := by
      have hb : (if klo s then T - 1 else T / 2 - 1) < 2 ^ 31 := by cases klo s <;> simp <;> omega
      by_cases hq : (if klo s then T - 1 else T / 2 - 1) ≤ kto s
      · rw [if_neg (nI_nlt hq (by omega)), if_pos hq, c_firstW hL k11 b2, bd_ok]
      · rw [if_pos (nI_lt (by omega) hb), if_neg hq, ad1]
    rw [hw6, bd_ok, ss_ok]
    refine ⟨_, rfl, ⟨⟨?_, ?_, ?_, ?_, ?_⟩, ⟨gs_eq, ?_, fun t h => ?_⟩, fun t h => ?_, hc⟩, ?_, fun x k h => ?_⟩
    · rw [gs_ne (by omega)]; exact b0
    · rw [gs_ne (by omega)]; exact b1
    · rw [gs_ne (by omega)]; exact b2
    · rw [gs_ne (by omega)]; exact b3
    · rw [gs_ne (by omega)]; exact b7
    · rw [gs_ne (by omega)]; exact k11
    · rw [gs_ne (by omega)]; exact ko' t h
    · exact tp_fr (ht t h) (fun k => by rw [gs_ne (by omega)]) (fun k => by rw [gs_ne (by omega)])
    · rw [gs_ne (by omega)]; exact hp
    · unfold esP at h; rw [gs_ne (by omega)]
theorem gvf_to {w h e : Nat} {cs : List Nat} {to : Nat} {os : List Bool} {lo : Bool} {t : Nat} (hw : w = 2) : gvf w h (cs, to, os, lo) t = gvf 2 h (cs, e, os, lo) t := by subst hw; rfl
theorem c_endN (hL : LMill E m N) (hms : MS σ m w T bk nr s tp L H) (hT : T ≤ 6) (hw : w = 0 ∨ w = 2) (hto : kto s < 6) {g : Nat → Bool} (htk : ∀ t, t < T → (gi σ (m + 4) t = -2 ↔ g t = false)) {ph : Nat} (hp : gi σ (m + 3) 2 = nI ph) :
    ∃ s', fX1_endNumberedPhase E m σ = some s' ∧ (match fstF (fun t => g t && (kc s t == 0)) T with
      | none => MS s' m w T bk nr s tp L H ∧ gi s' (m + 3) 2 = nI ph
      | some e => MS s' m w T bk nr (if w = 0 then (s.1, e, s.2.2.1, klo s) else if cntF (gvf 2 (T / 2) (s.1, e, tab (fun t => ko s t && !(t == e)) T, klo s)) T < 2 then (s.1, e, tab (fun t => !(kc s t == 0) && !(t == e)) T, klo s) else (s.1, e, tab (fun t => ko s t && !(t == e)) T, klo s)) tp L H ∧ gi s' (m + 3) 2 = nI (ph + 1)) ∧ ∀ x k, ¬ esP m x k → gi s' x k = gi σ x k := by
  obtain ⟨l0, l4, l10, l12, l13, l17, l18, l5, l6, a1, a2, a3, a4, a5, a7, a8, a9, ltp⟩ := id hL
  unfold fX1_endNumberedPhase
  rw [tk_ok l0, c_emptied hL hms hT htk, bd_ok]
  cases hf : fstF (fun t => g t && (kc s t == 0)) T with
  | none =>
    rw [if_neg (by simp [optI])]
    exact ⟨σ, rfl, ⟨hms, hp⟩, fun _ _ _ => rfl⟩
  | some e =>
    obtain ⟨q1, q2, q3⟩ := fstF_some hf
    obtain ⟨⟨b0, b1, b2, b3, b7⟩, ⟨k9, k11, ko'⟩, ht, hc⟩ := id hms
    rw [show optI (some e) = nI e from rfl, if_pos (nI_nm1 (n := e) (by omega)), dr_ok l12 a3.1, a3.2, i2, ck_n (by omega) (by omega), ck_n (by omega) (by omega), nI_clamp (by omega), hp, ad1, ss_ok, ss_ok]
    generalize hs2 : si (si σ (m + 3) 2 (nI (ph + 1))) m 9 (nI e) = s2
    have f2 : ∀ x k, ¬ (x = m ∧ k = 9) → ¬ (x = m + 3 ∧ k = 2) → gi s2 x k = gi σ x k := fun x k h1 h2 => by rw [← hs2, gs_ne (by omega), gs_ne (by omega)]
    have f9 : gi s2 m 9 = nI e := by rw [← hs2, gs_eq]
    have fp : gi s2 (m + 3) 2 = nI (ph + 1) := by rw [← hs2, gs_ne (by omega), gs_eq]
    have mk : ∀ (s3 : Sg) (os : List Bool), (∀ x k, ¬ (x = m ∧ k = 9) → ¬ (x = m + 3 ∧ k = 2) → x ≠ m + 2 → gi s3 x k = gi σ x k) → gi s3 m 9 = nI e → (∀ t, t < T → gi s3 (m + 2) t = bI (os.getD t false)) → MS s3 m w T bk nr (s.1, e, os, klo s) tp L H := by
      intro s3 os h1 h2 h3
      refine ⟨⟨?_, ?_, ?_, ?_, ?_⟩, ⟨h2, ?_, h3⟩, fun t h => tp_fr (ht t h) (fun k => h1 _ _ (by omega) (by omega) (by omega)) (fun k => h1 _ _ (by omega) (by omega) (by omega)), hc⟩
      · rw [h1 _ _ (by omega) (by omega) (by omega)]; exact b0
      · rw [h1 _ _ (by omega) (by omega) (by omega)]; exact b1
      · rw [h1 _ _ (by omega) (by omega) (by omega)]; exact b2
      · rw [h1 _ _ (by omega) (by omega) (by omega)]; exact b3
      · rw [h1 _ _ (by omega) (by omega) (by omega)]; exact b7
      · rw [h1 _ _ (by omega) (by omega) (by omega)]; exact k11
    rw [f2 m 0 (by omega) (by omega), b0]
    rcases hw with rfl | rfl
    · rw [if_pos (by decide), bd_ok]
      refine ⟨_, rfl, ⟨?_, fp⟩, fun x k h => f2 x k (by unfold esP at h; omega) (by unfold esP at h; omega)⟩
      rw [if_pos rfl]
      exact mk s2 s.2.2.1 (fun x k h1 h2 _ => f2 x k h1 h2) f9 (fun t h => by rw [f2 _ _ (by omega) (by omega)]; exact ko' t h)
    · rw [if_neg (by decide), dr_ok l10 a2.1, a2.2, ck_n (by omega) (by omega), nI_clamp (by omega), ss_ok, show vp_nar .boolean (0 : Int32) = bI false by decide]
      generalize hs3 : si s2 (m + 2) e (bI false) = s3
      have f3 : ∀ x k, ¬ (x = m + 2 ∧ k = e) → gi s3 x k = gi s2 x k := fun x k h1 => by rw [← hs3, gs_ne (by omega)]
      have hms3 : MS s3 m 2 T bk nr (s.1, e, tab (fun t => ko s t && !(t == e)) T, klo s) tp L H := by
        refine mk s3 _ (fun x k h1 h2 h3 => by rw [f3 x k (by omega)]; exact f2 x k h1 h2) (by rw [f3 _ _ (by omega)]; exact f9) (fun t h => ?_)
        rw [tab_at h]
        by_cases hte : t = e
        · subst hte; rw [← hs3, gs_eq]; simp
        · have : (t == e) = false := by simpa using hte
          rw [f3 _ _ (by omega), f2 _ _ (by omega) (by omega), ko' t h, this]; simp
      have hcl := cntF_le (gvf 2 (T / 2) (s.1, e, tab (fun t => ko s t && !(t == e)) T, klo s)) T
      rw [c_givers hL hms3 hT (by omega) (show e < 6 by omega), bd_ok]
      by_cases hq : cntF (gvf 2 (T / 2) (s.1, e, tab (fun t => ko s t && !(t == e)) T, klo s)) T < 2
      · obtain ⟨s4, e1, e2, e3⟩ := c_openPass hL hms3 hT (show e < 6 by omega)
        rw [if_neg (nI_ge hq (by omega)), e1, bv_ok, bd_ok]
        refine ⟨_, rfl, ⟨?_, ?_⟩, fun x k h => ?_⟩
        · rw [if_neg (by decide), if_pos hq]
          refine mk s4 _ (fun x k h1 h2 h3 => by rw [e3 _ _ h3, f3 _ _ (by omega)]; exact f2 x k h1 h2) (by rw [e3 _ _ (by omega), f3 _ _ (by omega)]; exact f9) (fun t h => ?_)
          rw [tab_at h, e2 t h]
        · rw [e3 _ _ (by omega), f3 _ _ (by omega)]; exact fp
        · unfold esP at h; rw [e3 _ _ (by omega), f3 _ _ (by omega), f2 _ _ (by omega) (by omega)]
      · rw [if_pos (nI_le (by omega) (by omega)), bd_ok]
        refine ⟨_, rfl, ⟨by rw [if_neg (by decide), if_neg hq]; exact hms3, ?_⟩, fun x k h => ?_⟩
        · rw [f3 _ _ (by omega)]; exact fp
        · unfold esP at h; rw [f3 _ _ (by omega), f2 _ _ (by omega) (by omega)]
end PH
end
section
/-! a whole step of the class's mill -/
theorem sum_one {f : Nat → Nat} : ∀ {n : Nat}, sumF f n = 1 → ∃ t, t < n ∧ f t = 1 ∧ ∀ j, j < n → j ≠ t → f j = 0
  | 0, h => by simp [sumF] at h
  | n + 1, h => by
    unfold sumF at h
    by_cases hz : f n = 0
    · obtain ⟨t, h1, h2, h3⟩ := sum_one (f := f) (n := n) (by omega)
      refine ⟨t, by omega, h2, fun j hj hne => ?_⟩
      by_cases hjn : j = n
      · subst hjn; exact hz
      · exact h3 j (by omega) hne
    · refine ⟨n, by omega, by omega, fun j hj hne => ?_⟩
      have := sumF_pos (f := f) (n := n) (t := j) (by omega)
      omega
theorem ld_cat (g : Nat → Bool) (tp : Nat → List Rn) : ∀ n, ldI g tp n = idI (catF g tp n) ∧ (ldF g tp n = none ↔ catF g tp n = []) ∧ ∀ t, ldF g tp n = some t → ∃ i l r, (hdr (tp t)).1 = i :: l ∧ catF g tp n = i :: r
  | 0 => ⟨rfl, ⟨fun _ => rfl, fun _ => rfl⟩, fun t h => by cases h⟩
  | n + 1 => by
    obtain ⟨h1, h2, h3⟩ := ld_cat g tp n
    have hl1 : ldF g tp (n + 1) = match ldF g tp n with | some x => some x | none => if (g n && !(hdr (tp n)).1.isEmpty) = true then some n else none := rfl
    have hc1 : catF g tp (n + 1) = catF g tp n ++ (if g n then (hdr (tp n)).1 else []) := rfl
    cases hl : ldF g tp n with
    | some t =>
      obtain ⟨i, l, r, q1, q2⟩ := h3 t hl
      rw [hl] at hl1
      have hid : ldI g tp (n + 1) = nI i := by unfold ldI; rw [hl1]; show idI (hdr (tp t)).1 = _; rw [q1]; rfl
      rw [q2] at hc1
      refine ⟨by rw [hid, hc1]; rfl, ⟨fun q => (by rw [hl1] at q; cases q), fun q => (by rw [hc1] at q; cases q)⟩, fun t' q => ?_⟩
      rw [hl1] at q
      simp only [Option.some.injEq] at q
      subst q
      exact ⟨i, l, _, q1, hc1⟩
    | none =>
      have hcn := h2.mp hl
      rw [hl] at hl1
      rw [hcn, List.nil_append] at hc1
      dsimp only at hl1
      by_cases hg : g n = true
      · rw [if_pos hg] at hc1
        cases hz : (hdr (tp n)).1 with
        | nil =>
          rw [hz] at hl1 hc1
          have hl2 : ldF g tp (n + 1) = none := by rw [hl1]; simp
          refine ⟨by unfold ldI; rw [hl2, hc1]; rfl, ⟨fun _ => hc1, fun _ => hl2⟩, fun t q => by rw [hl2] at q; cases q⟩
        | cons i l =>
          rw [hz] at hl1 hc1
          have hl2 : ldF g tp (n + 1) = some n := by rw [hl1, hg]; simp
          refine ⟨by unfold ldI; rw [hl2, hc1]; show idI (hdr (tp n)).1 = _; rw [hz], ⟨fun q => (by rw [hl2] at q; cases q), fun q => (by rw [hc1] at q; cases q)⟩, fun t q => ?_⟩
          rw [hl2] at q
          simp only [Option.some.injEq] at q
          subst q
          exact ⟨i, l, l, hz, hc1⟩
      · rw [if_neg hg] at hc1
        have hg' : g n = false := by simpa using hg
        have hl2 : ldF g tp (n + 1) = none := by rw [hl1, hg']; simp
        refine ⟨by unfold ldI; rw [hl2, hc1]; rfl, ⟨fun _ => hc1, fun _ => hl2⟩, fun t q => by rw [hl2] at q; cases q⟩
def RMl (σ : Sg) (m w T : Nat) (bk : Bool) (gl : Nat → Nat) (nr : Nat) (A : Mi) : Prop := ∃ L H, MS σ m w T bk nr (mK A) (mT A) L H ∧ (∀ t, t < 6 → L t = 0 ∨ (t < T ∧ flg w (T / 2) (mK A) t = true ∧ 0 < (mT A t).length)) ∧ (∀ t, t < T → ∀ r ∈ mT A t, RD σ m gl nr r) ∧ gi σ m 8 = nI (lef T (mK A)) ∧ gi σ (m + 3) 0 = nI (mMo A) ∧ gi σ (m + 3) 1 = nI (mSt A) ∧ gi σ (m + 3) 2 = nI (mPh A) ∧ gi σ (m + 3) 3 = nI (mTu A)
theorem lef_lt {T : Nat} {s : Sk} {c : Nat} (h : ∀ t, t < T → kc s t ≤ c) : lef T s ≤ c * T := by
  have : ∀ n, n ≤ T → sumF (kc s) n ≤ c * n := by
    intro n
    induction n with
    | zero => intro _; exact Nat.zero_le _
    | succ n ih => intro hn; have := ih (by omega); have := h n (by omega); show sumF (kc s) n + kc s n ≤ _; rw [Nat.mul_succ]; omega
  exact this T (Nat.le_refl _)
theorem ms_kc {σ : Sg} {m w T nr : Nat} {bk : Bool} {s : Sk} {tp : Nat → List Rn} {L H : Nat → Nat} (hT : T ≤ 6) (hms : MS σ m w T bk nr s tp L H) {t : Nat} (ht : t < T) : kc s t ≤ 256 := by
  have h1 := hms.2.2.2 t ht
  obtain ⟨p1, p2, p3, p4, p5, p6⟩ := hms.2.2.1 t (by omega)
  omega
theorem ms_lef {σ : Sg} {m w T nr : Nat} {bk : Bool} {s : Sk} {tp : Nat → List Rn} {L H : Nat → Nat} (hT : T ≤ 6) (hms : MS σ m w T bk nr s tp L H) : lef T s ≤ 1536 := by
  have := lef_lt (T := T) (s := s) (c := 256) (fun t ht => ms_kc hT hms ht)
  omega
theorem hdr_upr (l : List Rn) : (hdr (upr l)).1 = (hdr l).1 := by cases l <;> rfl
section TL2
variable {E : En} {m N w T nr : Nat} {σ : Sg} {bk : Bool} {gl : Nat → Nat} {A : Mi}
/-- the last run stands up -/
theorem c_turn (hL : LMill E m N) (h : RMl σ m w T bk gl nr A) (hT : T ≤ 6) (hn : nr ≤ N) (hN : N ≤ 700) : ∃ s', fX1_turnLast E m σ = some s' ∧ RMl s' m w T bk gl nr (tul gl T A) ∧ ∀ x k, ¬ (x = m + 3 ∧ k = 3) → x ≠ m + 9 → gi s' x k = gi σ x k := by
  obtain ⟨L, H, hms, hl0, hD, h8, t0, t1, t2, t3⟩ := h
  obtain ⟨l0, l4, l10, l12, l13, l17, l18, l5, l6, a1, a2, a3, a4, a5, a7, a8, a9, ltp⟩ := id hL
  have hle := ms_lef hT hms
  unfold fX1_turnLast
  rw [tk_ok l0, h8]
  by_cases h1 : lef T (mK A) = 1
  · rw [if_pos (by rw [h1]; rfl)]
    obtain ⟨e, q1, q2, q3⟩ := sum_one h1
    have hlen := hms.2.2.2 e q1
    rw [q2] at hlen
    obtain ⟨r, hr⟩ : ∃ r, mT A e = [r] := by
      cases hq : mT A e with
      | nil => rw [hq] at hlen; simp at hlen
      | cons r l => rw [hq] at hlen; cases l with
        | nil => exact ⟨r, rfl⟩
        | cons _ _ => simp at hlen
    have hoth : ∀ t, t < T → t ≠ e → mT A t = [] := by
      intro t ht hne
      have := hms.2.2.2 t ht
      rw [q3 t ht hne] at this
      exact List.eq_nil_of_length_eq_zero this.symm
    have hRD : RD σ m gl nr r := hD e q1 r (by rw [hr]; simp)
    have hb1 := hms.1.2.1
    have hb3 := hms.1.2.2.2.1
    have h7 := hms.1.2.2.2.2
    have hsum : sumF (fun t => if (hdr (mT A t)).2 then szl gl (hdr (mT A t)).1 else 0) T = if r.2 then szl gl r.1 else 0 := by
      have : ∀ n, n ≤ T → sumF (fun t => if (hdr (mT A t)).2 then szl gl (hdr (mT A t)).1 else 0) n = if e < n then (if r.2 then szl gl r.1 else 0) else 0 := by
        intro n
        induction n with
        | zero => intro _; rfl
        | succ n ih =>
          intro hn'
          show sumF _ n + _ = _
          rw [ih (by omega)]
          dsimp only
          by_cases hne : n = e
          · subst hne; rw [hr, if_neg (show ¬ n < n by omega), if_pos (show n < n + 1 by omega)]; simp
          · rw [hoth n (by omega) hne]
            by_cases hen : e < n
            · rw [if_pos hen, if_pos (show e < n + 1 by omega)]; simp
            · rw [if_neg hen, if_neg (show ¬ e < n + 1 by omega)]; simp
      rw [this T (Nat.le_refl _), if_pos q1]
    have fin : ∀ s2 : Sg, (∀ x k, ¬ (x = m + 3 ∧ k = 3) → x ≠ m + 9 → gi s2 x k = gi σ x k) → gi s2 (m + 3) 3 = nI (mTu A + if r.2 then szl gl r.1 else 0) → (∀ i l, r.1 = i :: l → gi s2 (m + 9) i = bI false) → RMl s2 m w T bk gl nr (tul gl T A) := by
      intro s2 f1 f2 f3
      unfold tul
      rw [if_pos h1]
      refine ⟨L, H, ⟨?_, ?_, fun t ht => ?_, fun t ht => ?_⟩, fun t ht => ?_, fun t ht r' hr' => ?_, ?_, ?_, ?_, ?_, ?_⟩
      · exact (ms_fr hms (fun x k he => f1 x k (by unfold esS at he; omega) (by unfold esS at he; omega))).1
      · exact (ms_fr hms (fun x k he => f1 x k (by unfold esS at he; omega) (by unfold esS at he; omega))).2.1
      · obtain ⟨p1, p2, p3, p4, p5, p6⟩ := hms.2.2.1 t ht
        refine ⟨by rw [f1 _ _ (by omega) (by omega)]; exact p1, by rw [f1 _ _ (by omega) (by omega)]; exact p2, p3, p4, by dsimp only [mT, upr]; rw [List.length_map]; exact p5, fun k hk => ?_⟩
        dsimp only [mT, upr] at hk ⊢
        rw [List.length_map] at hk
        rw [f1 _ _ (by omega) (by omega), p6 k hk]
        congr 1
        rw [List.getD_eq_getElem?_getD, List.getD_eq_getElem?_getD, List.getElem?_map]
        cases hq : (A.1 t)[k]? with
        | none => rfl
        | some _ => rfl
      · show _ = (upr _).length
        unfold upr
        rw [List.length_map]
        exact hms.2.2.2 t ht
      · have := hl0 t ht
        show _ ∨ _ ∧ _ ∧ 0 < (upr _).length
        unfold upr
        rw [List.length_map]
        exact this
      · have hr' : r' ∈ upr (mT A t) := hr'
        have hte : t = e := Decidable.byContradiction (fun hne => by rw [hoth t ht hne] at hr'; simp [upr] at hr')
        subst hte
        rw [hr] at hr'
        have hr' : r' = (r.1, false) := by simpa [upr] using hr'
        subst hr'
        refine ⟨fun _ => rfl, fun i l hz => ?_⟩
        obtain ⟨g1, g2, g3⟩ := hRD.2 i l hz
        exact ⟨g1, by rw [f1 _ _ (by omega) (by omega)]; exact g2, f3 i l hz⟩
      · rw [f1 _ _ (by omega) (by omega)]; exact h8
      · rw [f1 _ _ (by omega) (by omega)]; exact t0
      · rw [f1 _ _ (by omega) (by omega)]; exact t1
      · rw [f1 _ _ (by omega) (by omega)]; exact t2
      · rw [f2]; show _ = nI (mTu A + sumF _ T); rw [hsum]
    have body0 : ∀ i rec, i < T → i ≠ e → ∀ s2 : Sg, (∀ x k, ¬ (x = m + 3 ∧ k = 3) → x ≠ m + 9 → gi s2 x k = gi σ x k) → bX1_turnLast_11 E m rec (nI i) s2 = rec (nI (i + 1)) s2 := by
      intro i rec hi hne s2 f1
      obtain ⟨lt1, lt2⟩ := ltp i (by omega)
      have hms2 := ms_fr hms (fun x k he => f1 x k (by unfold esS at he; omega) (by unfold esS at he; omega))
      have hat := ms_at0 (t := i) hL hms2 (by omega)
      rw [hoth i hi hne] at hat
      unfold bX1_turnLast_11
      rw [hms2.1.2.1, if_neg (nI_ge hi (by omega)), dr_ok l4 a1.1, a1.2, ck_n (by omega) (by omega), nI_clamp (by omega), dr_ok lt1 lt2.1, hms2.1.2.2.2.1, hat, bd_ok, if_neg (by simp), c_isDownA hL, bd_ok, if_pos (by decide), bd_ok, lt_ok, ad1]
    have hend : ∀ rec s2, (∀ x k, ¬ (x = m + 3 ∧ k = 3) → x ≠ m + 9 → gi s2 x k = gi σ x k) → bX1_turnLast_11 E m rec (nI T) s2 = some (nI T, s2) := by
      intro rec s2 f1
      unfold bX1_turnLast_11
      rw [f1 _ _ (by omega) (by omega), hb1, if_pos (nI_le (Nat.le_refl _) (by omega))]
    obtain ⟨lt1, lt2⟩ := ltp e (by omega)
    have hat := ms_at0 (t := e) hL hms (by omega)
    rw [hr] at hat
    cases hd : r.2 with
    | false =>
      refine ⟨σ, bd_tr (nI T, σ) T (fun i => (nI i, σ)) (by show T < 1000000; omega) (fun i rec hi => ?_) (fun rec => hend _ _ (fun _ _ _ _ => rfl)) rfl, fin σ (fun _ _ _ _ => rfl) (by rw [hd]; exact t3) (fun i l hz => by rw [(hRD.2 i l hz).2.2, hd]), fun _ _ _ _ => rfl⟩
      by_cases hie : i = e
      · subst hie
        dsimp only
        unfold bX1_turnLast_11
        rw [hb1, if_neg (nI_ge hi (by omega)), dr_ok l4 a1.1, a1.2, ck_n (by omega) (by omega), nI_clamp (by omega), dr_ok lt1 lt2.1, hb3, hat, bd_ok, if_pos (by simp)]
        show bd (fX1_isDown E m (idI r.1) σ) _ = _
        rw [c_isDown hL h7 hn hN hRD, bd_ok, hd, if_pos (by decide), bd_ok, lt_ok, ad1]
      · exact body0 i _ hi hie σ (fun _ _ _ _ => rfl)
    | true =>
      obtain ⟨i0, l0', hz⟩ : ∃ i l, r.1 = i :: l := by
        cases hq : r.1 with
        | nil => have := hRD.1 hq; rw [hd] at this; cases this
        | cons i l => exact ⟨i, l, rfl⟩
      obtain ⟨g1, g2, g3⟩ := hRD.2 i0 l0' hz
      have f1 : ∀ x k, ¬ (x = m + 3 ∧ k = 3) → x ≠ m + 9 → gi (si (si σ (m + 3) 3 (nI (mTu A + szl gl r.1))) (m + 9) i0 (bI false)) x k = gi σ x k := fun x k h1 h2 => by rw [gs_ne (by omega), gs_ne (by omega)]
      refine ⟨si (si σ (m + 3) 3 (nI (mTu A + szl gl r.1))) (m + 9) i0 (bI false), bd_tr (nI T, si (si σ (m + 3) 3 (nI (mTu A + szl gl r.1))) (m + 9) i0 (bI false)) T (fun i => (nI i, if i ≤ e then σ else si (si σ (m + 3) 3 (nI (mTu A + szl gl r.1))) (m + 9) i0 (bI false))) (by show T < 1000000; omega) (fun i rec hi => ?_) (fun rec => ?_) ?_, fin _ f1 ?_ (fun i l hz' => ?_), f1⟩
      · by_cases hie : i = e
        · subst hie
          dsimp only
          rw [if_pos (Nat.le_refl _), if_neg (show ¬ i + 1 ≤ i by omega)]
          unfold bX1_turnLast_11
          rw [hb1, if_neg (nI_ge hi (by omega)), dr_ok l4 a1.1, a1.2, ck_n (by omega) (by omega), nI_clamp (by omega), dr_ok lt1 lt2.1, hb3, hat, bd_ok, if_pos (by simp)]
          show bd (fX1_isDown E m (idI r.1) σ) _ = _
          rw [c_isDown hL h7 hn hN hRD, bd_ok, hd, if_neg (by decide)]
          show bd (dr _ E 100 (fun x18 => ck 3 (ln E x18) (dr _ E 100 (fun x20 => ck (idI r.1) _ (ck 3 _ (ss (si σ x18 _ (_ + gi σ x20 (idI r.1).toNatClampNeg)) (fun s23 => dr _ E 101 (fun x24 => ck (idI r.1) _ (ss (si s23 x24 (idI r.1).toNatClampNeg _) _))))))))) _ = _
          rw [hz, show idI (i0 :: l0') = nI i0 from rfl, dr_ok l12 a3.1, a3.2, i3, ck_n (by omega) (by omega), dr_ok l5 a8.1, a8.2, ck_n (by omega) (by omega), ck_n (by omega) (by omega), nI_clamp (n := 3) (by omega), nI_clamp (n := i0) (by omega), t3, g2, nI_add, ss_ok, dr_ok l6 a9.1, a9.2, ck_n (by omega) (by omega), show vp_nar .boolean (0 : Int32) = bI false by decide, ss_ok, bd_ok, lt_ok, ad1, hz]
        · dsimp only
          by_cases hlt : i ≤ e
          · rw [if_pos hlt, if_pos (show i + 1 ≤ e by omega)]
            exact body0 i _ hi hie σ (fun _ _ _ _ => rfl)
          · rw [if_neg hlt, if_neg (show ¬ i + 1 ≤ e by omega)]
            exact body0 i _ hi hie _ f1
      · dsimp only; rw [if_neg (show ¬ T ≤ e by omega)]; exact hend _ _ f1
      · rw [if_pos (Nat.zero_le _)]; rfl
      · rw [gs_ne (by omega), gs_eq, hd]; rfl
      · rw [hz] at hz'
        injection hz' with h1 h2
        subst h1
        rw [gs_eq]
  · rw [i1, if_neg (fun q => h1 ((nI_eq (by omega) (by omega)).mp q))]
    refine ⟨σ, rfl, ?_, fun _ _ _ _ => rfl⟩
    unfold tul
    rw [if_neg h1]
    exact ⟨L, H, hms, hl0, hD, h8, t0, t1, t2, t3⟩
end TL2
end
section
/-! a whole step of the class's mill -/
theorem sumF_step {f f' : Nat → Nat} {g : Nat → Bool} {to : Nat} (hg : g to = false) (h1 : f' to = f to + 1) (h2 : ∀ t, g t = true → f' t + 1 = f t) (h3 : ∀ t, t ≠ to → g t = false → f' t = f t) : ∀ n, sumF f' n + cntF g n = sumF f n + (if to < n then 1 else 0)
  | 0 => by simp [sumF, cntF]
  | n + 1 => by
    have ih := sumF_step hg h1 h2 h3 n
    unfold sumF cntF
    by_cases hn : n = to
    · subst hn; rw [hg, h1, if_pos (show n < n + 1 by omega)]; rw [if_neg (show ¬ n < n by omega)] at ih; rw [if_neg (by simp)]; omega
    · by_cases hgn : g n = true
      · have := h2 n hgn
        rw [hgn, if_pos rfl]
        by_cases hlt : to < n
        · rw [if_pos hlt] at ih; rw [if_pos (by omega)]; omega
        · rw [if_neg hlt] at ih; rw [if_neg (by omega)]; omega
      · have hgf : g n = false := by simpa using hgn
        have := h3 n hn hgf
        rw [hgf, if_neg (by simp)]
        by_cases hlt : to < n
        · rw [if_pos hlt] at ih; rw [if_pos (by omega)]; omega
        · rw [if_neg hlt] at ih; rw [if_neg (by omega)]; omega
theorem gv_fl {w h t : Nat} {s : Sk} (hg : gvf w h s t = true) : flg w h s t = true ∧ 0 < kc s t := by
  unfold gvf at hg
  simp only [Bool.and_eq_true, Bool.not_eq_true', beq_eq_false_iff_ne] at hg
  exact ⟨hg.2, by omega⟩
theorem gv_of {w h t : Nat} {s : Sk} (h1 : flg w h s t = true) (h2 : 0 < kc s t) : gvf w h s t = true := by
  unfold gvf
  simp only [Bool.and_eq_true, Bool.not_eq_true', beq_eq_false_iff_ne]
  exact ⟨by omega, h1⟩
theorem gv_no {w h t : Nat} {s : Sk} (h1 : flg w h s t = false) : gvf w h s t = false := by
  unfold gvf; rw [h1]; simp
theorem skc_at {w T h t : Nat} {s : Sk} (ht : t < T) : (skc w T h s).getD t 0 = if t = kto s then kc s t + 1 else if gvf w h s t then kc s t - 1 else kc s t := by
  unfold skc; rw [tab_at ht]
theorem skn_1 {w T h : Nat} {s : Sk} : (skn w T h s).1.1 = skc w T h s := by
  unfold skn
  dsimp only
  split
  · split <;> rfl
  · split
    · rfl
    · split
      · rfl
      · split <;> rfl
theorem lef_skn {w T h : Nat} {s : Sk} (hto : kto s < T) (hf : flg w h s (kto s) = false) : lef T (skn w T h s).1 + cntF (gvf w h s) T = lef T s + 1 := by
  have e : lef T (skn w T h s).1 = sumF (fun t => if t = kto s then kc s t + 1 else if gvf w h s t then kc s t - 1 else kc s t) T := by
    unfold lef
    refine sumF_congr (fun t ht => ?_)
    show (skn w T h s).1.1.getD t 0 = _
    rw [skn_1, skc_at ht]
  have := sumF_step (f := kc s) (f' := fun t => if t = kto s then kc s t + 1 else if gvf w h s t then kc s t - 1 else kc s t) (g := gvf w h s) (to := kto s) (gv_no hf) (by simp) (fun t hg => by
    have h1 := (gv_fl hg).2
    have hne : t ≠ kto s := fun q => by rw [q, gv_no hf] at hg; cases hg
    simp only [hne, if_false, hg, if_true]; omega) (fun t h1 h2 => by simp [h1, h2]) T
  rw [if_pos hto] at this
  rw [e]; exact this
theorem oks_un {w T h : Nat} {s : Sk} (hok : oks w T h s = true) : 0 < cntF (gvf w h s) T ∧ kto s < T ∧ flg w h s (kto s) = false ∧ kc s (kto s) < 256 ∧ (w = 0 → ∀ t, t < T → t ≠ kto s → 0 < kc s t) := by
  unfold oks at hok
  simp only [Bool.and_eq_true, decide_eq_true_eq, Bool.not_eq_true', Bool.or_eq_true] at hok
  obtain ⟨⟨⟨⟨h1, h2⟩, h3⟩, h4⟩, h5⟩ := hok
  refine ⟨h1, h2, h3, h4, fun hw t ht hne => ?_⟩
  rcases h5 with h5 | h5
  · exact absurd hw h5
  · have := cntF_all h5 t ht
    simp only [Bool.or_eq_true, beq_iff_eq, Bool.not_eq_true', beq_eq_false_iff_ne] at this
    omega
/-- cells that a step leaves alone -/
def esA (m x k : Nat) : Prop := (x < m ∨ m + 22 ≤ x) ∨ (x = m + 3 ∧ (k = 4 ∨ k = 5))
section AV
variable {E : En} {m N w T nr : Nat} {σ : Sg} {bk : Bool} {gl : Nat → Nat} {A : Mi}
theorem c_leadD (hL : LMill E m N) {s : Sk} {tp : Nat → List Rn} {L H : Nat → Nat} (hms : MS σ m w T bk nr s tp L H) (hT : T ≤ 6) (hn : nr ≤ N) (hN : N ≤ 700) (hD : ∀ t, t < T → ∀ r ∈ tp t, RD σ m gl nr r) (h14 : gi σ m 14 = ldI (gvf w (T / 2) s) tp T) : (if (gi σ m 3) = 0 then (some ((0 : Int32), σ)) else (bd (fX1_isDown E m (gi σ m 14) σ) (fun r7 s5 => if r7 = 0 then (some ((0 : Int32), s5)) else (some ((1 : Int32), s5))))) = some (bI (bk && (ldD (gvf w (T / 2) s) tp T == some true)), σ) := by
  rw [hms.1.2.2.2.1, h14]
  have h7 := hms.1.2.2.2.2
  cases bk with
  | false => rfl
  | true =>
    rw [if_neg (show ¬ bI true = 0 by decide)]
    unfold ldI ldD
    cases hl : ldF (gvf w (T / 2) s) tp T with
    | none =>
      dsimp only
      rw [c_isDownD hL]; rfl
    | some t =>
      obtain ⟨q1, q2, q3⟩ := fstF_some hl
      have hge : gvf w (T / 2) s t = true := by revert q2; cases gvf w (T / 2) s t <;> simp
      have hr := hD t (by omega) _ (hdr_mem (gv_ne hge (hms.2.2.2 t (by omega))))
      dsimp only
      rw [c_isDown hL h7 hn hN hr, bd_ok]
      show _ = some (bI (true && (some (hdr (tp t)).2 == some true)), σ)
      cases (hdr (tp t)).2 <;> rfl
/-- off the tapes, and onto the one that is written -/
def tpn (T to : Nat) (bk : Bool) (g : Nat → Bool) (r : Rn) (tp : Nat → List Rn) : Nat → List Rn := fun t => if t = to then psh bk r (tp t) else if t < T ∧ g t = true then (tp t).tail else tp t
theorem psh_len {bk : Bool} {r : Rn} {l : List Rn} : (psh bk r l).length = l.length + 1 := by unfold psh; cases bk <;> simp
theorem psh_mem {bk : Bool} {r x : Rn} {l : List Rn} (h : x ∈ psh bk r l) : x = r ∨ x ∈ l := by
  unfold psh at h
  cases bk <;> simp at h
  · exact h.symm
  · exact h
theorem cat_mem {g : Nat → Bool} {tp : Nat → List Rn} {j : Nat} : ∀ {n : Nat}, j ∈ catF g tp n → ∃ t, t < n ∧ g t = true ∧ j ∈ (hdr (tp t)).1
  | 0, h => by cases h
  | n + 1, h => by
    rcases List.mem_append.mp (show j ∈ catF g tp n ++ (if g n then (hdr (tp n)).1 else []) from h) with h | h
    · obtain ⟨t, h1, h2, h3⟩ := cat_mem h
      exact ⟨t, by omega, h2, h3⟩
    · by_cases hg : g n = true
      · rw [if_pos hg] at h; exact ⟨n, by omega, hg, h⟩
      · rw [if_neg hg] at h; cases h
theorem c_adv (hL : LMill E m N) (h : RMl σ m w T bk gl nr A) (hT : T ≤ 6) (hT3 : 3 ≤ T) (hw : w ≤ 2) (hn : nr ≤ N) (hN : N ≤ 700) (hdj : Dj T (mT A)) (hok : oks w T (T / 2) (mK A) = true) :
    ∃ s', fX1_advance E m σ = some s' ∧ RMl s' m w T bk gl nr (stp w T bk gl A) ∧ gi s' m 16 = idI (catF (gvf w (T / 2) (mK A)) (mT A) T) ∧ (∀ t, t < T → gi s' (m + 4) t = tkI (gvf w (T / 2) (mK A)) (mT A) t) ∧ ∀ x k, esA m x k → gi s' x k = gi σ x k := by
  obtain ⟨L, H, hms, hl0, hD, h8, t0, t1, t2, t3⟩ := h
  obtain ⟨o1, o2, o3, o4, o5⟩ := oks_un hok
  obtain ⟨l0, l4, l10, l12, l13, l17, l18, l5, l6, a1, a2, a3, a4, a5, a7, a8, a9, ltp⟩ := id hL
  have hle := ms_lef hT hms
  generalize hgd : gvf w (T / 2) (mK A) = g at *
  have hgl : ∀ t, t < T → g t = true → 0 < (mT A t).length := fun t ht hg => by
    rw [← hgd] at hg; rw [← hms.2.2.2 t ht]; exact (gv_fl hg).2
  have hgto : g (kto (mK A)) = false := by rw [← hgd]; exact gv_no o3
  obtain ⟨s1, e1, lk4, lk14, lk15, f1⟩ := c_look hL hms hT hw (by omega) hn hN hD
  rw [hgd] at lk4 lk14 lk15
  have hms1 : MS s1 m w T bk nr (mK A) (mT A) L H := ms_fr hms (fun x k he => f1 x k (by unfold esS at he; omega) (by unfold esS at he; omega))
  have hD1 : ∀ t, t < T → ∀ r ∈ mT A t, RD s1 m gl nr r := fun t ht r hr => ⟨(hD t ht r hr).1, fun i l hz => by rw [f1 _ _ (by omega) (by omega), f1 _ _ (by omega) (by omega)]; exact (hD t ht r hr).2 i l hz⟩
  unfold fX1_advance
  rw [tk_ok l0, e1, bv_ok, c_leadD hL hms1 hT hn hN hD1 (by rw [hgd]; exact lk14), bd_ok, hgd]
  obtain ⟨⟨⟨mv, u⟩, s2⟩, e2, m1, m2, m3, m4, f2⟩ := c_drops hL hms1 hT hn hN hD1 (bk && (ldD g (mT A) T == some true)) hgl lk4 (lf := lef T (mK A)) (tu := mTu A) (by rw [f1 _ _ (by omega) (by omega)]; exact h8) (by
    have := lef_skn (w := w) (T := T) (h := T / 2) (s := mK A) o2 o3
    rw [hgd] at this
    have hp : 0 < lef T (skn w T (T / 2) (mK A)).1 := by
      have h1 : kc (skn w T (T / 2) (mK A)).1 (kto (mK A)) ≤ lef T (skn w T (T / 2) (mK A)).1 := sumF_pos (f := kc (skn w T (T / 2) (mK A)).1) o2
      have h2 : kc (skn w T (T / 2) (mK A)).1 (kto (mK A)) = kc (mK A) (kto (mK A)) + 1 := by
        show (skn w T (T / 2) (mK A)).1.1.getD _ 0 = _
        rw [skn_1, skc_at o2, if_pos rfl]
      omega
    omega) (by rw [f1 _ _ (by omega) (by omega)]; exact t3)
  dsimp only at m1 m2 m3 m4 f2
  rw [e2, bd_ok]
  dsimp only
  subst m1
  have h214 : gi s2 m 14 = idI (catF g (mT A) T) := by rw [f2 _ _ (by omega) (by omega) (by omega), lk14]; exact (ld_cat g (mT A) T).1
  have h215 : gi s2 m 15 = bI (bk && (ldD g (mT A) T == some false)) := by rw [f2 _ _ (by omega) (by omega) (by omega), lk15]
  rw [h214, ss_ok, gs_eq]
  generalize hc : catF g (mT A) T = c at *
  generalize hfl : (bk && (ldD g (mT A) T == some false)) = fl at *
  have hchd : ∀ i l, c = i :: l → i < nr ∧ ∃ t, t < T ∧ g t = true ∧ i ∈ (hdr (mT A t)).1 := by
    intro i l hz
    have : i ∈ catF g (mT A) T := by rw [hc, hz]; simp
    have hl2 := (ld_cat g (mT A) T)
    rw [hc, hz] at hl2
    cases hl : ldF g (mT A) T with
    | none => have := hl2.2.1.mp hl; cases this
    | some t =>
      obtain ⟨i', l', r', q1, q2⟩ := hl2.2.2 t hl
      injection q2 with q2 q3
      subst q2
      obtain ⟨p1, p2, p3⟩ := fstF_some hl
      have hgt : g t = true := by revert p2; cases g t <;> simp
      refine ⟨((hD t p1 _ (hdr_mem (hgl t p1 hgt))).2 i l' q1).1, t, p1, hgt, by rw [q1]; simp⟩
  have hflc : c = [] → fl = false := by
    intro hz
    rw [← hfl]
    have := (ld_cat g (mT A) T).2.1
    rw [hc] at this
    unfold ldD
    rw [this.mpr hz]
    simp
  obtain ⟨s4, e4, f4, c4, n4⟩ : ∃ s4, (if idI c = (-1 : Int32) then (some ((), si s2 m 16 (idI c))) else (dr (rf E m 5) E 100 (fun x48 => ck (idI c) (ln E x48) (ss (si (si s2 m 16 (idI c)) x48 (idI c).toNatClampNeg (nI (szl gl c))) (fun s50 => dr (rf E m 6) E 101 (fun x51 => ck (gi s50 m 16) (ln E x51) (ss (si s50 x51 (gi s50 m 16).toNatClampNeg (vp_nar .boolean (gi s50 m 15))) (fun s53 => some ((), s53))))))))) = some ((), s4) ∧ (∀ x k, x ≠ m + 8 → x ≠ m + 9 → gi s4 x k = gi (si s2 m 16 (idI c)) x k) ∧ (∀ i l, c = i :: l → gi s4 (m + 8) i = nI (szl gl c) ∧ gi s4 (m + 9) i = bI fl) ∧ ∀ j, (∀ i l, c = i :: l → j ≠ i) → gi s4 (m + 8) j = gi s2 (m + 8) j ∧ gi s4 (m + 9) j = gi s2 (m + 9) j := by
    cases hz : c with
    | nil =>
      rw [if_pos (show idI [] = -1 from rfl)]
      exact ⟨_, rfl, fun _ _ _ _ => rfl, fun i l q => (by cases q), fun j _ => ⟨gs_ne (by omega), gs_ne (by omega)⟩⟩
    | cons i l =>
      have hi := (hchd i l hz).1
      rw [if_neg (show ¬ idI (i :: l) = -1 from nI_nm1 (by omega)), dr_ok l5 a8.1, a8.2, show idI (i :: l) = nI i from rfl, ck_n (by omega) (by omega), nI_clamp (by omega), ss_ok, dr_ok l6 a9.1, a9.2]
      rw [show gi (si (si s2 m 16 (nI i)) (m + 8) i (nI (szl gl (i :: l)))) m 16 = nI i from by rw [gs_ne (by omega), gs_eq], ck_n (by omega) (by omega), nI_clamp (by omega), ss_ok, show gi (si (si s2 m 16 (nI i)) (m + 8) i (nI (szl gl (i :: l)))) m 15 = bI fl from by rw [gs_ne (by omega), gs_ne (by omega), h215], nar_b]
      refine ⟨_, rfl, fun x k h1 h2 => ?_, fun i' l' q => ?_, fun j hj => ?_⟩
      · rw [gs_ne (by omega), gs_ne (by omega)]
      · injection q with q1 q2; subst q1
        exact ⟨by rw [gs_ne (by omega), gs_eq], by rw [gs_eq]⟩
      · have := hj i l rfl
        exact ⟨by rw [gs_ne (by omega), gs_ne (by omega), gs_ne (by omega)], by rw [gs_ne (by omega), gs_ne (by omega), gs_ne (by omega)]⟩
  rw [e4, bd_ok]
  have f4' : ∀ x k, x ≠ m + 8 → x ≠ m + 9 → ¬ (x = m ∧ k = 16) → gi s4 x k = gi s2 x k := fun x k h1 h2 h3 => by rw [f4 x k h1 h2, gs_ne (by omega)]
  have h49 : gi s4 m 9 = nI (kto (mK A)) := by rw [f4' _ _ (by omega) (by omega) (by omega), f2 _ _ (by omega) (by omega) (by omega)]; exact hms1.2.1.1
  have h416 : gi s4 m 16 = idI c := by rw [f4 _ _ (by omega) (by omega), gs_eq]
  obtain ⟨lt1, lt2⟩ := ltp (kto (mK A)) (by omega)
  have hpto : TP s4 (m + 10 + 2 * kto (mK A)) bk (mT A (kto (mK A))) 0 (H (kto (mK A))) := by
    have := m4 (kto (mK A)) (by omega)
    rw [if_neg (fun q => by rw [hgto] at q; exact absurd q.2 (by decide)), if_pos o2, if_pos o2] at this
    unfold Ld Hd at this
    rw [if_neg (by rw [hgto]; decide), if_neg (by rw [hgto]; decide)] at this
    have h0 : L (kto (mK A)) = 0 := by
      rcases hl0 (kto (mK A)) (by omega) with q | ⟨q1, q2, q3⟩
      · exact q
      · rw [o3] at q2; cases q2
    rw [h0] at this
    exact tp_fr this (fun k => f4' _ _ (by omega) (by omega) (by omega)) (fun k => f4' _ _ (by omega) (by omega) (by omega))
  have hlto : (mT A (kto (mK A))).length < 256 := by rw [← hms.2.2.2 _ o2]; exact o4
  obtain ⟨s5, e5, p5, f5, g5⟩ := tp_write (r := (c, fl)) lt2 hpto hlto
  rw [dr_ok l4 a1.1, h49, a1.2, ck_n (by omega) (by omega), nI_clamp (by omega), dr_ok lt1 lt2.1, h416, e5, bv_ok]
  have h58 : gi s5 m 8 = nI (lef T (mK A) - cntF g T) := by rw [f5 _ _ (by omega) (by omega), f4' _ _ (by omega) (by omega) (by omega)]; exact m2
  have h50 : gi s5 (m + 3) 0 = nI (mMo A) := by rw [f5 _ _ (by omega) (by omega), f4' _ _ (by omega) (by omega) (by omega), f2 _ _ (by omega) (by omega) (by omega), f1 _ _ (by omega) (by omega)]; exact t0
  have h51 : gi s5 (m + 3) 1 = nI (mSt A) := by rw [f5 _ _ (by omega) (by omega), f4' _ _ (by omega) (by omega) (by omega), f2 _ _ (by omega) (by omega) (by omega), f1 _ _ (by omega) (by omega)]; exact t1
  rw [h58, ad1, ss_ok, dr_ok l12 a3.1, a3.2, i0, ck_n (by omega) (by omega), ck_n (by omega) (by omega), nI_clamp (by omega), gs_ne (by omega), h50, nI_add, ss_ok, i1, ck_n (by omega) (by omega), ck_n (by omega) (by omega), nI_clamp (by omega), gs_ne (by omega), gs_ne (by omega), h51, nI_add, ss_ok]
  generalize hs6 : si (si (si s5 m 8 (nI (lef T (mK A) - cntF g T + 1))) (m + 3) 0 (nI (mMo A + szl gl c))) (m + 3) 1 (nI (mSt A + 1)) = s6
  have f6 : ∀ x k, ¬ (x = m ∧ k = 8) → ¬ (x = m + 3 ∧ (k = 0 ∨ k = 1)) → gi s6 x k = gi s5 x k := fun x k h1 h2 => by rw [← hs6, gs_ne (by omega), gs_ne (by omega), gs_ne (by omega)]
  have f62 : ∀ x k, ¬ (m + 10 ≤ x ∧ x < m + 22) → x ≠ m + 3 → x ≠ m + 8 → x ≠ m + 9 → ¬ (x = m ∧ (k = 8 ∨ k = 16)) → gi s6 x k = gi s1 x k := fun x k h1 h2 h3 h4 h5 => by
    rw [f6 _ _ (by omega) (by omega), f5 _ _ (by omega) (by omega), f4' _ _ h3 h4 (by omega), f2 _ _ h1 (by omega) (by omega)]
  have h63 : gi s6 (m + 3) 3 = nI (mTu A + sumF (tuF gl g (mT A) (bk && (ldD g (mT A) T == some true))) T) := by
    rw [f6 _ _ (by omega) (by omega), f5 _ _ (by omega) (by omega), f4' _ _ (by omega) (by omega) (by omega)]; exact m3
  have h62 : gi s6 (m + 3) 2 = nI (mPh A) := by
    rw [f6 _ _ (by omega) (by omega), f5 _ _ (by omega) (by omega), f4' _ _ (by omega) (by omega) (by omega), f2 _ _ (by omega) (by omega) (by omega), f1 _ _ (by omega) (by omega)]; exact t2
  have h64 : ∀ k, k = 4 ∨ k = 5 → gi s6 (m + 3) k = gi σ (m + 3) k := fun k hk => by
    rw [f6 _ _ (by omega) (by omega), f5 _ _ (by omega) (by omega), f4' _ _ (by omega) (by omega) (by omega), f2 _ _ (by omega) (by omega) (by omega), f1 _ _ (by omega) (by omega)]
  generalize hL' : (fun t => if t = kto (mK A) then 0 else if t < T then Ld g bk L H t else L t) = L'
  generalize hH' : (fun t => if t = kto (mK A) then H (kto (mK A)) + 1 else if t < T then Hd g bk L H t else H t) = H'
  have hms6 : MS s6 m w T bk nr (skc w T (T / 2) (mK A), (mK A).2) (tpn T (kto (mK A)) bk g (c, fl) (mT A)) L' H' := by
    obtain ⟨⟨b0, b1, b2, b3, b7⟩, ⟨k9, k11, ko'⟩, ht, hcn⟩ := hms1
    refine ⟨⟨?_, ?_, ?_, ?_, ?_⟩, ⟨?_, ?_, fun t h => ?_⟩, fun t h => ?_, fun t h => ?_⟩
    · rw [f62 _ _ (by omega) (by omega) (by omega) (by omega) (by omega)]; exact b0
    · rw [f62 _ _ (by omega) (by omega) (by omega) (by omega) (by omega)]; exact b1
    · rw [f62 _ _ (by omega) (by omega) (by omega) (by omega) (by omega)]; exact b2
    · rw [f62 _ _ (by omega) (by omega) (by omega) (by omega) (by omega)]; exact b3
    · rw [f62 _ _ (by omega) (by omega) (by omega) (by omega) (by omega)]; exact b7
    · rw [f62 _ _ (by omega) (by omega) (by omega) (by omega) (by omega)]; exact k9
    · rw [f62 _ _ (by omega) (by omega) (by omega) (by omega) (by omega)]; exact k11
    · rw [f62 _ _ (by omega) (by omega) (by omega) (by omega) (by omega)]; exact ko' t h
    · rw [← hL', ← hH']
      unfold tpn
      dsimp only
      by_cases hto : t = kto (mK A)
      · subst hto
        rw [if_pos rfl, if_pos rfl, if_pos rfl]
        exact tp_fr p5 (fun k => f6 _ _ (by omega) (by omega)) (fun k => f6 _ _ (by omega) (by omega))
      · rw [if_neg hto, if_neg hto, if_neg hto]
        have q : ∀ k, gi s6 (m + 10 + 2 * t) k = gi s2 (m + 10 + 2 * t) k := fun k => by rw [f6 _ _ (by omega) (by omega), f5 _ _ (by omega) (by omega), f4' _ _ (by omega) (by omega) (by omega)]
        have q' : ∀ k, gi s6 (m + 10 + 2 * t + 1) k = gi s2 (m + 10 + 2 * t + 1) k := fun k => by rw [f6 _ _ (by omega) (by omega), f5 _ _ (by omega) (by omega), f4' _ _ (by omega) (by omega) (by omega)]
        exact tp_fr (m4 t h) q q'
    · show (skc w T (T / 2) (mK A)).getD t 0 = _
      have hct : kc (mK A) t = (mT A t).length := hcn t h
      rw [skc_at h, hgd]
      unfold tpn
      by_cases hto : t = kto (mK A)
      · subst hto; rw [if_pos rfl, if_pos rfl, psh_len, ← hct]
      · rw [if_neg hto, if_neg hto]
        by_cases hgt : g t = true
        · rw [if_pos hgt, if_pos ⟨h, hgt⟩, List.length_tail, ← hct]
        · rw [if_neg hgt, if_neg (fun q => hgt q.2), ← hct]
  have hgs : ∀ t, t < T → (gi s6 (m + 4) t = -2 ↔ g t = false) := by
    intro t ht
    rw [f62 _ _ (by omega) (by omega) (by omega) (by omega) (by omega), lk4 t ht]
    unfold tkI
    by_cases hgt : g t = true
    · rw [if_pos hgt, hgt]
      refine ⟨fun q => ?_, fun q => by cases q⟩
      exfalso
      have hr := hD t ht _ (hdr_mem (hgl t ht hgt))
      cases hz : (hdr (mT A t)).1 with
      | nil => rw [hz] at q; exact absurd q (by decide)
      | cons j l => rw [hz] at q; exact nI_nm2 (n := j) (by have := (hr.2 j l hz).1; omega) q
    · rw [if_neg hgt]
      exact ⟨fun _ => by simpa using hgt, fun _ => rfl⟩
  obtain ⟨s7, e7, hms7, h72, f7⟩ : ∃ s7, (if ¬ (gi s6 m 0) = (nI 1) then (bv (fX1_endNumberedPhase E m s6) (fun s69 => some ((), s69))) else (bv (fX1_endBalancedPhase E m s6) (fun s71 => some ((), s71)))) = some ((), s7) ∧ MS s7 m w T bk nr (skn w T (T / 2) (mK A)).1 (tpn T (kto (mK A)) bk g (c, fl) (mT A)) L' H' ∧ gi s7 (m + 3) 2 = nI (mPh A + if (skn w T (T / 2) (mK A)).2 then 1 else 0) ∧ ∀ x k, ¬ esP m x k → gi s7 x k = gi s6 x k := by
    rw [hms6.1.1]
    by_cases hw1 : w = 1
    · subst hw1
      obtain ⟨s7, e7, q1, q2, q3⟩ := c_endB hL hms6 hT hT3 (show kto (mK A) < 6 by omega) h62
      rw [if_neg (by simp), e7, bv_ok]
      refine ⟨s7, rfl, ?_, ?_, q3⟩
      · unfold skn; dsimp only
        rw [if_pos rfl]
        by_cases hz : cntF (gvf 1 (T / 2) (skc 1 T (T / 2) (mK A), (mK A).2)) T = 0
        · rw [if_pos hz] at q1 ⊢; exact q1
        · rw [if_neg hz] at q1 ⊢; exact q1
      · rw [q2]
        unfold skn; dsimp only
        rw [if_pos rfl]
        by_cases hz : cntF (gvf 1 (T / 2) (skc 1 T (T / 2) (mK A), (mK A).2)) T = 0
        · rw [if_pos hz, if_pos hz]; rfl
        · rw [if_neg hz, if_neg hz]; rfl
    · obtain ⟨s7, e7, q1, q3⟩ := c_endN hL hms6 hT (show w = 0 ∨ w = 2 by omega) (show kto (mK A) < 6 by omega) hgs h62
      rw [if_pos (fun q => hw1 ((nI_eq (by omega) (by omega)).mp q)), e7, bv_ok]
      have hsk : skn w T (T / 2) (mK A) = match fstF (fun t => g t && ((skc w T (T / 2) (mK A)).getD t 0 == 0)) T with
        | none => ((skc w T (T / 2) (mK A), (mK A).2), false)
        | some e =>
          if w = 0 then ((skc w T (T / 2) (mK A), e, (mK A).2.2.1, klo (mK A)), true)
          else if cntF (gvf 2 (T / 2) (skc w T (T / 2) (mK A), e, tab (fun t => ko (mK A) t && !(t == e)) T, klo (mK A))) T < 2 then ((skc w T (T / 2) (mK A), e, tab (fun t => !((skc w T (T / 2) (mK A)).getD t 0 == 0) && !(t == e)) T, klo (mK A)), true)
          else ((skc w T (T / 2) (mK A), e, tab (fun t => ko (mK A) t && !(t == e)) T, klo (mK A)), true) := by
        rw [← hgd]; unfold skn; dsimp only; rw [if_neg hw1]; rfl
      rw [hsk]
      dsimp only at q1
      cases hf : fstF (fun t => g t && ((skc w T (T / 2) (mK A)).getD t 0 == 0)) T with
      | none =>
        rw [hf] at q1
        exact ⟨s7, rfl, q1.1, by rw [q1.2]; rfl, q3⟩
      | some e =>
        rw [hf] at q1
        dsimp only at q1 ⊢
        refine ⟨s7, rfl, ?_, ?_, q3⟩
        · have q := q1.1
          by_cases h0 : w = 0
          · rw [if_pos h0] at q ⊢; exact q
          · rw [if_neg h0] at q ⊢
            by_cases h2 : cntF (gvf 2 (T / 2) (skc w T (T / 2) (mK A), e, tab (fun t => ko (mK A) t && !(t == e)) T, klo (mK A))) T < 2
            · rw [if_pos h2] at q ⊢; exact q
            · rw [if_neg h2] at q ⊢; exact q
        · rw [q1.2, if_pos]
          split
          · rfl
          · split <;> rfl
  rw [e7, bd_ok]
  have hlf := lef_skn (w := w) (T := T) (h := T / 2) (s := mK A) o2 o3
  rw [hgd] at hlf
  have hlfp : 0 < lef T (skn w T (T / 2) (mK A)).1 := by
    have h1 : kc (skn w T (T / 2) (mK A)).1 (kto (mK A)) ≤ lef T (skn w T (T / 2) (mK A)).1 := sumF_pos (f := kc (skn w T (T / 2) (mK A)).1) o2
    have h2 : kc (skn w T (T / 2) (mK A)).1 (kto (mK A)) = kc (mK A) (kto (mK A)) + 1 := by
      show (skn w T (T / 2) (mK A)).1.1.getD _ 0 = _
      rw [skn_1, skc_at o2, if_pos rfl]
    omega
  have f76 : ∀ x k, ¬ esP m x k → gi s7 x k = gi s6 x k := f7
  have hRM : RMl s7 m w T bk gl nr (stp0 w T bk gl A) := by
    have hst : stp0 w T bk gl A = (tpn T (kto (mK A)) bk g (c, fl) (mT A), (skn w T (T / 2) (mK A)).1, mMo A + szl gl c, mSt A + 1, mPh A + (if (skn w T (T / 2) (mK A)).2 then 1 else 0), mTu A + sumF (tuF gl g (mT A) (bk && (ldD g (mT A) T == some true))) T) := by
      rw [← hfl, ← hc, ← hgd]; rfl
    rw [hst]
    refine ⟨L', H', hms7, fun t ht => ?_, fun t ht r hr => ?_, ?_, ?_, ?_, h72, ?_⟩
    · by_cases hz : L' t = 0
      · exact Or.inl hz
      · right
        rw [← hL'] at hz
        dsimp only at hz
        have hto : t ≠ kto (mK A) := fun q => hz (by rw [if_pos q])
        rw [if_neg hto] at hz
        by_cases htT : t < T
        · rw [if_pos htT] at hz
          unfold Ld at hz
          have hgt : g t = true := by
            by_cases hgt : g t = true
            · exact hgt
            · rw [if_neg hgt] at hz
              rcases hl0 t ht with q | ⟨q1, q2, q3⟩
              · exact absurd q hz
              · rw [← hgd]; exact gv_of q2 (by rw [hms.2.2.2 t htT]; exact q3)
          rw [if_pos hgt] at hz
          have hHL : H t - L t ≠ 1 := fun q => hz (by rw [if_pos q])
          have hlen : (mT A t).length = H t - L t := ((hms.2.2.1 t ht).2.2.2.2.1).symm
          have hlp := hgl t htT hgt
          have hnl : (tpn T (kto (mK A)) bk g (c, fl) (mT A) t).length = (mT A t).length - 1 := by
            unfold tpn; rw [if_neg hto, if_pos ⟨htT, hgt⟩, List.length_tail]
          refine ⟨htT, ?_, by show 0 < (tpn T (kto (mK A)) bk g (c, fl) (mT A) t).length; omega⟩
          show flg w (T / 2) (skn w T (T / 2) (mK A)).1 t = true
          have hct : (skc w T (T / 2) (mK A)).getD t 0 ≠ 0 := by
            have := hms6.2.2.2 t htT
            have e : kc (skc w T (T / 2) (mK A), (mK A).2) t = (skc w T (T / 2) (mK A)).getD t 0 := rfl
            omega
          have hfo : flg w (T / 2) (mK A) t = true := by rw [← hgd] at hgt; exact (gv_fl hgt).1
          unfold skn
          dsimp only
          by_cases hw1 : w = 1
          · subst hw1
            rw [if_pos rfl]
            have hf1 : (decide (t < T / 2) == klo (mK A)) = true := hfo
            have hcp : ¬ cntF (gvf 1 (T / 2) (skc 1 T (T / 2) (mK A), (mK A).2)) T = 0 := by
              intro q
              have := cntF_zero q t htT
              rw [gv_of (s := (skc 1 T (T / 2) (mK A), (mK A).2)) (by exact hf1) (by show 0 < (skc 1 T (T / 2) (mK A)).getD t 0; omega)] at this
              cases this
            rw [if_neg hcp]
            exact hf1
          · rw [if_neg hw1, hgd]
            have hne : ∀ e, fstF (fun t => g t && ((skc w T (T / 2) (mK A)).getD t 0 == 0)) T = some e → t ≠ e := by
              intro e he q
              subst q
              have := (fstF_some he).2.1
              simp only [Bool.and_eq_true, beq_iff_eq] at this
              exact hct this.2
            cases hf : fstF (fun t => g t && ((skc w T (T / 2) (mK A)).getD t 0 == 0)) T with
            | none =>
              dsimp only
              exact hfo
            | some e =>
              have hte := hne e hf
              dsimp only
              by_cases h0 : w = 0
              · subst h0
                rw [if_pos rfl]
                show (!(t == e)) = true
                simpa using hte
              · have h2 : w = 2 := by omega
                subst h2
                have hko : ko (mK A) t = true := hfo
                rw [if_neg (by decide)]
                by_cases hq : cntF (gvf 2 (T / 2) (skc 2 T (T / 2) (mK A), e, tab (fun t => ko (mK A) t && !(t == e)) T, klo (mK A))) T < 2
                · rw [if_pos hq]
                  show (tab (fun t => !((skc 2 T (T / 2) (mK A)).getD t 0 == 0) && !(t == e)) T).getD t false = true
                  rw [tab_at htT]
                  simp only [Bool.and_eq_true, Bool.not_eq_true', beq_eq_false_iff_ne]
                  exact ⟨hct, hte⟩
                · rw [if_neg hq]
                  show (tab (fun t => ko (mK A) t && !(t == e)) T).getD t false = true
                  rw [tab_at htT, hko]
                  simpa using hte
        · rw [if_neg htT] at hz
          rcases hl0 t ht with q | ⟨q1, q2, q3⟩
          · exact absurd q hz
          · exact absurd q1 htT
    · have old : ∀ t', t' < T → (if g t' = true then r ∈ (mT A t').tail else r ∈ mT A t') → RD s7 m gl nr r := by
        intro t' ht' hr'
        have hrm : r ∈ mT A t' := by
          by_cases q : g t' = true
          · rw [if_pos q] at hr'; exact List.mem_of_mem_tail hr'
          · rw [if_neg q] at hr'; exact hr'
        refine ⟨(hD t' ht' r hrm).1, fun i l hz => ?_⟩
        obtain ⟨q1, q2, q3⟩ := (hD t' ht' r hrm).2 i l hz
        have hni : ∀ i' l', c = i' :: l' → i ≠ i' := by
          intro i' l' hz' q
          subst q
          obtain ⟨_, t, w1, w2, w3⟩ := hchd i l' hz'
          refine dj_hd hdj w1 ht' (hgl t w1 w2) w3 (r := r) ?_ (by rw [hz]; simp)
          by_cases hte : t' = t
          · subst hte; rw [if_pos w2] at hr'; rw [if_pos rfl]; exact hr'
          · rw [if_neg hte]; exact hrm
        obtain ⟨q4, q5⟩ := n4 i hni
        have fr : ∀ x, x = m + 8 ∨ x = m + 9 → gi s7 x i = gi s4 x i := fun x hx => by rw [f76 _ _ (by unfold esP; omega), f6 _ _ (by omega) (by omega), f5 _ _ (by omega) (by omega)]
        refine ⟨q1, ?_, ?_⟩
        · rw [fr _ (Or.inl rfl), q4, f2 _ _ (by omega) (by omega) (by omega), f1 _ _ (by omega) (by omega)]; exact q2
        · rw [fr _ (Or.inr rfl), q5, f2 _ _ (by omega) (by omega) (by omega), f1 _ _ (by omega) (by omega)]; exact q3
      have hr : r ∈ tpn T (kto (mK A)) bk g (c, fl) (mT A) t := hr
      unfold tpn at hr
      by_cases hto : t = kto (mK A)
      · rw [if_pos hto] at hr
        rcases psh_mem hr with rfl | hr
        · refine ⟨hflc, fun i l hz => ?_⟩
          obtain ⟨q1, q2⟩ := c4 i l hz
          have fr : ∀ x, x = m + 8 ∨ x = m + 9 → gi s7 x i = gi s4 x i := fun x hx => by rw [f76 _ _ (by unfold esP; omega), f6 _ _ (by omega) (by omega), f5 _ _ (by omega) (by omega)]
          exact ⟨(hchd i l hz).1, by rw [fr _ (Or.inl rfl)]; exact q1, by rw [fr _ (Or.inr rfl)]; exact q2⟩
        · exact old t ht (by rw [if_neg (by rw [hto, hgto]; decide)]; exact hr)
      · rw [if_neg hto] at hr
        by_cases hgt : g t = true
        · rw [if_pos ⟨ht, hgt⟩] at hr
          exact old t ht (by rw [if_pos hgt]; exact hr)
        · rw [if_neg (fun q => hgt q.2)] at hr
          exact old t ht (by rw [if_neg hgt]; exact hr)
    · rw [f76 _ _ (by unfold esP; omega), ← hs6, gs_ne (by omega), gs_ne (by omega), gs_eq]
      show _ = nI (lef T (skn w T (T / 2) (mK A)).1)
      congr 1
      omega
    · rw [f76 _ _ (by unfold esP; omega), ← hs6, gs_ne (by omega), gs_eq]
    · rw [f76 _ _ (by unfold esP; omega), ← hs6, gs_eq]
    · rw [f76 _ _ (by unfold esP; omega)]; exact h63
  obtain ⟨s8, e8, r8, f8⟩ := c_turn hL hRM hT hn hN
  rw [e8, bv_ok]
  refine ⟨s8, rfl, r8, ?_, fun t ht => ?_, fun x k he => ?_⟩
  · rw [f8 _ _ (by omega) (by omega), f76 _ _ (by unfold esP; omega), f6 _ _ (by omega) (by omega), f5 _ _ (by omega) (by omega), h416]
  · rw [f8 _ _ (by omega) (by omega), f76 _ _ (by unfold esP; omega), f62 _ _ (by omega) (by omega) (by omega) (by omega) (by omega)]; exact lk4 t ht
  · unfold esA at he
    rcases he with he | ⟨rfl, he⟩
    · rw [f8 _ _ (by omega) (by omega), f76 _ _ (by unfold esP; omega), f62 _ _ (by omega) (by omega) (by omega) (by omega) (by omega), f1 _ _ (by omega) (by omega)]
    · rw [f8 _ _ (by omega) (by omega), f76 _ _ (by unfold esP; omega), h64 k he]
end AV
end
section
/-! perfect numbers in the class -/
def smp (w k l : Nat) : Nat := sumF (fun t => (pfn w k l).getD t 0) k
def NU (σ : Sg) (a k : Nat) (P : List Nat) (l : Nat) : Prop := gi σ a 1 = nI k ∧ gi σ a 2 = nI l ∧ ∀ i, i < k → gi σ (a + 1) i = nI (P.getD i 0)
section NUM
variable {E : En} {a k w l : Nat} {σ : Sg} {P : List Nat}
theorem nu_fr {σ' : Sg} (h : NU σ a k P l) (h1 : ∀ j, gi σ' a j = gi σ a j) (h2 : ∀ j, gi σ' (a + 1) j = gi σ (a + 1) j) : NU σ' a k P l := ⟨(h1 1).trans h.1, (h1 2).trans h.2.1, fun i hi => (h2 i).trans (h.2.2 i hi)⟩
theorem n_ground (hL : LNum E a) (h1 : 1 ≤ k) (h5 : k ≤ 5) : ∃ s, fX2_ground E a (nI k) σ = some s ∧ NU s a k (pfn w k 0) 0 ∧ ∀ x j, x ≠ a → x ≠ a + 1 → gi s x j = gi σ x j := by
  obtain ⟨l0, l1, l2⟩ := hL
  unfold fX2_ground
  rw [tk_ok l0, i5, i1, imin_n (by omega) (by omega), imax_n (by omega) (by omega), show max 1 (min k 5) = k by omega, ss_ok, ss_ok]
  refine bd_in k (fun i b => b.1 = nI i ∧ (∀ j, j < i → gi b.2 (a + 1) j = nI (if j = 0 then 1 else 0)) ∧ ∀ x j, x ≠ a + 1 → gi b.2 x j = gi (si (si σ a 1 (nI k)) a 2 0) x j)
    (fun b => (∀ j, j < k → gi b.2 (a + 1) j = nI (if j = 0 then 1 else 0)) ∧ ∀ x j, x ≠ a + 1 → gi b.2 x j = gi (si (si σ a 1 (nI k)) a 2 0) x j) (by show k < 1000000; omega) ⟨rfl, fun j hj => absurd hj (Nat.not_lt_zero j), fun _ _ _ => rfl⟩ ?_ ?_ ?_
  · rintro i ⟨v, s⟩ rec hi ⟨rfl, f1, f2⟩
    dsimp only at f1 f2 ⊢
    have e1 : gi s a 1 = nI k := by rw [f2 _ _ (by omega), gs_ne (by omega), gs_eq]
    unfold bX2_ground_20
    rw [e1, if_neg (nI_ge hi (by omega)), dr_ok l1 l2.1, l2.2]
    have hw : (if ¬ nI i = 0 then (some ((0 : Int32), s)) else (some ((1 : Int32), s))) = some (nI (if i = 0 then 1 else 0), s) := by
      by_cases hi0 : i = 0
      · subst hi0; rfl
      · rw [if_pos (nI_ne0 (by omega) (by omega)), if_neg hi0]; rfl
    rw [hw, bd_ok, ck_n (by omega) (by omega), nI_clamp (by omega), ss_ok, lt_ok, ad1]
    refine ⟨_, rfl, rfl, fun j hj => ?_, fun x j hx => ?_⟩
    · dsimp only
      by_cases hji : j = i
      · subst hji; rw [gs_eq]
      · rw [gs_ne (by omega)]; exact f1 j (by omega)
    · dsimp only; rw [gs_ne (by omega)]; exact f2 x j hx
  · rintro ⟨v, s⟩ rec ⟨rfl, f1, f2⟩
    dsimp only at f1 f2 ⊢
    unfold bX2_ground_20
    rw [f2 _ _ (by omega), gs_ne (by omega), gs_eq, if_pos (nI_le (Nat.le_refl _) (by omega))]
    exact ⟨_, rfl, f1, f2⟩
  · rintro v s ⟨f1, f2⟩
    dsimp only at f1 f2
    refine ⟨s, rfl, ⟨by rw [f2 _ _ (by omega), gs_ne (by omega), gs_eq], by rw [f2 _ _ (by omega), gs_eq]; rfl, fun i hi => ?_⟩, fun x j h1 h2 => by rw [f2 _ _ h2, gs_ne (by omega), gs_ne (by omega)]⟩
    rw [f1 i hi]; unfold pfn; rw [tab_at hi]
theorem n_cascade (hL : LNum E a) (h1 : 2 ≤ k) (h5 : k ≤ 5) (h : NU σ a k P l) : ∃ s, fX2_climbCascade E a σ = some s ∧ (∀ i, i < k → gi s (a + 1) i = nI (sumF (fun j => P.getD j 0) (k - i))) ∧ ∀ x j, x ≠ a + 1 → gi s x j = gi σ x j := by
  obtain ⟨l0, l1, l2⟩ := hL
  obtain ⟨n1, n2, n3⟩ := h
  unfold fX2_climbCascade
  rw [tk_ok l0]
  refine bd_in (k - 1) (fun i b => b.1 = nI (i + 1) ∧ (∀ j, j < k → gi b.2 (a + 1) j = nI (if j ≤ i then sumF (fun j => P.getD j 0) (j + 1) else P.getD j 0)) ∧ ∀ x j, x ≠ a + 1 → gi b.2 x j = gi σ x j)
    (fun b => (∀ j, j < k → gi b.2 (a + 1) j = nI (sumF (fun j => P.getD j 0) (j + 1))) ∧ ∀ x j, x ≠ a + 1 → gi b.2 x j = gi σ x j) (by show k - 1 < 1000000; omega) ⟨rfl, fun j hj => ?_, fun _ _ _ => rfl⟩ ?_ ?_ ?_
  · rw [n3 j hj]
    by_cases hj0 : j ≤ 0
    · rw [if_pos hj0, show j = 0 by omega]; congr 1; show _ = 0 + P.getD 0 0; omega
    · rw [if_neg hj0]
  · rintro i ⟨v, s⟩ rec hi ⟨rfl, f1, f2⟩
    dsimp only at f1 f2 ⊢
    have e1 : gi s a 1 = nI k := by rw [f2 _ _ (by omega), n1]
    have g1 := f1 (i + 1) (by omega)
    have g2 := f1 i (by omega)
    rw [if_neg (by omega)] at g1
    rw [if_pos (by omega)] at g2
    unfold bX2_climbCascade_2
    rw [e1, if_neg (nI_ge (by omega) (by omega)), dr_ok l1 l2.1, l2.2, ck_n (by omega) (by omega), i1, sub_n (by omega), show i + 1 - 1 = i by omega, ck_n (by omega) (by omega), ck_n (by omega) (by omega), nI_clamp (by omega), nI_clamp (by omega), g1, g2, nI_add, ss_ok, lt_ok, nI_add]
    refine ⟨_, rfl, rfl, fun j hj => ?_, fun x j hx => ?_⟩
    · dsimp only
      by_cases hji : j = i + 1
      · subst hji; rw [gs_eq, if_pos (by omega)]; congr 1; show _ = sumF _ (i + 1) + P.getD (i + 1) 0; omega
      · rw [gs_ne (by omega), f1 j hj, ifc (p := j ≤ i) (q := j ≤ i + 1) ⟨fun q => by omega, fun q => by omega⟩]
    · dsimp only; rw [gs_ne (by omega)]; exact f2 x j hx
  · rintro ⟨v, s⟩ rec ⟨rfl, f1, f2⟩
    dsimp only at f1 f2 ⊢
    unfold bX2_climbCascade_2
    rw [f2 _ _ (by omega), n1, show k - 1 + 1 = k by omega, if_pos (nI_le (Nat.le_refl _) (by omega))]
    exact ⟨_, rfl, fun j hj => by rw [f1 j hj, if_pos (by omega)], f2⟩
  · rintro v s ⟨f1, f2⟩
    dsimp only at f1 f2
    refine bd_in (k / 2) (fun i b => b.1 = nI i ∧ (∀ j, j < k → gi b.2 (a + 1) j = nI (sumF (fun j => P.getD j 0) (if j < i ∨ k - i ≤ j then k - j else j + 1))) ∧ ∀ x j, x ≠ a + 1 → gi b.2 x j = gi σ x j)
      (fun b => (∀ j, j < k → gi b.2 (a + 1) j = nI (sumF (fun j => P.getD j 0) (k - j))) ∧ ∀ x j, x ≠ a + 1 → gi b.2 x j = gi σ x j) (by show k / 2 < 1000000; omega) ⟨rfl, fun j hj => ?_, f2⟩ ?_ ?_ ?_
    · rw [if_neg (by omega)]; exact f1 j hj
    · rintro i ⟨v, s⟩ rec hi ⟨rfl, g1, g2⟩
      dsimp only at g1 g2 ⊢
      have e1 : gi s a 1 = nI k := by rw [g2 _ _ (by omega), n1]
      have q1 := g1 i (by omega)
      have q2 := g1 (k - 1 - i) (by omega)
      rw [if_neg (by omega)] at q1 q2
      unfold bX2_climbCascade_35
      rw [e1, i2, pk_div (by omega) (by omega) (by omega), if_neg (nI_ge hi (by omega)), dr_ok l1 l2.1, l2.2, i1, sub_n (by omega), sub_n (by omega), ck_n (by omega) (by omega), nI_clamp (by omega), lt_ok, ck_n (by omega) (by omega), ck_n (by omega) (by omega), nI_clamp (by omega), ss_ok, ck_n (by omega) (by omega), ss_ok, lt_ok, nI_add, q1, q2]
      refine ⟨_, rfl, rfl, fun j hj => ?_, fun x j hx => ?_⟩
      · dsimp only
        by_cases hji : j = i
        · subst hji; rw [gs_eq, if_pos (by omega), show k - 1 - j + 1 = k - j by omega]
        · rw [gs_ne (by omega)]
          by_cases hjk : j = k - 1 - i
          · subst hjk; rw [gs_eq, if_pos (by omega)]; congr 2; omega
          · rw [gs_ne (by omega), g1 j hj, ifc (p := j < i ∨ k - i ≤ j) (q := j < i + 1 ∨ k - (i + 1) ≤ j) ⟨fun q => by omega, fun q => by omega⟩]
      · dsimp only; rw [gs_ne (by omega), gs_ne (by omega)]; exact g2 x j hx
    · rintro ⟨v, s⟩ rec ⟨rfl, g1, g2⟩
      dsimp only at g1 g2 ⊢
      unfold bX2_climbCascade_35
      rw [g2 _ _ (by omega), n1, i2, pk_div (by omega) (by omega) (by omega), if_pos (nI_le (Nat.le_refl _) (by omega))]
      refine ⟨_, rfl, fun j hj => ?_, g2⟩
      rw [g1 j hj]
      by_cases q : j < k / 2 ∨ k - k / 2 ≤ j
      · rw [if_pos q]
      · rw [if_neg q, show j + 1 = k - j by omega]
    · rintro v s ⟨g1, g2⟩
      exact ⟨s, rfl, g1, g2⟩
theorem n_climb (hL : LNum E a) (h1 : 2 ≤ k) (h5 : k ≤ 5) (hw : w = 0 ∨ w = 2) (h : NU σ a k (pfn w k l) l) : ∃ s, fX2_climb E a (nI w) σ = some s ∧ NU s a k (pfn w k (l + 1)) (l + 1) ∧ ∀ x j, x ≠ a → x ≠ a + 1 → gi s x j = gi σ x j := by
  obtain ⟨l0, l1, l2⟩ := id hL
  obtain ⟨n1, n2, n3⟩ := id h
  unfold fX2_climb
  rw [tk_ok l0, n2, ad1, ss_ok]
  have h' : NU (si σ a 2 (nI (l + 1))) a k (pfn w k l) (l + 1) := ⟨by rw [gs_ne (by omega)]; exact n1, gs_eq, fun i hi => by rw [gs_ne (by omega)]; exact n3 i hi⟩
  rcases hw with rfl | rfl
  · rw [if_pos (by decide), dr_ok l1 l2.1, l2.2, i0, ck_n (by omega) (by omega), nI_clamp (by omega), lt_ok, h'.2.2 0 (by omega)]
    generalize hP : pfn 0 k l = P at *
    refine bd_in (k - 1) (fun i b => b.1 = nI i ∧ (∀ j, j < k → gi b.2 (a + 1) j = nI (if j < i then P.getD 0 0 + P.getD (j + 1) 0 else P.getD j 0)) ∧ ∀ x j, x ≠ a + 1 → gi b.2 x j = gi (si σ a 2 (nI (l + 1))) x j)
      (fun b => (∀ j, j < k → gi b.2 (a + 1) j = nI (if j < k - 1 then P.getD 0 0 + P.getD (j + 1) 0 else P.getD j 0)) ∧ ∀ x j, x ≠ a + 1 → gi b.2 x j = gi (si σ a 2 (nI (l + 1))) x j) (by show k - 1 < 1000000; omega) ⟨rfl, fun j hj => ?_, fun _ _ _ => rfl⟩ ?_ ?_ ?_
    · rw [if_neg (by omega)]; exact h'.2.2 j hj
    · rintro i ⟨v, s⟩ rec hi ⟨rfl, f1, f2⟩
      dsimp only at f1 f2 ⊢
      have e1 : gi s a 1 = nI k := by rw [f2 _ _ (by omega)]; exact h'.1
      have g1 := f1 (i + 1) (by omega)
      rw [if_neg (by omega)] at g1
      unfold bX2_climb_29
      rw [e1, ad1, if_neg (nI_ge (by omega) (by omega)), l2.2, ck_n (by omega) (by omega), ck_n (by omega) (by omega), nI_clamp (by omega), nI_clamp (by omega), g1, nI_add, ss_ok, lt_ok]
      refine ⟨_, rfl, rfl, fun j hj => ?_, fun x j hx => ?_⟩
      · dsimp only
        by_cases hji : j = i
        · subst hji; rw [gs_eq, if_pos (by omega)]
        · rw [gs_ne (by omega), f1 j hj, ifc (p := j < i) (q := j < i + 1) ⟨fun q => by omega, fun q => by omega⟩]
      · dsimp only; rw [gs_ne (by omega)]; exact f2 x j hx
    · rintro ⟨v, s⟩ rec ⟨rfl, f1, f2⟩
      dsimp only at f1 f2 ⊢
      unfold bX2_climb_29
      rw [f2 _ _ (by omega), h'.1, ad1, show k - 1 + 1 = k by omega, if_pos (nI_le (Nat.le_refl _) (by omega))]
      exact ⟨_, rfl, f1, f2⟩
    · rintro v s ⟨f1, f2⟩
      dsimp only at f1 f2
      rw [f2 _ _ (by omega), h'.1, i1, sub_n (by omega), ck_n (by omega) (by omega), nI_clamp (by omega), ss_ok]
      refine ⟨_, rfl, ⟨by rw [gs_ne (by omega), f2 _ _ (by omega)]; exact h'.1, by rw [gs_ne (by omega), f2 _ _ (by omega)]; exact h'.2.1, fun i hi => ?_⟩, fun x j h1 h2 => by rw [gs_ne (by omega), f2 _ _ h2, gs_ne (by omega)]⟩
      have : (pfn 0 k (l + 1)).getD i 0 = P.getD 0 0 + (if i + 1 < k then P.getD (i + 1) 0 else 0) := by
        rw [← hP]; show (if 0 = 0 then _ else _ : List Nat).getD i 0 = _; rw [if_pos rfl, tab_at hi]
      rw [this]
      by_cases hik : i = k - 1
      · subst hik; rw [gs_eq, if_neg (by omega)]; rfl
      · rw [gs_ne (by omega), f1 i hi, if_pos (by omega), if_pos (by omega)]
  · rw [if_neg (by decide)]
    obtain ⟨s, e, f1, f2⟩ := n_cascade hL h1 h5 h'
    rw [e, bv_ok]
    refine ⟨s, rfl, ⟨by rw [f2 _ _ (by omega)]; exact h'.1, by rw [f2 _ _ (by omega)]; exact h'.2.1, fun i hi => ?_⟩, fun x j g1 g2 => by rw [f2 _ _ g2, gs_ne (by omega)]⟩
    rw [f1 i hi]
    show _ = nI ((if 2 = 0 then _ else _ : List Nat).getD i 0)
    rw [if_neg (by decide), tab_at hi]
theorem n_tog (hL : LNum E a) (h5 : k ≤ 5) (h : NU σ a k P l) : fX2_together E a σ = some (nI (sumF (fun t => P.getD t 0) k), σ) := by
  obtain ⟨l0, l1, l2⟩ := hL
  obtain ⟨n1, n2, n3⟩ := h
  unfold fX2_together
  rw [tk_ok l0]
  refine bd_tr ((nI (sumF (fun t => P.getD t 0) k), nI k), σ) k (fun i => ((nI (sumF (fun t => P.getD t 0) i), nI i), σ)) (by show k < 1000000; omega) (fun i rec hi => ?_) (fun rec => ?_) rfl
  · unfold bX2_together_4
    dsimp only
    rw [n1, if_neg (nI_ge hi (by omega)), dr_ok l1 l2.1, l2.2, ck_n (by omega) (by omega), nI_clamp (by omega), n3 i hi, nI_add, lt_ok, lt_ok, ad1]
    rfl
  · unfold bX2_together_4
    dsimp only
    rw [n1, if_pos (nI_le (Nat.le_refl _) (by omega))]
theorem n_climbTo (hL : LNum E a) (h1 : 2 ≤ k) (h5 : k ≤ 5) (hw : w = 0 ∨ w = 2) (hl : l ≤ 100) : ∃ s, fX2_climbTo E a (nI l) (nI w) (nI k) σ = some s ∧ NU s a k (pfn w k l) l ∧ ∀ x j, x ≠ a → x ≠ a + 1 → gi s x j = gi σ x j := by
  unfold fX2_climbTo
  obtain ⟨s0, e0, q0, q1⟩ := n_ground (σ := σ) (w := w) hL (show 1 ≤ k by omega) h5
  rw [tk_ok hL.1, e0, bv_ok]
  refine bd_in l (fun i b => b.1 = nI i ∧ NU b.2 a k (pfn w k i) i ∧ ∀ x j, x ≠ a → x ≠ a + 1 → gi b.2 x j = gi σ x j)
    (fun b => NU b.2 a k (pfn w k l) l ∧ ∀ x j, x ≠ a → x ≠ a + 1 → gi b.2 x j = gi σ x j) (by show l < 1000000; omega) ⟨rfl, q0, q1⟩ ?_ ?_ (fun v s q => ⟨s, rfl, q⟩)
  · rintro i ⟨v, s⟩ rec hi ⟨rfl, f1, f2⟩
    dsimp only at f1 f2 ⊢
    obtain ⟨s3, e3, g1, g2⟩ := n_climb hL h1 h5 hw f1
    unfold bX2_climbTo_8
    rw [if_neg (nI_ge hi (by omega)), e3, bv_ok, lt_ok, ad1]
    exact ⟨_, rfl, rfl, g1, fun x j h1 h2 => by dsimp only; rw [g2 _ _ h1 h2]; exact f2 x j h1 h2⟩
  · rintro ⟨v, s⟩ rec ⟨rfl, f1, f2⟩
    unfold bX2_climbTo_8
    rw [if_pos (nI_le (Nat.le_refl _) (by omega))]
    exact ⟨_, rfl, f1, f2⟩
/-- the least level that has places for so many -/
def lvl (w k n : Nat) : Option Nat := fstF (fun l => decide (n ≤ smp w k l)) 40
theorem n_climbFor (hL : LNum E a) (h1 : 2 ≤ k) (h5 : k ≤ 5) (hw : w = 0 ∨ w = 2) {n : Nat} (hn : n < 2 ^ 31) (hs : ∀ i, i ≤ l → smp w k i < 2 ^ 31) (hl : lvl w k n = some l) : ∃ s, fX2_climbFor E a (nI n) (nI w) (nI k) σ = some s ∧ NU s a k (pfn w k l) l ∧ ∀ x j, x ≠ a → x ≠ a + 1 → gi s x j = gi σ x j := by
  obtain ⟨q1, q2, q3⟩ := fstF_some hl
  simp only [decide_eq_true_eq] at q2
  simp only [decide_eq_false_iff_not] at q3
  unfold fX2_climbFor
  obtain ⟨s0, e0, g0, g1⟩ := n_ground (σ := σ) (w := w) hL (show 1 ≤ k by omega) h5
  rw [tk_ok hL.1, e0, bv_ok]
  refine bd_in l (fun i b => b.1 = nI i ∧ NU b.2 a k (pfn w k i) i ∧ ∀ x j, x ≠ a → x ≠ a + 1 → gi b.2 x j = gi σ x j)
    (fun b => NU b.2 a k (pfn w k l) l ∧ ∀ x j, x ≠ a → x ≠ a + 1 → gi b.2 x j = gi σ x j) (by show l < 1000000; omega) ⟨rfl, g0, g1⟩ ?_ ?_ (fun v s q => ⟨s, rfl, q⟩)
  · rintro i ⟨v, s⟩ rec hi ⟨rfl, f1, f2⟩
    dsimp only at f1 f2 ⊢
    obtain ⟨s3, e3, g1, g2⟩ := n_climb hL h1 h5 hw f1
    have hsm := hs i (by omega)
    have hlt := q3 i hi
    unfold bX2_climbFor_8
    rw [show (700 : Int32) = nI 700 from rfl, if_neg (nI_ge (by omega) (by omega)), n_tog hL h5 f1, bd_ok]
    rw [show sumF (fun t => (pfn w k i).getD t 0) k = smp w k i from rfl, if_neg (nI_ge (by omega) hn), e3, bv_ok, lt_ok, ad1]
    exact ⟨_, rfl, rfl, g1, fun x j h1 h2 => by dsimp only; rw [g2 _ _ h1 h2]; exact f2 x j h1 h2⟩
  · rintro ⟨v, s⟩ rec ⟨rfl, f1, f2⟩
    dsimp only at f1 f2 ⊢
    have hsm := hs l (by omega)
    unfold bX2_climbFor_8
    rw [show (700 : Int32) = nI 700 from rfl, if_neg (nI_ge (by omega) (by omega)), n_tog hL h5 f1, bd_ok]
    rw [show sumF (fun t => (pfn w k l).getD t 0) k = smp w k l from rfl, if_pos (nI_le q2 hsm)]
    exact ⟨_, rfl, f1, f2⟩
end NUM
end
section
/-! dealing on paper -/
def dum : Rn := ([], false)
def rnj (tu : Bool) (j : Nat) : Rn := ([j], tu && (j % 2 == 1))
/-- the place that gets the next dummy -/
def bst (pf d : Nat → Nat) (fr : Bool) : Nat → Option Nat
  | 0 => none
  | n + 1 => match bst pf d fr n with
    | none => if d n < pf n then some n else none
    | some b => if d n < pf n ∧ fr = false ∧ d n < d b then some n else some b
def inc (d : Nat → Nat) (b : Nat) : Nat → Nat := fun t => if t = b then d t + 1 else d t
def dms (pf : Nat → Nat) (fr : Bool) (k : Nat) : Nat → (Nat → Nat)
  | 0 => fun _ => 0
  | n + 1 => inc (dms pf fr k n) ((bst pf (dms pf fr k n) fr k).getD 0)
/-- the first of the greatest -/
def amx (p : Nat → Nat) : Nat → Nat
  | 0 => 0
  | n + 1 => if p (amx p n) < p (n + 1) then n + 1 else amx p n
/-- which runs come to which tape -/
def dlt (p : Nat → Nat) (k : Nat) : Nat → Nat → List Nat
  | 0, _ => []
  | r + 1, t => if t = amx (fun u => p u - (dlt p k r u).length) (k - 1) then dlt p k r t ++ [r] else dlt p k r t
def dlb (h : Nat) : Nat → Nat → List Nat
  | 0, _ => []
  | r + 1, t => if t = r % h then dlb h r t ++ [r] else dlb h r t
def tpi (bk tu : Bool) (d : Nat → Nat) (dl : Nat → List Nat) (t : Nat) : List Rn := List.replicate (d t) dum ++ (if bk then ((dl t).map (rnj tu)).reverse else (dl t).map (rnj tu))
def pfA (w T l t : Nat) : Nat := if t < T - 1 then (pfn w (T - 1) l).getD t 0 else 0
def lvA (w T nr : Nat) : Nat := (lvl w (T - 1) nr).getD 0
def dmA (w T : Nat) (fr : Bool) (nr : Nat) : Nat → Nat := dms (pfA w T (lvA w T nr)) fr (T - 1) (smp w (T - 1) (lvA w T nr) - nr)
def dlA (w T : Nat) (fr : Bool) (nr : Nat) : Nat → List Nat := dlt (fun t => pfA w T (lvA w T nr) t - dmA w T fr nr t) (T - 1) nr
def tp0 (w T : Nat) (bk fr tu : Bool) (nr : Nat) : Nat → List Rn := if w = 1 then tpi bk tu (fun _ => 0) (dlb (T / 2) nr) else tpi bk tu (dmA w T fr nr) (dlA w T fr nr)
def to0 (w T : Nat) : Nat := if w = 1 then T / 2 else T - 1
def skI (w T : Nat) (tp : Nat → List Rn) : Sk := (tab (fun t => (tp t).length) T, to0 w T, opn T (to0 w T) (tab (fun t => (tp t).length) T), true)
def mi0 (w T : Nat) (bk fr tu : Bool) (gl : Nat → Nat) (nr : Nat) : Mi := tul gl T (tp0 w T bk fr tu nr, skI w T (tp0 w T bk fr tu nr), 0, 0, 0, 0)
theorem sum_inc {d : Nat → Nat} {b : Nat} : ∀ {n : Nat}, b < n → sumF (inc d b) n = sumF d n + 1
  | 0, h => by omega
  | n + 1, h => by
    unfold sumF
    by_cases hb : b = n
    · subst hb
      have : sumF (inc d b) b = sumF d b := sumF_congr (fun t ht => by unfold inc; rw [if_neg (by omega)])
      rw [this]; unfold inc; rw [if_pos rfl]; omega
    · rw [sum_inc (show b < n by omega)]; unfold inc; rw [if_neg (by omega)]; omega
theorem bst_some {pf d : Nat → Nat} {fr : Bool} : ∀ {n b : Nat}, bst pf d fr n = some b → b < n ∧ d b < pf b
  | 0, b, h => by cases h
  | n + 1, b, h => by
    unfold bst at h
    cases hq : bst pf d fr n with
    | none =>
      rw [hq] at h; dsimp only at h
      split at h
      · next hc => simp only [Option.some.injEq] at h; subst h; exact ⟨by omega, hc⟩
      · cases h
    | some b' =>
      obtain ⟨h1, h2⟩ := bst_some hq
      rw [hq] at h; dsimp only at h
      split at h
      · next hc => simp only [Option.some.injEq] at h; subst h; exact ⟨by omega, hc.1⟩
      · simp only [Option.some.injEq] at h; subst h; exact ⟨by omega, h2⟩
theorem bst_none {pf d : Nat → Nat} {fr : Bool} : ∀ {n : Nat}, bst pf d fr n = none → ∀ t, t < n → pf t ≤ d t
  | 0, _, t, ht => by omega
  | n + 1, h, t, ht => by
    unfold bst at h
    cases hq : bst pf d fr n with
    | none =>
      rw [hq] at h; dsimp only at h
      split at h
      · cases h
      · next hc =>
        by_cases htn : t = n
        · subst htn; omega
        · exact bst_none hq t (by omega)
    | some b' =>
      rw [hq] at h; dsimp only at h
      split at h <;> cases h
theorem sum_le {f g : Nat → Nat} : ∀ {n : Nat}, (∀ t, t < n → f t ≤ g t) → sumF f n ≤ sumF g n
  | 0, _ => Nat.le_refl _
  | n + 1, h => by
    unfold sumF
    have h1 := sum_le (f := f) (g := g) (n := n) (fun t ht => h t (by omega))
    have h2 := h n (by omega)
    omega
theorem sum_eqp {f g : Nat → Nat} : ∀ {n : Nat}, (∀ t, t < n → f t ≤ g t) → sumF f n = sumF g n → ∀ t, t < n → f t = g t
  | 0, _, _, t, ht => by omega
  | n + 1, h, he, t, ht => by
    unfold sumF at he
    have h1 := sum_le (f := f) (g := g) (n := n) (fun t ht => h t (by omega))
    have h2 := h n (by omega)
    by_cases htn : t = n
    · subst htn; omega
    · exact sum_eqp (f := f) (g := g) (n := n) (fun t ht => h t (by omega)) (by omega) t (by omega)
/-- dummies find places -/
theorem dms_ok {pf : Nat → Nat} {fr : Bool} {k : Nat} : ∀ {n : Nat}, n ≤ sumF pf k → sumF (dms pf fr k n) k = n ∧ (∀ t, t < k → dms pf fr k n t ≤ pf t) ∧ (∀ t, k ≤ t → dms pf fr k n t = 0) ∧ (n < sumF pf k → ∃ b, bst pf (dms pf fr k n) fr k = some b)
  | 0, h => by
    have h0 : sumF (dms pf fr k 0) k = 0 := by
      have : ∀ m, sumF (fun _ => 0) m = 0 := fun m => by induction m with
        | zero => rfl
        | succ m ih => unfold sumF; rw [ih]
      exact this k
    refine ⟨h0, fun t _ => Nat.zero_le _, fun t _ => rfl, fun hlt => ?_⟩
    cases hq : bst pf (dms pf fr k 0) fr k with
    | some b => exact ⟨b, rfl⟩
    | none =>
      have := sum_le (f := pf) (g := dms pf fr k 0) (n := k) (fun t ht => bst_none hq t ht)
      omega
  | n + 1, h => by
    obtain ⟨h1, h2, h3, h4⟩ := dms_ok (pf := pf) (fr := fr) (k := k) (n := n) (by omega)
    obtain ⟨b, hb⟩ := h4 (by omega)
    obtain ⟨b1, b2⟩ := bst_some hb
    have e : dms pf fr k (n + 1) = inc (dms pf fr k n) b := by show inc _ _ = _; rw [hb]; rfl
    have hs : sumF (dms pf fr k (n + 1)) k = n + 1 := by rw [e, sum_inc b1, h1]
    have hle : ∀ t, t < k → dms pf fr k (n + 1) t ≤ pf t := fun t ht => by
      rw [e]; unfold inc
      split
      · next q => subst q; omega
      · exact h2 t ht
    refine ⟨hs, hle, fun t ht => ?_, fun hlt => ?_⟩
    · rw [e]; unfold inc; rw [if_neg (by omega)]; exact h3 t ht
    · cases hq : bst pf (dms pf fr k (n + 1)) fr k with
      | some b => exact ⟨b, rfl⟩
      | none =>
        have := sum_le (f := pf) (g := dms pf fr k (n + 1)) (n := k) (fun t ht => bst_none hq t ht)
        omega
theorem amx_le (p : Nat → Nat) : ∀ n, amx p n ≤ n
  | 0 => Nat.le_refl _
  | n + 1 => by have := amx_le p n; unfold amx; split <;> omega
theorem amx_max (p : Nat → Nat) : ∀ {n t : Nat}, t ≤ n → p t ≤ p (amx p n)
  | 0, t, h => by rw [show t = 0 by omega]; exact Nat.le_refl _
  | n + 1, t, h => by
    unfold amx
    by_cases htn : t = n + 1
    · subst htn; split <;> omega
    · have := amx_max p (n := n) (t := t) (by omega)
      split <;> omega
theorem amx_congr {p q : Nat → Nat} : ∀ {n : Nat}, (∀ t, t ≤ n → p t = q t) → amx p n = amx q n
  | 0, _ => rfl
  | n + 1, h => by
    unfold amx
    rw [amx_congr (fun t ht => h t (by omega)), h (n + 1) (by omega), h (amx q n) (by have := amx_le q n; omega)]
theorem dlt_ok {p : Nat → Nat} {k : Nat} (hk : 0 < k) : ∀ {r : Nat}, r ≤ sumF p k → sumF (fun t => (dlt p k r t).length) k = r ∧ (∀ t, t < k → (dlt p k r t).length ≤ p t) ∧ (∀ t, k ≤ t → dlt p k r t = []) ∧ (r < sumF p k → (dlt p k r (amx (fun u => p u - (dlt p k r u).length) (k - 1))).length < p (amx (fun u => p u - (dlt p k r u).length) (k - 1)))
  | 0, h => by
    have h0 : ∀ m, sumF (fun t => (dlt p k 0 t).length) m = 0 := fun m => by induction m with
        | zero => rfl
        | succ m ih => unfold sumF; rw [ih]; rfl
    refine ⟨h0 k, fun t _ => Nat.zero_le _, fun t _ => rfl, fun hlt => ?_⟩
    by_cases hz : 0 < p (amx (fun u => p u - (dlt p k 0 u).length) (k - 1))
    · exact hz
    · exfalso
      have : sumF p k ≤ sumF (fun t => (dlt p k 0 t).length) k := sum_le (fun t ht => by
        have := amx_max (fun u => p u - (dlt p k 0 u).length) (n := k - 1) (t := t) (by omega)
        try dsimp only at this
        have e : ∀ u, (dlt p k 0 u).length = 0 := fun u => rfl
        rw [e] at this ⊢
        omega)
      rw [h0] at this; omega
  | r + 1, h => by
    obtain ⟨h1, h2, h3, h4⟩ := dlt_ok (p := p) (k := k) hk (r := r) (by omega)
    have h4 := h4 (by omega)
    generalize hb : amx (fun u => p u - (dlt p k r u).length) (k - 1) = b at h4
    have hbk : b < k := by have := amx_le (fun u => p u - (dlt p k r u).length) (k - 1); omega
    have e : ∀ t, dlt p k (r + 1) t = if t = b then dlt p k r t ++ [r] else dlt p k r t := fun t => by
      show (if t = amx (fun u => p u - (dlt p k r u).length) (k - 1) then _ else _) = _; rw [hb]
    have el : (fun t => (dlt p k (r + 1) t).length) = inc (fun t => (dlt p k r t).length) b := by
      funext t; rw [e]; unfold inc; split <;> simp
    have hs : sumF (fun t => (dlt p k (r + 1) t).length) k = r + 1 := by rw [el, sum_inc hbk, h1]
    have hle : ∀ t, t < k → (dlt p k (r + 1) t).length ≤ p t := fun t ht => by
      have := h2 t ht
      rw [e]
      split
      · next q => subst q; simp; omega
      · exact this
    refine ⟨hs, hle, fun t ht => ?_, fun hlt => ?_⟩
    · rw [e, if_neg (by omega)]; exact h3 t ht
    · by_cases hz : (dlt p k (r + 1) (amx (fun u => p u - (dlt p k (r + 1) u).length) (k - 1))).length < p (amx (fun u => p u - (dlt p k (r + 1) u).length) (k - 1))
      · exact hz
      · exfalso
        have : sumF p k ≤ sumF (fun t => (dlt p k (r + 1) t).length) k := sum_le (fun t ht => by
          have := amx_max (fun u => p u - (dlt p k (r + 1) u).length) (n := k - 1) (t := t) (by omega)
          try dsimp only at this
          omega)
        omega
theorem dlb_len {h : Nat} (hh : 0 < h) : ∀ r t, t < h → (dlb h r t).length = (r + h - 1 - t) / h
  | 0, t, ht => by
    show 0 = _
    rw [Nat.div_eq_of_lt (by omega)]
  | r + 1, t, ht => by
    have ih := dlb_len hh r t ht
    show (if t = r % h then dlb h r t ++ [r] else dlb h r t).length = _
    have hr := Nat.mod_lt r hh
    have hd := Nat.div_add_mod r h
    have e : ∀ x : Nat, (x + h * (r / h)) / h = x / h + r / h := fun x => by rw [Nat.add_mul_div_left _ _ hh]
    have e1 : (r + h - 1 - t) / h = (r % h + h - 1 - t) / h + r / h := by rw [← e]; congr 1; omega
    have e2 : (r + 1 + h - 1 - t) / h = (r % h + 1 + h - 1 - t) / h + r / h := by rw [← e]; congr 1; omega
    by_cases hq : t = r % h
    · rw [if_pos hq, List.length_append, ih, e1, e2, Nat.div_eq_of_lt (show r % h + h - 1 - t < h by omega), show r % h + 1 + h - 1 - t = h by omega, Nat.div_self hh]; simp; omega
    · rw [if_neg hq, ih, e1, e2]
      congr 1
      by_cases hlt : t < r % h
      · rw [show r % h + h - 1 - t = (r % h - 1 - t) + h by omega, show r % h + 1 + h - 1 - t = (r % h - t) + h by omega, Nat.add_div_right _ hh, Nat.add_div_right _ hh, Nat.div_eq_of_lt (show r % h - 1 - t < h by omega), Nat.div_eq_of_lt (show r % h - t < h by omega)]
      · rw [Nat.div_eq_of_lt (show r % h + h - 1 - t < h by omega), Nat.div_eq_of_lt (show r % h + 1 + h - 1 - t < h by omega)]
theorem dlb_out {h : Nat} (hh : 0 < h) : ∀ r t, h ≤ t → dlb h r t = []
  | 0, _, _ => rfl
  | r + 1, t, ht => by
    show (if t = r % h then dlb h r t ++ [r] else dlb h r t) = _
    have := Nat.mod_lt r hh
    rw [if_neg (by omega)]; exact dlb_out hh r t ht
theorem tpi_len {bk tu : Bool} {d : Nat → Nat} {dl : Nat → List Nat} {t : Nat} : (tpi bk tu d dl t).length = d t + (dl t).length := by
  unfold tpi; cases bk <;> simp
end
section
/-! the class lays runs out: empty tapes, lengths -/
def LD (σ : Sg) (m w T : Nat) (bk : Bool) (nr : Nat) (gl : Nat → Nat) (tu : Bool) : Prop := MB σ m w T bk nr ∧ (∀ t, t < 6 → gi σ (m + 10 + 2 * t) 1 = nI 0 ∧ gi σ (m + 10 + 2 * t) 2 = nI 0) ∧ (∀ t, t < 6 → gi σ (m + 7) t = nI 0) ∧ (∀ k, k < 6 → gi σ (m + 3) k = nI 0) ∧ ∀ j, j < nr → gi σ (m + 8) j = nI (gl j) ∧ gi σ (m + 9) j = bI (tu && (j % 2 == 1))
section LY
variable {E : En} {m N w T nr : Nat} {σ : Sg} {bk fr tu : Bool} {gl : Nat → Nat}
theorem c_begin (hL : LMill E m N) (hT3 : 3 ≤ T) (hT : T ≤ 6) : ∃ s, fX1_begin E m (nI w) (nI T) (bI bk) σ = some s ∧ LD s m w T bk 0 gl tu ∧ ∀ x k, (x < m ∨ m + 22 ≤ x) → gi s x k = gi σ x k := by
  obtain ⟨l0, l4, l10, l12, l13, l17, l18, l5, l6, a1, a2, a3, a4, a5, a7, a8, a9, ltp⟩ := id hL
  unfold fX1_begin
  rw [tk_ok l0, ss_ok, ss_ok, ss_ok, kb_b, ss_ok, ss_ok, ss_ok, i3, i6, i2, imin_n (by omega) (by omega), imax_n (by omega) (by omega), show max 3 (min T 6) = T by omega, gs_eq, pk_div (by omega) (by omega) (by omega)]
  generalize hs : si (si (si (si (si (si σ m 0 (nI w)) m 1 (nI T)) m 2 (nI (T / 2))) m 3 (bI bk)) m 7 0) m 8 0 = s1
  have b1 : MB s1 m w T bk 0 := by
    rw [← hs]
    refine ⟨?_, ?_, ?_, ?_, ?_⟩
    · simp (disch := omega) only [i0, i1, i2, i3, i4, i5, i6, i7, i8, mle, mlt, meq, if_pos, if_neg, dr_s, tk_s, ck_m, nI_clamp, lt_ok, ss_ok, nI_add, pk_mul, sub_n, bd_ok, bv_ok, gs_ne, gs_eq]
    · simp (disch := omega) only [i0, i1, i2, i3, i4, i5, i6, i7, i8, mle, mlt, meq, if_pos, if_neg, dr_s, tk_s, ck_m, nI_clamp, lt_ok, ss_ok, nI_add, pk_mul, sub_n, bd_ok, bv_ok, gs_ne, gs_eq]
    · simp (disch := omega) only [i0, i1, i2, i3, i4, i5, i6, i7, i8, mle, mlt, meq, if_pos, if_neg, dr_s, tk_s, ck_m, nI_clamp, lt_ok, ss_ok, nI_add, pk_mul, sub_n, bd_ok, bv_ok, gs_ne, gs_eq]
    · simp (disch := omega) only [i0, i1, i2, i3, i4, i5, i6, i7, i8, mle, mlt, meq, if_pos, if_neg, dr_s, tk_s, ck_m, nI_clamp, lt_ok, ss_ok, nI_add, pk_mul, sub_n, bd_ok, bv_ok, gs_ne, gs_eq]
    · simp (disch := omega) only [i0, i1, i2, i3, i4, i5, i6, i7, i8, mle, mlt, meq, if_pos, if_neg, dr_s, tk_s, ck_m, nI_clamp, lt_ok, ss_ok, nI_add, pk_mul, sub_n, bd_ok, bv_ok, gs_ne, gs_eq]
  have f1 : ∀ x k, x ≠ m → gi s1 x k = gi σ x k := fun x k h => by rw [← hs]; simp (disch := omega) only [i0, i1, i2, i3, i4, i5, i6, i7, i8, mle, mlt, meq, if_pos, if_neg, dr_s, tk_s, ck_m, nI_clamp, lt_ok, ss_ok, nI_add, pk_mul, sub_n, bd_ok, bv_ok, gs_ne, gs_eq]
  refine bd_in 6 (fun i b => b.1 = nI i ∧ (∀ t, t < i → gi b.2 (m + 10 + 2 * t) 1 = nI 0 ∧ gi b.2 (m + 10 + 2 * t) 2 = nI 0) ∧ (∀ t, t < i → gi b.2 (m + 7) t = nI 0) ∧ ∀ x k, ¬ (m + 10 ≤ x ∧ x < m + 22) → x ≠ m + 7 → gi b.2 x k = gi s1 x k)
    (fun b => (∀ t, t < 6 → gi b.2 (m + 10 + 2 * t) 1 = nI 0 ∧ gi b.2 (m + 10 + 2 * t) 2 = nI 0) ∧ (∀ t, t < 6 → gi b.2 (m + 7) t = nI 0) ∧ ∀ x k, ¬ (m + 10 ≤ x ∧ x < m + 22) → x ≠ m + 7 → gi b.2 x k = gi s1 x k) (by show 6 < 1000000; omega) ⟨rfl, fun t ht => absurd ht (Nat.not_lt_zero t), fun t ht => absurd ht (Nat.not_lt_zero t), fun _ _ _ _ => rfl⟩ ?_ ?_ ?_
  · rintro i ⟨v, s⟩ rec hi ⟨rfl, q1, q2, q3⟩
    dsimp only at q1 q2 q3 ⊢
    obtain ⟨lt1, lt2⟩ := ltp i (by omega)
    unfold bX1_begin_47
    rw [i6, if_neg (nI_ge hi (by omega)), dr_ok l4 a1.1, a1.2, ck_n (by omega) (by omega), nI_clamp (by omega), dr_ok lt1 lt2.1, tape_wipe lt2, bv_ok, dr_ok l18 a7.1, a7.2, ck_n (by omega) (by omega), ss_ok, lt_ok, ad1]
    refine ⟨_, rfl, rfl, fun t ht => ?_, fun t ht => ?_, fun x k h1 h2 => ?_⟩
    · dsimp only
      by_cases hti : t = i
      · subst hti; simp (disch := omega) only [i0, i1, i2, i3, i4, i5, i6, i7, i8, mle, mlt, meq, if_pos, if_neg, dr_s, tk_s, ck_m, nI_clamp, lt_ok, ss_ok, nI_add, pk_mul, sub_n, bd_ok, bv_ok, gs_ne, gs_eq]; exact ⟨trivial, trivial⟩
      · simp (disch := omega) only [i0, i1, i2, i3, i4, i5, i6, i7, i8, mle, mlt, meq, if_pos, if_neg, dr_s, tk_s, ck_m, nI_clamp, lt_ok, ss_ok, nI_add, pk_mul, sub_n, bd_ok, bv_ok, gs_ne, gs_eq]; exact q1 t (by omega)
    · dsimp only
      by_cases hti : t = i
      · subst hti; simp (disch := omega) only [i0, i1, i2, i3, i4, i5, i6, i7, i8, mle, mlt, meq, if_pos, if_neg, dr_s, tk_s, ck_m, nI_clamp, lt_ok, ss_ok, nI_add, pk_mul, sub_n, bd_ok, bv_ok, gs_ne, gs_eq]
      · simp (disch := omega) only [i0, i1, i2, i3, i4, i5, i6, i7, i8, mle, mlt, meq, if_pos, if_neg, dr_s, tk_s, ck_m, nI_clamp, lt_ok, ss_ok, nI_add, pk_mul, sub_n, bd_ok, bv_ok, gs_ne, gs_eq]; exact q2 t (by omega)
    · dsimp only; simp (disch := omega) only [i0, i1, i2, i3, i4, i5, i6, i7, i8, mle, mlt, meq, if_pos, if_neg, dr_s, tk_s, ck_m, nI_clamp, lt_ok, ss_ok, nI_add, pk_mul, sub_n, bd_ok, bv_ok, gs_ne, gs_eq]; exact q3 x k h1 h2
  · rintro ⟨v, s⟩ rec ⟨rfl, q⟩
    unfold bX1_begin_47
    rw [i6, if_pos (nI_le (Nat.le_refl _) (by omega))]
    exact ⟨_, rfl, q⟩
  · rintro v s ⟨q1, q2, q3⟩
    dsimp only at q1 q2 q3
    refine bd_in 6 (fun i b => b.1 = nI i ∧ (∀ k, k < i → gi b.2 (m + 3) k = nI 0) ∧ ∀ x k, x ≠ m + 3 → gi b.2 x k = gi s x k) (fun b => (∀ k, k < 6 → gi b.2 (m + 3) k = nI 0) ∧ ∀ x k, x ≠ m + 3 → gi b.2 x k = gi s x k) (by show 6 < 1000000; omega) ⟨rfl, fun t ht => absurd ht (Nat.not_lt_zero t), fun _ _ _ => rfl⟩ ?_ ?_ ?_
    · rintro i ⟨v, s⟩ rec hi ⟨rfl, g1, g2⟩
      dsimp only at g1 g2 ⊢
      unfold bX1_begin_81
      rw [i6, if_neg (nI_ge hi (by omega)), dr_ok l12 a3.1, a3.2, ck_n (by omega) (by omega), nI_clamp (by omega), ss_ok, lt_ok, ad1]
      refine ⟨_, rfl, rfl, fun t ht => ?_, fun x k h1 => ?_⟩
      · dsimp only
        by_cases hti : t = i
        · subst hti; simp (disch := omega) only [i0, i1, i2, i3, i4, i5, i6, i7, i8, mle, mlt, meq, if_pos, if_neg, dr_s, tk_s, ck_m, nI_clamp, lt_ok, ss_ok, nI_add, pk_mul, sub_n, bd_ok, bv_ok, gs_ne, gs_eq]
        · simp (disch := omega) only [i0, i1, i2, i3, i4, i5, i6, i7, i8, mle, mlt, meq, if_pos, if_neg, dr_s, tk_s, ck_m, nI_clamp, lt_ok, ss_ok, nI_add, pk_mul, sub_n, bd_ok, bv_ok, gs_ne, gs_eq]; exact g1 t (by omega)
      · dsimp only; simp (disch := omega) only [i0, i1, i2, i3, i4, i5, i6, i7, i8, mle, mlt, meq, if_pos, if_neg, dr_s, tk_s, ck_m, nI_clamp, lt_ok, ss_ok, nI_add, pk_mul, sub_n, bd_ok, bv_ok, gs_ne, gs_eq]; exact g2 x k h1
    · rintro ⟨v, s⟩ rec ⟨rfl, q⟩
      unfold bX1_begin_81
      rw [i6, if_pos (nI_le (Nat.le_refl _) (by omega))]
      exact ⟨_, rfl, q⟩
    · rintro v s' ⟨g1, g2⟩
      dsimp only at g1 g2
      have fz : ∀ k, gi s' m k = gi s1 m k := fun k => by rw [g2 _ _ (by omega), q3 _ _ (by omega) (by omega)]
      refine ⟨s', rfl, ⟨⟨?_, ?_, ?_, ?_, ?_⟩, fun t ht => ?_, fun t ht => ?_, g1, fun j hj => absurd hj (Nat.not_lt_zero j)⟩, fun x k h => ?_⟩
      · rw [fz]; exact b1.1
      · rw [fz]; exact b1.2.1
      · rw [fz]; exact b1.2.2.1
      · rw [fz]; exact b1.2.2.2.1
      · rw [fz]; exact b1.2.2.2.2
      · rw [g2 _ _ (by omega), g2 _ _ (by omega)]; exact q1 t ht
      · rw [g2 _ _ (by omega)]; exact q2 t ht
      · rw [g2 _ _ (by omega), q3 _ _ (by omega) (by omega), f1 _ _ (by omega)]
theorem c_load (hL : LMill E m N) (h : LD σ m w T bk nr gl tu) (hn : nr < N) (hN : N ≤ 700) : ∃ s, fX1_load E m (nI (gl nr)) (bI (tu && (nr % 2 == 1))) σ = some s ∧ LD s m w T bk (nr + 1) gl tu ∧ ∀ x k, (x < m ∨ m + 22 ≤ x) → gi s x k = gi σ x k := by
  obtain ⟨l0, l4, l10, l12, l13, l17, l18, l5, l6, a1, a2, a3, a4, a5, a7, a8, a9, ltp⟩ := id hL
  obtain ⟨⟨b0, b1, b2, b3, b7⟩, h2, h3, h4, h5⟩ := h
  unfold fX1_load
  rw [tk_ok l0, dr_ok l5 a8.1, a8.2, b7, if_neg (nI_ge hn (by omega)), ck_n hn (by omega), nI_clamp (by omega), ss_ok, dr_ok l6 a9.1, a9.2]
  simp (disch := omega) only [i0, i1, i2, i3, i4, i5, i6, i7, i8, mle, mlt, meq, if_pos, if_neg, dr_s, tk_s, ck_m, nI_clamp, lt_ok, ss_ok, nI_add, pk_mul, sub_n, bd_ok, bv_ok, gs_ne, gs_eq, b7, nar_b]
  refine ⟨_, rfl, ⟨⟨?_, ?_, ?_, ?_, ?_⟩, fun t ht => ?_, fun t ht => ?_, fun t ht => ?_, fun j hj => ?_⟩, fun x k h => ?_⟩
  · simp (disch := omega) only [i0, i1, i2, i3, i4, i5, i6, i7, i8, mle, mlt, meq, if_pos, if_neg, dr_s, tk_s, ck_m, nI_clamp, lt_ok, ss_ok, nI_add, pk_mul, sub_n, bd_ok, bv_ok, gs_ne, gs_eq]; exact b0
  · simp (disch := omega) only [i0, i1, i2, i3, i4, i5, i6, i7, i8, mle, mlt, meq, if_pos, if_neg, dr_s, tk_s, ck_m, nI_clamp, lt_ok, ss_ok, nI_add, pk_mul, sub_n, bd_ok, bv_ok, gs_ne, gs_eq]; exact b1
  · simp (disch := omega) only [i0, i1, i2, i3, i4, i5, i6, i7, i8, mle, mlt, meq, if_pos, if_neg, dr_s, tk_s, ck_m, nI_clamp, lt_ok, ss_ok, nI_add, pk_mul, sub_n, bd_ok, bv_ok, gs_ne, gs_eq]; exact b2
  · simp (disch := omega) only [i0, i1, i2, i3, i4, i5, i6, i7, i8, mle, mlt, meq, if_pos, if_neg, dr_s, tk_s, ck_m, nI_clamp, lt_ok, ss_ok, nI_add, pk_mul, sub_n, bd_ok, bv_ok, gs_ne, gs_eq]; exact b3
  · simp (disch := omega) only [i0, i1, i2, i3, i4, i5, i6, i7, i8, mle, mlt, meq, if_pos, if_neg, dr_s, tk_s, ck_m, nI_clamp, lt_ok, ss_ok, nI_add, pk_mul, sub_n, bd_ok, bv_ok, gs_ne, gs_eq]
  · simp (disch := omega) only [i0, i1, i2, i3, i4, i5, i6, i7, i8, mle, mlt, meq, if_pos, if_neg, dr_s, tk_s, ck_m, nI_clamp, lt_ok, ss_ok, nI_add, pk_mul, sub_n, bd_ok, bv_ok, gs_ne, gs_eq]; exact h2 t ht
  · simp (disch := omega) only [i0, i1, i2, i3, i4, i5, i6, i7, i8, mle, mlt, meq, if_pos, if_neg, dr_s, tk_s, ck_m, nI_clamp, lt_ok, ss_ok, nI_add, pk_mul, sub_n, bd_ok, bv_ok, gs_ne, gs_eq]; exact h3 t ht
  · simp (disch := omega) only [i0, i1, i2, i3, i4, i5, i6, i7, i8, mle, mlt, meq, if_pos, if_neg, dr_s, tk_s, ck_m, nI_clamp, lt_ok, ss_ok, nI_add, pk_mul, sub_n, bd_ok, bv_ok, gs_ne, gs_eq]; exact h4 t ht
  · by_cases hj2 : j = nr
    · subst hj2; simp (disch := omega) only [i0, i1, i2, i3, i4, i5, i6, i7, i8, mle, mlt, meq, if_pos, if_neg, dr_s, tk_s, ck_m, nI_clamp, lt_ok, ss_ok, nI_add, pk_mul, sub_n, bd_ok, bv_ok, gs_ne, gs_eq]; exact ⟨trivial, trivial⟩
    · simp (disch := omega) only [i0, i1, i2, i3, i4, i5, i6, i7, i8, mle, mlt, meq, if_pos, if_neg, dr_s, tk_s, ck_m, nI_clamp, lt_ok, ss_ok, nI_add, pk_mul, sub_n, bd_ok, bv_ok, gs_ne, gs_eq]; exact h5 j (by omega)
  · simp (disch := omega) only [i0, i1, i2, i3, i4, i5, i6, i7, i8, mle, mlt, meq, if_pos, if_neg, dr_s, tk_s, ck_m, nI_clamp, lt_ok, ss_ok, nI_add, pk_mul, sub_n, bd_ok, bv_ok, gs_ne, gs_eq]
end LY
end
section
/-! the class deals runs and dummies -/
def TQ (σ : Sg) (m : Nat) (bk : Bool) (tp : Nat → List Rn) : Prop := ∀ t, t < 6 → TP σ (m + 10 + 2 * t) bk (tp t) 0 (tp t).length
section DL
variable {E : En} {m N w T nr k : Nat} {σ : Sg} {bk fr tu : Bool} {gl : Nat → Nat} {tp : Nat → List Rn}
theorem tq_fr {σ' : Sg} (h : TQ σ m bk tp) (hf : ∀ x k, m + 10 ≤ x → x < m + 22 → gi σ' x k = gi σ x k) : TQ σ' m bk tp := fun t ht => tp_fr (h t ht) (fun k => hf _ _ (by omega) (by omega)) (fun k => hf _ _ (by omega) (by omega))
theorem tq_congr {tp' : Nat → List Rn} (h : TQ σ m bk tp) (he : ∀ t, t < 6 → tp t = tp' t) : TQ σ m bk tp' := fun t ht => by rw [← he t ht]; exact h t ht
theorem tq_write (hL : LMill E m N) (h : TQ σ m bk tp) {t : Nat} (ht : t < 6) (r : Rn) (hl : (tp t).length < 256) : ∃ s, fX5_write E (m + 10 + 2 * t) (idI r.1) σ = some s ∧ TQ s m bk (fun u => if u = t then psh bk r (tp u) else tp u) ∧ ∀ x k, ¬ (m + 10 ≤ x ∧ x < m + 22) → gi s x k = gi σ x k := by
  obtain ⟨l0, l4, l10, l12, l13, l17, l18, l5, l6, a1, a2, a3, a4, a5, a7, a8, a9, ltp⟩ := id hL
  obtain ⟨lt1, lt2⟩ := ltp t ht
  obtain ⟨s, e1, e2, e3, -⟩ := tp_write (r := r) lt2 (h t ht) hl
  refine ⟨s, e1, fun u hu => ?_, fun x k hx => e3 _ _ (by omega) (by omega)⟩
  dsimp only
  by_cases hut : u = t
  · subst hut; rw [if_pos rfl, psh_len]; exact e2
  · rw [if_neg hut]; exact tp_fr (h u hu) (fun k => e3 _ _ (by omega) (by omega)) (fun k => e3 _ _ (by omega) (by omega))
def tq (bk tu : Bool) (d : Nat) (dl : List Nat) : List Rn := if bk then (dl.map (rnj tu)).reverse else List.replicate d dum ++ dl.map (rnj tu)
theorem tq_psh {d r : Nat} {dl : List Nat} : psh bk (rnj tu r) (tq bk tu d dl) = tq bk tu d (dl ++ [r]) := by
  unfold psh tq
  cases bk <;> simp
theorem tq_len {d : Nat} {dl : List Nat} : (tq bk tu d dl).length = (if bk then 0 else d) + dl.length := by
  unfold tq; cases bk <;> simp
theorem c_turns (hL : LMill E m N) (h : LD σ m 1 T bk nr gl tu) (hT : T ≤ 6) (hT3 : 3 ≤ T) (hn : nr ≤ N) (hN : N ≤ 700) (hc : ∀ t, t < T / 2 → (dlb (T / 2) nr t).length ≤ 256) : ∃ s, fX1_dealByTurns E m σ = some s ∧ TQ s m bk (fun t => tq bk tu 0 (dlb (T / 2) nr t)) ∧ gi s m 8 = nI nr ∧ gi s m 9 = nI (T / 2) ∧ gi s (m + 3) 5 = -1 ∧ ∀ x k, ¬ (m + 10 ≤ x ∧ x < m + 22) → ¬ (x = m ∧ (k = 8 ∨ k = 9)) → ¬ (x = m + 3 ∧ k = 5) → gi s x k = gi σ x k := by
  obtain ⟨l0, l4, l10, l12, l13, l17, l18, l5, l6, a1, a2, a3, a4, a5, a7, a8, a9, ltp⟩ := id hL
  obtain ⟨⟨b0, b1, b2, b3, b7⟩, h2, h3, h4, h5⟩ := h
  have hmon : ∀ i j t, i ≤ j → (dlb (T / 2) i t).length ≤ (dlb (T / 2) j t).length := by
    intro i j t hij
    induction j with
    | zero => rw [show i = 0 by omega]; exact Nat.le_refl _
    | succ j ih =>
      by_cases hq : i = j + 1
      · subst hq; exact Nat.le_refl _
      · refine Nat.le_trans (ih (by omega)) ?_
        show _ ≤ (if t = j % (T / 2) then dlb (T / 2) j t ++ [j] else dlb (T / 2) j t).length
        split <;> simp
  unfold fX1_dealByTurns
  rw [tk_ok l0]
  refine bd_in nr (fun i b => b.1 = nI i ∧ TQ b.2 m bk (fun t => tq bk tu 0 (dlb (T / 2) i t)) ∧ ∀ x k, ¬ (m + 10 ≤ x ∧ x < m + 22) → gi b.2 x k = gi σ x k) (fun b => TQ b.2 m bk (fun t => tq bk tu 0 (dlb (T / 2) nr t)) ∧ ∀ x k, ¬ (m + 10 ≤ x ∧ x < m + 22) → gi b.2 x k = gi σ x k) (by show nr < 1000000; omega) ⟨rfl, fun t ht => ?_, fun _ _ _ => rfl⟩ ?_ ?_ ?_
  · obtain ⟨q1, q2⟩ := h2 t ht
    have e : tq bk tu 0 (dlb (T / 2) 0 t) = [] := by unfold tq; cases bk <;> rfl
    dsimp only
    rw [e]
    exact ⟨q1, q2, Nat.le_refl _, by simp, rfl, fun k hk => absurd hk (Nat.not_lt_zero k)⟩
  · rintro i ⟨v, s⟩ rec hi ⟨rfl, g1, g2⟩
    dsimp only at g1 g2 ⊢
    have hh : 0 < T / 2 := by omega
    have hlt := Nat.mod_lt i hh
    have hlen : (tq bk tu 0 (dlb (T / 2) i (i % (T / 2)))).length < 256 := by
      rw [tq_len]
      have h1 := hmon (i + 1) nr (i % (T / 2)) (by omega)
      have h2 := hc _ hlt
      have h3 : (dlb (T / 2) (i + 1) (i % (T / 2))).length = (dlb (T / 2) i (i % (T / 2))).length + 1 := by
        show (if i % (T / 2) = i % (T / 2) then _ else _ : List Nat).length = _
        rw [if_pos rfl]; simp
      cases bk <;> simp <;> omega
    obtain ⟨lt1, lt2⟩ := ltp (i % (T / 2)) (by omega)
    obtain ⟨s3, e3, w1, w2⟩ := tq_write hL g1 (t := i % (T / 2)) (by omega) (rnj tu i) hlen
    unfold bX1_dealByTurns_2
    rw [g2 m 7 (by omega), b7, if_neg (nI_ge hi (by omega)), dr_ok l4 a1.1, g2 m 2 (by omega), b2]
    unfold nz
    rw [if_neg (nI_ne0 (by omega) (by omega)), im_n (by omega) (by omega) (by omega), a1.2, ck_n (by omega) (by omega), nI_clamp (by omega), dr_ok lt1 lt2.1]
    rw [show idI (rnj tu i).1 = nI i from rfl] at e3
    rw [e3, bv_ok, lt_ok, ad1]
    refine ⟨_, rfl, rfl, tq_congr w1 (fun t ht => ?_), fun x k hx => by dsimp only; rw [w2 _ _ hx]; exact g2 x k hx⟩
    show _ = tq bk tu 0 (if t = i % (T / 2) then dlb (T / 2) i t ++ [i] else dlb (T / 2) i t)
    by_cases hq : t = i % (T / 2)
    · rw [if_pos hq, if_pos hq, tq_psh]
    · rw [if_neg hq, if_neg hq]
  · rintro ⟨v, s⟩ rec ⟨rfl, g1, g2⟩
    dsimp only at g1 g2 ⊢
    unfold bX1_dealByTurns_2
    rw [g2 m 7 (by omega), b7, if_pos (nI_le (Nat.le_refl _) (by omega))]
    exact ⟨_, rfl, g1, g2⟩
  · rintro v s ⟨g1, g2⟩
    dsimp only at g1 g2
    rw [ss_ok, ss_ok, dr_ok l12 a3.1, a3.2, i5, ck_n (by omega) (by omega), nI_clamp (by omega), ss_ok]
    rw [g2 m 7 (by omega), b7, gs_ne (by omega), g2 m 2 (by omega), b2]
    refine ⟨_, rfl, tq_fr g1 (fun x k q1 q2 => ?_), ?_, ?_, gs_eq, fun x k q1 q2 q3 => ?_⟩
    · simp (disch := omega) only [i0, i1, i2, i3, i4, i5, i6, i7, i8, mle, mlt, meq, if_pos, if_neg, dr_s, tk_s, ck_m, nI_clamp, lt_ok, ss_ok, nI_add, pk_mul, sub_n, bd_ok, bv_ok, gs_ne, gs_eq]
    · simp (disch := omega) only [i0, i1, i2, i3, i4, i5, i6, i7, i8, mle, mlt, meq, if_pos, if_neg, dr_s, tk_s, ck_m, nI_clamp, lt_ok, ss_ok, nI_add, pk_mul, sub_n, bd_ok, bv_ok, gs_ne, gs_eq]
    · simp (disch := omega) only [i0, i1, i2, i3, i4, i5, i6, i7, i8, mle, mlt, meq, if_pos, if_neg, dr_s, tk_s, ck_m, nI_clamp, lt_ok, ss_ok, nI_add, pk_mul, sub_n, bd_ok, bv_ok, gs_ne, gs_eq]
    · simp (disch := omega) only [i0, i1, i2, i3, i4, i5, i6, i7, i8, mle, mlt, meq, if_pos, if_neg, dr_s, tk_s, ck_m, nI_clamp, lt_ok, ss_ok, nI_add, pk_mul, sub_n, bd_ok, bv_ok, gs_ne, gs_eq]; exact g2 x k q1
theorem c_fplace (hL : LMill E m N) (hT : T ≤ 6) (h1 : gi σ m 1 = nI T) {q : Nat → Nat} (hq : ∀ t, t < T - 1 → gi σ (m + 6) t = nI (q t) ∧ q t < 2 ^ 31) (hT3 : 3 ≤ T) : fX1_firstPlace E m σ = some (nI ((fstF (fun t => decide (0 < q t)) (T - 1)).getD 0), σ) := by
  obtain ⟨l0, l4, l10, l12, l13, l17, l18, l5, l6, a1, a2, a3, a4, a5, a7, a8, a9, ltp⟩ := id hL
  have body : ∀ i rec, i < T - 1 → bX1_firstPlace_2 E m rec (nI i) σ = if decide (0 < q i) = true then some (.inr (nI i), σ) else rec (nI (i + 1)) σ := by
    intro i rec hi
    obtain ⟨q1, q2⟩ := hq i hi
    unfold bX1_firstPlace_2
    rw [h1, i1, sub_n (by omega), if_neg (nI_ge hi (by omega)), dr_ok l17 a5.1, dr_ok a5.2.1 a5.2.2.1, a5.2.2.2, ck_n (by omega) (by omega), nI_clamp (by omega), q1, lt_ok, nI_add]
    by_cases hz : q i = 0
    · rw [hz, if_pos (show nI 0 ≤ 0 by decide), if_neg (by simp)]
    · rw [if_neg (nI_nle (by omega) (by omega)), if_pos (by simp; omega)]
  unfold fX1_firstPlace
  rw [tk_ok l0]
  cases hf : fstF (fun t => decide (0 < q t)) (T - 1) with
  | some e =>
    obtain ⟨q1, q2, q3⟩ := fstF_some hf
    refine bd_tr (Sum.inr (nI e), σ) e (fun i => (nI i, σ)) (by show e < 1000000; omega) (fun i rec hi => ?_) (fun rec => ?_) rfl
    · dsimp only; rw [body i _ (by omega), if_neg (by rw [q3 i hi]; decide)]
    · dsimp only; rw [body e _ q1, if_pos q2]
  | none =>
    have q3 := fstF_none hf
    refine bd_tr (Sum.inl (nI (T - 1)), σ) (T - 1) (fun i => (nI i, σ)) (by show T - 1 < 1000000; omega) (fun i rec hi => ?_) (fun rec => ?_) rfl
    · dsimp only; rw [body i _ (by omega), if_neg (by rw [q3 i hi]; decide)]
    · unfold bX1_firstPlace_2
      dsimp only
      rw [h1, i1, sub_n (by omega), if_pos (nI_le (Nat.le_refl _) (by omega))]
theorem bst_tr {pf d : Nat → Nat} : ∀ {n : Nat}, bst pf d true n = fstF (fun t => decide (0 < pf t - d t)) n
  | 0 => rfl
  | n + 1 => by
    unfold bst fstF
    rw [bst_tr]
    cases fstF (fun t => decide (0 < pf t - d t)) n with
    | some b => simp
    | none =>
      dsimp only
      by_cases h : d n < pf n
      · rw [if_pos h, if_pos (by simp; omega)]
      · rw [if_neg h, if_neg (by simp; omega)]
theorem bst_none' {pf d : Nat → Nat} {fr : Bool} : ∀ {n : Nat}, (∀ t, t < n → pf t ≤ d t) → bst pf d fr n = none
  | 0, _ => rfl
  | n + 1, h => by
    unfold bst
    rw [bst_none' (fun t ht => h t (by omega))]
    dsimp only
    have := h n (by omega)
    rw [if_neg (by omega)]
theorem c_fewest (hL : LMill E m N) (hT : T ≤ 6) (h1 : gi σ m 1 = nI T) {pf d : Nat → Nat} (hq : ∀ t, t < T - 1 → gi σ (m + 6) t = nI (pf t - d t) ∧ pf t - d t < 2 ^ 31) (hd : ∀ t, t < T - 1 → gi σ (m + 7) t = nI (d t) ∧ d t < 2 ^ 31) (hT3 : 3 ≤ T) {b : Nat} (hb : bst pf d false (T - 1) = some b) : fX1_fewestBlanks E m σ = some (nI b, σ) := by
  obtain ⟨l0, l4, l10, l12, l13, l17, l18, l5, l6, a1, a2, a3, a4, a5, a7, a8, a9, ltp⟩ := id hL
  unfold fX1_fewestBlanks
  rw [tk_ok l0, c_fplace hL hT h1 hq hT3, bd_ok, lt_ok, ad1]
  cases hf : fstF (fun t => decide (0 < pf t - d t)) (T - 1) with
  | none =>
    exfalso
    have q3 := fstF_none hf
    have := bst_none' (pf := pf) (d := d) (fr := false) (n := T - 1) (fun t ht => by have := q3 t ht; simp only [decide_eq_false_iff_not] at this; omega)
    rw [hb] at this; cases this
  | some e =>
    obtain ⟨q1, q2, q3⟩ := fstF_some hf
    simp only [decide_eq_true_eq] at q2
    show bd (fx _ FU ((nI e, nI (e + 1)), σ)) _ = _
    have h0 : bst pf d false (e + 1) = some e := by
      unfold bst
      rw [bst_none' (fun t ht => by have := q3 t ht; simp only [decide_eq_false_iff_not] at this; omega)]
      dsimp only
      rw [if_pos (by omega)]
    have hsm : ∀ i, e + 1 + i ≤ T - 1 → ∃ c, bst pf d false (e + 1 + i) = some c := by
      intro i
      induction i with
      | zero => intro _; exact ⟨e, h0⟩
      | succ i ih =>
        intro hi
        obtain ⟨c, hc⟩ := ih (by omega)
        show ∃ c', bst pf d false (e + 1 + i + 1) = some c'
        unfold bst
        rw [hc]
        dsimp only
        split
        · exact ⟨_, rfl⟩
        · exact ⟨_, rfl⟩
    refine bd_tr ((nI b, nI (T - 1)), σ) (T - 1 - (e + 1)) (fun i => ((nI ((bst pf d false (e + 1 + i)).getD 0), nI (e + 1 + i)), σ)) (by show T - 1 - (e + 1) < 1000000; omega) (fun i rec hi => ?_) (fun rec => ?_) (by rw [Nat.add_zero, h0]; rfl)
    · obtain ⟨c, hc⟩ := hsm i (by omega)
      obtain ⟨c1, c2⟩ := bst_some hc
      obtain ⟨p1, p2⟩ := hq (e + 1 + i) (by omega)
      obtain ⟨p3, p4⟩ := hd (e + 1 + i) (by omega)
      obtain ⟨p5, p6⟩ := hd c (by omega)
      have hn : bst pf d false (e + 1 + (i + 1)) = if d (e + 1 + i) < pf (e + 1 + i) ∧ d (e + 1 + i) < d c then some (e + 1 + i) else some c := by
        show bst pf d false (e + 1 + i + 1) = _
        unfold bst
        rw [hc]
        simp
      dsimp only
      rw [hc, Option.getD_some]
      unfold bX1_fewestBlanks_9
      rw [h1, i1, sub_n (by omega), if_neg (nI_ge (by omega) (by omega)), dr_ok l17 a5.1, dr_ok a5.2.1 a5.2.2.1, a5.2.2.2, ck_n (by omega) (by omega), nI_clamp (by omega), p1]
      by_cases hz : pf (e + 1 + i) - d (e + 1 + i) = 0
      · rw [hz, if_pos (show nI 0 ≤ 0 by decide), bd_ok, lt_ok, nI_add, hn, if_neg (by omega)]; rfl
      · rw [if_neg (nI_nle (by omega) (by omega)), dr_ok l18 a7.1, a7.2, ck_n (by omega) (by omega), ck_n (by omega) (by omega), nI_clamp (by omega), p3, p5]
        by_cases hz2 : d c ≤ d (e + 1 + i)
        · rw [if_pos (nI_le hz2 (by omega)), bd_ok, lt_ok, nI_add, hn, if_neg (by omega)]; rfl
        · rw [if_neg (nI_ge (by omega) (by omega)), bd_ok, lt_ok, nI_add, hn, if_pos (by omega)]; rfl
    · unfold bX1_fewestBlanks_9
      dsimp only
      rw [show e + 1 + (T - 1 - (e + 1)) = T - 1 by omega, hb, h1, i1, sub_n (by omega), if_pos (nI_le (Nat.le_refl _) (by omega))]; rfl
theorem c_most (hL : LMill E m N) (hT : T ≤ 6) (h1 : gi σ m 1 = nI T) {q : Nat → Nat} (hq : ∀ t, t < T - 1 → gi σ (m + 6) t = nI (q t) ∧ q t < 2 ^ 31) (hT3 : 3 ≤ T) : fX1_mostPlaces E m σ = some (nI (amx q (T - 2)), σ) := by
  obtain ⟨l0, l4, l10, l12, l13, l17, l18, l5, l6, a1, a2, a3, a4, a5, a7, a8, a9, ltp⟩ := id hL
  unfold fX1_mostPlaces
  rw [tk_ok l0]
  refine bd_tr ((nI (amx q (T - 2)), nI (T - 1)), σ) (T - 2) (fun i => ((nI (amx q i), nI (i + 1)), σ)) (by show T - 2 < 1000000; omega) (fun i rec hi => ?_) (fun rec => ?_) rfl
  · have hle := amx_le q i
    obtain ⟨p1, p2⟩ := hq (i + 1) (by omega)
    obtain ⟨p3, p4⟩ := hq (amx q i) (by omega)
    dsimp only
    unfold bX1_mostPlaces_4
    rw [h1, i1, sub_n (by omega), if_neg (nI_ge (by omega) (by omega)), dr_ok l17 a5.1, dr_ok a5.2.1 a5.2.2.1, a5.2.2.2, ck_n (by omega) (by omega), ck_n (by omega) (by omega), nI_clamp (by omega), nI_clamp (by omega), p1, p3]
    show _ = rec ((nI (if q (amx q i) < q (i + 1) then i + 1 else amx q i), _), _)
    by_cases hc : q (i + 1) ≤ q (amx q i)
    · rw [if_pos (nI_le hc p4), bd_ok, lt_ok, nI_add, if_neg (by omega)]
    · rw [if_neg (nI_ge (by omega) p2), bd_ok, lt_ok, nI_add, if_pos (by omega)]
  · unfold bX1_mostPlaces_4
    dsimp only
    rw [h1, i1, sub_n (by omega), show T - 2 + 1 = T - 1 by omega, if_pos (nI_le (Nat.le_refl _) (by omega))]
def pshn (bk : Bool) (d : Nat) (l : List Rn) : List Rn := if bk then List.replicate d dum ++ l else l ++ List.replicate d dum
theorem pshn_s {d : Nat} {l : List Rn} : psh bk dum (pshn bk d l) = pshn bk (d + 1) l := by
  unfold psh pshn
  cases bk
  · simp [List.replicate_succ']
  · simp [List.replicate_succ]
theorem pshn_len {d : Nat} {l : List Rn} : (pshn bk d l).length = l.length + d := by
  unfold pshn; cases bk <;> simp <;> omega
theorem c_blanks (hL : LMill E m N) (hT : T ≤ 6) (hT3 : 3 ≤ T) (h1 : gi σ m 1 = nI T) (h : TQ σ m bk tp) {d : Nat → Nat} (hd : ∀ t, t < T - 1 → gi σ (m + 7) t = nI (d t)) (hc : ∀ t, t < T - 1 → (tp t).length + d t ≤ 256) : ∃ s, fX1_writeBlanks E m σ = some s ∧ TQ s m bk (fun t => if t < T - 1 then pshn bk (d t) (tp t) else tp t) ∧ ∀ x k, ¬ (m + 10 ≤ x ∧ x < m + 22) → gi s x k = gi σ x k := by
  obtain ⟨l0, l4, l10, l12, l13, l17, l18, l5, l6, a1, a2, a3, a4, a5, a7, a8, a9, ltp⟩ := id hL
  unfold fX1_writeBlanks
  rw [tk_ok l0]
  refine bd_in (T - 1) (fun i b => b.1 = nI i ∧ TQ b.2 m bk (fun t => if t < i then pshn bk (d t) (tp t) else tp t) ∧ ∀ x k, ¬ (m + 10 ≤ x ∧ x < m + 22) → gi b.2 x k = gi σ x k) (fun b => TQ b.2 m bk (fun t => if t < T - 1 then pshn bk (d t) (tp t) else tp t) ∧ ∀ x k, ¬ (m + 10 ≤ x ∧ x < m + 22) → gi b.2 x k = gi σ x k) (by show T - 1 < 1000000; omega) ⟨rfl, tq_congr h (fun t _ => by rw [if_neg (by omega)]), fun _ _ _ => rfl⟩ ?_ ?_ (fun v s q => ⟨s, rfl, q⟩)
  · rintro i ⟨v, s⟩ rec hi ⟨rfl, g1, g2⟩
    dsimp only at g1 g2 ⊢
    obtain ⟨lt1, lt2⟩ := ltp i (by omega)
    have hci := hc i hi
    unfold bX1_writeBlanks_2
    rw [g2 m 1 (by omega), h1, i1, sub_n (by omega), if_neg (nI_ge hi (by omega))]
    obtain ⟨⟨v, s2⟩, e2, q1, q2⟩ := for_in (F := fun (rec : Int32 × Sg → Option (Int32 × Sg)) (a : Int32 × Sg) => bX1_writeBlanks_14 E m (nI i) (fun u0 t => rec (u0, t)) a.1 a.2) (d i) (fun j b => b.1 = nI j ∧ TQ b.2 m bk (fun t => if t < i then pshn bk (d t) (tp t) else if t = i then pshn bk j (tp t) else tp t) ∧ ∀ x k, ¬ (m + 10 ≤ x ∧ x < m + 22) → gi b.2 x k = gi σ x k) (fun b => TQ b.2 m bk (fun t => if t < i then pshn bk (d t) (tp t) else if t = i then pshn bk (d i) (tp t) else tp t) ∧ ∀ x k, ¬ (m + 10 ≤ x ∧ x < m + 22) → gi b.2 x k = gi σ x k) (N := FU) (by show d i < 1000000; omega)
      (by
        rintro j ⟨v, s3⟩ rec hj ⟨rfl, w1, w2⟩
        dsimp only at w1 w2 ⊢
        obtain ⟨s4, e4, z1, z2⟩ := tq_write hL w1 (t := i) (by omega) dum (by
          show (if i < i then _ else if i = i then pshn bk j (tp i) else _ : List Rn).length < 256
          rw [if_neg (by omega), if_pos rfl, pshn_len]; omega)
        unfold bX1_writeBlanks_14
        rw [dr_ok l18 a7.1, a7.2, ck_n (by omega) (by omega), nI_clamp (by omega), w2 _ _ (by omega), hd i hi, if_neg (nI_ge hj (by omega)), dr_ok l4 a1.1, a1.2, ck_n (by omega) (by omega), dr_ok lt1 lt2.1]
        rw [show idI dum.1 = -1 from rfl] at e4
        rw [e4, bv_ok, lt_ok, ad1]
        refine ⟨_, rfl, rfl, tq_congr z1 (fun t ht => ?_), fun x k hx => by dsimp only; rw [z2 _ _ hx]; exact w2 x k hx⟩
        by_cases hti : t = i
        · subst hti
          rw [if_pos rfl, if_neg (by omega), if_pos rfl, if_neg (by omega), if_pos rfl, pshn_s]
        · rw [if_neg hti, if_neg hti, if_neg hti])
      (by
        rintro ⟨v, s3⟩ rec ⟨rfl, w1, w2⟩
        dsimp only at w1 w2 ⊢
        unfold bX1_writeBlanks_14
        rw [dr_ok l18 a7.1, a7.2, ck_n (by omega) (by omega), nI_clamp (by omega), w2 _ _ (by omega), hd i hi, if_pos (nI_le (Nat.le_refl _) (by omega))]
        exact ⟨_, rfl, w1, w2⟩)
      (a := ((0 : Int32), s)) ⟨rfl, tq_congr g1 (fun t ht => by
        by_cases hti : t = i
        · subst hti; rw [if_neg (by omega), if_neg (by omega), if_pos rfl]; unfold pshn; cases bk <;> simp
        · rw [if_neg hti]), g2⟩
    rw [i0] at *
    rw [e2, bd_ok, lt_ok, nI_add]
    refine ⟨_, rfl, rfl, tq_congr q1 (fun t ht => ?_), q2⟩
    by_cases hti : t = i
    · subst hti; rw [if_neg (by omega), if_pos rfl, if_pos (by omega)]
    · rw [if_neg hti]
      by_cases hlt : t < i
      · rw [if_pos hlt, if_pos (by omega)]
      · rw [if_neg hlt, if_neg (by omega)]
  · rintro ⟨v, s⟩ rec ⟨rfl, g1, g2⟩
    dsimp only at g1 g2 ⊢
    unfold bX1_writeBlanks_2
    rw [g2 m 1 (by omega), h1, i1, sub_n (by omega), if_pos (nI_le (Nat.le_refl _) (by omega))]
    exact ⟨_, rfl, g1, g2⟩
end DL
end
section
/-! the class deals by perfect numbers; a mill is laid out -/
section DN
variable {E : En} {m N w T nr l : Nat} {σ : Sg} {bk fr tu : Bool} {gl : Nat → Nat} {tp : Nat → List Rn}
theorem sumF_sub {f g : Nat → Nat} : ∀ {n : Nat}, (∀ t, t < n → g t ≤ f t) → sumF (fun t => f t - g t) n + sumF g n = sumF f n
  | 0, _ => rfl
  | n + 1, h => by
    have ih := sumF_sub (f := f) (g := g) (n := n) (fun t ht => h t (by omega))
    have := h n (by omega)
    unfold sumF
    omega
theorem pfA_sum : sumF (pfA w T l) (T - 1) = smp w (T - 1) l := by
  unfold smp
  refine sumF_congr (fun t ht => ?_)
  unfold pfA
  rw [if_pos ht]
theorem c_numbers (hL : LMill E m N) (h : LD σ m w T bk nr gl tu) (hN5 : NU σ (m + 5) (T - 1) (pfn w (T - 1) l) l) (hT : T ≤ 6) (hT3 : 3 ≤ T) (hn : nr ≤ N) (hN : N ≤ 700) (hnr : nr ≤ smp w (T - 1) l) (hcap : ∀ t, t < T - 1 → pfA w T l t ≤ 256) :
    ∃ s, fX1_dealByNumbers E m (bI fr) σ = some s ∧ TQ s m bk (tpi bk tu (dms (pfA w T l) fr (T - 1) (smp w (T - 1) l - nr)) (dlt (fun t => pfA w T l t - dms (pfA w T l) fr (T - 1) (smp w (T - 1) l - nr) t) (T - 1) nr)) ∧ gi s m 8 = nI (smp w (T - 1) l) ∧ gi s m 9 = nI (T - 1) ∧ gi s (m + 3) 4 = nI (smp w (T - 1) l - nr) ∧ gi s (m + 3) 5 = nI l ∧ ∀ x k, ¬ (m + 5 ≤ x ∧ x ≤ m + 7) → ¬ (m + 10 ≤ x ∧ x < m + 22) → ¬ (x = m ∧ (k = 8 ∨ k = 9)) → ¬ (x = m + 3 ∧ (k = 4 ∨ k = 5)) → gi s x k = gi σ x k := by
  obtain ⟨l0, l4, l10, l12, l13, l17, l18, l5, l6, a1, a2, a3, a4, a5, a7, a8, a9, ltp⟩ := id hL
  obtain ⟨⟨b0, b1, b2, b3, b7⟩, h2, h3, h4, h5⟩ := h
  have hsum := pfA_sum (w := w) (T := T) (l := l)
  have hsm : smp w (T - 1) l ≤ 1280 := by
    rw [← hsum]
    have : ∀ n, n ≤ T - 1 → sumF (pfA w T l) n ≤ 256 * n := by
      intro n
      induction n with
      | zero => intro _; exact Nat.zero_le _
      | succ n ih => intro hn'; have h1 := ih (by omega); have h2 := hcap n (by omega); show sumF _ n + _ ≤ _; rw [Nat.mul_succ]; omega
    have := this (T - 1) (Nat.le_refl _)
    omega
  generalize hpf : pfA w T l = pf at *
  have hat : ∀ t, t < T - 1 → gi σ (m + 6) t = nI (pf t) := fun t ht => by
    rw [hN5.2.2 t ht, ← hpf]; unfold pfA; rw [if_pos ht]
  generalize hSm : smp w (T - 1) l = sm at *
  unfold fX1_dealByNumbers
  rw [tk_ok l0, dr_ok l17 a5.1, n_tog a5 (by omega) hN5, bd_ok]
  rw [show sumF (fun t => (pfn w (T - 1) l).getD t 0) (T - 1) = sm from hSm, ss_ok, dr_ok l12 a3.1, a3.2, i5, ck_n (by omega) (by omega), nI_clamp (by omega), ss_ok, i4, ck_n (by omega) (by omega), nI_clamp (by omega), ss_ok]
  rw [gs_ne (by omega), hN5.2.1, gs_ne (by omega), gs_eq, gs_ne (by omega), gs_ne (by omega), b7, sub_n hnr]
  generalize hs1 : si (si (si σ m 8 (nI sm)) (m + 3) 5 (nI l)) (m + 3) 4 (nI (sm - nr)) = s1
  have f1 : ∀ x k, ¬ (x = m ∧ k = 8) → ¬ (x = m + 3 ∧ (k = 4 ∨ k = 5)) → gi s1 x k = gi σ x k := fun x k q1 q2 => by rw [← hs1]; simp (disch := omega) only [i0, i1, i2, i3, i4, i5, i6, i7, i8, mle, mlt, meq, if_pos, if_neg, dr_s, tk_s, ck_m, nI_clamp, lt_ok, ss_ok, nI_add, pk_mul, sub_n, bd_ok, bv_ok, gs_ne, gs_eq]
  have f18 : gi s1 m 8 = nI sm := by rw [← hs1]; simp (disch := omega) only [i0, i1, i2, i3, i4, i5, i6, i7, i8, mle, mlt, meq, if_pos, if_neg, dr_s, tk_s, ck_m, nI_clamp, lt_ok, ss_ok, nI_add, pk_mul, sub_n, bd_ok, bv_ok, gs_ne, gs_eq]
  have f14 : gi s1 (m + 3) 4 = nI (sm - nr) := by rw [← hs1]; simp (disch := omega) only [i0, i1, i2, i3, i4, i5, i6, i7, i8, mle, mlt, meq, if_pos, if_neg, dr_s, tk_s, ck_m, nI_clamp, lt_ok, ss_ok, nI_add, pk_mul, sub_n, bd_ok, bv_ok, gs_ne, gs_eq]
  have f15 : gi s1 (m + 3) 5 = nI l := by rw [← hs1]; simp (disch := omega) only [i0, i1, i2, i3, i4, i5, i6, i7, i8, mle, mlt, meq, if_pos, if_neg, dr_s, tk_s, ck_m, nI_clamp, lt_ok, ss_ok, nI_add, pk_mul, sub_n, bd_ok, bv_ok, gs_ne, gs_eq]
  generalize hD : sm - nr = D at *
  have hDle : D ≤ sumF pf (T - 1) := by omega
  refine bd_in D (fun i b => b.1 = nI i ∧ (∀ t, t < T - 1 → gi b.2 (m + 6) t = nI (pf t - dms pf fr (T - 1) i t)) ∧ (∀ t, t < T - 1 → gi b.2 (m + 7) t = nI (dms pf fr (T - 1) i t)) ∧ ∀ x k, x ≠ m + 6 → x ≠ m + 7 → gi b.2 x k = gi s1 x k)
    (fun b => (∀ t, t < T - 1 → gi b.2 (m + 6) t = nI (pf t - dms pf fr (T - 1) D t)) ∧ (∀ t, t < T - 1 → gi b.2 (m + 7) t = nI (dms pf fr (T - 1) D t)) ∧ ∀ x k, x ≠ m + 6 → x ≠ m + 7 → gi b.2 x k = gi s1 x k) (by show D < 1000000; omega) ⟨rfl, fun t ht => ?_, fun t ht => ?_, fun _ _ _ _ => rfl⟩ ?_ ?_ ?_
  · rw [f1 _ _ (by omega) (by omega), hat t ht]; rfl
  · rw [f1 _ _ (by omega) (by omega), h3 t (by omega)]; rfl
  · rintro i ⟨v, s⟩ rec hi ⟨rfl, g1, g2, g3⟩
    dsimp only at g1 g2 g3 ⊢
    obtain ⟨d1, d2, d3, d4⟩ := dms_ok (pf := pf) (fr := fr) (k := T - 1) (n := i) (by omega)
    obtain ⟨b, hb⟩ := d4 (by omega)
    obtain ⟨hb1, hb2⟩ := bst_some hb
    have hm1 : gi s m 1 = nI T := by rw [g3 _ _ (by omega) (by omega), f1 _ _ (by omega) (by omega)]; exact b1
    have hq6 : ∀ t, t < T - 1 → gi s (m + 6) t = nI (pf t - dms pf fr (T - 1) i t) ∧ pf t - dms pf fr (T - 1) i t < 2 ^ 31 := fun t ht => ⟨g1 t ht, by have := hcap t ht; omega⟩
    have hq7 : ∀ t, t < T - 1 → gi s (m + 7) t = nI (dms pf fr (T - 1) i t) ∧ dms pf fr (T - 1) i t < 2 ^ 31 := fun t ht => ⟨g2 t ht, by have := hcap t ht; have := d2 t ht; omega⟩
    have hsel : (if bI fr = 0 then (bd (fX1_fewestBlanks E m s) (fun r22 s20 => some (r22, s20))) else (bd (fX1_firstPlace E m s) (fun r25 s23 => some (r25, s23)))) = some (nI b, s) := by
      cases hfr : fr with
      | false => rw [hfr] at hq6 hq7 hb; rw [if_pos (by rfl), c_fewest hL hT hm1 hq6 hq7 hT3 hb, bd_ok]
      | true => rw [hfr] at hq6 hq7 hb; rw [if_neg (by decide), c_fplace hL hT hm1 hq6 hT3, bd_ok, ← bst_tr, hb]; rfl
    have hcb := hcap b hb1
    unfold bX1_dealByNumbers_41
    rw [a3.2, i4, ck_n (by omega) (by omega), nI_clamp (by omega), g3 _ _ (by omega) (by omega), f14, if_neg (nI_ge hi (by omega)), hsel, bd_ok, dr_ok l18 a7.1, a7.2, ck_n (by omega) (by omega), ck_n (by omega) (by omega), nI_clamp (by omega), ss_ok, dr_ok a5.2.1 a5.2.2.1, a5.2.2.2, ck_n (by omega) (by omega), ck_n (by omega) (by omega), ss_ok, lt_ok, ad1, gs_ne (by omega), g1 b hb1, g2 b hb1, ad1, i1, sub_n (by omega)]
    have hnx : dms pf fr (T - 1) (i + 1) = inc (dms pf fr (T - 1) i) b := by show inc _ _ = _; rw [hb]; rfl
    refine ⟨_, rfl, rfl, fun t ht => ?_, fun t ht => ?_, fun x k q1 q2 => ?_⟩
    · dsimp only
      rw [hnx]; unfold inc
      by_cases htb : t = b
      · subst htb; rw [if_pos rfl, gs_eq]; congr 1
      · rw [if_neg htb]; simp (disch := omega) only [i0, i1, i2, i3, i4, i5, i6, i7, i8, mle, mlt, meq, if_pos, if_neg, dr_s, tk_s, ck_m, nI_clamp, lt_ok, ss_ok, nI_add, pk_mul, sub_n, bd_ok, bv_ok, gs_ne, gs_eq]; exact g1 t ht
    · dsimp only
      rw [hnx]; unfold inc
      by_cases htb : t = b
      · subst htb; rw [if_pos rfl, gs_ne (by omega), gs_eq]
      · rw [if_neg htb]; simp (disch := omega) only [i0, i1, i2, i3, i4, i5, i6, i7, i8, mle, mlt, meq, if_pos, if_neg, dr_s, tk_s, ck_m, nI_clamp, lt_ok, ss_ok, nI_add, pk_mul, sub_n, bd_ok, bv_ok, gs_ne, gs_eq]; exact g2 t ht
    · dsimp only; simp (disch := omega) only [i0, i1, i2, i3, i4, i5, i6, i7, i8, mle, mlt, meq, if_pos, if_neg, dr_s, tk_s, ck_m, nI_clamp, lt_ok, ss_ok, nI_add, pk_mul, sub_n, bd_ok, bv_ok, gs_ne, gs_eq]; exact g3 x k q1 q2
  · rintro ⟨v, s⟩ rec ⟨rfl, g1, g2, g3⟩
    dsimp only at g1 g2 g3 ⊢
    unfold bX1_dealByNumbers_41
    rw [a3.2, i4, ck_n (by omega) (by omega), nI_clamp (by omega), g3 _ _ (by omega) (by omega), f14, if_pos (nI_le (Nat.le_refl _) (by omega))]
    exact ⟨_, rfl, g1, g2, g3⟩
  · rintro v s2 ⟨g1, g2, g3⟩
    dsimp only at g1 g2 g3
    obtain ⟨d1, d2, d3, d4⟩ := dms_ok (pf := pf) (fr := fr) (k := T - 1) (n := D) hDle
    generalize hd : dms pf fr (T - 1) D = d at *
    have hps : sumF (fun t => pf t - d t) (T - 1) = nr := by have := sumF_sub (f := pf) (g := d) (n := T - 1) d2; omega
    have f2 : ∀ x k, x ≠ m + 6 → x ≠ m + 7 → ¬ (x = m ∧ k = 8) → ¬ (x = m + 3 ∧ (k = 4 ∨ k = 5)) → gi s2 x k = gi σ x k := fun x k q1 q2 q3 q4 => by rw [g3 _ _ q1 q2, f1 _ _ q3 q4]
    have hTQ0 : TQ s2 m bk (fun _ => []) := fun t ht => by
      obtain ⟨q1, q2⟩ := h2 t ht
      exact ⟨by rw [f2 _ _ (by omega) (by omega) (by omega) (by omega)]; exact q1, by rw [f2 _ _ (by omega) (by omega) (by omega) (by omega)]; exact q2, Nat.le_refl _, by simp, rfl, fun k hk => absurd hk (Nat.not_lt_zero k)⟩
    have hm1 : gi s2 m 1 = nI T := by rw [f2 _ _ (by omega) (by omega) (by omega) (by omega)]; exact b1
    have hm3 : gi s2 m 3 = bI bk := by rw [f2 _ _ (by omega) (by omega) (by omega) (by omega)]; exact b3
    obtain ⟨s3, e3, t3, f3⟩ : ∃ s3, (if ¬ (gi s2 m 3) = 0 then (some ((), s2)) else (bv (fX1_writeBlanks E m s2) (fun s39 => some ((), s39)))) = some ((), s3) ∧ TQ s3 m bk (fun t => tq bk tu (d t) []) ∧ ∀ x k, ¬ (m + 10 ≤ x ∧ x < m + 22) → gi s3 x k = gi s2 x k := by
      rw [hm3]
      cases hbk : bk with
      | true =>
        rw [if_pos (by decide)]
        exact ⟨s2, rfl, by rw [hbk] at hTQ0; exact hTQ0, fun _ _ _ => rfl⟩
      | false =>
        rw [hbk] at hTQ0
        obtain ⟨s3, e3, t3, f3⟩ := c_blanks hL hT hT3 hm1 hTQ0 (d := d) g2 (fun t ht => by have := hcap t ht; have := d2 t ht; simp; omega)
        rw [if_neg (by decide), e3, bv_ok]
        refine ⟨s3, rfl, tq_congr t3 (fun t ht => ?_), f3⟩
        by_cases htk : t < T - 1
        · rw [if_pos htk]; unfold pshn tq; simp
        · rw [if_neg htk, d3 t (by omega)]; rfl
    rw [e3, bd_ok]
    have g1' : ∀ t, t < T - 1 → gi s3 (m + 6) t = nI (pf t - d t) := fun t ht => by rw [f3 _ _ (by omega)]; exact g1 t ht
    have h37 : gi s3 m 7 = nI nr := by rw [f3 _ _ (by omega), f2 _ _ (by omega) (by omega) (by omega) (by omega)]; exact b7
    have h31 : gi s3 m 1 = nI T := by rw [f3 _ _ (by omega)]; exact hm1
    generalize hp : (fun t => pf t - d t) = p at *
    have hpt : ∀ t, pf t - d t = p t := fun t => by rw [← hp]
    refine bd_in nr (fun r b => b.1 = nI r ∧ TQ b.2 m bk (fun t => tq bk tu (d t) (dlt p (T - 1) r t)) ∧ (∀ t, t < T - 1 → gi b.2 (m + 6) t = nI (p t - (dlt p (T - 1) r t).length)) ∧ ∀ x k, ¬ (m + 10 ≤ x ∧ x < m + 22) → x ≠ m + 6 → gi b.2 x k = gi s3 x k)
      (fun b => TQ b.2 m bk (fun t => tq bk tu (d t) (dlt p (T - 1) nr t)) ∧ ∀ x k, ¬ (m + 10 ≤ x ∧ x < m + 22) → x ≠ m + 6 → gi b.2 x k = gi s3 x k) (by show nr < 1000000; omega) ⟨rfl, t3, fun t ht => by rw [g1' t ht, hpt]; rfl, fun _ _ _ _ => rfl⟩ ?_ ?_ ?_
    · rintro r ⟨v, s⟩ rec hr ⟨rfl, q1, q2, q3⟩
      dsimp only at q1 q2 q3 ⊢
      obtain ⟨r1, r2, r3, r4⟩ := dlt_ok (p := p) (k := T - 1) (by omega) (r := r) (by omega)
      have r4 := r4 (by omega)
      have hmost := c_most (σ := s) hL hT (by rw [q3 _ _ (by omega) (by omega)]; exact h31) (q := fun u => p u - (dlt p (T - 1) r u).length) (fun t ht => ⟨q2 t ht, by have := hcap t ht; rw [← hpt]; omega⟩) hT3
      rw [show T - 1 - 1 = T - 2 by omega] at r4
      generalize hb : amx (fun u => p u - (dlt p (T - 1) r u).length) (T - 2) = b at *
      have hbk' : b < T - 1 := by have := amx_le (fun u => p u - (dlt p (T - 1) r u).length) (T - 2); omega
      have hcb := hcap b hbk'
      have hdb := d2 b hbk'
      have hpb := hpt b
      obtain ⟨lt1, lt2⟩ := ltp b (by omega)
      obtain ⟨s4, e4, w1, w2⟩ := tq_write hL q1 (t := b) (by omega) (rnj tu r) (by rw [tq_len]; split <;> omega)
      rw [show idI (rnj tu r).1 = nI r from rfl] at e4
      unfold bX1_dealByNumbers_109
      rw [q3 _ _ (by omega) (by omega), h37, if_neg (nI_ge hr (by omega)), hmost, bd_ok, dr_ok l4 a1.1, a1.2, ck_n (by omega) (by omega), nI_clamp (by omega), dr_ok lt1 lt2.1, e4, bv_ok, dr_ok a5.2.1 a5.2.2.1, a5.2.2.2, ck_n (by omega) (by omega), ck_n (by omega) (by omega), w2 _ _ (by omega), q2 b hbk', i1, sub_n (by omega), ss_ok, lt_ok, nI_add]
      have hnx : ∀ t, dlt p (T - 1) (r + 1) t = if t = b then dlt p (T - 1) r t ++ [r] else dlt p (T - 1) r t := fun t => by
        show (if t = amx (fun u => p u - (dlt p (T - 1) r u).length) (T - 1 - 1) then _ else _) = _
        rw [show T - 1 - 1 = T - 2 by omega, hb]
      refine ⟨_, rfl, rfl, tq_congr (tq_fr w1 (fun x k z1 z2 => gs_ne (by omega))) (fun t ht => ?_), fun t ht => ?_, fun x k z1 z2 => ?_⟩
      · rw [hnx]
        by_cases htb : t = b
        · rw [if_pos htb, if_pos htb, tq_psh]
        · rw [if_neg htb, if_neg htb]
      · dsimp only
        rw [hnx]
        by_cases htb : t = b
        · subst htb; rw [gs_eq, if_pos rfl, List.length_append, List.length_singleton]; congr 1
        · rw [if_neg htb, gs_ne (by omega), w2 _ _ (by omega)]; exact q2 t ht
      · dsimp only; rw [gs_ne (by omega), w2 _ _ z1]; exact q3 x k z1 z2
    · rintro ⟨v, s⟩ rec ⟨rfl, q1, q2, q3⟩
      dsimp only at q1 q2 q3 ⊢
      unfold bX1_dealByNumbers_109
      rw [q3 _ _ (by omega) (by omega), h37, if_pos (nI_le (Nat.le_refl _) (by omega))]
      exact ⟨_, rfl, q1, q3⟩
    · rintro v s4 ⟨q1, q3⟩
      dsimp only at q1 q3
      obtain ⟨r1, r2, r3, r4⟩ := dlt_ok (p := p) (k := T - 1) (by omega) (r := nr) (by omega)
      have h43 : gi s4 m 3 = bI bk := by rw [q3 _ _ (by omega) (by omega), f3 _ _ (by omega)]; exact hm3
      obtain ⟨s5, e5, t5, f5⟩ : ∃ s5, (if (gi s4 m 3) = 0 then (some ((), s4)) else (bv (fX1_writeBlanks E m s4) (fun s64 => some ((), s64)))) = some ((), s5) ∧ TQ s5 m bk (tpi bk tu d (dlt p (T - 1) nr)) ∧ ∀ x k, ¬ (m + 10 ≤ x ∧ x < m + 22) → gi s5 x k = gi s4 x k := by
        rw [h43]
        cases hbk : bk with
        | false =>
          rw [if_pos (by rfl)]
          refine ⟨s4, rfl, tq_congr (by rw [hbk] at q1; exact q1) (fun t ht => ?_), fun _ _ _ => rfl⟩
          unfold tq tpi; simp
        | true =>
          rw [hbk] at q1
          obtain ⟨s5, e5, t5, f5⟩ := c_blanks hL hT hT3 (by rw [q3 _ _ (by omega) (by omega)]; exact h31) q1 (d := d) (fun t ht => by rw [q3 _ _ (by omega) (by omega), f3 _ _ (by omega)]; exact g2 t ht) (fun t ht => by have := hcap t ht; have := d2 t ht; have := r2 t ht; have := hpt t; rw [tq_len]; simp; omega)
          rw [if_neg (by decide), e5, bv_ok]
          refine ⟨s5, rfl, tq_congr t5 (fun t ht => ?_), f5⟩
          by_cases htk : t < T - 1
          · rw [if_pos htk]; unfold pshn tq tpi; simp
          · rw [if_neg htk]; unfold tq tpi; rw [d3 t (by omega)]; simp
      rw [e5, bd_ok, ss_ok, f5 _ _ (by omega), q3 _ _ (by omega) (by omega), h31, i1, sub_n (by omega)]
      have f53 : ∀ x k, ¬ (m + 10 ≤ x ∧ x < m + 22) → x ≠ m + 6 → gi s5 x k = gi s2 x k := fun x k z1 z2 => by rw [f5 _ _ z1, q3 _ _ z1 z2, f3 _ _ z1]
      refine ⟨_, rfl, tq_fr t5 (fun x k z1 z2 => gs_ne (by omega)), ?_, gs_eq, ?_, ?_, fun x k z1 z2 z3 z4 => ?_⟩
      · rw [gs_ne (by omega), f53 _ _ (by omega) (by omega), g3 _ _ (by omega) (by omega)]; exact f18
      · rw [gs_ne (by omega), f53 _ _ (by omega) (by omega), g3 _ _ (by omega) (by omega)]; exact f14
      · rw [gs_ne (by omega), f53 _ _ (by omega) (by omega), g3 _ _ (by omega) (by omega)]; exact f15
      · rw [gs_ne (by omega), f53 _ _ z2 (by omega), f2 _ _ (by omega) (by omega) (by omega) z4]
theorem c_open2 (hL : LMill E m N) {to : Nat} (hT : T ≤ 6) (hto : to < 6) (h1 : gi σ m 1 = nI T) (h9 : gi σ m 9 = nI to) (h : TQ σ m bk tp) : ∃ s', fX1_openPass E m σ = some s' ∧ (∀ t, t < T → gi s' (m + 2) t = bI (!((tp t).length == 0) && !(t == to))) ∧ ∀ x k, x ≠ m + 2 → gi s' x k = gi σ x k := by
  obtain ⟨l0, l4, l10, l12, l13, l17, l18, l5, l6, a1, a2, a3, a4, a5, a7, a8, a9, ltp⟩ := id hL
  unfold fX1_openPass
  rw [tk_ok l0]
  refine bd_in T (fun i a => a.1 = nI i ∧ (∀ t, t < i → gi a.2 (m + 2) t = bI (!((tp t).length == 0) && !(t == to))) ∧ ∀ x k, x ≠ m + 2 → gi a.2 x k = gi σ x k)
    (fun a => (∀ t, t < T → gi a.2 (m + 2) t = bI (!((tp t).length == 0) && !(t == to))) ∧ ∀ x k, x ≠ m + 2 → gi a.2 x k = gi σ x k) (by show T < 1000000; omega) ⟨rfl, fun t ht => absurd ht (Nat.not_lt_zero t), fun _ _ _ => rfl⟩ ?_ ?_ (fun v s2 q => ⟨s2, rfl, q⟩)
  · rintro i ⟨v, s2⟩ rec hi ⟨rfl, f1, f2⟩
    dsimp only at f1 f2 ⊢
    obtain ⟨lt1, lt2⟩ := ltp i (by omega)
    obtain ⟨p1, p2, p3, p4, p5, p6⟩ := h i (by omega)
    unfold bX1_openPass_2
    rw [f2 _ _ (by omega), h1, if_neg (nI_ge hi (by omega)), dr_ok l10 a2.1, dr_ok l4 a1.1, a1.2, ck_n (by omega) (by omega), nI_clamp (by omega), dr_ok lt1 lt2.1, tape_size (σ := s2) lt2 (by rw [f2 _ _ (by omega)]; exact p1) (by rw [f2 _ _ (by omega)]; exact p2) p3, bd_ok, a2.2]
    have key : ∀ b, b = (!((tp i).length == 0) && !(i == to)) → ∃ a', ck (nI i) 6 (ss (si s2 (m + 2) i (vp_nar .boolean (bI b))) (fun s17 => lt (nI i + (1 : Int32)) (fun v18 => rec (v18, s17)))) = rec a' ∧ (a'.1 = nI (i + 1) ∧ (∀ t, t < i + 1 → gi a'.2 (m + 2) t = bI (!((tp t).length == 0) && !(t == to))) ∧ ∀ x k, x ≠ m + 2 → gi a'.2 x k = gi σ x k) := by
      intro b hb
      rw [ck_n (by omega) (by omega), ss_ok, lt_ok, ad1, nar_b]
      refine ⟨_, rfl, rfl, fun t ht => ?_, fun x k hx => ?_⟩
      · dsimp only
        by_cases hti : t = i
        · subst hti; rw [gs_eq, hb]
        · rw [gs_ne (by omega)]; exact f1 t (by omega)
      · dsimp only; rw [gs_ne (by omega)]; exact f2 x k hx
    by_cases hz : (tp i).length = 0
    · rw [show (tp i).length - 0 = 0 by omega, if_pos (by decide), bd_ok]
      exact key false (by rw [hz]; rfl)
    · have hz' : ((tp i).length == 0) = false := by simpa using hz
      rw [if_neg (nI_nle (by omega) (by omega)), f2 _ _ (by omega), h9]
      by_cases hq : i = to
      · rw [if_pos (by rw [← hq]), bd_ok]
        exact key false (by rw [hz', ← hq]; simp)
      · have hq' : (i == to) = false := by simpa using hq
        rw [if_neg (fun q => hq ((nI_eq (by omega) (by omega)).mp q)), bd_ok]
        exact key true (by rw [hz', hq']; rfl)
  · rintro ⟨v, s2⟩ rec ⟨rfl, f1, f2⟩
    dsimp only at f1 f2 ⊢
    unfold bX1_openPass_2
    rw [f2 _ _ (by omega), h1, if_pos (nI_le (Nat.le_refl _) (by omega))]
    exact ⟨_, rfl, f1, f2⟩
theorem c_layEnd (hL : LMill E m N) (hT : T ≤ 6) (hT3 : 3 ≤ T) (hn : nr ≤ N) (hN : N ≤ 700) (hb : MB σ m w T bk nr) (hq : TQ σ m bk tp) (h9 : gi σ m 9 = nI (to0 w T)) (h8 : gi σ m 8 = nI (sumF (fun t => (tp t).length) T)) (hD : ∀ t, t < T → ∀ r ∈ tp t, RD σ m gl nr r) (h3 : ∀ k, k < 4 → gi σ (m + 3) k = nI 0) :
    ∃ s, ss (si σ m 11 (1 : Int32)) (fun s10 => bv (fX1_openPass E m s10) (fun s11 => bv (fX1_turnLast E m s11) (fun s13 => some s13))) = some s ∧ RMl s m w T bk gl nr (tul gl T (tp, skI w T tp, 0, 0, 0, 0)) ∧ (∀ k, k = 4 ∨ k = 5 → gi s (m + 3) k = gi σ (m + 3) k) ∧ ∀ x k, (x < m ∨ m + 22 ≤ x) → gi s x k = gi σ x k := by
  obtain ⟨b0, b1, b2, b3, b7⟩ := hb
  have hto : to0 w T < 6 := by unfold to0; split <;> omega
  rw [ss_ok]
  obtain ⟨s1, e1, o1, f1⟩ := c_open2 (σ := si σ m 11 (1 : Int32)) hL hT hto (by rw [gs_ne (by omega)]; exact b1) (by rw [gs_ne (by omega)]; exact h9) (tq_fr hq (fun x k z1 z2 => gs_ne (by omega)))
  rw [e1, bv_ok]
  have f : ∀ x k, x ≠ m + 2 → ¬ (x = m ∧ k = 11) → gi s1 x k = gi σ x k := fun x k z1 z2 => by rw [f1 _ _ z1, gs_ne (by omega)]
  have hR : RMl s1 m w T bk gl nr (tp, skI w T tp, 0, 0, 0, 0) := by
    have hkc : ∀ t, t < T → kc (skI w T tp) t = (tp t).length := fun t ht => by show (tab (fun t => (tp t).length) T).getD t 0 = _; rw [tab_at ht]
    refine ⟨fun _ => 0, fun t => (tp t).length, ⟨⟨?_, ?_, ?_, ?_, ?_⟩, ⟨?_, ?_, fun t ht => ?_⟩, fun t ht => ?_, hkc⟩, fun t ht => Or.inl rfl, fun t ht r hr => ?_, ?_, ?_, ?_, ?_, ?_⟩
    · rw [f _ _ (by omega) (by omega)]; exact b0
    · rw [f _ _ (by omega) (by omega)]; exact b1
    · rw [f _ _ (by omega) (by omega)]; exact b2
    · rw [f _ _ (by omega) (by omega)]; exact b3
    · rw [f _ _ (by omega) (by omega)]; exact b7
    · rw [f _ _ (by omega) (by omega)]; exact h9
    · rw [f1 _ _ (by omega), gs_eq]; rfl
    · rw [o1 t ht]
      show _ = bI ((opn T (to0 w T) (tab (fun t => (tp t).length) T)).getD t false)
      unfold opn
      rw [tab_at ht, tab_at ht]
    · exact tp_fr (hq t ht) (fun k => f _ _ (by omega) (by omega)) (fun k => f _ _ (by omega) (by omega))
    · have := hD t ht r hr
      exact ⟨this.1, fun i l hz => by rw [f _ _ (by omega) (by omega), f _ _ (by omega) (by omega)]; exact this.2 i l hz⟩
    · rw [f _ _ (by omega) (by omega), h8]
      congr 1
      exact (sumF_congr (fun t ht => hkc t ht)).symm
    · rw [f _ _ (by omega) (by omega)]; exact h3 0 (by omega)
    · rw [f _ _ (by omega) (by omega)]; exact h3 1 (by omega)
    · rw [f _ _ (by omega) (by omega)]; exact h3 2 (by omega)
    · rw [f _ _ (by omega) (by omega)]; exact h3 3 (by omega)
  obtain ⟨s2, e2, r2, f2⟩ := c_turn hL hR hT hn hN
  rw [e2, bv_ok]
  exact ⟨s2, rfl, r2, fun k hk => by rw [f2 _ _ (by omega) (by omega), f _ _ (by omega) (by omega)], fun x k z => by rw [f2 _ _ (by omega) (by omega), f _ _ (by omega) (by omega)]⟩
end DN
end
section
/-! each run that grew is on one tape; a mill is laid out; steps on paper -/
theorem fstF_ex {p : Nat → Bool} {j : Nat} : ∀ {n : Nat}, j < n → p j = true → ∃ e, fstF p n = some e ∧ e ≤ j := by
  intro n hj hp
  cases hf : fstF p n with
  | none => rw [fstF_none hf j hj] at hp; cases hp
  | some e =>
    obtain ⟨q1, q2, q3⟩ := fstF_some hf
    refine ⟨e, rfl, ?_⟩
    by_cases h : j < e
    · rw [q3 j h] at hp; cases hp
    · omega
theorem sum0 : ∀ n, sumF (fun _ => 0) n = 0
  | 0 => rfl
  | n + 1 => by unfold sumF; rw [sum0 n]
theorem sum_add1 {f f' : Nat → Nat} {b c : Nat} (h : ∀ t, f' t = f t + if t = b then c else 0) : ∀ n, sumF f' n = sumF f n + if b < n then c else 0
  | 0 => rfl
  | n + 1 => by
    unfold sumF
    rw [sum_add1 h n, h n]
    by_cases h1 : n = b
    · subst h1; rw [if_neg (by omega), if_pos rfl, if_pos (by omega)]; omega
    · rw [if_neg h1]
      by_cases h2 : b < n
      · rw [if_pos h2, if_pos (by omega)]; omega
      · rw [if_neg h2, if_neg (by omega)]; omega
theorem cnt_single {j r : Nat} : [r].count j = if r = j then 1 else 0 := by
  rw [List.count_singleton]
  by_cases h : r = j
  · subst h; simp
  · rw [if_neg h]; simp [h]
theorem dlt_cnt {p : Nat → Nat} {k : Nat} (hk : 0 < k) (j : Nat) : ∀ r, sumF (fun t => (dlt p k r t).count j) k = if j < r then 1 else 0
  | 0 => sum0 k
  | r + 1 => by
    have ih := dlt_cnt (p := p) hk j r
    have hb : amx (fun u => p u - (dlt p k r u).length) (k - 1) < k := by have := amx_le (fun u => p u - (dlt p k r u).length) (k - 1); omega
    have := sum_add1 (f := fun t => (dlt p k r t).count j) (f' := fun t => (dlt p k (r + 1) t).count j) (b := amx (fun u => p u - (dlt p k r u).length) (k - 1)) (c := [r].count j) (fun t => by
      show (if t = amx (fun u => p u - (dlt p k r u).length) (k - 1) then dlt p k r t ++ [r] else dlt p k r t).count j = _
      split
      · rw [List.count_append]
      · rfl) k
    rw [this, ih, if_pos hb, cnt_single]
    by_cases h1 : j < r
    · rw [if_pos h1, if_neg (by omega), if_pos (by omega)]
    · rw [if_neg h1]
      by_cases h2 : r = j
      · rw [if_pos h2, if_pos (by omega)]
      · rw [if_neg h2, if_neg (by omega)]
theorem dlb_cnt {h : Nat} (hh : 0 < h) (j : Nat) {n : Nat} (hn : h ≤ n) : ∀ r, sumF (fun t => (dlb h r t).count j) n = if j < r then 1 else 0
  | 0 => sum0 n
  | r + 1 => by
    have ih := dlb_cnt hh j hn r
    have hb := Nat.mod_lt r hh
    have := sum_add1 (f := fun t => (dlb h r t).count j) (f' := fun t => (dlb h (r + 1) t).count j) (b := r % h) (c := [r].count j) (fun t => by
      show (if t = r % h then dlb h r t ++ [r] else dlb h r t).count j = _
      split
      · rw [List.count_append]
      · rfl) n
    rw [this, ih, if_pos (show r % h < n by omega), cnt_single]
    by_cases h1 : j < r
    · rw [if_pos h1, if_neg (by omega), if_pos (by omega)]
    · rw [if_neg h1]
      by_cases h2 : r = j
      · rw [if_pos h2, if_pos (by omega)]
      · rw [if_neg h2, if_neg (by omega)]
theorem dlb_sum {h : Nat} (hh : 0 < h) {n : Nat} (hn : h ≤ n) : ∀ r, sumF (fun t => (dlb h r t).length) n = r
  | 0 => sum0 n
  | r + 1 => by
    have ih := dlb_sum hh hn r
    have hb := Nat.mod_lt r hh
    have := sum_add1 (f := fun t => (dlb h r t).length) (f' := fun t => (dlb h (r + 1) t).length) (b := r % h) (c := 1) (fun t => by
      show (if t = r % h then dlb h r t ++ [r] else dlb h r t).length = _
      split
      · rw [List.length_append]; rfl
      · rfl) n
    rw [this, ih, if_pos (by omega)]
theorem occ_app {j : Nat} : ∀ {a b : List Rn}, occL j (a ++ b) = occL j a + occL j b
  | [], b => by simp [occL]
  | r :: a, b => by
    show r.1.count j + occL j (a ++ b) = r.1.count j + occL j a + occL j b
    rw [occ_app]; omega
theorem occ_rev {j : Nat} : ∀ {a : List Rn}, occL j a.reverse = occL j a
  | [] => rfl
  | r :: a => by
    rw [List.reverse_cons, occ_app, occ_rev]
    show _ + (r.1.count j + 0) = r.1.count j + occL j a
    omega
theorem occ_dum {j : Nat} : ∀ n, occL j (List.replicate n dum) = 0
  | 0 => rfl
  | n + 1 => by rw [List.replicate_succ]; show ([] : List Nat).count j + occL j _ = 0; rw [occ_dum n]; rfl
theorem occ_map {j : Nat} {tu : Bool} : ∀ {l : List Nat}, occL j (l.map (rnj tu)) = l.count j
  | [] => rfl
  | a :: l => by
    rw [List.map_cons]
    show [a].count j + occL j _ = _
    rw [occ_map, cnt_single, List.count_cons]
    by_cases h : a = j
    · subst h; simp; omega
    · rw [if_neg h]; simp [h]
theorem occ_tpi {j : Nat} {bk tu : Bool} {d : Nat → Nat} {dl : Nat → List Nat} {t : Nat} : occL j (tpi bk tu d dl t) = (dl t).count j := by
  unfold tpi
  rw [occ_app, occ_dum]
  cases bk
  · simp [occ_map]
  · simp [occ_rev, occ_map]
theorem occ_psh {j : Nat} {bk : Bool} {r : Rn} {l : List Rn} : occL j (psh bk r l) = r.1.count j + occL j l := by
  unfold psh
  cases bk
  · rw [if_neg (by decide), occ_app]; show occL j l + (r.1.count j + 0) = _; omega
  · rfl
theorem occ_hd {j : Nat} {l : List Rn} (h : 0 < l.length) : occL j l = (hdr l).1.count j + occL j l.tail := by
  cases l with
  | nil => simp at h
  | cons a l => rfl
theorem occ_upr {j : Nat} : ∀ {l : List Rn}, occL j (upr l) = occL j l
  | [] => rfl
  | a :: l => by
    show a.1.count j + occL j (upr l) = a.1.count j + occL j l
    rw [occ_upr]
theorem cat_cnt {g : Nat → Bool} {tp : Nat → List Rn} {j : Nat} : ∀ n, (catF g tp n).count j = sumF (fun t => if g t then (hdr (tp t)).1.count j else 0) n
  | 0 => rfl
  | n + 1 => by
    show (catF g tp n ++ (if g n then (hdr (tp n)).1 else [])).count j = sumF _ n + _
    rw [List.count_append, cat_cnt n]
    congr 1
    dsimp only
    split <;> rfl
/-- each that grew is in just one run -/
def Oc (T nr : Nat) (tp : Nat → List Rn) : Prop := ∀ j, sumF (fun t => occL j (tp t)) T = if j < nr then 1 else 0
theorem oc_dj {T nr : Nat} {tp : Nat → List Rn} (h : Oc T nr tp) : Dj T tp := fun j => by rw [h j]; split <;> omega
theorem oc_lt {T nr : Nat} {tp : Nat → List Rn} (h : Oc T nr tp) {t j : Nat} {r : Rn} (ht : t < T) (hr : r ∈ tp t) (hj : j ∈ r.1) : j < nr := by
  have h1 := h j
  have h2 := occL_mem hr hj
  have h3 : occL j (tp t) ≤ sumF (fun t => occL j (tp t)) T := sumF_pos (f := fun t => occL j (tp t)) ht
  by_cases hlt : j < nr
  · exact hlt
  · rw [if_neg hlt] at h1; omega
theorem oc_step {T nr to : Nat} {bk d : Bool} {g : Nat → Bool} {tp : Nat → List Rn} (h : Oc T nr tp) (hto : to < T) (hg : g to = false) (hl : ∀ t, t < T → g t = true → 0 < (tp t).length) : Oc T nr (tpn T to bk g (catF g tp T, d) tp) := by
  intro j
  rw [← h j]
  have key : ∀ n, n ≤ T → sumF (fun t => occL j (tpn T to bk g (catF g tp T, d) tp t)) n + sumF (fun t => if g t then (hdr (tp t)).1.count j else 0) n = sumF (fun t => occL j (tp t)) n + if to < n then (catF g tp T).count j else 0 := by
    intro n
    induction n with
    | zero => intro _; rfl
    | succ n ih =>
      intro hn
      have ih := ih (by omega)
      show sumF _ n + occL j (tpn T to bk g (catF g tp T, d) tp n) + (sumF _ n + (if g n then (hdr (tp n)).1.count j else 0)) = sumF _ n + occL j (tp n) + _
      unfold tpn at ih ⊢
      by_cases h1 : n = to
      · subst h1
        rw [if_pos rfl, occ_psh, hg, if_neg (by decide), if_pos (show n < n + 1 by omega)]
        rw [if_neg (show ¬ n < n by omega)] at ih
        dsimp only
        omega
      · rw [if_neg h1]
        have e : (if to < n + 1 then (catF g tp T).count j else 0) = if to < n then (catF g tp T).count j else 0 := ifc ⟨fun q => by omega, fun q => by omega⟩
        rw [e]
        by_cases h2 : g n = true
        · rw [if_pos ⟨by omega, h2⟩, if_pos h2]
          have := occ_hd (j := j) (hl n (by omega) h2)
          omega
        · rw [if_neg (fun q => h2 q.2), if_neg h2]
          omega
  have := key T (Nat.le_refl _)
  rw [if_pos hto, cat_cnt] at this
  omega
theorem tpi_mem {bk tu : Bool} {d : Nat → Nat} {dl : Nat → List Nat} {t : Nat} {r : Rn} (h : r ∈ tpi bk tu d dl t) : r = dum ∨ ∃ j, j ∈ dl t ∧ r = rnj tu j := by
  unfold tpi at h
  rcases List.mem_append.mp h with h | h
  · exact Or.inl (List.mem_replicate.mp h).2
  · right
    have : r ∈ (dl t).map (rnj tu) := by
      cases bk
      · simpa using h
      · simpa using h
    obtain ⟨j, h1, h2⟩ := List.mem_map.mp this
    exact ⟨j, h1, h2.symm⟩
/-- what dealing needs: places, and steps that come to one run -/
def Cap (w T nr : Nat) : Prop := if w = 1 then (4 ≤ T ∧ nr ≤ 300) else ∃ l, lvl w (T - 1) nr = some l ∧ gdl w T l = true ∧ ∀ i, i ≤ l → smp w (T - 1) i < 2 ^ 31
def dmN (w T nr : Nat) : Nat := if w = 1 then 0 else smp w (T - 1) (lvA w T nr) - nr
def lvI (w T nr : Nat) : Int32 := if w = 1 then -1 else nI (lvA w T nr)
theorem cap_pf {w T nr : Nat} (h : Cap w T nr) (hw : w ≠ 1) : lvl w (T - 1) nr = some (lvA w T nr) ∧ gdl w T (lvA w T nr) = true ∧ (∀ i, i ≤ lvA w T nr → smp w (T - 1) i < 2 ^ 31) ∧ nr ≤ smp w (T - 1) (lvA w T nr) ∧ ∀ t, t < T - 1 → pfA w T (lvA w T nr) t ≤ 253 := by
  unfold Cap at h
  rw [if_neg hw] at h
  obtain ⟨l, h1, h2, h3⟩ := h
  have e : lvA w T nr = l := by unfold lvA; rw [h1]; rfl
  rw [e]
  have q := (fstF_some h1).2.1
  simp only [decide_eq_true_eq] at q
  refine ⟨h1, h2, h3, q, fun t ht => ?_⟩
  unfold gdl at h2
  simp only [Bool.and_eq_true, beq_iff_eq] at h2
  have := cntF_all h2.2 t ht
  simp only [decide_eq_true_eq] at this
  unfold pfA
  rw [if_pos ht]
  exact this
section LO
variable {E : En} {m N w T nr : Nat} {σ : Sg} {bk fr tu : Bool} {gl : Nat → Nat}
theorem tp0_len (hT3 : 3 ≤ T) (hc : Cap w T nr) : sumF (fun t => (tp0 w T bk fr tu nr t).length) T = if w = 1 then nr else smp w (T - 1) (lvA w T nr) := by
  by_cases hw1 : w = 1
  · subst hw1
    rw [if_pos rfl]
    have : (fun t => (tp0 1 T bk fr tu nr t).length) = fun t => (dlb (T / 2) nr t).length := by
      funext t; unfold tp0; rw [if_pos rfl, tpi_len]; omega
    rw [this, dlb_sum (by omega) (by omega)]
  · rw [if_neg hw1]
    obtain ⟨c1, c2, c3, c4, c5⟩ := cap_pf hc hw1
    have hsum := pfA_sum (w := w) (T := T) (l := lvA w T nr)
    obtain ⟨d1, d2, d3, d4⟩ := dms_ok (pf := pfA w T (lvA w T nr)) (fr := fr) (k := T - 1) (n := smp w (T - 1) (lvA w T nr) - nr) (by omega)
    have hps : sumF (fun t => pfA w T (lvA w T nr) t - dmA w T fr nr t) (T - 1) = nr := by have := sumF_sub (f := pfA w T (lvA w T nr)) (g := dmA w T fr nr) (n := T - 1) d2; unfold dmA at this ⊢; omega
    obtain ⟨r1, r2, r3, r4⟩ := dlt_ok (p := fun t => pfA w T (lvA w T nr) t - dmA w T fr nr t) (k := T - 1) (by omega) (r := nr) (by omega)
    have e : ∀ t, (tp0 w T bk fr tu nr t).length = dmA w T fr nr t + (dlA w T fr nr t).length := fun t => by unfold tp0; rw [if_neg hw1, tpi_len]
    rw [sumF_congr (fun t _ => e t)]
    have hadd : ∀ n, sumF (fun t => dmA w T fr nr t + (dlA w T fr nr t).length) n = sumF (dmA w T fr nr) n + sumF (fun t => (dlA w T fr nr t).length) n := by
      intro n
      induction n with
      | zero => rfl
      | succ n ih => unfold sumF; rw [ih]; omega
    rw [hadd, show T = T - 1 + 1 by omega]
    show sumF (dmA w (T - 1 + 1) fr nr) (T - 1) + dmA w (T - 1 + 1) fr nr (T - 1) + (sumF (fun t => (dlA w (T - 1 + 1) fr nr t).length) (T - 1) + (dlA w (T - 1 + 1) fr nr (T - 1)).length) = _
    rw [show T - 1 + 1 = T by omega]
    have q1 : dmA w T fr nr (T - 1) = 0 := d3 _ (Nat.le_refl _)
    have q2 : dlA w T fr nr (T - 1) = [] := r3 _ (Nat.le_refl _)
    have q3 : sumF (dmA w T fr nr) (T - 1) = smp w (T - 1) (lvA w T nr) - nr := d1
    have q4 : sumF (fun t => (dlA w T fr nr t).length) (T - 1) = nr := r1
    rw [q1, q2, q3, q4]
    simp
    omega
theorem tp0_oc (hT3 : 3 ≤ T) (hc : Cap w T nr) : Oc T nr (tp0 w T bk fr tu nr) := by
  intro j
  by_cases hw1 : w = 1
  · subst hw1
    have : (fun t => occL j (tp0 1 T bk fr tu nr t)) = fun t => (dlb (T / 2) nr t).count j := by
      funext t; unfold tp0; rw [if_pos rfl, occ_tpi]
    rw [this, dlb_cnt (by omega) j (by omega)]
  · obtain ⟨c1, c2, c3, c4, c5⟩ := cap_pf hc hw1
    have hsum := pfA_sum (w := w) (T := T) (l := lvA w T nr)
    obtain ⟨d1, d2, d3, d4⟩ := dms_ok (pf := pfA w T (lvA w T nr)) (fr := fr) (k := T - 1) (n := smp w (T - 1) (lvA w T nr) - nr) (by omega)
    have hps : sumF (fun t => pfA w T (lvA w T nr) t - dmA w T fr nr t) (T - 1) = nr := by have := sumF_sub (f := pfA w T (lvA w T nr)) (g := dmA w T fr nr) (n := T - 1) d2; unfold dmA at this ⊢; omega
    obtain ⟨r1, r2, r3, r4⟩ := dlt_ok (p := fun t => pfA w T (lvA w T nr) t - dmA w T fr nr t) (k := T - 1) (by omega) (r := nr) (by omega)
    have e : ∀ t, occL j (tp0 w T bk fr tu nr t) = (dlA w T fr nr t).count j := fun t => by unfold tp0; rw [if_neg hw1, occ_tpi]
    rw [sumF_congr (fun t _ => e t), show T = T - 1 + 1 by omega]
    show sumF (fun t => (dlA w (T - 1 + 1) fr nr t).count j) (T - 1) + (dlA w (T - 1 + 1) fr nr (T - 1)).count j = _
    rw [show T - 1 + 1 = T by omega]
    have q2 : dlA w T fr nr (T - 1) = [] := r3 _ (Nat.le_refl _)
    have q4 : sumF (fun t => (dlA w T fr nr t).count j) (T - 1) = if j < nr then 1 else 0 := dlt_cnt (by omega) j nr
    rw [q2, q4]; rfl
theorem tp0_mem {t : Nat} {r : Rn} (h : r ∈ tp0 w T bk fr tu nr t) : r = dum ∨ ∃ j, r = rnj tu j := by
  unfold tp0 at h
  split at h
  · rcases tpi_mem h with h | ⟨j, _, h⟩
    · exact Or.inl h
    · exact Or.inr ⟨j, h⟩
  · rcases tpi_mem h with h | ⟨j, _, h⟩
    · exact Or.inl h
    · exact Or.inr ⟨j, h⟩
theorem c_layOut (hL : LMill E m N) (h : LD σ m w T bk nr gl tu) (hw : w ≤ 2) (hT : T ≤ 6) (hT3 : 3 ≤ T) (hn : nr ≤ N) (hN : N ≤ 700) (hc : Cap w T nr) :
    ∃ s, fX1_layOut E m (bI fr) σ = some s ∧ RMl s m w T bk gl nr (mi0 w T bk fr tu gl nr) ∧ gi s (m + 3) 4 = nI (dmN w T nr) ∧ gi s (m + 3) 5 = lvI w T nr ∧ ∀ x k, (x < m ∨ m + 22 ≤ x) → gi s x k = gi σ x k := by
  obtain ⟨l0, l4, l10, l12, l13, l17, l18, l5, l6, a1, a2, a3, a4, a5, a7, a8, a9, ltp⟩ := id hL
  obtain ⟨hb, h2, h3, h4, h5⟩ := id h
  obtain ⟨b0, b1, b2, b3, b7⟩ := id hb
  have hRD : ∀ s : Sg, (∀ j, j < nr → gi s (m + 8) j = nI (gl j) ∧ gi s (m + 9) j = bI (tu && (j % 2 == 1))) → ∀ t, t < T → ∀ r ∈ tp0 w T bk fr tu nr t, RD s m gl nr r := by
    intro s hs t ht r hr
    rcases tp0_mem hr with rfl | ⟨j, rfl⟩
    · exact ⟨fun _ => rfl, fun i l q => by cases q⟩
    · have hj := oc_lt (tp0_oc hT3 hc) ht hr (j := j) (by simp [rnj])
      refine ⟨fun q => (by cases q), fun i l q => ?_⟩
      injection q with q1 q2
      subst q1
      exact ⟨hj, by rw [(hs j hj).1]; rfl, (hs j hj).2⟩
  have hlen := tp0_len (bk := bk) (fr := fr) (tu := tu) hT3 hc
  unfold fX1_layOut
  rw [tk_ok l0, b0]
  by_cases hw1 : w = 1
  · subst hw1
    have hcap := hc
    unfold Cap at hcap
    rw [if_pos rfl] at hcap
    rw [if_pos rfl] at hlen
    obtain ⟨s1, e1, t1, q8, q9, q35, f1⟩ := c_turns hL h hT hT3 hn hN (fun t ht => by
      rw [dlb_len (by omega) nr t ht]
      have : (nr + T / 2 - 1 - t) / (T / 2) ≤ (nr + T / 2 - 1 - t) / 1 := Nat.div_le_div_left (by omega) (by omega)
      have h2 : (nr + T / 2 - 1 - t) / (T / 2) ≤ (nr + T / 2 - 1 - t) / 2 := Nat.div_le_div_left (by omega) (by omega)
      omega)
    rw [if_neg (by simp; rfl), e1, bv_ok, bd_ok]
    have tq0 : TQ s1 m bk (tp0 1 T bk fr tu nr) := tq_congr t1 (fun t ht => by
      unfold tp0 tq tpi
      rw [if_pos rfl]
      cases bk <;> simp)
    obtain ⟨s2, e2, r2, g2, f2⟩ := c_layEnd (gl := gl) hL hT hT3 hn hN (w := 1) (bk := bk) (nr := nr) (tp := tp0 1 T bk fr tu nr) (σ := s1)
      ⟨by rw [f1 _ _ (by omega) (by omega) (by omega)]; exact b0, by rw [f1 _ _ (by omega) (by omega) (by omega)]; exact b1, by rw [f1 _ _ (by omega) (by omega) (by omega)]; exact b2, by rw [f1 _ _ (by omega) (by omega) (by omega)]; exact b3, by rw [f1 _ _ (by omega) (by omega) (by omega)]; exact b7⟩ tq0
      (by rw [q9]; rfl) (by rw [q8, hlen]) (hRD s1 (fun j hj => by rw [f1 _ _ (by omega) (by omega) (by omega), f1 _ _ (by omega) (by omega) (by omega)]; exact h5 j hj)) (fun k hk => by rw [f1 _ _ (by omega) (by omega) (by omega)]; exact h4 k (by omega))
    rw [e2]
    refine ⟨s2, rfl, r2, ?_, ?_, fun x k z => by rw [f2 _ _ z, f1 _ _ (by omega) (by omega) (by omega)]⟩
    · rw [g2 4 (by omega), f1 _ _ (by omega) (by omega) (by omega)]; exact h4 4 (by omega)
    · rw [g2 5 (by omega)]; exact q35
  · obtain ⟨c1, c2, c3, c4, c5⟩ := cap_pf hc hw1
    rw [if_neg hw1] at hlen
    have hnw : nr < 2 ^ 31 := by omega
    obtain ⟨s0, e0, n0, f0⟩ := n_climbFor (σ := σ) (w := w) a5 (k := T - 1) (by omega) (by omega) (by omega) hnw c3 c1
    have f0' : ∀ x k, x ≠ m + 5 → x ≠ m + 6 → gi s0 x k = gi σ x k := fun x k z1 z2 => f0 x k z1 (by omega)
    have hLD : LD s0 m w T bk nr gl tu := by
      refine ⟨⟨?_, ?_, ?_, ?_, ?_⟩, fun t ht => ?_, fun t ht => ?_, fun k hk => ?_, fun j hj => ?_⟩
      · rw [f0' _ _ (by omega) (by omega)]; exact b0
      · rw [f0' _ _ (by omega) (by omega)]; exact b1
      · rw [f0' _ _ (by omega) (by omega)]; exact b2
      · rw [f0' _ _ (by omega) (by omega)]; exact b3
      · rw [f0' _ _ (by omega) (by omega)]; exact b7
      · rw [f0' _ _ (by omega) (by omega), f0' _ _ (by omega) (by omega)]; exact h2 t ht
      · rw [f0' _ _ (by omega) (by omega)]; exact h3 t ht
      · rw [f0' _ _ (by omega) (by omega)]; exact h4 k hk
      · rw [f0' _ _ (by omega) (by omega), f0' _ _ (by omega) (by omega)]; exact h5 j hj
    obtain ⟨s1, e1, t1, q8, q9, q4, q5, f1⟩ := c_numbers (fr := fr) hL hLD n0 hT hT3 hn hN c4 (fun t ht => Nat.le_trans (c5 t ht) (by omega))
    rw [i1, if_pos (fun q => hw1 ((nI_eq (by omega) (by omega)).mp q)), dr_ok l17 a5.1, b7, b1, sub_n (by omega), e0, bv_ok, e1, bv_ok, bd_ok]
    have tq0 : TQ s1 m bk (tp0 w T bk fr tu nr) := tq_congr t1 (fun t ht => by unfold tp0; rw [if_neg hw1]; rfl)
    have f1' : ∀ x k, ¬ (m + 5 ≤ x ∧ x ≤ m + 7) → ¬ (m + 10 ≤ x ∧ x < m + 22) → ¬ (x = m ∧ (k = 8 ∨ k = 9)) → ¬ (x = m + 3 ∧ (k = 4 ∨ k = 5)) → gi s1 x k = gi σ x k := fun x k z1 z2 z3 z4 => by rw [f1 _ _ z1 z2 z3 z4, f0' _ _ (by omega) (by omega)]
    obtain ⟨s2, e2, r2, g2, f2⟩ := c_layEnd (gl := gl) hL hT hT3 hn hN (w := w) (bk := bk) (nr := nr) (tp := tp0 w T bk fr tu nr) (σ := s1)
      ⟨by rw [f1' _ _ (by omega) (by omega) (by omega) (by omega)]; exact b0, by rw [f1' _ _ (by omega) (by omega) (by omega) (by omega)]; exact b1, by rw [f1' _ _ (by omega) (by omega) (by omega) (by omega)]; exact b2, by rw [f1' _ _ (by omega) (by omega) (by omega) (by omega)]; exact b3, by rw [f1' _ _ (by omega) (by omega) (by omega) (by omega)]; exact b7⟩ tq0
      (by rw [q9]; unfold to0; rw [if_neg hw1]) (by rw [q8, hlen]) (hRD s1 (fun j hj => by rw [f1' _ _ (by omega) (by omega) (by omega) (by omega), f1' _ _ (by omega) (by omega) (by omega) (by omega)]; exact h5 j hj)) (fun k hk => by rw [f1' _ _ (by omega) (by omega) (by omega) (by omega)]; exact h4 k (by omega))
    rw [i1] at e2
    rw [e2]
    refine ⟨s2, rfl, r2, ?_, ?_, fun x k z => by rw [f2 _ _ z, f1' _ _ (by omega) (by omega) (by omega) (by omega)]⟩
    · rw [g2 4 (by omega), q4]; unfold dmN; rw [if_neg hw1]
    · rw [g2 5 (by omega), q5]; unfold lvI; rw [if_neg hw1]
end LO
end
section
/-! steps on paper -/
def skb (T nr : Nat) : Sk := (tab (fun t => if t < T / 2 then (nr + T / 2 - 1 - t) / (T / 2) else 0) T, T / 2, opn T (T / 2) (tab (fun t => if t < T / 2 then (nr + T / 2 - 1 - t) / (T / 2) else 0) T), true)
/-- the same check, a skeleton's numbers told before each step -/
def fz (x : Nat) (k : Nat → Bool) : Bool := match x with
  | 0 => k 0
  | Nat.succ n => k (Nat.succ n)
theorem fz_eq {x : Nat} {k : Nat → Bool} : fz x k = k x := by cases x <;> rfl
def fl : List Nat → (List Nat → Bool) → Bool
  | [], k => k []
  | a :: l, k => fz a (fun b => fl l (fun m => k (b :: m)))
theorem fl_eq : ∀ {l : List Nat} {k : List Nat → Bool}, fl l k = k l
  | [], _ => rfl
  | a :: l, k => by unfold fl; rw [fz_eq, fl_eq]
def fq (x : Bool) (k : Bool → Bool) : Bool := match x with
  | true => k true
  | false => k false
theorem fq_eq {x : Bool} {k : Bool → Bool} : fq x k = k x := by cases x <;> rfl
def fm : List Bool → (List Bool → Bool) → Bool
  | [], k => k []
  | a :: l, k => fq a (fun b => fm l (fun m => k (b :: m)))
theorem fm_eq : ∀ {l : List Bool} {k : List Bool → Bool}, fm l k = k l
  | [], _ => rfl
  | a :: l, k => by unfold fm; rw [fq_eq, fm_eq]
def fsk (s : Sk) (k : Sk → Bool) : Bool := fl s.1 (fun a => fz s.2.1 (fun b => fm s.2.2.1 (fun c => fq s.2.2.2 (fun d => k (a, b, c, d)))))
theorem fsk_eq {s : Sk} {k : Sk → Bool} : fsk s k = k s := by unfold fsk; rw [fl_eq, fz_eq, fm_eq, fq_eq]
def goodF (w T h : Nat) : Nat → Sk → Bool
  | 0, s => lef T s == 1
  | f + 1, s => fsk s (fun s => if lef T s == 1 then true else oks w T h s && goodF w T h f (skn w T h s).1)
theorem goodF_eq {w T h : Nat} : ∀ {f : Nat} {s : Sk}, goodF w T h f s = good w T h f s
  | 0, _ => rfl
  | f + 1, s => by unfold goodF good; rw [fsk_eq, goodF_eq]
set_option maxRecDepth 100000 in
theorem gd_14' : cntF (fun n => goodF 1 4 2 699 (skb 4 (n + 1))) 150 = 150 := by decide +kernel
theorem gd_14 : cntF (fun n => good 1 4 2 699 (skb 4 (n + 1))) 150 = 150 := by simp only [← goodF_eq]; exact gd_14'
end
section
set_option maxRecDepth 100000 in
theorem gd_15' : cntF (fun n => goodF 1 5 2 699 (skb 5 (n + 1))) 150 = 150 := by decide +kernel
theorem gd_15 : cntF (fun n => good 1 5 2 699 (skb 5 (n + 1))) 150 = 150 := by simp only [← goodF_eq]; exact gd_15'
end
section
set_option maxRecDepth 100000 in
theorem gd_16' : cntF (fun n => goodF 1 6 3 699 (skb 6 (n + 1))) 150 = 150 := by decide +kernel
theorem gd_16 : cntF (fun n => good 1 6 3 699 (skb 6 (n + 1))) 150 = 150 := by simp only [← goodF_eq]; exact gd_16'
end
section
/-- places enough for 150 runs -/
theorem lv_03 : 150 ≤ smp 0 2 11 ∧ cntF (fun i => decide (smp 0 2 i < 2 ^ 31)) 12 = 12 := by decide +kernel
theorem lv_04 : 150 ≤ smp 0 3 8 ∧ cntF (fun i => decide (smp 0 3 i < 2 ^ 31)) 9 = 9 := by decide +kernel
theorem lv_05 : 150 ≤ smp 0 4 7 ∧ cntF (fun i => decide (smp 0 4 i < 2 ^ 31)) 8 = 8 := by decide +kernel
theorem lv_06 : 150 ≤ smp 0 5 7 ∧ cntF (fun i => decide (smp 0 5 i < 2 ^ 31)) 8 = 8 := by decide +kernel
theorem lv_23 : 150 ≤ smp 2 2 11 ∧ cntF (fun i => decide (smp 2 2 i < 2 ^ 31)) 12 = 12 := by decide +kernel
theorem lv_24 : 150 ≤ smp 2 3 6 ∧ cntF (fun i => decide (smp 2 3 i < 2 ^ 31)) 7 = 7 := by decide +kernel
theorem lv_25 : 150 ≤ smp 2 4 5 ∧ cntF (fun i => decide (smp 2 4 i < 2 ^ 31)) 6 = 6 := by decide +kernel
theorem lv_26 : 150 ≤ smp 2 5 5 ∧ cntF (fun i => decide (smp 2 5 i < 2 ^ 31)) 6 = 6 := by decide +kernel
end
section
/-! steps on paper -/
def ski (w T : Nat) (s : Sk) : Nat → Sk
  | 0 => s
  | n + 1 => (skn w T (T / 2) (ski w T s n)).1
theorem ski_s {w T : Nat} {s : Sk} : ∀ n, ski w T (skn w T (T / 2) s).1 n = ski w T s (n + 1)
  | 0 => rfl
  | n + 1 => by show (skn w T (T / 2) _).1 = (skn w T (T / 2) _).1; rw [ski_s n]
/-- a skeleton comes to one run in K steps -/
def Gd (w T : Nat) (s : Sk) (K : Nat) : Prop := K ≤ 699 ∧ lef T (ski w T s K) = 1 ∧ ∀ j, j < K → lef T (ski w T s j) ≠ 1 ∧ oks w T (T / 2) (ski w T s j) = true
theorem good_un {w T : Nat} : ∀ {f : Nat} {s : Sk}, good w T (T / 2) f s = true → ∃ K, K ≤ f ∧ lef T (ski w T s K) = 1 ∧ ∀ j, j < K → lef T (ski w T s j) ≠ 1 ∧ oks w T (T / 2) (ski w T s j) = true
  | 0, s, h => ⟨0, Nat.le_refl _, by simpa [good, ski] using h, fun j hj => absurd hj (Nat.not_lt_zero j)⟩
  | f + 1, s, h => by
    unfold good at h
    by_cases h1 : lef T s = 1
    · exact ⟨0, Nat.zero_le _, h1, fun j hj => absurd hj (Nat.not_lt_zero j)⟩
    · rw [if_neg (by simpa using h1)] at h
      simp only [Bool.and_eq_true] at h
      obtain ⟨K, k1, k2, k3⟩ := good_un h.2
      rw [ski_s] at k2
      refine ⟨K + 1, by omega, k2, fun j hj => ?_⟩
      cases j with
      | zero => exact ⟨h1, h.1⟩
      | succ j => have := k3 j (by omega); rw [ski_s] at this; exact this
def skA (w T nr : Nat) : Sk := if w = 1 then skb T nr else sk0 w T (lvA w T nr)
noncomputable def kst (w T nr : Nat) : Nat := @dite _ (∃ K, Gd w T (skA w T nr) K) (Classical.propDecidable _) (fun h => h.choose) (fun _ => 0)
theorem gd_kst {w T nr K : Nat} (h : Gd w T (skA w T nr) K) : kst w T nr = K := by
  unfold kst
  have hex : ∃ K, Gd w T (skA w T nr) K := ⟨K, h⟩
  rw [dif_pos hex]
  obtain ⟨h1, h2, h3⟩ := hex.choose_spec
  obtain ⟨g1, g2, g3⟩ := h
  by_cases hlt : hex.choose < K
  · exact absurd h2 (g3 _ hlt).1
  · by_cases hgt : K < hex.choose
    · exact absurd g2 (h3 _ hgt).1
    · omega
/-- all is well with so many runs -/
def Gok (w T nr : Nat) : Prop := w ≤ 2 ∧ 3 ≤ T ∧ T ≤ 6 ∧ 1 ≤ nr ∧ nr ≤ 700 ∧ Cap w T nr ∧ Gd w T (skA w T nr) (kst w T nr)
theorem gok_of {w T nr : Nat} (hw : w ≤ 2) (hT3 : 3 ≤ T) (hT : T ≤ 6) (hn1 : 1 ≤ nr) (hn : nr ≤ 700) (hc : Cap w T nr) (hg : good w T (T / 2) 699 (skA w T nr) = true) : Gok w T nr := by
  obtain ⟨K, k1, k2, k3⟩ := good_un hg
  have hG : Gd w T (skA w T nr) K := ⟨k1, k2, k3⟩
  exact ⟨hw, hT3, hT, hn1, hn, hc, by rw [gd_kst hG]; exact hG⟩
theorem gok_lv {w T nr l L : Nat} (hw : w = 0 ∨ w = 2) (hT3 : 3 ≤ T) (hT : T ≤ 6) (hn1 : 1 ≤ nr) (hn : nr ≤ 700) (hl : l < L) (hL : L ≤ 40) (h1 : nr ≤ smp w (T - 1) l) (h2 : cntF (fun i => decide (smp w (T - 1) i < 2 ^ 31)) L = L) (h3 : cntF (gdl w T) L = L) : Gok w T nr := by
  obtain ⟨e, q1, q2⟩ := fstF_ex (p := fun l => decide (nr ≤ smp w (T - 1) l)) (n := 40) (j := l) (by omega) (by simpa using h1)
  have hgd := cntF_all h3 e (by omega)
  have hlv : lvA w T nr = e := by unfold lvA lvl; rw [q1]; rfl
  have hw1 : w ≠ 1 := by omega
  refine gok_of (by omega) hT3 hT hn1 hn ?_ ?_
  · unfold Cap
    rw [if_neg hw1]
    exact ⟨e, q1, hgd, fun i hi => by have := cntF_all h2 i (by omega); simpa using this⟩
  · unfold skA
    rw [if_neg hw1, hlv]
    unfold gdl at hgd
    simp only [Bool.and_eq_true] at hgd
    exact hgd.1
/-- at most 150 runs -/
theorem gok {w T nr : Nat} (hw : w ≤ 2) (hT3 : 3 ≤ T) (hT : T ≤ 6) (hn1 : 1 ≤ nr) (hn : nr ≤ 150) (h1 : w ≠ 1 ∨ 3 < T) : Gok w T nr := by
  rcases (show w = 0 ∨ w = 1 ∨ w = 2 by omega) with rfl | rfl | rfl
  · rcases (show T = 3 ∨ T = 4 ∨ T = 5 ∨ T = 6 by omega) with rfl | rfl | rfl | rfl
    · exact gok_lv (l := 11) (L := 12) (by omega) hT3 hT hn1 (by omega) (by omega) (by omega) (Nat.le_trans hn lv_03.1) lv_03.2 gd_03
    · exact gok_lv (l := 8) (L := 9) (by omega) hT3 hT hn1 (by omega) (by omega) (by omega) (Nat.le_trans hn lv_04.1) lv_04.2 gd_04
    · exact gok_lv (l := 7) (L := 8) (by omega) hT3 hT hn1 (by omega) (by omega) (by omega) (Nat.le_trans hn lv_05.1) lv_05.2 gd_05
    · exact gok_lv (l := 7) (L := 8) (by omega) hT3 hT hn1 (by omega) (by omega) (by omega) (Nat.le_trans hn lv_06.1) lv_06.2 gd_06
  · have hc : Cap 1 T nr := by unfold Cap; rw [if_pos rfl]; omega
    have hs : skA 1 T nr = skb T nr := by unfold skA; rw [if_pos rfl]
    rcases (show T = 4 ∨ T = 5 ∨ T = 6 by omega) with rfl | rfl | rfl
    · refine gok_of (by omega) hT3 hT hn1 (by omega) hc ?_
      have := cntF_all gd_14 (nr - 1) (by omega)
      rw [show nr - 1 + 1 = nr by omega] at this
      rw [hs]; exact this
    · refine gok_of (by omega) hT3 hT hn1 (by omega) hc ?_
      have := cntF_all gd_15 (nr - 1) (by omega)
      rw [show nr - 1 + 1 = nr by omega] at this
      rw [hs]; exact this
    · refine gok_of (by omega) hT3 hT hn1 (by omega) hc ?_
      have := cntF_all gd_16 (nr - 1) (by omega)
      rw [show nr - 1 + 1 = nr by omega] at this
      rw [hs]; exact this
  · rcases (show T = 3 ∨ T = 4 ∨ T = 5 ∨ T = 6 by omega) with rfl | rfl | rfl | rfl
    · exact gok_lv (l := 11) (L := 12) (by omega) hT3 hT hn1 (by omega) (by omega) (by omega) (Nat.le_trans hn lv_23.1) lv_23.2 gd_23
    · exact gok_lv (l := 6) (L := 7) (by omega) hT3 hT hn1 (by omega) (by omega) (by omega) (Nat.le_trans hn lv_24.1) lv_24.2 gd_24
    · exact gok_lv (l := 5) (L := 6) (by omega) hT3 hT hn1 (by omega) (by omega) (by omega) (Nat.le_trans hn lv_25.1) lv_25.2 gd_25
    · exact gok_lv (l := 5) (L := 6) (by omega) hT3 hT hn1 (by omega) (by omega) (by omega) (Nat.le_trans hn lv_26.1) lv_26.2 gd_26
theorem tab_congr {α : Type} {f g : Nat → α} {n : Nat} (h : ∀ t, t < n → f t = g t) : tab f n = tab g n := by
  unfold tab
  exact List.map_congr_left (fun t ht => h t (List.mem_range.mp ht))
section SP
variable {w T nr : Nat} {bk fr tu : Bool} {gl : Nat → Nat} {A : Mi}
theorem sk_tp0 (hT3 : 3 ≤ T) (hc : Cap w T nr) : skI w T (tp0 w T bk fr tu nr) = skA w T nr := by
  by_cases hw1 : w = 1
  · subst hw1
    have e : tab (fun t => (tp0 1 T bk fr tu nr t).length) T = tab (fun t => if t < T / 2 then (nr + T / 2 - 1 - t) / (T / 2) else 0) T := tab_congr (fun t ht => by
      unfold tp0
      rw [if_pos rfl, tpi_len, Nat.zero_add]
      by_cases hq : t < T / 2
      · rw [if_pos hq, dlb_len (by omega) nr t hq]
      · rw [if_neg hq, dlb_out (by omega) nr t (by omega)]; rfl)
    unfold skI skA skb to0
    rw [if_pos rfl, if_pos rfl, e]
  · obtain ⟨c1, c2, c3, c4, c5⟩ := cap_pf hc hw1
    have hsum := pfA_sum (w := w) (T := T) (l := lvA w T nr)
    obtain ⟨d1, d2, d3, d4⟩ := dms_ok (pf := pfA w T (lvA w T nr)) (fr := fr) (k := T - 1) (n := smp w (T - 1) (lvA w T nr) - nr) (by omega)
    have hps : sumF (fun t => pfA w T (lvA w T nr) t - dmA w T fr nr t) (T - 1) = nr := by have := sumF_sub (f := pfA w T (lvA w T nr)) (g := dmA w T fr nr) (n := T - 1) d2; unfold dmA at this ⊢; omega
    obtain ⟨r1, r2, r3, r4⟩ := dlt_ok (p := fun t => pfA w T (lvA w T nr) t - dmA w T fr nr t) (k := T - 1) (by omega) (r := nr) (by omega)
    have heq := sum_eqp (f := fun t => (dlA w T fr nr t).length) (g := fun t => pfA w T (lvA w T nr) t - dmA w T fr nr t) (n := T - 1) r2 (by rw [hps]; exact r1)
    have e : tab (fun t => (tp0 w T bk fr tu nr t).length) T = tab (fun t => (pfn w (T - 1) (lvA w T nr)).getD t 0) T := tab_congr (fun t ht => by
      unfold tp0
      rw [if_neg hw1, tpi_len]
      by_cases hq : t < T - 1
      · have h1 := heq t hq
        have h2 := d2 t hq
        unfold dmA at h1 ⊢
        rw [h1]
        have : pfA w T (lvA w T nr) t = (pfn w (T - 1) (lvA w T nr)).getD t 0 := by unfold pfA; rw [if_pos hq]
        omega
      · have h1 : dmA w T fr nr t = 0 := d3 t (by omega)
        have h2 : dlA w T fr nr t = [] := r3 t (by omega)
        rw [h1, h2]
        have hl : (pfn w (T - 1) (lvA w T nr)).length = T - 1 := by
          cases lvA w T nr with
          | zero => unfold pfn tab; simp
          | succ l => unfold pfn tab; split <;> simp
        rw [List.getD_eq_getElem?_getD, List.getElem?_eq_none (by omega)]; rfl)
    unfold skI skA sk0 to0
    rw [if_neg hw1, if_neg hw1, e]
def mit (w T : Nat) (bk : Bool) (gl : Nat → Nat) (A : Mi) : Nat → Mi
  | 0 => A
  | n + 1 => stp w T bk gl (mit w T bk gl A n)
theorem tul_K : mK (tul gl T A) = mK A := by unfold tul; split <;> rfl
theorem stp_K : mK (stp w T bk gl A) = (skn w T (T / 2) (mK A)).1 := by unfold stp; rw [tul_K]; rfl
theorem mit_K : ∀ n, mK (mit w T bk gl A n) = ski w T (mK A) n
  | 0 => rfl
  | n + 1 => by show mK (stp w T bk gl _) = _; rw [stp_K, mit_K n]; rfl
/-- what holds of a mill on paper -/
def AI (T nr : Nat) (A : Mi) : Prop := Oc T nr (mT A) ∧ (∀ t, t < T → kc (mK A) t = (mT A t).length) ∧ (∀ t, T ≤ t → mT A t = []) ∧ ∀ t r, r ∈ mT A t → r.1 = [] → r.2 = false
theorem ai_tul (h : AI T nr A) : AI T nr (tul gl T A) := by
  unfold tul
  split
  · obtain ⟨h1, h2, h3, h4⟩ := h
    refine ⟨fun j => ?_, fun t ht => ?_, fun t ht => ?_, fun t r hr _ => ?_⟩
    · rw [← h1 j]; exact sumF_congr (fun t _ => occ_upr)
    · show kc (mK A) t = (upr (mT A t)).length
      unfold upr; rw [List.length_map]; exact h2 t ht
    · show upr (mT A t) = []
      rw [h3 t ht]; rfl
    · have hr : r ∈ upr (mT A t) := hr
      unfold upr at hr
      obtain ⟨q, _, rfl⟩ := List.mem_map.mp hr
      rfl
  · exact h
theorem ld_none {g : Nat → Bool} {tp : Nat → List Rn} {n : Nat} (h : catF g tp n = []) : ldD g tp n = none := by
  unfold ldD; rw [((ld_cat g tp n).2.1).mpr h]; rfl
theorem ai_stp (h : AI T nr A) (hok : oks w T (T / 2) (mK A) = true) : AI T nr (stp w T bk gl A) := by
  obtain ⟨o1, o2, o3, o4, o5⟩ := oks_un hok
  obtain ⟨h1, h2, h3, h4⟩ := h
  unfold stp
  apply ai_tul
  have hg : gvf w (T / 2) (mK A) (kto (mK A)) = false := gv_no o3
  have hl : ∀ t, t < T → gvf w (T / 2) (mK A) t = true → 0 < (mT A t).length := fun t ht q => by rw [← h2 t ht]; exact (gv_fl q).2
  refine ⟨oc_step h1 o2 hg hl, fun t ht => ?_, fun t ht => ?_, fun t r hr hz => ?_⟩
  · show (skn w T (T / 2) (mK A)).1.1.getD t 0 = (tpn T (kto (mK A)) bk (gvf w (T / 2) (mK A)) _ (mT A) t).length
    rw [skn_1, skc_at ht]
    unfold tpn
    have := h2 t ht
    by_cases q1 : t = kto (mK A)
    · rw [if_pos q1, if_pos q1, psh_len, this]
    · rw [if_neg q1, if_neg q1]
      by_cases q2 : gvf w (T / 2) (mK A) t = true
      · rw [if_pos q2, if_pos ⟨ht, q2⟩, List.length_tail, this]
      · rw [if_neg q2, if_neg (fun q => q2 q.2), this]
  · show tpn T (kto (mK A)) bk (gvf w (T / 2) (mK A)) _ (mT A) t = []
    unfold tpn
    rw [if_neg (by omega), if_neg (by omega)]; exact h3 t ht
  · have hr : r ∈ tpn T (kto (mK A)) bk (gvf w (T / 2) (mK A)) (catF (gvf w (T / 2) (mK A)) (mT A) T, bk && (ldD (gvf w (T / 2) (mK A)) (mT A) T == some false)) (mT A) t := hr
    unfold tpn at hr
    by_cases q1 : t = kto (mK A)
    · rw [if_pos q1] at hr
      rcases psh_mem hr with rfl | hr
      · dsimp only at hz ⊢
        rw [ld_none hz]; simp
      · exact h4 t r hr hz
    · rw [if_neg q1] at hr
      by_cases q2 : t < T ∧ gvf w (T / 2) (mK A) t = true
      · rw [if_pos q2] at hr; exact h4 t r (List.mem_of_mem_tail hr) hz
      · rw [if_neg q2] at hr; exact h4 t r hr hz
theorem tp0_out (hT3 : 3 ≤ T) (hc : Cap w T nr) {t : Nat} (ht : T ≤ t) : tp0 w T bk fr tu nr t = [] := by
  unfold tp0
  by_cases hw1 : w = 1
  · rw [if_pos hw1]; unfold tpi; rw [dlb_out (by omega) nr t (by omega)]; cases bk <;> rfl
  · rw [if_neg hw1]
    obtain ⟨c1, c2, c3, c4, c5⟩ := cap_pf hc hw1
    have hsum := pfA_sum (w := w) (T := T) (l := lvA w T nr)
    obtain ⟨d1, d2, d3, d4⟩ := dms_ok (pf := pfA w T (lvA w T nr)) (fr := fr) (k := T - 1) (n := smp w (T - 1) (lvA w T nr) - nr) (by omega)
    have hps : sumF (fun t => pfA w T (lvA w T nr) t - dmA w T fr nr t) (T - 1) = nr := by have := sumF_sub (f := pfA w T (lvA w T nr)) (g := dmA w T fr nr) (n := T - 1) d2; unfold dmA at this ⊢; omega
    obtain ⟨r1, r2, r3, r4⟩ := dlt_ok (p := fun t => pfA w T (lvA w T nr) t - dmA w T fr nr t) (k := T - 1) (by omega) (r := nr) (by omega)
    unfold tpi
    have h1 : dmA w T fr nr t = 0 := d3 t (by omega)
    have h2 : dlA w T fr nr t = [] := r3 t (by omega)
    rw [h1, h2]; cases bk <;> rfl
theorem ai_mi0 (hT3 : 3 ≤ T) (hc : Cap w T nr) : AI T nr (mi0 w T bk fr tu gl nr) := by
  unfold mi0
  apply ai_tul
  refine ⟨tp0_oc hT3 hc, fun t ht => ?_, fun t ht => tp0_out hT3 hc ht, fun t r hr hz => ?_⟩
  · show (tab (fun t => (tp0 w T bk fr tu nr t).length) T).getD t 0 = _
    rw [tab_at ht]
  · rcases tp0_mem hr with rfl | ⟨j, rfl⟩
    · rfl
    · cases hz
theorem mi0_K (hT3 : 3 ≤ T) (hc : Cap w T nr) : mK (mi0 w T bk fr tu gl nr) = skA w T nr := by
  unfold mi0; rw [tul_K]; exact sk_tp0 hT3 hc
/-- the mill behind n steps -/
def mil (w T : Nat) (bk fr tu : Bool) (gl : Nat → Nat) (nr n : Nat) : Mi := mit w T bk gl (mi0 w T bk fr tu gl nr) n
theorem mil_K (h : Gok w T nr) (n : Nat) : mK (mil w T bk fr tu gl nr n) = ski w T (skA w T nr) n := by
  unfold mil; rw [mit_K, mi0_K h.2.1 h.2.2.2.2.2.1]
theorem mil_ok (h : Gok w T nr) {n : Nat} (hn : n < kst w T nr) : oks w T (T / 2) (mK (mil w T bk fr tu gl nr n)) = true ∧ lef T (mK (mil w T bk fr tu gl nr n)) ≠ 1 := by
  rw [mil_K h]
  have := h.2.2.2.2.2.2.2.2 n hn
  exact ⟨this.2, this.1⟩
theorem mil_end (h : Gok w T nr) : lef T (mK (mil w T bk fr tu gl nr (kst w T nr))) = 1 := by
  rw [mil_K h]; exact h.2.2.2.2.2.2.2.1
theorem mil_ai (h : Gok w T nr) : ∀ {n : Nat}, n ≤ kst w T nr → AI T nr (mil w T bk fr tu gl nr n)
  | 0, _ => ai_mi0 h.2.1 h.2.2.2.2.2.1
  | n + 1, hn => by
    show AI T nr (stp w T bk gl (mil w T bk fr tu gl nr n))
    exact ai_stp (mil_ai h (by omega)) (mil_ok h (by omega)).1
theorem oks_lef {s : Sk} (h : oks w T (T / 2) s = true) : 0 < lef T s := by
  obtain ⟨t, h1, h2⟩ := cntF_pos (oks_un h).1
  have := (gv_fl h2).2
  have h3 : kc s t ≤ lef T s := sumF_pos (f := kc s) h1
  omega
theorem mil_lef (h : Gok w T nr) {n : Nat} (hn : n < kst w T nr) : 1 < lef T (mK (mil w T bk fr tu gl nr n)) := by
  obtain ⟨h1, h2⟩ := mil_ok (bk := bk) (fr := fr) (tu := tu) (gl := gl) h hn
  have := oks_lef h1
  omega
end SP
end
section
/-! growth on paper -/
def lsR (F : Nat → Nat) (a b : Nat) : Prop := F a < F b ∨ (F a = F b ∧ a < b)
def lsB (F : Nat → Nat) (a b : Nat) : Bool := decide (F a < F b ∨ (F a = F b ∧ a < b))
def bet (F : Nat → Nat) (fall : Bool) (a b : Nat) : Prop := if fall then lsR F b a else lsR F a b
theorem lsB_t {F : Nat → Nat} {a b : Nat} : lsB F a b = true ↔ lsR F a b := by unfold lsB lsR; simp
theorem bet_asym {F : Nat → Nat} {f : Bool} {a b : Nat} (h : bet F f a b) (h2 : bet F f b a) : False := by
  unfold bet lsR at h h2
  cases f
  · simp at h h2; omega
  · simp at h h2; omega
theorem bet_trans {F : Nat → Nat} {f : Bool} {a b c : Nat} (h : bet F f a b) (h2 : bet F f b c) : bet F f a c := by
  unfold bet lsR at h h2 ⊢
  cases f
  · simp at h h2 ⊢; omega
  · simp at h h2 ⊢; omega
theorem bet_tot {F : Nat → Nat} {f : Bool} {a b : Nat} (h : a ≠ b) : bet F f a b ∨ bet F f b a := by
  unfold bet lsR
  cases f
  · simp; omega
  · simp; omega
theorem bet_ls {F : Nat → Nat} {f : Bool} {a b : Nat} (h : a ≠ b) : (lsB F a b != f) = true ↔ bet F f a b := by
  unfold bet
  have h1 := lsB_t (F := F) (a := a) (b := b)
  cases f
  · simp only [Bool.bne_false, if_neg Bool.false_ne_true]; exact h1
  · have : ¬ lsR F a b ↔ lsR F b a := by unfold lsR; omega
    simp only [if_true, ← this, ← h1]
    cases lsB F a b <;> simp
theorem insR_lt {F : Nat → Nat} {n : Nat} : ∀ {l : List Nat}, (∀ x ∈ l, x < n) → l.Pairwise (lsR F) → (insR F n l).Pairwise (lsR F)
  | [], _, _ => by simp [insR]
  | a :: l, hl, h => by
    obtain ⟨h1, h2⟩ := List.pairwise_cons.mp h
    have ha := hl a List.mem_cons_self
    unfold insR
    split
    · next hc =>
      refine List.pairwise_cons.mpr ⟨fun b hb => ?_, h⟩
      rcases List.mem_cons.mp hb with rfl | hb
      · exact Or.inl hc
      · have := h1 b hb; unfold lsR at this ⊢; omega
    · next hc =>
      refine List.pairwise_cons.mpr ⟨fun b hb => ?_, insR_lt (fun x hx => hl x (List.mem_cons_of_mem _ hx)) h2⟩
      rcases insR_mem.mp hb with rfl | hb
      · unfold lsR; omega
      · exact h1 b hb
theorem rs_lt (F : Nat → Nat) : ∀ n, (rs F n).Pairwise (lsR F)
  | 0 => List.Pairwise.nil
  | n + 1 => insR_lt (fun x hx => rs_mem.mp hx) (rs_lt F n)
def lst (F : Nat → Nat) (n : Nat) (fall : Bool) : List Nat := if fall then (rs F n).reverse else rs F n
theorem lst_mem {F : Nat → Nat} {n x : Nat} {f : Bool} : x ∈ lst F n f ↔ x < n := by
  unfold lst
  cases f
  · simp [rs_mem]
  · simp [rs_mem]
theorem lst_srt {F : Nat → Nat} {n : Nat} {f : Bool} : (lst F n f).Pairwise (bet F f) := by
  unfold lst bet
  cases f
  · simpa using rs_lt F n
  · simpa [List.pairwise_reverse] using rs_lt F n
theorem lst_len {F : Nat → Nat} {n : Nat} {f : Bool} : (lst F n f).length = n := by
  unfold lst; cases f <;> simp [rs_len]
theorem lst_at {F : Nat → Nat} {n i : Nat} {f : Bool} (hi : i < n) : (lst F n f).getD i 0 = (rs F n).getD (if f then n - 1 - i else i) 0 := by
  unfold lst
  cases f
  · rfl
  · simp only [if_true]
    rw [List.getD_eq_getElem?_getD, List.getD_eq_getElem?_getD, List.getElem?_reverse (by rw [rs_len]; exact hi), rs_len]
theorem bet_nodup {F : Nat → Nat} {f : Bool} {l : List Nat} (h : l.Pairwise (bet F f)) : l.Nodup := h.imp (fun {a b} hab he => by subst he; exact bet_asym hab hab)
theorem srt_uniq {F : Nat → Nat} {f : Bool} {l l' : List Nat} (h : l.Pairwise (bet F f)) (h' : l'.Pairwise (bet F f)) (he : ∀ x, x ∈ l ↔ x ∈ l') : l = l' :=
  List.Perm.eq_of_pairwise (le := bet F f) (fun a b _ _ h1 h2 => (bet_asym h1 h2).elim) h h' ((List.perm_ext_iff_of_nodup (bet_nodup h) (bet_nodup h')).mpr he)
theorem pigeon {l : List Nat} {m : Nat} (h : l.length < m) : ∃ y, y < m ∧ y ∉ l := by
  apply Classical.byContradiction
  intro hn
  have : List.range m ⊆ l := fun x hx => by
    apply Classical.byContradiction
    intro hx2
    exact hn ⟨x, List.mem_range.mp hx, hx2⟩
  have := List.nodup_range.length_le_of_subset this
  rw [List.length_range] at this
  omega
abbrev Gr : Type := List Nat × (Nat → Nat) × Nat × (Nat → Nat)
abbrev gO (g : Gr) : List Nat := g.1
abbrev gR (g : Gr) : Nat → Nat := g.2.1
abbrev gC (g : Gr) : Nat := g.2.2.1
abbrev gB (g : Gr) : Nat → Nat := g.2.2.2
def fal (tu : Bool) (r : Nat) : Bool := tu && (r % 2 == 1)
def nxt (R n i : Nat) : Nat := min (R + i) n
def gcd' (R n i : Nat) (g : Gr) (r x : Nat) : Bool := decide (x < nxt R n i) && !((gO g).contains x) && (gR g x == r)
def gpk (F : Nat → Nat) (n R : Nat) (tu : Bool) (i : Nat) (g : Gr) (r : Nat) : Option Nat := (lst F n (fal tu r)).find? (gcd' R n i g r)
def gcu (F : Nat → Nat) (n R : Nat) (tu : Bool) (i : Nat) (g : Gr) : Nat := if (gpk F n R tu i g (gC g)).isSome then gC g else gC g + 1
def gkk (F : Nat → Nat) (n R : Nat) (tu : Bool) (i : Nat) (g : Gr) : Nat := (gpk F n R tu i g (gcu F n R tu i g)).getD 0
def gstp (F : Nat → Nat) (n R : Nat) (tu : Bool) (i : Nat) (g : Gr) : Gr :=
  (gO g ++ [gkk F n R tu i g], fun x => if x = nxt R n i ∧ nxt R n i < n then (if lsB F x (gkk F n R tu i g) == fal tu (gcu F n R tu i g) then gcu F n R tu i g else gcu F n R tu i g + 1) else gR g x, gcu F n R tu i g, fun r => if r = gcu F n R tu i g ∧ gcu F n R tu i g ≠ gC g then i else gB g r)
def gst (F : Nat → Nat) (n R : Nat) (tu : Bool) : Nat → Gr
  | 0 => ([], fun _ => 0, 0, fun _ => 0)
  | i + 1 => gstp F n R tu i (gst F n R tu i)
theorem gcd_t {R n i r x : Nat} {g : Gr} : gcd' R n i g r x = true ↔ x < nxt R n i ∧ x ∉ gO g ∧ gR g x = r := by
  unfold gcd'
  simp [and_assoc]
theorem gpk_some {F : Nat → Nat} {n R i r k : Nat} {tu : Bool} {g : Gr} (h : gpk F n R tu i g r = some k) : (k < nxt R n i ∧ k ∉ gO g ∧ gR g k = r) ∧ ∀ y, y < nxt R n i → y ∉ gO g → gR g y = r → y ≠ k → bet F (fal tu r) k y := by
  unfold gpk at h
  obtain ⟨h1, as, bs, h2, h3⟩ := List.find?_eq_some_iff_append.mp h
  refine ⟨gcd_t.mp h1, fun y q1 q2 q3 q4 => ?_⟩
  have hy : y ∈ lst F n (fal tu r) := lst_mem.mpr (by unfold nxt at q1; omega)
  have hs := lst_srt (F := F) (n := n) (f := fal tu r)
  rw [h2] at hy hs
  rcases List.mem_append.mp hy with q | q
  · have := h3 y q
    rw [gcd_t.mpr ⟨q1, q2, q3⟩] at this
    simp at this
  · rcases List.mem_cons.mp q with q | q
    · exact absurd q q4
    · exact (List.pairwise_cons.mp (List.pairwise_append.mp hs).2.1).1 y q
theorem gpk_none {F : Nat → Nat} {n R i r : Nat} {tu : Bool} {g : Gr} (h : gpk F n R tu i g r = none) {y : Nat} (q1 : y < nxt R n i) (q2 : y ∉ gO g) : gR g y ≠ r := by
  intro q3
  unfold gpk at h
  have := List.find?_eq_none.mp h y (lst_mem.mpr (by unfold nxt at q1; omega))
  exact this (gcd_t.mpr ⟨q1, q2, q3⟩)
theorem gpk_ex {F : Nat → Nat} {n R i r y : Nat} {tu : Bool} {g : Gr} (q1 : y < nxt R n i) (q2 : y ∉ gO g) (q3 : gR g y = r) : ∃ k, gpk F n R tu i g r = some k := by
  cases h : gpk F n R tu i g r with
  | none => exact absurd q3 (gpk_none h q1 q2)
  | some k => exact ⟨k, rfl⟩
/-- what holds while runs grow -/
def GI (F : Nat → Nat) (n R : Nat) (tu : Bool) (i : Nat) (g : Gr) : Prop :=
  (gO g).length = i ∧ (gO g).Nodup ∧ (∀ x, x ∈ gO g → x < nxt R n i) ∧ (∀ x, x < nxt R n i → x ∉ gO g → gR g x = gC g ∨ gR g x = gC g + 1) ∧ (∀ x, x ∈ gO g → gR g x ≤ gC g) ∧
  (∀ x y, x ∈ gO g → y < nxt R n i → y ∉ gO g → gR g x = gC g → gR g y = gC g → bet F (fal tu (gC g)) x y) ∧
  (gO g).Pairwise (fun x y => gR g x < gR g y ∨ (gR g x = gR g y ∧ bet F (fal tu (gR g x)) x y)) ∧
  (∀ r p, r ≤ gC g → p < i → (gB g r ≤ p ↔ r ≤ gR g ((gO g).getD p 0))) ∧
  gB g 0 = 0 ∧ (∀ r, r < gC g → gB g r + 2 ≤ gB g (r + 1)) ∧ (i = 0 → gC g = 0 ∧ ∀ x, gR g x = 0) ∧ (0 < i → gB g (gC g) < i) ∧ (i = gB g (gC g) + 1 → i < n → ∃ y, y < nxt R n i ∧ y ∉ gO g ∧ gR g y = gC g)
section GG
variable {F : Nat → Nat} {n R : Nat} {tu : Bool} {i : Nat} {g : Gr}
theorem gi_0 : GI F n R tu 0 (gst F n R tu 0) :=
  ⟨rfl, List.nodup_nil, fun x h => absurd h List.not_mem_nil, fun _ _ _ => Or.inl rfl, fun x h => absurd h List.not_mem_nil, fun x y h => absurd h List.not_mem_nil, List.Pairwise.nil, fun r p _ h => absurd h (Nat.not_lt_zero p), rfl, fun r h => absurd h (Nat.not_lt_zero r), fun _ => ⟨rfl, fun _ => rfl⟩, fun h => absurd h (Nat.lt_irrefl 0), fun h => absurd h (by show ¬ 0 = 0 + 1; omega)⟩
theorem nxt_s (hR : 2 ≤ R) (hi : i < n) : i < nxt R n i ∧ nxt R n i ≤ nxt R n (i + 1) ∧ nxt R n (i + 1) ≤ nxt R n i + 1 ∧ nxt R n i ≤ n ∧ (i + 1 < n → i + 1 < nxt R n i) ∧ (nxt R n i < n → nxt R n (i + 1) = nxt R n i + 1) ∧ (¬ nxt R n i < n → nxt R n (i + 1) = nxt R n i) := by
  unfold nxt; omega
/-- the one that goes out -/
theorem gi_pick (hR : 2 ≤ R) (hi : i < n) (h : GI F n R tu i g) : gpk F n R tu i g (gcu F n R tu i g) = some (gkk F n R tu i g) ∧ (gcu F n R tu i g = gC g ∨ (gcu F n R tu i g = gC g + 1 ∧ gpk F n R tu i g (gC g) = none ∧ 0 < i)) := by
  obtain ⟨h1, h2, h3, h4, h5, h6, h7, h8, h9, h10, h11, h12, h13⟩ := h
  obtain ⟨x1, x2, x3, x4, x5, x6, x7⟩ := nxt_s hR hi
  obtain ⟨y, y1, y2⟩ := pigeon (l := gO g) (m := nxt R n i) (by omega)
  cases hp : gpk F n R tu i g (gC g) with
  | some k =>
    have e : gcu F n R tu i g = gC g := by unfold gcu; rw [hp]; rfl
    refine ⟨?_, Or.inl e⟩
    unfold gkk
    rw [e, hp]; rfl
  | none =>
    have e : gcu F n R tu i g = gC g + 1 := by unfold gcu; rw [hp]; rfl
    have hy := (h4 y y1 y2).resolve_left (gpk_none hp y1 y2)
    obtain ⟨k, hk⟩ := gpk_ex (F := F) (tu := tu) y1 y2 hy
    refine ⟨by unfold gkk; rw [e, hk]; rfl, Or.inr ⟨e, rfl, ?_⟩⟩
    by_cases h0 : 0 < i
    · exact h0
    · have := h11 (by omega)
      rw [this.2 y, this.1] at hy; omega
theorem gi_s (hR : 2 ≤ R) (hi : i < n) (h : GI F n R tu i g) : GI F n R tu (i + 1) (gstp F n R tu i g) := by
  obtain ⟨hp, hc⟩ := gi_pick hR hi h
  obtain ⟨h1, h2, h3, h4, h5, h6, h7, h8, h9, h10, h11, h12, h13⟩ := id h
  obtain ⟨x1, x2, x3, x4, x5, x6, x7⟩ := nxt_s hR hi
  obtain ⟨⟨k1, k2, k3⟩, k4⟩ := gpk_some hp
  generalize hcd : gcu F n R tu i g = c at *
  generalize hkd : gkk F n R tu i g = k at *
  have e1 : gO (gstp F n R tu i g) = gO g ++ [k] := by unfold gstp; rw [hkd]
  have e3 : gC (gstp F n R tu i g) = c := hcd
  have e2 : ∀ x, x < nxt R n i → gR (gstp F n R tu i g) x = gR g x := fun x hx => by
    show (if x = nxt R n i ∧ nxt R n i < n then _ else gR g x) = _
    rw [if_neg (by omega)]
  have e2' : nxt R n i < n → gR (gstp F n R tu i g) (nxt R n i) = if lsB F (nxt R n i) k == fal tu c then c else c + 1 := fun hx => by
    show (if nxt R n i = nxt R n i ∧ nxt R n i < n then _ else gR g (nxt R n i)) = _
    rw [if_pos ⟨rfl, hx⟩, hkd, hcd]
  have e4 : ∀ r, gB (gstp F n R tu i g) r = if r = c ∧ c ≠ gC g then i else gB g r := fun r => by
    show (if r = gcu F n R tu i g ∧ gcu F n R tu i g ≠ gC g then i else gB g r) = _
    rw [hcd]
  have hcc : gC g ≤ c ∧ c ≤ gC g + 1 := by rcases hc with q | ⟨q, _⟩ <;> omega
  have hmem : ∀ x, x ∈ gO g ++ [k] ↔ x ∈ gO g ∨ x = k := fun x => by simp
  have hold : ∀ x, x ∈ gO g ++ [k] → x < nxt R n i := fun x hx => by
    rcases (hmem x).mp hx with q | q
    · exact h3 x q
    · rw [q]; exact k1
  have hro : ∀ x, x ∈ gO g ++ [k] → gR (gstp F n R tu i g) x = gR g x := fun x hx => e2 x (hold x hx)
  have hnew : ∀ x, x < nxt R n (i + 1) → x < nxt R n i ∨ (x = nxt R n i ∧ nxt R n i < n) := fun x hx => by omega
  -- what is left in the room is of c or c + 1
  have h4' : ∀ y, y < nxt R n i → y ∉ gO g → gR g y = c ∨ gR g y = c + 1 := fun y q1 q2 => by
    rcases hc with q | ⟨q, q', _⟩
    · rw [q]; exact h4 y q1 q2
    · rw [q]; exact Or.inl ((h4 y q1 q2).resolve_left (gpk_none q' q1 q2))
  have hoc : ∀ x, x ∈ gO g → gR g x ≤ c := fun x hx => by have := h5 x hx; omega
  -- those of c that went out are ahead of k
  have hbk : ∀ x, x ∈ gO g → gR g x = c → bet F (fal tu c) x k := fun x hx hxc => by
    rcases hc with q | ⟨q, q', _⟩
    · rw [q] at hxc k3 ⊢; exact h6 x k hx k1 k2 hxc k3
    · have := h5 x hx; omega
  refine ⟨?_, ?_, ?_, ?_, ?_, ?_, ?_, ?_, ?_, ?_, ?_, ?_, ?_⟩
  · rw [e1, List.length_append, h1]; rfl
  · rw [e1, List.nodup_append]
    exact ⟨h2, by simp, fun a ha b hb => by simp at hb; subst hb; exact fun q => k2 (q ▸ ha)⟩
  · intro x hx; rw [e1] at hx; have := hold x hx; omega
  · intro x hx hx2
    rw [e1] at hx2
    rw [e3]
    rcases hnew x hx with q | ⟨q, q'⟩
    · rw [e2 x q]; exact h4' x q (fun q3 => hx2 ((hmem x).mpr (Or.inl q3)))
    · rw [q, e2' q']; split
      · exact Or.inl rfl
      · exact Or.inr rfl
  · intro x hx
    rw [e1] at hx
    rw [e3, hro x hx]
    rcases (hmem x).mp hx with q | q
    · exact hoc x q
    · rw [q, k3]; exact Nat.le_refl _
  · intro x y hx hy hy2 hxc hyc
    rw [e1] at hx hy2
    rw [e3] at hxc hyc ⊢
    rw [hro x hx] at hxc
    have hxk : x = k ∨ bet F (fal tu c) x k := by
      rcases (hmem x).mp hx with q | q
      · exact Or.inr (hbk x q hxc)
      · exact Or.inl q
    have hky : bet F (fal tu c) k y := by
      rcases hnew y hy with q | ⟨q, q'⟩
      · rw [e2 y q] at hyc
        exact k4 y q (fun q3 => hy2 ((hmem y).mpr (Or.inl q3))) hyc (fun q3 => hy2 ((hmem y).mpr (Or.inr q3)))
      · subst q
        rw [e2' q'] at hyc
        have hne : k ≠ nxt R n i := by omega
        by_cases hl : (lsB F (nxt R n i) k == fal tu c) = true
        · rcases bet_tot (F := F) (f := fal tu c) hne with z | z
          · exact z
          · have := (bet_ls (F := F) (f := fal tu c) (fun q => hne q.symm)).mpr z
            rw [bne, hl] at this; cases this
        · rw [if_neg hl] at hyc; omega
    rcases hxk with q | q
    · rw [q]; exact hky
    · exact bet_trans q hky
  · rw [e1]
    have h7' : (gO g).Pairwise (fun x y => gR (gstp F n R tu i g) x < gR (gstp F n R tu i g) y ∨ (gR (gstp F n R tu i g) x = gR (gstp F n R tu i g) y ∧ bet F (fal tu (gR (gstp F n R tu i g) x)) x y)) := by
      refine h7.imp_of_mem (fun {a b} ha hb hab => ?_)
      rw [e2 a (h3 a ha), e2 b (h3 b hb)]; exact hab
    rw [List.pairwise_append]
    refine ⟨h7', by simp, fun a ha b hb => ?_⟩
    simp only [List.mem_singleton] at hb
    subst hb
    rw [e2 a (h3 a ha), e2 b k1, k3]
    by_cases q : gR g a = c
    · right; rw [q]; exact ⟨rfl, hbk a ha q⟩
    · left; have := hoc a ha; omega
  · intro r p hr hp'
    rw [e3] at hr
    rw [e1, e4]
    by_cases hpi : p = i
    · have hg : (gO g ++ [k]).getD p 0 = k := by
        rw [hpi, List.getD_eq_getElem?_getD, List.getElem?_append_right (by omega), h1, Nat.sub_self]; rfl
      rw [hg, e2 k k1, k3]
      refine ⟨fun _ => hr, fun _ => ?_⟩
      split
      · omega
      · next hq =>
        by_cases hi0 : 0 < i
        · have hr2 : r ≤ gC g := by omega
          have hmon : ∀ a b, a ≤ b → b ≤ gC g → gB g a ≤ gB g b := by
            intro a b hab
            induction b with
            | zero => intro _; rw [show a = 0 by omega]; exact Nat.le_refl _
            | succ b ih =>
              intro hb
              by_cases hq2 : a = b + 1
              · subst hq2; exact Nat.le_refl _
              · have := ih (by omega) (by omega); have := h10 b (by omega); omega
          have := hmon r (gC g) hr2 (Nat.le_refl _)
          have := h12 hi0
          omega
        · have := h11 (by omega)
          have hr0 : r = 0 := by
            rcases hc with q | ⟨q, _, q3⟩
            · omega
            · omega
          rw [hr0, h9]; omega
    · have hp2 : p < i := by omega
      have hg : (gO g ++ [k]).getD p 0 = (gO g).getD p 0 := by
        rw [List.getD_eq_getElem?_getD, List.getElem?_append_left (by omega), ← List.getD_eq_getElem?_getD]
      have hin : (gO g).getD p 0 ∈ gO g := by
        rw [List.getD_eq_getElem?_getD, List.getElem?_eq_getElem (by omega)]
        exact List.getElem_mem _
      rw [hg, e2 _ (h3 _ hin)]
      by_cases hq : r = c ∧ c ≠ gC g
      · rw [if_pos hq]
        have := h5 _ hin
        have := hcc
        constructor
        · intro q; omega
        · intro q; omega
      · rw [if_neg hq]
        exact h8 r p (by omega) hp2
  · rw [e4]
    split
    · next hq => rcases hc with q | ⟨q, _, _⟩ <;> omega
    · exact h9
  · intro r hr
    rw [e3] at hr
    rw [e4, e4, if_neg (by omega)]
    by_cases hq : r + 1 = c ∧ c ≠ gC g
    · rw [if_pos hq]
      have hr' : r = gC g := by omega
      rcases hc with q | ⟨q, q', q3⟩
      · omega
      · have q4 := h12 q3
        rw [hr']
        by_cases hq5 : i = gB g (gC g) + 1
        · obtain ⟨y, y1, y2, y3⟩ := h13 hq5 hi
          exact absurd y3 (gpk_none q' y1 y2)
        · omega
    · rw [if_neg hq]; exact h10 r (by omega)
  · intro q; omega
  · intro _
    rw [e3, e4]
    by_cases hq : c = c ∧ c ≠ gC g
    · rw [if_pos hq]; omega
    · rw [if_neg hq]
      have : c = gC g := by omega
      rw [this]
      by_cases hi0 : 0 < i
      · have := h12 hi0; omega
      · have := h11 (by omega); rw [this.1, h9]; omega
  · intro q1 q2
    rw [e3, e4] at q1
    rw [e1, e3]
    obtain ⟨y, y1, y2⟩ := pigeon (l := gO g ++ [k]) (m := nxt R n i) (by rw [List.length_append, h1]; have := x5 q2; simpa using this)
    refine ⟨y, by omega, y2, ?_⟩
    rw [e2 y y1]
    have y2' : y ∉ gO g := fun q => y2 ((hmem y).mpr (Or.inl q))
    by_cases hq : c = c ∧ c ≠ gC g
    · rcases hc with q | ⟨q, q', _⟩
      · omega
      · rw [q]; exact (h4 y y1 y2').resolve_left (gpk_none q' y1 y2')
    · rw [if_neg hq] at q1
      have hcg : c = gC g := by omega
      by_cases hi0 : 0 < i
      · have := h12 hi0; rw [hcg] at q1; omega
      · have := h11 (by omega); rw [hcg, this.1, this.2]
theorem gi_all (hR : 2 ≤ R) : ∀ {i : Nat}, i ≤ n → GI F n R tu i (gst F n R tu i)
  | 0, _ => gi_0
  | i + 1, h => gi_s hR (by omega) (gi_all hR (by omega))
end GG
end
section
/-! the room: which one goes out -/
def abst (F W : Nat → Nat) (q : Nat → Bool) (fall : Bool) : Nat → Option Nat
  | 0 => none
  | i + 1 => match abst F W q fall i with
    | none => if q (W i) then some i else none
    | some b => if q (W i) && (lsB F (W i) (W b) != fall) then some i else some b
/-- a row of numbers holds a set -/
def Rs (S : Nat → Prop) (W : Nat → Nat) (m : Nat) : Prop := (∀ j, j < m → S (W j)) ∧ (∀ a b, a < m → b < m → W a = W b → a = b) ∧ ∀ x, S x → ∃ j, j < m ∧ W j = x
section RO
variable {F W : Nat → Nat} {q : Nat → Bool} {f : Bool} {S S' : Nat → Prop} {m b y : Nat}
theorem rs_congr' (h : Rs S W m) (he : ∀ x, S x ↔ S' x) : Rs S' W m := ⟨fun j hj => (he _).mp (h.1 j hj), h.2.1, fun x hx => h.2.2 x ((he x).mpr hx)⟩
theorem rs_del (h : Rs S W m) (hb : b < m) : Rs (fun x => S x ∧ x ≠ W b) (fun j => if j = b then W (m - 1) else W j) (m - 1) := by
  obtain ⟨h1, h2, h3⟩ := h
  refine ⟨fun j hj => ?_, fun a c ha hc he => ?_, fun x hx => ?_⟩
  · dsimp only
    split
    · next hq => exact ⟨h1 _ (by omega), fun e => by have := h2 _ _ (by omega) hb e; omega⟩
    · next hq => exact ⟨h1 _ (by omega), fun e => hq (h2 _ _ (by omega) hb e)⟩
  · dsimp only at he
    by_cases q1 : a = b
    · by_cases q2 : c = b
      · omega
      · rw [if_pos q1, if_neg q2] at he; have := h2 _ _ (by omega) (by omega) he; omega
    · by_cases q2 : c = b
      · rw [if_neg q1, if_pos q2] at he; have := h2 _ _ (by omega) (by omega) he; omega
      · rw [if_neg q1, if_neg q2] at he; exact h2 _ _ (by omega) (by omega) he
  · obtain ⟨j, hj, rfl⟩ := h3 x hx.1
    have hjb : j ≠ b := fun e => hx.2 (by rw [e])
    by_cases q1 : j = m - 1
    · exact ⟨b, by omega, by dsimp only; rw [if_pos rfl, q1]⟩
    · exact ⟨j, by omega, by dsimp only; rw [if_neg hjb]⟩
theorem rs_add (h : Rs S W m) (hy : ¬ S y) : Rs (fun x => S x ∨ x = y) (fun j => if j = m then y else W j) (m + 1) := by
  obtain ⟨h1, h2, h3⟩ := h
  refine ⟨fun j hj => ?_, fun a c ha hc he => ?_, fun x hx => ?_⟩
  · dsimp only
    split
    · exact Or.inr rfl
    · exact Or.inl (h1 j (by omega))
  · dsimp only at he
    by_cases q1 : a = m
    · by_cases q2 : c = m
      · omega
      · rw [if_pos q1, if_neg q2] at he; exact absurd (he ▸ h1 c (by omega)) hy
    · by_cases q2 : c = m
      · rw [if_neg q1, if_pos q2] at he; exact absurd (he ▸ h1 a (by omega)) hy
      · rw [if_neg q1, if_neg q2] at he; exact h2 _ _ (by omega) (by omega) he
  · rcases hx with hx | rfl
    · obtain ⟨j, hj, e⟩ := h3 x hx
      exact ⟨j, by omega, by dsimp only; rw [if_neg (by omega)]; exact e⟩
    · exact ⟨m, by omega, by dsimp only; rw [if_pos rfl]⟩
theorem rs_rep (h : Rs S W m) (hb : b < m) (hy : ¬ S y) : Rs (fun x => (S x ∧ x ≠ W b) ∨ x = y) (fun j => if j = b then y else W j) m := by
  obtain ⟨h1, h2, h3⟩ := h
  refine ⟨fun j hj => ?_, fun a c ha hc he => ?_, fun x hx => ?_⟩
  · dsimp only
    split
    · exact Or.inr rfl
    · next hq => exact Or.inl ⟨h1 j hj, fun e => hq (h2 _ _ hj hb e)⟩
  · dsimp only at he
    by_cases q1 : a = b
    · by_cases q2 : c = b
      · omega
      · rw [if_pos q1, if_neg q2] at he; exact absurd (he ▸ h1 c (by omega)) hy
    · by_cases q2 : c = b
      · rw [if_neg q1, if_pos q2] at he; exact absurd (he ▸ h1 a (by omega)) hy
      · rw [if_neg q1, if_neg q2] at he; exact h2 _ _ (by omega) (by omega) he
  · rcases hx with hx | rfl
    · obtain ⟨j, hj, rfl⟩ := h3 x hx.1
      have hjb : j ≠ b := fun e => hx.2 (by rw [e])
      exact ⟨j, hj, by dsimp only; rw [if_neg hjb]⟩
    · exact ⟨b, hb, by dsimp only; rw [if_pos rfl]⟩
theorem abst_lt : ∀ {n b : Nat}, abst F W q f n = some b → b < n ∧ q (W b) = true
  | 0, b, h => by cases h
  | n + 1, b, h => by
    unfold abst at h
    cases ha : abst F W q f n with
    | none =>
      rw [ha] at h; dsimp only at h
      split at h
      · next hq => injection h with h; subst h; exact ⟨by omega, hq⟩
      · cases h
    | some c =>
      obtain ⟨c1, c2⟩ := abst_lt ha
      rw [ha] at h; dsimp only at h
      split at h
      · next hq =>
        injection h with h; subst h
        simp only [Bool.and_eq_true] at hq
        exact ⟨by omega, hq.1⟩
      · injection h with h; subst h; exact ⟨by omega, c2⟩
theorem abst_none : ∀ {n : Nat}, abst F W q f n = none → ∀ j, j < n → q (W j) = false
  | 0, _, j, hj => by omega
  | n + 1, h, j, hj => by
    unfold abst at h
    cases ha : abst F W q f n with
    | none =>
      rw [ha] at h; dsimp only at h
      split at h
      · cases h
      · next hq =>
        by_cases hjn : j = n
        · subst hjn; simpa using hq
        · exact abst_none ha j (by omega)
    | some c =>
      rw [ha] at h; dsimp only at h
      split at h <;> cases h
theorem abst_best : ∀ {n b : Nat}, (∀ a c, a < n → c < n → W a = W c → a = c) → abst F W q f n = some b → ∀ j, j < n → j ≠ b → q (W j) = true → bet F f (W b) (W j)
  | 0, b, _, h, j, hj, _, _ => by omega
  | n + 1, b, hi, h, j, hj, hjb, hq => by
    have hi' : ∀ a c, a < n → c < n → W a = W c → a = c := fun a c ha hc => hi a c (by omega) (by omega)
    unfold abst at h
    cases ha : abst F W q f n with
    | none =>
      rw [ha] at h; dsimp only at h
      split at h
      · injection h with h; subst h
        rw [abst_none ha j (by omega)] at hq; cases hq
      · cases h
    | some c =>
      obtain ⟨c1, c2⟩ := abst_lt ha
      have ih := abst_best hi' ha
      have hnc : W n ≠ W c := fun e => by have := hi n c (by omega) (by omega) e; omega
      rw [ha] at h; dsimp only at h
      split at h
      · next hq2 =>
        injection h with h; subst h
        simp only [Bool.and_eq_true] at hq2
        have hb := (bet_ls hnc).mp hq2.2
        by_cases hjc : j = c
        · subst hjc; exact hb
        · exact bet_trans hb (ih j (by omega) hjc hq)
      · next hq2 =>
        injection h with h; subst h
        by_cases hjn : j = n
        · subst hjn
          have : ¬ bet F f (W j) (W c) := fun z => hq2 (by rw [hq, (bet_ls hnc).mpr z]; rfl)
          rcases bet_tot (F := F) (f := f) hnc with z | z
          · exact absurd z this
          · exact z
        · exact ih j (by omega) hjb hq
end RO
/-- those in the room -/
def inr (R n i : Nat) (g : Gr) (x : Nat) : Prop := x < nxt R n i ∧ x ∉ gO g
theorem abst_pk {F W : Nat → Nat} {n R i r m : Nat} {tu : Bool} {g : Gr} (h : Rs (inr R n i g) W m) : gpk F n R tu i g r = (abst F W (fun x => gR g x == r) (fal tu r) m).map W := by
  obtain ⟨h1, h2, h3⟩ := h
  cases ha : abst F W (fun x => gR g x == r) (fal tu r) m with
  | none =>
    cases hp : gpk F n R tu i g r with
    | none => rfl
    | some k =>
      obtain ⟨⟨k1, k2, k3⟩, k4⟩ := gpk_some hp
      obtain ⟨j, hj, e⟩ := h3 k ⟨k1, k2⟩
      have := abst_none ha j hj
      rw [e] at this
      simp [k3] at this
  | some b =>
    obtain ⟨b1, b2⟩ := abst_lt ha
    have b3 := h1 b b1
    obtain ⟨k, hk⟩ := gpk_ex (F := F) (tu := tu) (r := r) b3.1 b3.2 (by simpa using b2)
    rw [hk]
    obtain ⟨⟨k1, k2, k3⟩, k4⟩ := gpk_some hk
    show some k = some (W b)
    congr 1
    apply Classical.byContradiction
    intro hne
    obtain ⟨j, hj, e⟩ := h3 k ⟨k1, k2⟩
    have z1 := k4 (W b) b3.1 b3.2 (by simpa using b2) (fun e => hne e.symm)
    have z2 := abst_best h2 ha j hj (fun e2 => hne (by rw [← e, e2])) (by rw [e]; simpa using k3)
    rw [e] at z2
    exact bet_asym z1 z2
theorem inr_s {F : Nat → Nat} {n R i : Nat} {tu : Bool} {g : Gr} (hR : 2 ≤ R) (hi : i < n) (x : Nat) : inr R n (i + 1) (gstp F n R tu i g) x ↔ (inr R n i g x ∧ x ≠ gkk F n R tu i g) ∨ (x = nxt R n i ∧ nxt R n i < n ∧ x ∉ gO g ∧ x ≠ gkk F n R tu i g) := by
  obtain ⟨x1, x2, x3, x4, x5, x6, x7⟩ := nxt_s hR hi
  unfold inr
  have : gO (gstp F n R tu i g) = gO g ++ [gkk F n R tu i g] := rfl
  rw [this]
  simp only [List.mem_append, List.mem_singleton, not_or]
  constructor
  · rintro ⟨h1, h2, h3⟩
    by_cases hq : x < nxt R n i
    · exact Or.inl ⟨⟨hq, h2⟩, h3⟩
    · exact Or.inr ⟨by omega, by omega, h2, h3⟩
  · rintro (⟨⟨h1, h2⟩, h3⟩ | ⟨h1, h2, h3, h4⟩)
    · exact ⟨by omega, h2, h3⟩
    · exact ⟨by omega, h3, h4⟩
/-- behind the end -/
def nrG (g : Gr) : Nat := gC g + 1
def bgG (n : Nat) (g : Gr) (r : Nat) : Nat := if r ≤ gC g then gB g r else n
def glG (n : Nat) (g : Gr) (r : Nat) : Nat := bgG n g (r + 1) - bgG n g r
section GF
variable {F : Nat → Nat} {n R : Nat} {tu : Bool} {g : Gr}
theorem gB_two {i : Nat} (h : GI F n R tu i g) : ∀ r, r ≤ gC g → 2 * r ≤ gB g r
  | 0, _ => Nat.zero_le _
  | r + 1, hr => by
    have := gB_two h r (by omega)
    have := h.2.2.2.2.2.2.2.2.2.1 r (by omega)
    omega
theorem gC_lt {i : Nat} (hi : 0 < i) (h : GI F n R tu i g) : 2 * gC g < i := by
  have := gB_two h (gC g) (Nat.le_refl _)
  have := h.2.2.2.2.2.2.2.2.2.2.2.1 hi
  omega
theorem gf_all (h : GI F n R tu n g) {x : Nat} : x ∈ gO g ↔ x < n := by
  constructor
  · intro hx; have := h.2.2.1 x hx; unfold nxt at this; omega
  · intro hx
    apply Classical.byContradiction
    intro hn
    have := h.2.1.length_le_of_subset (l₂ := (List.range n).erase x) (fun y hy => by
      have := h.2.2.1 y hy
      refine (List.mem_erase_of_ne (fun (e : y = x) => hn (by rw [← e]; exact hy))).mpr (List.mem_range.mpr (by unfold nxt at this; omega))) 
    rw [h.1, List.length_erase_of_mem (List.mem_range.mpr hx), List.length_range] at this
    omega
theorem gf_bg (hn : 0 < n) (h : GI F n R tu n g) {r : Nat} (hr : r < nrG g) : bgG n g r < bgG n g (r + 1) ∧ bgG n g (r + 1) ≤ n := by
  unfold nrG at hr
  unfold bgG
  rw [if_pos (by omega)]
  have h12 := h.2.2.2.2.2.2.2.2.2.2.2.1 hn
  by_cases hq : r + 1 ≤ gC g
  · rw [if_pos hq]
    have := h.2.2.2.2.2.2.2.2.2.1 r (by omega)
    have hmon : ∀ a b, a ≤ b → b ≤ gC g → gB g a ≤ gB g b := by
      intro a b hab
      induction b with
      | zero => intro _; rw [show a = 0 by omega]; exact Nat.le_refl _
      | succ b ih =>
        intro hb
        by_cases hq2 : a = b + 1
        · subst hq2; exact Nat.le_refl _
        · have := ih (by omega) (by omega); have := h.2.2.2.2.2.2.2.2.2.1 b (by omega); omega
    have := hmon (r + 1) (gC g) hq (Nat.le_refl _)
    omega
  · rw [if_neg hq, show r = gC g by omega]
    exact ⟨h12, Nat.le_refl _⟩
theorem gf_pos (h : GI F n R tu n g) {r p : Nat} (hr : r < nrG g) (hp : p < n) : gR g ((gO g).getD p 0) = r ↔ bgG n g r ≤ p ∧ p < bgG n g (r + 1) := by
  unfold nrG at hr
  have h8 := h.2.2.2.2.2.2.2.1
  have h5 := h.2.2.2.2.1
  have hin : (gO g).getD p 0 ∈ gO g := by
    rw [List.getD_eq_getElem?_getD, List.getElem?_eq_getElem (by rw [h.1]; exact hp)]
    exact List.getElem_mem _
  have hle := h5 _ hin
  have a1 := h8 r p (by omega) hp
  unfold bgG
  rw [if_pos (show r ≤ gC g by omega)]
  by_cases hq : r + 1 ≤ gC g
  · rw [if_pos hq]
    have a2 := h8 (r + 1) p hq hp
    constructor
    · intro e
      rw [e] at a1 a2
      exact ⟨a1.mpr (Nat.le_refl _), by apply Classical.byContradiction; intro z; have := a2.mp (by omega); omega⟩
    · rintro ⟨z1, z2⟩
      have z3 := a1.mp z1
      have : ¬ r + 1 ≤ gR g ((gO g).getD p 0) := fun z => by have := a2.mpr z; omega
      omega
  · rw [if_neg hq]
    constructor
    · intro e; rw [e] at a1; exact ⟨a1.mpr (Nat.le_refl _), hp⟩
    · rintro ⟨z1, z2⟩
      have := a1.mp z1
      omega
/-- a run as it grew -/
def sgG (F : Nat → Nat) (n : Nat) (tu : Bool) (g : Gr) (r : Nat) : List Nat := (lst F n (fal tu r)).filter (fun x => gR g x == r)
theorem gf_seg (hn : 0 < n) (h : GI F n R tu n g) {r : Nat} (hr : r < nrG g) : ((gO g).drop (bgG n g r)).take (glG n g r) = sgG F n tu g r := by
  obtain ⟨b1, b2⟩ := gf_bg hn h hr
  have h7 := h.2.2.2.2.2.2.1
  have hlen := h.1
  have hin : ∀ x, x ∈ ((gO g).drop (bgG n g r)).take (glG n g r) ↔ x < n ∧ gR g x = r := by
    intro x
    constructor
    · intro hx
      obtain ⟨p, hp, e⟩ := List.getElem_of_mem hx
      rw [List.length_take, List.length_drop] at hp
      rw [List.getElem_take, List.getElem_drop] at e
      have hp2 : bgG n g r + p < n := by unfold glG at hp; omega
      have e2 : (gO g).getD (bgG n g r + p) 0 = x := by
        rw [List.getD_eq_getElem?_getD, List.getElem?_eq_getElem (by omega)]; exact e
      have := (gf_pos h hr hp2).mpr (by unfold glG at hp; omega)
      rw [e2] at this
      exact ⟨gf_all h |>.mp (List.mem_of_mem_drop (List.mem_of_mem_take hx)), this⟩
    · rintro ⟨hx, hxr⟩
      obtain ⟨p, hp, e⟩ := List.getElem_of_mem ((gf_all h).mpr hx)
      have e2 : (gO g).getD p 0 = x := by rw [List.getD_eq_getElem?_getD, List.getElem?_eq_getElem hp]; exact e
      have := (gf_pos h hr (p := p) (by omega)).mp (by rw [e2]; exact hxr)
      refine List.mem_iff_getElem.mpr ⟨p - bgG n g r, by rw [List.length_take, List.length_drop]; unfold glG; omega, ?_⟩
      rw [List.getElem_take, List.getElem_drop]
      have : bgG n g r + (p - bgG n g r) = p := by omega
      simp only [this]
      exact e
  refine srt_uniq (F := F) (f := fal tu r) ?_ ?_ (fun x => ?_)
  · have hs : (((gO g).drop (bgG n g r)).take (glG n g r)).Pairwise (fun x y => gR g x < gR g y ∨ (gR g x = gR g y ∧ bet F (fal tu (gR g x)) x y)) := (h7.sublist (List.drop_sublist _ _)).sublist (List.take_sublist _ _)
    refine hs.imp_of_mem (fun {a b} ha hb hab => ?_)
    have ea := ((hin a).mp ha).2
    have eb := ((hin b).mp hb).2
    rw [ea, eb] at hab
    rcases hab with z | z
    · omega
    · exact z.2
  · exact lst_srt.filter _
  · rw [hin]
    unfold sgG
    simp [List.mem_filter, lst_mem]
theorem gf_len (hn : 0 < n) (h : GI F n R tu n g) {r : Nat} (hr : r < nrG g) : (sgG F n tu g r).length = glG n g r := by
  rw [← gf_seg hn h hr, List.length_take, List.length_drop, h.1]
  obtain ⟨b1, b2⟩ := gf_bg hn h hr
  unfold glG; omega
theorem gf_at (hn : 0 < n) (h : GI F n R tu n g) {r i : Nat} (hr : r < nrG g) (hi : i < glG n g r) : (gO g).getD (bgG n g r + i) 0 = (sgG F n tu g r).getD i 0 := by
  obtain ⟨b1, b2⟩ := gf_bg hn h hr
  rw [← gf_seg hn h hr, List.getD_eq_getElem?_getD, List.getD_eq_getElem?_getD, List.getElem?_take_of_lt hi, List.getElem?_drop]
theorem gf_ro (h : GI F n R tu n g) {x : Nat} (hx : x < n) : gR g x < nrG g := by
  have := h.2.2.2.2.1 x ((gf_all h).mpr hx)
  unfold nrG; omega
theorem gf_nr (hn : 0 < n) (h : GI F n R tu n g) (h3 : n ≤ 300) : 1 ≤ nrG g ∧ nrG g ≤ 150 := by
  have := gC_lt hn h
  unfold nrG; omega
end GF
end
section
/-! growth in the class -/
section CG
variable {E : En} {a d n R i m : Nat} {σ : Sg} {F W : Nat → Nat} {tu : Bool} {g : Gr}
theorem nI_b255 {x y : Nat} (hx : x < 256) (hy : y < 256) : (nI x < nI y ↔ x < y) ∧ (nI x = nI y ↔ x = y) := ⟨nI_ltI (by omega) (by omega), nI_eq (by omega) (by omega)⟩
theorem c_isLess (hL : LRec E d) {x y : Nat} (hx : x < n) (hy : y < n) (hn : n ≤ 300) (hk : ∀ i, i < n → gi σ (d + 1) i = nI (F i)) (hF : ∀ i, i < n → F i < 256) : fX3_isLess E d (nI x) (nI y) σ = some (bI (lsB F x y), σ) := by
  obtain ⟨l0, l1, l2, l3, l4⟩ := hL
  have f1 := hF x hx
  have f2 := hF y hy
  unfold fX3_isLess lsB
  rw [tk_ok l0, dr_ok l1 l3.1, l3.2, ck_n (by omega) (by omega), ck_n (by omega) (by omega), nI_clamp (by omega), nI_clamp (by omega), hk x hx, hk y hy]
  by_cases h1 : F x < F y
  · rw [if_pos (nI_lt h1 (by omega)), bd_ok, kb_1, decide_eq_true (Or.inl h1)]; rfl
  · rw [if_neg (nI_nlt (by omega) (by omega)), ck_n (by omega) (by omega), ck_n (by omega) (by omega)]
    by_cases h2 : F x = F y
    · rw [if_neg (fun q => q (by rw [h2]))]
      by_cases h3 : y ≤ x
      · rw [if_pos (nI_le h3 (by omega)), bd_ok, kb_0, decide_eq_false (by omega)]; rfl
      · rw [if_neg (nI_ge (by omega) (by omega)), bd_ok, kb_1, decide_eq_true (by omega)]; rfl
    · rw [if_pos (fun q => h2 ((nI_eq (by omega) (by omega)).mp q)), bd_ok, kb_0, decide_eq_false (by omega)]; rfl
theorem c_falls (hG : LGro E a) {r : Nat} (h3 : gi σ a 3 = bI tu) (hr : r < 2 ^ 31) : fX0_falls E a (nI r) σ = some (bI (fal tu r), σ) := by
  unfold fX0_falls fal
  rw [tk_ok hG.1, h3, i2, im_n hr (by omega) (by omega)]
  cases tu with
  | false => rw [if_pos (by rfl), bd_ok, kb_0]; rfl
  | true =>
    rw [if_neg (by decide)]
    by_cases h : r % 2 = 1
    · rw [h, if_neg (by simp; rfl), bd_ok, kb_1]; rfl
    · rw [i1, if_pos (fun q => h ((nI_eq (by omega) (by omega)).mp q)), bd_ok]
      have : (r % 2 == 1) = false := by simpa using h
      rw [this]; exact kb_0
theorem c_nextOut (hG : LGro E a) (hL : LRec E d) {r : Nat} (h3 : gi σ a 3 = bI tu) (hr : r < 2 ^ 31) (hn : n ≤ 300) (hk : ∀ i, i < n → gi σ (d + 1) i = nI (F i)) (hF : ∀ i, i < n → F i < 256) (h5 : gi σ a 5 = nI m) (hm : m ≤ 16) (hw : ∀ j, j < m → gi σ (a + 3) j = nI (W j) ∧ W j < n) (hro : ∀ j, j < m → gi σ (a + 1) (W j) = nI (gR g (W j)) ∧ gR g (W j) < 2 ^ 31) : fX0_nextOut E a d (nI r) σ = some (optI (abst F W (fun x => gR g x == r) (fal tu r) m), σ) := by
  obtain ⟨l0, l1, l2, l3, l4, l5, l6⟩ := id hG
  unfold fX0_nextOut
  rw [tk_ok l0, tk_ok hL.1]
  refine bd_tr ((optI (abst F W (fun x => gR g x == r) (fal tu r) m), nI m), σ) m (fun j => ((optI (abst F W (fun x => gR g x == r) (fal tu r) j), nI j), σ)) (by show m < 1000000; omega) (fun j rec hj => ?_) (fun rec => ?_) rfl
  · obtain ⟨w1, w2⟩ := hw j hj
    obtain ⟨o1, o2⟩ := hro j hj
    dsimp only
    unfold bX0_nextOut_5
    rw [h5, if_neg (nI_ge hj (by omega)), dr_ok l1 l4.1, dr_ok l3 l6.1, l6.2, l4.2, ck_n (by omega) (by omega), nI_clamp (by omega), w1, ck_n (by omega) (by omega), nI_clamp (by omega), o1]
    have hab : abst F W (fun x => gR g x == r) (fal tu r) (j + 1) = match abst F W (fun x => gR g x == r) (fal tu r) j with | none => if gR g (W j) == r then some j else none | some b => if (gR g (W j) == r) && (lsB F (W j) (W b) != fal tu r) then some j else some b := rfl
    rw [hab]
    by_cases hq : gR g (W j) = r
    · rw [if_pos (by rw [hq])]
      have hq' : (gR g (W j) == r) = true := by simpa using hq
      cases hs : abst F W (fun x => gR g x == r) (fal tu r) j with
      | none =>
        rw [if_pos (by rfl), bd_ok, lt_ok, ad1]
        dsimp only
        rw [if_pos hq']; rfl
      | some b =>
        obtain ⟨b1, b2⟩ := abst_lt hs
        obtain ⟨w3, w4⟩ := hw b (by omega)
        rw [show optI (some b) = nI b from rfl, if_neg (nI_nm1 (by omega)), ck_n (by omega) (by omega), ck_n (by omega) (by omega), nI_clamp (by omega), w3, c_isLess hL w2 w4 hn hk hF, bd_ok, c_falls hG h3 hr, bd_ok]
        dsimp only
        rw [hq', Bool.true_and]
        by_cases hz : lsB F (W j) (W b) = fal tu r
        · rw [if_pos (by rw [hz]), bd_ok, lt_ok, ad1, hz, if_neg (by simp)]; rfl
        · rw [if_neg (by rw [bI_e]; exact hz), bd_ok, lt_ok, ad1, if_pos (by simpa using hz)]; rfl
    · rw [if_neg (fun q => hq ((nI_eq o2 hr).mp q)), bd_ok, lt_ok, ad1]
      have hq' : (gR g (W j) == r) = false := by simpa using hq
      cases hs : abst F W (fun x => gR g x == r) (fal tu r) j with
      | none => dsimp only; rw [hq', if_neg (by decide)]
      | some b => dsimp only; rw [hq', Bool.false_and, if_neg (by decide)]
  · unfold bX0_nextOut_5
    dsimp only
    rw [h5, if_pos (nI_le (Nat.le_refl _) (by omega))]
/-- the class, while runs grow -/
def GC (σ : Sg) (a n R i : Nat) (tu : Bool) (g : Gr) : Prop := ∃ W, Rs (inr R n i g) W (nxt R n i - i) ∧ gi σ a 5 = nI (nxt R n i - i) ∧ (∀ j, j < nxt R n i - i → gi σ (a + 3) j = nI (W j)) ∧ (∀ x, x < nxt R n i → gi σ (a + 1) x = nI (gR g x)) ∧ gi σ a 2 = nI (if i = 0 then 0 else gC g + 1) ∧ (0 < i → ∀ r, r ≤ gC g → gi σ (a + 2) r = nI (if r = gC g then i - gB g r else gB g (r + 1) - gB g r)) ∧ gi σ a 3 = bI tu
theorem gR_lt (hn : n ≤ 300) (hi0 : i ≤ n) (h : GI F n R tu i g) {x : Nat} (hx : x < nxt R n i) : gR g x < 2 ^ 31 := by
  by_cases hin : x ∈ gO g
  · have h1 := h.2.2.2.2.1 x hin
    by_cases h0 : 0 < i
    · have := gC_lt h0 h; omega
    · have := h.2.2.2.2.2.2.2.2.2.2.1 (by omega); omega
  · have h1 := h.2.2.2.1 x hx hin
    by_cases h0 : 0 < i
    · have := gC_lt h0 h; omega
    · have := h.2.2.2.2.2.2.2.2.2.2.1 (by omega); omega
theorem c_gstep (hG : LGro E a) (hL : LRec E d) (had : a = d + 4) (hn : n ≤ 300) (hR : 2 ≤ R) (hR2 : R ≤ 16) (h2 : gi σ d 2 = nI n) (hk : ∀ i, i < n → gi σ (d + 1) i = nI (F i)) (hF : ∀ i, i < n → F i < 256) (hi : i < n) (hgi : GI F n R tu i g) (h : GC σ a n R i tu g) (rec : Int32 → Int32 → Sg → Option (((Int32 × Int32) ⊕ Unit) × Sg)) :
    ∃ s, bX0_growFrom_78 E d a rec (nI (nxt R n i)) (nI i) σ = rec (nI (nxt R n (i + 1))) (nI (i + 1)) s ∧ GC s a n R (i + 1) tu (gstp F n R tu i g) ∧ ∀ x k, (x < a ∨ a + 4 ≤ x) → gi s x k = gi σ x k := by
  obtain ⟨W, r1, r2, r3, r4, r5, r6, r7⟩ := h
  obtain ⟨l0, l1, l2, l3, l4, l5, l6⟩ := id hG
  obtain ⟨x1, x2, x3, x4, x5, x6, x7⟩ := nxt_s hR hi
  obtain ⟨hp, hc⟩ := gi_pick hR hi hgi
  have hci := gi_s hR hi hgi
  have hcl := gC_lt (by omega) hci
  have e3 : gC (gstp F n R tu i g) = gcu F n R tu i g := rfl
  rw [e3] at hcl
  have e4 : ∀ r, gB (gstp F n R tu i g) r = if r = gcu F n R tu i g ∧ gcu F n R tu i g ≠ gC g then i else gB g r := fun r => rfl
  have hroom : nxt R n i - i ≤ 16 := by unfold nxt; omega
  have hwn : ∀ j, j < nxt R n i - i → gi σ (a + 3) j = nI (W j) ∧ W j < n := fun j hj => ⟨r3 j hj, by have := (r1.1 j hj).1; omega⟩
  have hro : ∀ j, j < nxt R n i - i → gi σ (a + 1) (W j) = nI (gR g (W j)) ∧ gR g (W j) < 2 ^ 31 := fun j hj => ⟨r4 _ (r1.1 j hj).1, gR_lt hn (by omega) hgi (r1.1 j hj).1⟩
  rw [abst_pk r1] at hp
  generalize hcd : gcu F n R tu i g = c at *
  generalize hkd : gkk F n R tu i g = k at *
  -- the first half: which one
  obtain ⟨b, hb, hWb⟩ : ∃ b, abst F W (fun x => gR g x == c) (fal tu c) (nxt R n i - i) = some b ∧ W b = k := by
    cases hs : abst F W (fun x => gR g x == c) (fal tu c) (nxt R n i - i) with
    | none => rw [hs] at hp; cases hp
    | some b => rw [hs] at hp; injection hp with hp; exact ⟨b, rfl, hp⟩
  obtain ⟨hb1, hb2⟩ := abst_lt hb
  have hbn : nI b ≠ -1 := nI_nm1 (by omega)
  have hW := hwn b hb1
  rw [hWb] at hW
  have nO : ∀ (s : Sg) (r : Nat), r < 2 ^ 31 → (∀ x k, x ≠ a + 2 → ¬ (x = a ∧ k = 2) → gi s x k = gi σ x k) → fX0_nextOut E a d (nI r) s = some (optI (abst F W (fun x => gR g x == r) (fal tu r) (nxt R n i - i)), s) := fun s r hr hf => c_nextOut hG hL (by rw [hf _ _ (by omega) (by omega)]; exact r7) hr hn (fun i hi => by rw [hf _ _ (by omega) (by omega)]; exact hk i hi) hF (by rw [hf _ _ (by omega) (by omega)]; exact r2) hroom (fun j hj => by rw [hf _ _ (by omega) (by omega)]; exact hwn j hj) (fun j hj => by rw [hf _ _ (by omega) (by omega)]; exact hro j hj)
  have sel : ∃ s33, bd (if ¬ (gi σ a 2) = 0 then (bd (fX0_nextOut E a d ((gi σ a 2) - (1 : Int32)) σ) (fun r31 s29 => some (r31, s29))) else (some ((-1 : Int32), σ))) (fun w27 s28 => if ¬ w27 = (-1 : Int32) then (some (w27, s28)) else (dr (rf E a 1) E 100 (fun x34 => ck (gi s28 a 2) (ln E x34) (ss (si s28 x34 (gi s28 a 2).toNatClampNeg (0 : Int32)) (fun s36 => bd (fX0_nextOut E a d (gi s36 a 2) s36) (fun r39 s37 => ss (si s37 a 2 ((gi s37 a 2) + (1 : Int32))) (fun s40 => some (r39, s40)))))))) = some (nI b, s33) ∧ gi s33 a 2 = nI (c + 1) ∧ (∀ r, r ≤ c → gi s33 (a + 2) r = nI (if r = c then i - gB (gstp F n R tu i g) r else gB (gstp F n R tu i g) (r + 1) - gB (gstp F n R tu i g) r)) ∧ ∀ x k, x ≠ a + 2 → ¬ (x = a ∧ k = 2) → gi s33 x k = gi σ x k := by
    have fresh : ∀ z, z = c → gi σ a 2 = nI z → (∀ r, r < c → gi σ (a + 2) r = nI (gB (gstp F n R tu i g) (r + 1) - gB (gstp F n R tu i g) r)) → i - gB (gstp F n R tu i g) c = 0 → ∃ s33, dr (rf E a 1) E 100 (fun x34 => ck (gi σ a 2) (ln E x34) (ss (si σ x34 (gi σ a 2).toNatClampNeg (0 : Int32)) (fun s36 => bd (fX0_nextOut E a d (gi s36 a 2) s36) (fun r39 s37 => ss (si s37 a 2 ((gi s37 a 2) + (1 : Int32))) (fun s40 => some (r39, s40)))))) = some (nI b, s33) ∧ gi s33 a 2 = nI (c + 1) ∧ (∀ r, r ≤ c → gi s33 (a + 2) r = nI (if r = c then i - gB (gstp F n R tu i g) r else gB (gstp F n R tu i g) (r + 1) - gB (gstp F n R tu i g) r)) ∧ ∀ x k, x ≠ a + 2 → ¬ (x = a ∧ k = 2) → gi s33 x k = gi σ x k := by
      intro z hz h1 h2 h3
      subst hz
      rw [dr_ok l2 l5.1, l5.2, h1, ck_n (by omega) (by omega), nI_clamp (by omega), ss_ok, gs_ne (by omega), h1, nO _ z (by omega) (fun x k q1 q2 => gs_ne (by omega)), hb, bd_ok, ss_ok, gs_ne (by omega), h1, ad1]
      refine ⟨_, rfl, gs_eq, fun r hr => ?_, fun x k q1 q2 => by rw [gs_ne (by omega), gs_ne (by omega)]⟩
      by_cases hrz : r = z
      · subst hrz; rw [if_pos rfl, h3, gs_ne (by omega), gs_eq]; rfl
      · rw [if_neg hrz, gs_ne (by omega), gs_ne (by omega)]; exact h2 r (by omega)
    by_cases hi0 : i = 0
    · have hz := hgi.2.2.2.2.2.2.2.2.2.2.1 hi0
      have hc0 : c = 0 := by rcases hc with q | ⟨_, _, q⟩ <;> omega
      rw [if_pos hi0] at r5
      rw [r5, if_neg (by simp; rfl), bd_ok, if_neg (by simp)]
      refine fresh 0 hc0.symm r5 (fun r hr => by omega) (by omega)
    · rw [if_neg hi0] at r5
      have hsub : nI (gC g + 1) - (1 : Int32) = nI (gC g) := by rw [i1, sub_n (by omega), show gC g + 1 - 1 = gC g by omega]
      rw [r5, if_pos (nI_ne0 (by omega) (by have := gC_lt (by omega) hgi; omega)), hsub, nO σ (gC g) (by have := gC_lt (by omega) hgi; omega) (fun _ _ _ _ => rfl), bd_ok, bd_ok]
      rcases hc with q | ⟨q, q', _⟩
      · rw [← q, hb, show optI (some b) = nI b from rfl, if_pos hbn]
        refine ⟨σ, rfl, by rw [r5, q], fun r hr => ?_, fun _ _ _ _ => rfl⟩
        rw [e4, e4, if_neg (show ¬ (r = c ∧ c ≠ gC g) by omega), if_neg (show ¬ (r + 1 = c ∧ c ≠ gC g) by omega)]
        have := r6 (by omega) r (by omega)
        rw [this, q]
      · rw [abst_pk r1] at q'
        have : abst F W (fun x => gR g x == gC g) (fal tu (gC g)) (nxt R n i - i) = none := by
          cases hs : abst F W (fun x => gR g x == gC g) (fal tu (gC g)) (nxt R n i - i) with
          | none => rfl
          | some b => rw [hs] at q'; cases q'
        rw [this, show optI none = -1 from rfl, if_neg (by simp)]
        refine fresh (gC g + 1) q.symm r5 (fun r hr => ?_) (by rw [e4, if_pos (by omega)]; omega)
        rw [e4, e4, if_neg (show ¬ (r = c ∧ _) by omega)]
        have := r6 (by omega) r (by omega)
        rw [this]
        by_cases hrg : r = gC g
        · rw [if_pos hrg, if_pos (by omega)]
        · rw [if_neg hrg, if_neg (by omega)]
  obtain ⟨s33, e33, t2, t3, f33⟩ := sel
  unfold bX0_growFrom_78
  rw [h2, if_neg (nI_ge hi (by omega))]
  -- the two choices stand one in the other
  have hnest : ∀ (k : Int32 → Sg → Option (((Int32 × Int32) ⊕ Unit) × Sg)), bd (if ¬ (gi σ a 2) = 0 then (bd (fX0_nextOut E a d ((gi σ a 2) - (1 : Int32)) σ) (fun r31 s29 => some (r31, s29))) else (some ((-1 : Int32), σ))) (fun w27 s28 => bd (if ¬ w27 = (-1 : Int32) then (some (w27, s28)) else (dr (rf E a 1) E 100 (fun x34 => ck (gi s28 a 2) (ln E x34) (ss (si s28 x34 (gi s28 a 2).toNatClampNeg (0 : Int32)) (fun s36 => bd (fX0_nextOut E a d (gi s36 a 2) s36) (fun r39 s37 => ss (si s37 a 2 ((gi s37 a 2) + (1 : Int32))) (fun s40 => some (r39, s40)))))))) k) = k (nI b) s33 := by
    intro k
    generalize (if ¬ (gi σ a 2) = 0 then (bd (fX0_nextOut E a d ((gi σ a 2) - (1 : Int32)) σ) (fun r31 s29 => some (r31, s29))) else (some ((-1 : Int32), σ))) = X at e33 ⊢
    cases X with
    | none => cases e33
    | some r => obtain ⟨v, s⟩ := r; rw [bd_ok] at e33 ⊢; rw [e33, bd_ok]
  rw [hnest, if_pos hbn]
  have t3c := t3 c (Nat.le_refl _)
  rw [if_pos rfl] at t3c
  rw [dr_ok l2 l5.1, l5.2, t2, i1, sub_n (by omega), show c + 1 - 1 = c by omega, ck_n (by omega) (by omega), ck_n (by omega) (by omega), nI_clamp (by omega), t3c, nI_add, ss_ok]
  generalize hs4 : si s33 (a + 2) c (nI (i - gB (gstp F n R tu i g) c + 1)) = s4
  have f4 : ∀ x k, x ≠ a + 2 → ¬ (x = a ∧ k = 2) → gi s4 x k = gi σ x k := fun x k q1 q2 => by rw [← hs4, gs_ne (by omega), f33 _ _ q1 q2]
  have g2 : gi s4 a 2 = nI (c + 1) := by rw [← hs4, gs_ne (by omega)]; exact t2
  have hgb : gB (gstp F n R tu i g) c ≤ i := by
    have := hci.2.2.2.2.2.2.2.2.2.2.2.1 (by omega)
    rw [e3] at this; omega
  have g3 : ∀ r, r ≤ c → gi s4 (a + 2) r = nI (if r = c then i + 1 - gB (gstp F n R tu i g) r else gB (gstp F n R tu i g) (r + 1) - gB (gstp F n R tu i g) r) := fun r hr => by
    rw [← hs4]
    by_cases hrc : r = c
    · subst hrc; rw [gs_eq, if_pos rfl]; congr 1; omega
    · rw [gs_ne (by omega), t3 r hr, if_neg hrc, if_neg hrc]
  have hSn : ¬ inr R n i g (nxt R n i) := fun z => by have := z.1; omega
  have hko : ∀ j, j < nxt R n i - i → gi s4 (a + 3) j = nI (W j) := fun j hj => by rw [f4 _ _ (by omega) (by omega)]; exact r3 j hj
  have mk : ∀ (s : Sg) (W' : Nat → Nat), Rs (inr R n (i + 1) (gstp F n R tu i g)) W' (nxt R n (i + 1) - (i + 1)) → gi s a 5 = nI (nxt R n (i + 1) - (i + 1)) → (∀ j, j < nxt R n (i + 1) - (i + 1) → gi s (a + 3) j = nI (W' j)) → (∀ x, x < nxt R n (i + 1) → gi s (a + 1) x = nI (gR (gstp F n R tu i g) x)) → (∀ x k, x ≠ a + 1 → x ≠ a + 3 → ¬ (x = a ∧ k = 5) → gi s x k = gi s4 x k) → GC s a n R (i + 1) tu (gstp F n R tu i g) := by
    intro s W' z1 z2 z3 z4 z5
    refine ⟨W', z1, z2, z3, z4, ?_, fun _ r hr => ?_, ?_⟩
    · rw [z5 _ _ (by omega) (by omega) (by omega), g2, if_neg (by omega), e3]
    · rw [z5 _ _ (by omega) (by omega) (by omega)]; rw [e3] at hr ⊢; exact g3 r hr
    · rw [z5 _ _ (by omega) (by omega) (by omega), f4 _ _ (by omega) (by omega)]; exact r7
  have hro1 : ∀ x, x < nxt R n i → gR (gstp F n R tu i g) x = gR g x := fun x hx => by
    show (if x = nxt R n i ∧ nxt R n i < n then _ else gR g x) = _
    rw [if_neg (by omega)]
  have hkin : k < nxt R n i := by rw [← hWb]; exact (r1.1 b hb1).1
  rw [f4 d 2 (by omega) (by omega), h2]
  by_cases hlast : n ≤ nxt R n i
  · have hS : ∀ x, (inr R n i g x ∧ x ≠ W b) ↔ inr R n (i + 1) (gstp F n R tu i g) x := fun x => by
      rw [inr_s hR hi, hkd, hWb]
      constructor
      · exact Or.inl
      · rintro (z | z)
        · exact z
        · omega
    rw [if_pos (nI_le hlast (by omega)), ss_ok, dr_ok l3 l6.1, l6.2, f4 a 5 (by omega) (by omega), r2, sub_n (by omega), gs_eq, ck_n (by omega) (by omega), ck_n (by omega) (by omega), nI_clamp (by omega), nI_clamp (by omega), ss_ok, bd_ok, lt_ok, nI_add, gs_ne (by omega), hko _ (by omega), x7 (by omega)]
    refine ⟨_, rfl, mk _ (fun j => if j = b then W (nxt R n i - i - 1) else W j) ?_ ?_ (fun j hj => ?_) (fun x hx => ?_) (fun x k q1 q2 q3 => ?_), fun x k q => ?_⟩
    · rw [x7 (by omega), show nxt R n i - (i + 1) = nxt R n i - i - 1 by omega]
      exact rs_congr' (rs_del r1 hb1) hS
    · rw [gs_ne (by omega), gs_eq, x7 (by omega)]; congr 1
    · rw [x7 (by omega)] at hj
      by_cases hjb : j = b
      · rw [if_pos hjb, hjb, gs_eq]
      · rw [if_neg hjb, gs_ne (by omega), gs_ne (by omega)]; exact hko j (by omega)
    · rw [x7 (by omega)] at hx
      rw [gs_ne (by omega), gs_ne (by omega), f4 _ _ (by omega) (by omega), hro1 x hx]; exact r4 x hx
    · rw [gs_ne (by omega), gs_ne (by omega)]
    · rw [gs_ne (by omega), gs_ne (by omega), f4 _ _ (by omega) (by omega)]
  · have hS : ∀ x, ((inr R n i g x ∧ x ≠ W b) ∨ x = nxt R n i) ↔ inr R n (i + 1) (gstp F n R tu i g) x := fun x => by
      rw [inr_s hR hi, hkd, hWb]
      constructor
      · rintro (z | z)
        · exact Or.inl z
        · refine Or.inr ⟨z, by omega, fun q => ?_, by omega⟩
          have := hgi.2.2.1 x q; omega
      · rintro (z | z)
        · exact Or.inl z
        · exact Or.inr z.1
    have hgo : fX0_goesOn E a d (nI (nxt R n i)) (nI k) s4 = some (bI (lsB F (nxt R n i) k == fal tu c), s4) := by
      unfold fX0_goesOn
      rw [tk_ok l0, tk_ok hL.1, c_isLess hL (n := n) (F := F) (by omega) (by omega) hn (fun i hi => by rw [f4 _ _ (by omega) (by omega)]; exact hk i hi) hF, bd_ok, g2, i1, sub_n (by omega), show c + 1 - 1 = c by omega, c_falls hG (tu := tu) (by rw [f4 _ _ (by omega) (by omega)]; exact r7) (by omega), bd_ok]
      by_cases hz : lsB F (nxt R n i) k = fal tu c
      · rw [if_neg (fun q => q (by rw [hz])), bd_ok, hz, kb_n1]; simp; rfl
      · rw [if_pos (by rw [bI_e]; exact hz), bd_ok, kb_0]
        have : (lsB F (nxt R n i) k == fal tu c) = false := by simpa using hz
        rw [this]; rfl
    rw [if_neg (nI_ge (by omega) (by omega)), dr_ok l1 l4.1, dr_ok l3 l6.1, l6.2, l4.2, ck_n (by omega) (by omega), nI_clamp (by omega), hko b hb1, hWb, hgo, bd_ok]
    have hw58 : (if bI (lsB F (nxt R n i) k == fal tu c) = 0 then (some ((gi s4 a 2), s4)) else (some (((gi s4 a 2) - (nI 1)), s4))) = some (nI (if lsB F (nxt R n i) k == fal tu c then c else c + 1), s4) := by
      rw [g2, sub_n (by omega), show c + 1 - 1 = c by omega]
      cases (lsB F (nxt R n i) k == fal tu c) <;> rfl
    rw [hw58, bd_ok, ck_n (by omega) (by omega), nI_clamp (by omega), ss_ok, ck_n (by omega) (by omega), ss_ok, lt_ok, nI_add, bd_ok, lt_ok, nI_add, x6 (by omega)]
    refine ⟨_, rfl, mk _ (fun j => if j = b then nxt R n i else W j) ?_ ?_ (fun j hj => ?_) (fun x hx => ?_) (fun x k q1 q2 q3 => ?_), fun x k q => ?_⟩
    · rw [x6 (by omega), show nxt R n i + 1 - (i + 1) = nxt R n i - i by omega]
      exact rs_congr' (rs_rep r1 hb1 hSn) hS
    · rw [gs_ne (by omega), gs_ne (by omega), f4 _ _ (by omega) (by omega), r2, x6 (by omega)]; congr 1; omega
    · rw [x6 (by omega)] at hj
      by_cases hjb : j = b
      · rw [if_pos hjb, hjb, gs_eq]
      · rw [if_neg hjb, gs_ne (by omega), gs_ne (by omega)]; exact hko j (by omega)
    · rw [x6 (by omega)] at hx
      rw [gs_ne (by omega)]
      by_cases hxn : x = nxt R n i
      · subst hxn
        rw [gs_eq]
        show _ = nI (if nxt R n i = nxt R n i ∧ nxt R n i < n then (if lsB F (nxt R n i) (gkk F n R tu i g) == fal tu (gcu F n R tu i g) then gcu F n R tu i g else gcu F n R tu i g + 1) else _)
        rw [if_pos (show nxt R n i = nxt R n i ∧ nxt R n i < n from ⟨rfl, by omega⟩), hkd, hcd]
      · rw [gs_ne (by omega), f4 _ _ (by omega) (by omega), hro1 x (by omega)]; exact r4 x (by omega)
    · rw [gs_ne (by omega), gs_ne (by omega)]
    · rw [gs_ne (by omega), gs_ne (by omega), f4 _ _ (by omega) (by omega)]
theorem c_growFrom (hG : LGro E a) (hL : LRec E d) (had : a = d + 4) (hn0 : 0 < n) (hn : n ≤ 300) (hR : 2 ≤ R) (hR2 : R ≤ 16) (h2 : gi σ d 2 = nI n) (hk : ∀ i, i < n → gi σ (d + 1) i = nI (F i)) (hF : ∀ i, i < n → F i < 256) :
    ∃ s, fX0_growFrom E a d (nI R) (bI tu) σ = some s ∧ gi s a 2 = nI (nrG (gst F n R tu n)) ∧ gi s a 3 = bI tu ∧ (∀ x, x < n → gi s (a + 1) x = nI (gR (gst F n R tu n) x)) ∧ (∀ r, r < nrG (gst F n R tu n) → gi s (a + 2) r = nI (glG n (gst F n R tu n) r)) ∧ ∀ x k, (x < a ∨ a + 4 ≤ x) → gi s x k = gi σ x k := by
  obtain ⟨l0, l1, l2, l3, l4, l5, l6⟩ := id hG
  unfold fX0_growFrom
  rw [tk_ok l0, tk_ok hL.1, kb_b, ss_ok, lt_ok, ss_ok, gs_ne (by omega), h2, show (16 : Int32) = nI 16 from rfl, imin_n (by omega) (by omega), imin_n (by omega) (by omega), show min (min R 16) n = nxt R n 0 by unfold nxt; omega]
  have hnx : nxt R n 0 ≤ 16 ∧ nxt R n 0 ≤ n := by unfold nxt; omega
  refine bd_in (nxt R n 0) (fun i b => gi b.2 a 5 = nI i ∧ (∀ j, j < i → gi b.2 (a + 3) j = nI j) ∧ (∀ j, j < i → gi b.2 (a + 1) j = nI 0) ∧ ∀ x k, x ≠ a + 3 → x ≠ a + 1 → ¬ (x = a ∧ k = 5) → gi b.2 x k = gi (si σ a 3 (bI tu)) x k)
    (fun b => gi b.2 a 5 = nI (nxt R n 0) ∧ (∀ j, j < nxt R n 0 → gi b.2 (a + 3) j = nI j) ∧ (∀ j, j < nxt R n 0 → gi b.2 (a + 1) j = nI 0) ∧ ∀ x k, x ≠ a + 3 → x ≠ a + 1 → ¬ (x = a ∧ k = 5) → gi b.2 x k = gi (si σ a 3 (bI tu)) x k) (by show nxt R n 0 < 1000000; omega) ⟨gs_eq, fun j hj => absurd hj (Nat.not_lt_zero j), fun j hj => absurd hj (Nat.not_lt_zero j), fun x k q1 q2 q3 => gs_ne (by omega)⟩ ?_ ?_ ?_
  · rintro i ⟨v, s⟩ rec hi ⟨q1, q2, q3, q4⟩
    dsimp only at q1 q2 q3 q4 ⊢
    unfold bX0_growFrom_25
    rw [q1, if_neg (nI_ge hi (by omega)), dr_ok l3 l6.1, l6.2, ck_n (by omega) (by omega), nI_clamp (by omega), ss_ok, dr_ok l1 l4.1, l4.2, gs_ne (by omega), q1, ck_n (by omega) (by omega), nI_clamp (by omega), ss_ok, gs_ne (by omega), gs_ne (by omega), q1, ad1, ss_ok]
    refine ⟨_, rfl, gs_eq, fun j hj => ?_, fun j hj => ?_, fun x k z1 z2 z3 => ?_⟩
    · dsimp only
      by_cases hji : j = i
      · subst hji; simp (disch := omega) only [i0, i1, i2, i3, i4, i5, i6, i7, i8, mle, mlt, meq, if_pos, if_neg, dr_s, tk_s, ck_m, nI_clamp, lt_ok, ss_ok, nI_add, pk_mul, sub_n, bd_ok, bv_ok, gs_ne, gs_eq]
      · simp (disch := omega) only [i0, i1, i2, i3, i4, i5, i6, i7, i8, mle, mlt, meq, if_pos, if_neg, dr_s, tk_s, ck_m, nI_clamp, lt_ok, ss_ok, nI_add, pk_mul, sub_n, bd_ok, bv_ok, gs_ne, gs_eq]; exact q2 j (by omega)
    · dsimp only
      by_cases hji : j = i
      · subst hji; simp (disch := omega) only [i0, i1, i2, i3, i4, i5, i6, i7, i8, mle, mlt, meq, if_pos, if_neg, dr_s, tk_s, ck_m, nI_clamp, lt_ok, ss_ok, nI_add, pk_mul, sub_n, bd_ok, bv_ok, gs_ne, gs_eq]
      · simp (disch := omega) only [i0, i1, i2, i3, i4, i5, i6, i7, i8, mle, mlt, meq, if_pos, if_neg, dr_s, tk_s, ck_m, nI_clamp, lt_ok, ss_ok, nI_add, pk_mul, sub_n, bd_ok, bv_ok, gs_ne, gs_eq]; exact q3 j (by omega)
    · dsimp only; simp (disch := omega) only [i0, i1, i2, i3, i4, i5, i6, i7, i8, mle, mlt, meq, if_pos, if_neg, dr_s, tk_s, ck_m, nI_clamp, lt_ok, ss_ok, nI_add, pk_mul, sub_n, bd_ok, bv_ok, gs_ne, gs_eq]; exact q4 x k z1 z2 z3
  · rintro ⟨v, s⟩ rec ⟨q1, q2, q3, q4⟩
    dsimp only at q1 q2 q3 q4 ⊢
    unfold bX0_growFrom_25
    rw [q1, if_pos (nI_le (Nat.le_refl _) (by omega))]
    exact ⟨_, rfl, q1, q2, q3, q4⟩
  · rintro v s ⟨q1, q2, q3, q4⟩
    dsimp only at q1 q2 q3 q4
    rw [ss_ok]
    refine bd_in n (fun i b => b.1 = (nI (nxt R n i), nI i) ∧ GC b.2 a n R i tu (gst F n R tu i) ∧ ∀ x k, (x < a ∨ a + 4 ≤ x) → gi b.2 x k = gi σ x k)
      (fun b => (∃ v, b.1 = .inl v) ∧ GC b.2 a n R n tu (gst F n R tu n) ∧ ∀ x k, (x < a ∨ a + 4 ≤ x) → gi b.2 x k = gi σ x k) (by show n < 1000000; omega) ⟨rfl, ?_, fun x k z => ?_⟩ ?_ ?_ ?_
    · refine ⟨fun j => j, ⟨fun j hj => ⟨by omega, List.not_mem_nil⟩, fun a b _ _ e => e, fun x hx => ⟨x, by have := hx.1; omega, rfl⟩⟩, ?_, fun j hj => ?_, fun x hx => ?_, ?_, fun z => absurd z (Nat.lt_irrefl 0), ?_⟩
      · dsimp only; rw [gs_ne (by omega), q1]; rfl
      · dsimp only; rw [gs_ne (by omega)]; exact q2 j (by omega)
      · dsimp only; rw [gs_ne (by omega)]; exact q3 x hx
      · dsimp only; rw [gs_eq]; rfl
      · dsimp only; rw [gs_ne (by omega), q4 _ _ (by omega) (by omega) (by omega), gs_eq]
    · dsimp only; rw [gs_ne (by omega), q4 _ _ (by omega) (by omega) (by omega), gs_ne (by omega)]
    · rintro i ⟨⟨v, u⟩, s2⟩ rec hi ⟨z1, z2, z3⟩
      dsimp only at z1 z2 z3 ⊢
      injection z1 with z1 z1'
      subst z1; subst z1'
      obtain ⟨s3, e3, g3, f3⟩ := c_gstep hG hL had hn hR hR2 (by rw [z3 _ _ (by omega)]; exact h2) (fun j hj => by rw [z3 _ _ (by omega)]; exact hk j hj) hF hi (gi_all hR (by omega)) z2 (fun u0 u1 t => rec ((u0, u1), t))
      exact ⟨_, e3, rfl, g3, fun x k q => by dsimp only; rw [f3 x k q]; exact z3 x k q⟩
    · rintro ⟨⟨v, u⟩, s2⟩ rec ⟨z1, z2, z3⟩
      dsimp only at z1 z2 z3 ⊢
      injection z1 with z1 z1'
      subst z1; subst z1'
      unfold bX0_growFrom_78
      rw [z3 _ _ (by omega), h2, if_pos (nI_le (Nat.le_refl _) (by omega))]
      exact ⟨_, rfl, ⟨_, rfl⟩, z2, z3⟩
    · rintro v s2 ⟨⟨u, z1⟩, ⟨W, r1, r2, r3, r4, r5, r6, r7⟩, z3⟩
      dsimp only at z1 r2 r3 r4 r5 r6 r7 z3
      subst z1
      rw [if_neg (by omega)] at r5
      refine ⟨s2, rfl, r5, r7, fun x hx => r4 x (by unfold nxt; omega), fun r hr => ?_, z3⟩
      unfold nrG at hr
      rw [r6 hn0 r (by omega)]
      unfold glG bgG
      rw [if_pos (show r ≤ gC (gst F n R tu n) by omega)]
      by_cases hq : r = gC (gst F n R tu n)
      · rw [if_pos hq, if_neg (by omega)]
      · rw [if_neg hq, if_pos (by omega)]
end CG
end
section
/-! growth in the reference -/
section MG
variable {E : En} {n R i m : Nat} {σ : Sg} {F W : Nat → Nat} {tu : Bool} {g : Gr}
theorem m_isLess (hM : LMod E) (hM2 : LMo2 E) {x y : Nat} (hx : x < n) (hy : y < n) (hn : n ≤ 300) (hk : ∀ i, i < n → gi σ 396 (26 + i) = nI (F i)) (hF : ∀ i, i < n → F i < 256) : fX7_isLess E 395 (nI x) (nI y) σ = some (bI (lsB F x y), σ) := by
  have f1 := hF x hx
  have f2 := hF y hy
  unfold fX7_isLess lsB
  rw [tk_ok hM.1, dr_ok hM.2.1 hM2.1.1, hM2.1.2, show (26 : Int32) = nI 26 from rfl, nI_add, nI_add, ck_n (by omega) (by omega), ck_n (by omega) (by omega), nI_clamp (by omega), nI_clamp (by omega), hk x hx, hk y hy]
  by_cases h1 : F x = F y
  · rw [if_pos (by rw [h1])]
    by_cases h3 : y ≤ x
    · rw [if_pos (nI_le h3 (by omega)), bd_ok, kb_0, decide_eq_false (by omega)]; rfl
    · rw [if_neg (nI_ge (by omega) (by omega)), bd_ok, kb_1, decide_eq_true (by omega)]; rfl
  · rw [if_neg (fun q => h1 ((nI_eq (by omega) (by omega)).mp q)), ck_n (by omega) (by omega), ck_n (by omega) (by omega)]
    by_cases h2 : F y ≤ F x
    · rw [if_pos (nI_le h2 (by omega)), bd_ok, kb_0, decide_eq_false (by omega)]; rfl
    · rw [if_neg (nI_ge (by omega) (by omega)), bd_ok, kb_1, decide_eq_true (by omega)]; rfl
theorem m_doesFall (hM : LMod E) (hM2 : LMo2 E) {r s5 : Nat} (h6 : gi σ 396 6 = nI s5) (hs : s5 ≤ 1) (hr : r < 2 ^ 31) : fX7_doesFall E 395 (nI r) σ = some (bI (fal (s5 == 1) r), σ) := by
  unfold fX7_doesFall fal
  rw [tk_ok hM.1, dr_ok hM.2.1 hM2.1.1, hM2.1.2, i6, ck_n (by omega) (by omega), nI_clamp (by omega), h6, i2, im_n hr (by omega) (by omega), i1]
  by_cases h1 : s5 = 1
  · rw [if_neg (by rw [h1]; simp), h1]
    by_cases h : r % 2 = 1
    · rw [h, if_neg (by simp), bd_ok, kb_n1]; rfl
    · rw [if_pos (fun q => h ((nI_eq (by omega) (by omega)).mp q)), bd_ok]
      have : (r % 2 == 1) = false := by simpa using h
      rw [this]; exact kb_0
  · rw [if_pos (fun q => h1 ((nI_eq (by omega) (by omega)).mp q)), bd_ok]
    have : (s5 == 1) = false := by simpa using h1
    rw [this]; exact kb_0
theorem m_firstOf (hM : LMod E) (hM2 : LMo2 E) {r s5 : Nat} (h6 : gi σ 396 6 = nI s5) (hs : s5 ≤ 1) (hr : r < 2 ^ 31) (hn : n ≤ 300) (hk : ∀ i, i < n → gi σ 396 (26 + i) = nI (F i)) (hF : ∀ i, i < n → F i < 256) (h5 : gi σ 395 10 = nI m) (hm : m ≤ 16) (hw : ∀ j, j < m → gi σ 401 j = nI (W j) ∧ W j < n) (hro : ∀ j, j < m → gi σ 402 j = nI (gR g (W j)) ∧ gR g (W j) < 2 ^ 31) : fX7_firstOf E 395 (nI r) σ = some (optI (abst F W (fun x => gR g x == r) (fal (s5 == 1) r) m), σ) := by
  obtain ⟨m0, m1, m2, m3, m4, m5, m6, m7, mz⟩ := id hM
  obtain ⟨n1, n2, n3, n4, n5, n6, n7, nz⟩ := id hM2
  unfold fX7_firstOf
  rw [tk_ok m0]
  refine bd_tr ((optI (abst F W (fun x => gR g x == r) (fal (s5 == 1) r) m), nI m), σ) m (fun j => ((optI (abst F W (fun x => gR g x == r) (fal (s5 == 1) r) j), nI j), σ)) (by show m < 1000000; omega) (fun j rec hj => ?_) (fun rec => ?_) rfl
  · obtain ⟨w1, w2⟩ := hw j hj
    obtain ⟨o1, o2⟩ := hro j hj
    dsimp only
    unfold bX7_firstOf_4
    rw [h5, if_neg (nI_ge hj (by omega)), dr_ok m7 n7.1, n7.2, ck_n (by omega) (by omega), nI_clamp (by omega), o1]
    have hab : abst F W (fun x => gR g x == r) (fal (s5 == 1) r) (j + 1) = match abst F W (fun x => gR g x == r) (fal (s5 == 1) r) j with | none => if gR g (W j) == r then some j else none | some b => if (gR g (W j) == r) && (lsB F (W j) (W b) != fal (s5 == 1) r) then some j else some b := rfl
    rw [hab]
    by_cases hq : gR g (W j) = r
    · rw [if_neg (fun q => q (by rw [hq]))]
      have hq' : (gR g (W j) == r) = true := by simpa using hq
      cases hs : abst F W (fun x => gR g x == r) (fal (s5 == 1) r) j with
      | none =>
        rw [if_pos (by rfl), bd_ok, lt_ok, ad1]
        dsimp only
        rw [if_pos hq']; rfl
      | some b =>
        obtain ⟨b1, b2⟩ := abst_lt hs
        obtain ⟨w3, w4⟩ := hw b (by omega)
        rw [show optI (some b) = nI b from rfl, if_neg (nI_nm1 (by omega)), dr_ok m6 n6.1, n6.2, ck_n (by omega) (by omega), ck_n (by omega) (by omega), nI_clamp (by omega), w1, w3, m_isLess hM hM2 w2 w4 hn hk hF, bd_ok, m_doesFall hM hM2 h6 (by assumption) hr, bd_ok]
        dsimp only
        rw [hq', Bool.true_and]
        by_cases hz : lsB F (W j) (W b) = fal (s5 == 1) r
        · rw [if_pos (by rw [hz]), bd_ok, lt_ok, ad1, hz, if_neg (by simp)]; rfl
        · rw [if_neg (by rw [bI_e]; exact hz), bd_ok, lt_ok, ad1, if_pos (by simpa using hz)]; rfl
    · rw [if_pos (fun q => hq ((nI_eq o2 hr).mp q)), bd_ok, lt_ok, ad1]
      have hq' : (gR g (W j) == r) = false := by simpa using hq
      cases hs : abst F W (fun x => gR g x == r) (fal (s5 == 1) r) j with
      | none => dsimp only; rw [hq', if_neg (by decide)]
      | some b => dsimp only; rw [hq', Bool.false_and, if_neg (by decide)]
  · unfold bX7_firstOf_4
    dsimp only
    rw [h5, if_pos (nI_le (Nat.le_refl _) (by omega))]
theorem m_comesIn (hM : LMod E) (hM2 : LMo2 E) {u v : Int32} (h : gi σ 395 10 = nI m) (hm : m < 16) : fX7_comesIn E 395 u v σ = some (si (si (si σ 401 m u) 402 m v) 395 10 (nI (m + 1))) := by
  obtain ⟨m0, m1, m2, m3, m4, m5, m6, m7, mz⟩ := id hM
  obtain ⟨n1, n2, n3, n4, n5, n6, n7, nz⟩ := id hM2
  unfold fX7_comesIn
  rw [tk_ok m0, dr_ok m6 n6.1, n6.2, h, ck_n (by omega) (by omega), nI_clamp (by omega), ss_ok, dr_ok m7 n7.1, n7.2, gs_ne (by omega), h, ck_n (by omega) (by omega), nI_clamp (by omega), ss_ok, gs_ne (by omega), gs_ne (by omega), h, ad1, ss_ok]
/-- the reference, while runs grow -/
def GM (σ : Sg) (n R i : Nat) (g : Gr) : Prop := ∃ W, Rs (inr R n i g) W (nxt R n i - i) ∧ gi σ 395 10 = nI (nxt R n i - i) ∧ (∀ j, j < nxt R n i - i → gi σ 401 j = nI (W j)) ∧ (∀ j, j < nxt R n i - i → gi σ 402 j = nI (gR g (W j))) ∧ (∀ p, p < i → gi σ 396 (626 + p) = nI ((gO g).getD p 0)) ∧ (∀ x, x ∈ gO g → gi σ 396 (326 + x) = nI (gR g x)) ∧ ∀ r, r ≤ gC g → gi σ 396 (926 + r) = nI (gB g r)
def esG (x k : Nat) : Prop := (x ≠ 396 ∨ k < 326 ∨ 1227 ≤ k) ∧ x ≠ 401 ∧ x ≠ 402 ∧ ¬ (x = 395 ∧ k = 10)
theorem m_gstep (hM : LMod E) (hM2 : LMo2 E) {s5 : Nat} (h6 : gi σ 396 6 = nI s5) (hs : s5 ≤ 1) (htu : tu = (s5 == 1)) (hn : n ≤ 300) (hR : 2 ≤ R) (hR2 : R ≤ 16) (h2 : gi σ 396 0 = nI n) (hk : ∀ i, i < n → gi σ 396 (26 + i) = nI (F i)) (hF : ∀ i, i < n → F i < 256) (hi : i < n) (hgi : GI F n R tu i g) (h : GM σ n R i g) (rec : Int32 → Int32 → Int32 → Sg → Option ((Int32 × Int32 × Int32) × Sg)) :
    ∃ s, bX7_laysRuns_51 E 395 396 rec (nI (nxt R n i)) (nI (gC g)) (nI i) σ = rec (nI (nxt R n (i + 1))) (nI (gC (gstp F n R tu i g))) (nI (i + 1)) s ∧ GM s n R (i + 1) (gstp F n R tu i g) ∧ ∀ x k, esG x k → gi s x k = gi σ x k := by
  obtain ⟨W, r1, r2, r3, r4, r5, r6, r7⟩ := h
  obtain ⟨m0, m1, m2, m3, m4, m5, m6, m7, mz⟩ := id hM
  obtain ⟨n1, n2, n3, n4, n5, n6, n7, nz⟩ := id hM2
  obtain ⟨x1, x2, x3, x4, x5, x6, x7⟩ := nxt_s hR hi
  obtain ⟨hp, hc⟩ := gi_pick hR hi hgi
  have hci := gi_s hR hi hgi
  have hcl := gC_lt (by omega) hci
  have e3 : gC (gstp F n R tu i g) = gcu F n R tu i g := rfl
  rw [e3] at hcl
  have e4 : ∀ r, gB (gstp F n R tu i g) r = if r = gcu F n R tu i g ∧ gcu F n R tu i g ≠ gC g then i else gB g r := fun r => rfl
  have e1 : gO (gstp F n R tu i g) = gO g ++ [gkk F n R tu i g] := rfl
  have hroom : nxt R n i - i ≤ 16 := by unfold nxt; omega
  have hwn : ∀ j, j < nxt R n i - i → gi σ 401 j = nI (W j) ∧ W j < n := fun j hj => ⟨r3 j hj, by have := (r1.1 j hj).1; omega⟩
  have hro : ∀ j, j < nxt R n i - i → gi σ 402 j = nI (gR g (W j)) ∧ gR g (W j) < 2 ^ 31 := fun j hj => ⟨r4 j hj, gR_lt hn (by omega) hgi (r1.1 j hj).1⟩
  obtain ⟨⟨k1, k2, k3⟩, k4⟩ := gpk_some hp
  rw [abst_pk r1] at hp
  rw [e3]
  generalize hcd : gcu F n R tu i g = c at *
  generalize hkd : gkk F n R tu i g = k at *
  obtain ⟨b, hb, hWb⟩ : ∃ b, abst F W (fun x => gR g x == c) (fal tu c) (nxt R n i - i) = some b ∧ W b = k := by
    cases hs : abst F W (fun x => gR g x == c) (fal tu c) (nxt R n i - i) with
    | none => rw [hs] at hp; cases hp
    | some b => rw [hs] at hp; injection hp with hp; exact ⟨b, rfl, hp⟩
  obtain ⟨hb1, hb2⟩ := abst_lt hb
  have hbn : nI b ≠ -1 := nI_nm1 (by omega)
  have hW := hwn b hb1
  rw [hWb] at hW
  have hgc : gC g < 2 ^ 31 := by rcases hc with q | ⟨q, _⟩ <;> omega
  have nO : ∀ (s : Sg) (r : Nat), r < 2 ^ 31 → (∀ x k, ¬ (x = 396 ∧ 926 ≤ k) → gi s x k = gi σ x k) → fX7_firstOf E 395 (nI r) s = some (optI (abst F W (fun x => gR g x == r) (fal tu r) (nxt R n i - i)), s) := fun s r hr hf => by
    rw [htu]
    exact m_firstOf hM hM2 (by rw [hf _ _ (by omega)]; exact h6) hs hr hn (fun i hi => by rw [hf _ _ (by omega)]; exact hk i hi) hF (by rw [hf _ _ (by omega)]; exact r2) hroom (fun j hj => by rw [hf _ _ (by omega)]; exact hwn j hj) (fun j hj => by rw [hf _ _ (by omega)]; exact hro j hj)
  have sel : ∃ s37, (bd (fX7_firstOf E 395 (nI (gC g)) σ) (fun r35 s33 => if ¬ r35 = (-1 : Int32) then (some ((nI (gC g), r35), s33)) else (lt (nI (gC g) + (1 : Int32)) (fun v38 => ck ((926 : Int32) + v38) 7827 (ss (si s33 396 ((926 : Int32) + v38).toNatClampNeg (nI i)) (fun s40 => bd (fX7_firstOf E 395 v38 s40) (fun r43 s41 => some ((v38, r43), s41)))))))) = some ((nI c, nI b), s37) ∧ (∀ r, r ≤ c → gi s37 396 (926 + r) = nI (gB (gstp F n R tu i g) r)) ∧ ∀ x k, ¬ (x = 396 ∧ 926 ≤ k ∧ k < 1227) → gi s37 x k = gi σ x k := by
    rw [nO σ (gC g) hgc (fun _ _ _ => rfl), bd_ok]
    rcases hc with q | ⟨q, q', q3⟩
    · rw [← q, hb, show optI (some b) = nI b from rfl, if_pos hbn]
      refine ⟨σ, rfl, fun r hr => ?_, fun _ _ _ => rfl⟩
      rw [e4, if_neg (show ¬ (r = c ∧ c ≠ gC g) by omega)]
      exact r7 r (by omega)
    · rw [abst_pk r1] at q'
      have : abst F W (fun x => gR g x == gC g) (fal tu (gC g)) (nxt R n i - i) = none := by
        cases hs : abst F W (fun x => gR g x == gC g) (fal tu (gC g)) (nxt R n i - i) with
        | none => rfl
        | some b => rw [hs] at q'; cases q'
      rw [this, show optI none = -1 from rfl, if_neg (by simp), lt_ok, ad1, ← q, show (926 : Int32) = nI 926 from rfl, nI_add, ck_n (by omega) (by omega), nI_clamp (by omega), ss_ok, nO _ c (by omega) (fun x k z => gs_ne (by omega)), hb, bd_ok]
      refine ⟨_, rfl, fun r hr => ?_, fun x k z => gs_ne (by omega)⟩
      rw [e4]
      by_cases hrc : r = c
      · rw [if_pos (by omega), hrc, gs_eq]
      · rw [if_neg (by omega), gs_ne (by omega)]; exact r7 r (by omega)
  obtain ⟨s37, e37, t7, f37⟩ := sel
  unfold bX7_laysRuns_51
  rw [m_many hM hM2, bd_ok, h2, if_neg (nI_ge hi (by omega)), n1.2]
  have hnest : ∀ (k : Int32 × Int32 → Sg → Option ((Int32 × Int32 × Int32) × Sg)), bd (fX7_firstOf E 395 (nI (gC g)) σ) (fun r35 s33 => bd (if ¬ r35 = (-1 : Int32) then (some ((nI (gC g), r35), s33)) else (lt (nI (gC g) + (1 : Int32)) (fun v38 => ck ((926 : Int32) + v38) 7827 (ss (si s33 396 ((926 : Int32) + v38).toNatClampNeg (nI i)) (fun s40 => bd (fX7_firstOf E 395 v38 s40) (fun r43 s41 => some ((v38, r43), s41))))))) k) = k (nI c, nI b) s37 := by
    intro k
    generalize fX7_firstOf E 395 (nI (gC g)) σ = X at e37 ⊢
    cases X with
    | none => cases e37
    | some r => obtain ⟨v, s⟩ := r; rw [bd_ok] at e37 ⊢; rw [e37, bd_ok]
  rw [hnest]
  dsimp only
  have hko : ∀ j, j < nxt R n i - i → gi s37 401 j = nI (W j) := fun j hj => by rw [f37 _ _ (by omega)]; exact r3 j hj
  have hkr : ∀ j, j < nxt R n i - i → gi s37 402 j = nI (gR g (W j)) := fun j hj => by rw [f37 _ _ (by omega)]; exact r4 j hj
  have h10 : gi s37 395 10 = nI (nxt R n i - i) := by rw [f37 _ _ (by omega)]; exact r2
  have hkn : k < n := hW.2
  rw [dr_ok m6 n6.1, n6.2, ck_n (by omega) (by omega), nI_clamp (by omega), lt_ok, hko b hb1, hWb, show (626 : Int32) = nI 626 from rfl, nI_add, ck_n (by omega) (by omega), nI_clamp (by omega), ss_ok, show (326 : Int32) = nI 326 from rfl, nI_add, ck_n (by omega) (by omega), nI_clamp (by omega), ss_ok]
  have e10 : gi (si (si s37 396 (626 + i) (nI k)) 396 (326 + k) (nI c)) 395 10 = nI (nxt R n i - i) := by rw [gs_ne (by omega), gs_ne (by omega), h10]
  rw [e10, i1, sub_n (by omega), ss_ok, gs_eq, ck_n (by omega) (by omega), ck_n (by omega) (by omega), nI_clamp (n := nxt R n i - i - 1) (by omega), ss_ok, dr_ok m7 n7.1, n7.2, gs_ne (show (395 : Nat) ≠ 401 ∨ 10 ≠ b by omega), gs_eq, ck_n (by omega) (by omega), ck_n (by omega) (by omega), nI_clamp (by omega), ss_ok, m_many hM hM2, bd_ok]
  generalize hs8 : si (si (si (si (si s37 396 (626 + i) (nI k)) 396 (326 + k) (nI c)) 395 10 (nI (nxt R n i - i - 1))) 401 b _) 402 b _ = s8
  have f8 : ∀ x k', ¬ (x = 396 ∧ (k' = 626 + i ∨ k' = 326 + k)) → ¬ (x = 395 ∧ k' = 10) → ¬ (x = 401 ∧ k' = b) → ¬ (x = 402 ∧ k' = b) → gi s8 x k' = gi s37 x k' := fun x k' q1 q2 q3 q4 => by rw [← hs8]; simp (disch := omega) only [i0, i1, i2, i3, i4, i5, i6, i7, i8, mle, mlt, meq, if_pos, if_neg, dr_s, tk_s, ck_m, nI_clamp, lt_ok, ss_ok, nI_add, pk_mul, sub_n, bd_ok, bv_ok, gs_ne, gs_eq]
  have g10 : gi s8 395 10 = nI (nxt R n i - i - 1) := by rw [← hs8]; simp (disch := omega) only [i0, i1, i2, i3, i4, i5, i6, i7, i8, mle, mlt, meq, if_pos, if_neg, dr_s, tk_s, ck_m, nI_clamp, lt_ok, ss_ok, nI_add, pk_mul, sub_n, bd_ok, bv_ok, gs_ne, gs_eq]
  have g1i : gi s8 396 (626 + i) = nI k := by rw [← hs8]; simp (disch := omega) only [i0, i1, i2, i3, i4, i5, i6, i7, i8, mle, mlt, meq, if_pos, if_neg, dr_s, tk_s, ck_m, nI_clamp, lt_ok, ss_ok, nI_add, pk_mul, sub_n, bd_ok, bv_ok, gs_ne, gs_eq]
  have g1k : gi s8 396 (326 + k) = nI c := by rw [← hs8]; simp (disch := omega) only [i0, i1, i2, i3, i4, i5, i6, i7, i8, mle, mlt, meq, if_pos, if_neg, dr_s, tk_s, ck_m, nI_clamp, lt_ok, ss_ok, nI_add, pk_mul, sub_n, bd_ok, bv_ok, gs_ne, gs_eq]
  have g401 : gi s8 401 b = nI (W (nxt R n i - i - 1)) := by rw [← hs8]; simp (disch := omega) only [i0, i1, i2, i3, i4, i5, i6, i7, i8, mle, mlt, meq, if_pos, if_neg, dr_s, tk_s, ck_m, nI_clamp, lt_ok, ss_ok, nI_add, pk_mul, sub_n, bd_ok, bv_ok, gs_ne, gs_eq]; exact hko _ (by omega)
  have g402 : gi s8 402 b = nI (gR g (W (nxt R n i - i - 1))) := by rw [← hs8]; simp (disch := omega) only [i0, i1, i2, i3, i4, i5, i6, i7, i8, mle, mlt, meq, if_pos, if_neg, dr_s, tk_s, ck_m, nI_clamp, lt_ok, ss_ok, nI_add, pk_mul, sub_n, bd_ok, bv_ok, gs_ne, gs_eq]; exact hkr _ (by omega)
  have hdel := rs_del r1 hb1
  have hro1 : ∀ x, x < nxt R n i → gR (gstp F n R tu i g) x = gR g x := fun x hx => by
    show (if x = nxt R n i ∧ nxt R n i < n then _ else gR g x) = _
    rw [if_neg (by omega)]
  have w401 : ∀ j, j < nxt R n i - i - 1 → gi s8 401 j = nI ((fun j => if j = b then W (nxt R n i - i - 1) else W j) j) := fun j hj => by
    dsimp only
    by_cases hjb : j = b
    · rw [if_pos hjb, hjb]; exact g401
    · rw [if_neg hjb, f8 _ _ (by omega) (by omega) (by omega) (by omega)]; exact hko j (by omega)
  have w402 : ∀ j, j < nxt R n i - i - 1 → gi s8 402 j = nI (gR (gstp F n R tu i g) ((fun j => if j = b then W (nxt R n i - i - 1) else W j) j)) := fun j hj => by
    dsimp only
    by_cases hjb : j = b
    · rw [if_pos hjb, hjb, hro1 _ (r1.1 _ (by omega)).1]; exact g402
    · rw [if_neg hjb, f8 _ _ (by omega) (by omega) (by omega) (by omega), hro1 _ (r1.1 _ (by omega)).1]; exact hkr j (by omega)
  have mk : ∀ (s : Sg) (W' : Nat → Nat), Rs (inr R n (i + 1) (gstp F n R tu i g)) W' (nxt R n (i + 1) - (i + 1)) → gi s 395 10 = nI (nxt R n (i + 1) - (i + 1)) → (∀ j, j < nxt R n (i + 1) - (i + 1) → gi s 401 j = nI (W' j)) → (∀ j, j < nxt R n (i + 1) - (i + 1) → gi s 402 j = nI (gR (gstp F n R tu i g) (W' j))) → (∀ k, gi s 396 k = gi s8 396 k) → GM s n R (i + 1) (gstp F n R tu i g) := by
    intro s W' z1 z2 z3 z4 z5
    refine ⟨W', z1, z2, z3, z4, fun p hp => ?_, fun x hx => ?_, fun r hr => ?_⟩
    · rw [z5, e1]
      by_cases hpi : p = i
      · rw [hpi, g1i, List.getD_eq_getElem?_getD, List.getElem?_append_right (by rw [hgi.1]; exact Nat.le_refl _), hgi.1, Nat.sub_self]; rfl
      · rw [f8 _ _ (by omega) (by omega) (by omega) (by omega), f37 _ _ (by omega), r5 p (by omega), List.getD_eq_getElem?_getD, List.getD_eq_getElem?_getD, List.getElem?_append_left (by rw [hgi.1]; omega)]
    · rw [z5]
      rw [e1] at hx
      by_cases hxk : x = k
      · rw [hxk, g1k, hro1 k k1, k3]
      · have hxo : x ∈ gO g := by
          rcases List.mem_append.mp hx with q | q
          · exact q
          · exact absurd (List.mem_singleton.mp q) hxk
        have hxn := hgi.2.2.1 x hxo
        rw [f8 _ _ (by omega) (by omega) (by omega) (by omega), f37 _ _ (by omega), hro1 x hxn]; exact r6 x hxo
    · rw [e3] at hr
      rw [z5, f8 _ _ (by omega) (by omega) (by omega) (by omega)]; exact t7 r hr
  have hfr : ∀ x k', esG x k' → gi s8 x k' = gi σ x k' := fun x k' he => by
    unfold esG at he
    rw [f8 _ _ (by omega) (by omega) (by omega) (by omega), f37 _ _ (by omega)]
  rw [hfr 396 0 (by unfold esG; omega), h2]
  have hSn : ¬ inr R n i g (nxt R n i) := fun z => by have := z.1; omega
  by_cases hlast : n ≤ nxt R n i
  · have hS : ∀ x, (inr R n i g x ∧ x ≠ W b) ↔ inr R n (i + 1) (gstp F n R tu i g) x := fun x => by
      rw [inr_s hR hi, hkd, hWb]
      constructor
      · exact Or.inl
      · rintro (z | z)
        · exact z
        · omega
    rw [if_pos (nI_le hlast (by omega)), bd_ok, lt_ok, nI_add, x7 (by omega)]
    have e : nxt R n (i + 1) - (i + 1) = nxt R n i - i - 1 := by rw [x7 (by omega)]; omega
    refine ⟨s8, rfl, mk s8 _ (by rw [e]; exact rs_congr' hdel hS) (by rw [e]; exact g10) (by rw [e]; exact w401) (by rw [e]; exact w402) (fun _ => rfl), hfr⟩
  · have hS : ∀ x, ((inr R n i g x ∧ x ≠ W b) ∨ x = nxt R n i) ↔ inr R n (i + 1) (gstp F n R tu i g) x := fun x => by
      rw [inr_s hR hi, hkd, hWb]
      constructor
      · rintro (z | z)
        · exact Or.inl z
        · refine Or.inr ⟨z, by omega, fun q => ?_, by omega⟩
          have := hgi.2.2.1 x q; omega
      · rintro (z | z)
        · exact Or.inl z
        · exact Or.inr z.1
    have e : nxt R n (i + 1) - (i + 1) = nxt R n i - i - 1 + 1 := by rw [x6 (by omega)]; omega
    rw [if_neg (nI_ge (by omega) (by omega)), m_isLess hM hM2 (n := n) (F := F) (by omega) hkn hn (fun j hj => by rw [hfr _ _ (by unfold esG; omega)]; exact hk j hj) hF, bd_ok, m_doesFall hM hM2 (by rw [hfr _ _ (by unfold esG; omega)]; exact h6) hs (by omega), bd_ok, ← htu]
    have hw70 : (if ¬ bI (lsB F (nxt R n i) k) = bI (fal tu c) then (some ((nI c + nI 1), s8)) else (some (nI c, s8))) = some (nI (if lsB F (nxt R n i) k == fal tu c then c else c + 1), s8) := by
      by_cases hz : lsB F (nxt R n i) k = fal tu c
      · rw [if_neg (fun q => q (by rw [hz])), hz]; simp
      · have : (lsB F (nxt R n i) k == fal tu c) = false := by simpa using hz
        rw [if_pos (by rw [bI_e]; exact hz), this, nI_add]; rfl
    rw [hw70, bd_ok, m_comesIn hM hM2 g10 (by omega), bv_ok, lt_ok, nI_add, bd_ok, lt_ok, nI_add, x6 (by omega)]
    refine ⟨_, rfl, mk _ (fun j => if j = nxt R n i - i - 1 then nxt R n i else (fun j => if j = b then W (nxt R n i - i - 1) else W j) j) (by rw [e]; exact rs_congr' (rs_add hdel (fun z => hSn z.1)) hS) ?_ (fun j hj => ?_) (fun j hj => ?_) (fun k => ?_), fun x k' he => ?_⟩
    · rw [gs_eq, e]
    · rw [e] at hj
      by_cases hjm : j = nxt R n i - i - 1
      · rw [if_pos hjm, hjm, gs_ne (by omega), gs_ne (by omega), gs_eq]
      · rw [if_neg hjm, gs_ne (by omega), gs_ne (by omega), gs_ne (by omega)]; exact w401 j (by omega)
    · rw [e] at hj
      by_cases hjm : j = nxt R n i - i - 1
      · rw [if_pos hjm, hjm, gs_ne (by omega), gs_eq]
        congr 1
        show _ = (if nxt R n i = nxt R n i ∧ nxt R n i < n then (if lsB F (nxt R n i) (gkk F n R tu i g) == fal tu (gcu F n R tu i g) then gcu F n R tu i g else gcu F n R tu i g + 1) else _)
        rw [if_pos (show nxt R n i = nxt R n i ∧ nxt R n i < n from ⟨rfl, by omega⟩), hkd, hcd]
      · rw [if_neg hjm, gs_ne (by omega), gs_ne (by omega), gs_ne (by omega)]; exact w402 j (by omega)
    · rw [gs_ne (by omega), gs_ne (by omega), gs_ne (by omega)]
    · unfold esG at he
      rw [gs_ne (by omega), gs_ne (by omega), gs_ne (by omega)]; exact hfr x k' (by unfold esG; omega)
theorem m_laysRuns (hM : LMod E) (hM2 : LMo2 E) {s5 : Nat} (h6 : gi σ 396 6 = nI s5) (hs : s5 ≤ 1) (htu : tu = (s5 == 1)) (hn0 : 0 < n) (hn : n ≤ 300) (hR : 2 ≤ R) (hR2 : R ≤ 16) (h1 : gi σ 396 1 = nI R) (h2 : gi σ 396 0 = nI n) (hk : ∀ i, i < n → gi σ 396 (26 + i) = nI (F i)) (hF : ∀ i, i < n → F i < 256) :
    ∃ s, fX7_laysRuns E 395 σ = some s ∧ gi s 396 14 = nI (nrG (gst F n R tu n)) ∧ (∀ x, x < n → gi s 396 (326 + x) = nI (gR (gst F n R tu n) x)) ∧ (∀ p, p < n → gi s 396 (626 + p) = nI ((gO (gst F n R tu n)).getD p 0)) ∧ (∀ r, r ≤ nrG (gst F n R tu n) → gi s 396 (926 + r) = nI (bgG n (gst F n R tu n) r)) ∧ ∀ x k, esG x k → ¬ (x = 396 ∧ k = 14) → gi s x k = gi σ x k := by
  obtain ⟨m0, m1, m2, m3, m4, m5, m6, m7, mz⟩ := id hM
  obtain ⟨n1, n2, n3, n4, n5, n6, n7, nz⟩ := id hM2
  have hnx : nxt R n 0 ≤ 16 ∧ nxt R n 0 ≤ n ∧ nxt R n 0 = min R n := by unfold nxt; omega
  unfold fX7_laysRuns
  rw [tk_ok m0, ss_ok]
  refine bd_in (nxt R n 0) (fun i b => b.1 = nI i ∧ gi b.2 395 10 = nI i ∧ (∀ j, j < i → gi b.2 401 j = nI j) ∧ (∀ j, j < i → gi b.2 402 j = nI 0) ∧ ∀ x k, x ≠ 401 → x ≠ 402 → ¬ (x = 395 ∧ k = 10) → gi b.2 x k = gi σ x k)
    (fun b => b.1 = nI (nxt R n 0) ∧ gi b.2 395 10 = nI (nxt R n 0) ∧ (∀ j, j < nxt R n 0 → gi b.2 401 j = nI j) ∧ (∀ j, j < nxt R n 0 → gi b.2 402 j = nI 0) ∧ ∀ x k, x ≠ 401 → x ≠ 402 → ¬ (x = 395 ∧ k = 10) → gi b.2 x k = gi σ x k) (by show nxt R n 0 < 1000000; omega) ⟨rfl, gs_eq, fun j hj => absurd hj (Nat.not_lt_zero j), fun j hj => absurd hj (Nat.not_lt_zero j), fun x k q1 q2 q3 => gs_ne (by omega)⟩ ?_ ?_ ?_
  · rintro i ⟨v, s⟩ rec hi ⟨rfl, q1, q2, q3, q4⟩
    dsimp only at q1 q2 q3 q4 ⊢
    unfold bX7_laysRuns_7
    rw [m_many hM hM2, bd_ok, q4 396 0 (by omega) (by omega) (by omega), h2, if_neg (nI_ge (by omega) (by omega)), m_room hM hM2, bd_ok, q4 396 1 (by omega) (by omega) (by omega), h1, q1, if_neg (nI_ge (by omega) (by omega)), m_comesIn hM hM2 q1 (by omega), bv_ok, lt_ok, ad1]
    refine ⟨_, rfl, rfl, gs_eq, fun j hj => ?_, fun j hj => ?_, fun x k z1 z2 z3 => ?_⟩
    · dsimp only
      by_cases hji : j = i
      · subst hji; simp (disch := omega) only [i0, i1, i2, i3, i4, i5, i6, i7, i8, mle, mlt, meq, if_pos, if_neg, dr_s, tk_s, ck_m, nI_clamp, lt_ok, ss_ok, nI_add, pk_mul, sub_n, bd_ok, bv_ok, gs_ne, gs_eq]
      · simp (disch := omega) only [i0, i1, i2, i3, i4, i5, i6, i7, i8, mle, mlt, meq, if_pos, if_neg, dr_s, tk_s, ck_m, nI_clamp, lt_ok, ss_ok, nI_add, pk_mul, sub_n, bd_ok, bv_ok, gs_ne, gs_eq]; exact q2 j (by omega)
    · dsimp only
      by_cases hji : j = i
      · subst hji; simp (disch := omega) only [i0, i1, i2, i3, i4, i5, i6, i7, i8, mle, mlt, meq, if_pos, if_neg, dr_s, tk_s, ck_m, nI_clamp, lt_ok, ss_ok, nI_add, pk_mul, sub_n, bd_ok, bv_ok, gs_ne, gs_eq]
      · simp (disch := omega) only [i0, i1, i2, i3, i4, i5, i6, i7, i8, mle, mlt, meq, if_pos, if_neg, dr_s, tk_s, ck_m, nI_clamp, lt_ok, ss_ok, nI_add, pk_mul, sub_n, bd_ok, bv_ok, gs_ne, gs_eq]; exact q3 j (by omega)
    · dsimp only; simp (disch := omega) only [i0, i1, i2, i3, i4, i5, i6, i7, i8, mle, mlt, meq, if_pos, if_neg, dr_s, tk_s, ck_m, nI_clamp, lt_ok, ss_ok, nI_add, pk_mul, sub_n, bd_ok, bv_ok, gs_ne, gs_eq]; exact q4 x k z1 z2 z3
  · rintro ⟨v, s⟩ rec ⟨rfl, q1, q2, q3, q4⟩
    dsimp only at q1 q2 q3 q4 ⊢
    unfold bX7_laysRuns_7
    rw [m_many hM hM2, bd_ok, q4 396 0 (by omega) (by omega) (by omega), h2]
    by_cases hq : n ≤ nxt R n 0
    · rw [if_pos (nI_le hq (by omega))]
      exact ⟨_, rfl, rfl, q1, q2, q3, q4⟩
    · rw [if_neg (nI_ge (by omega) (by omega)), m_room hM hM2, bd_ok, q4 396 1 (by omega) (by omega) (by omega), h1, q1, if_pos (nI_le (by omega) (by omega))]
      exact ⟨_, rfl, rfl, q1, q2, q3, q4⟩
  · rintro v s ⟨q0, q1, q2, q3, q4⟩
    dsimp only at q0 q1 q2 q3 q4
    subst q0
    rw [dr_ok m1 n1.1, n1.2, show (926 : Int32) = nI 926 from rfl, ck_n (by omega) (by omega), nI_clamp (by omega), ss_ok]
    refine bd_in n (fun i b => b.1 = (nI (nxt R n i), nI (gC (gst F n R tu i)), nI i) ∧ GM b.2 n R i (gst F n R tu i) ∧ ∀ x k, esG x k → gi b.2 x k = gi σ x k)
      (fun b => b.1.2.1 = nI (gC (gst F n R tu n)) ∧ GM b.2 n R n (gst F n R tu n) ∧ ∀ x k, esG x k → gi b.2 x k = gi σ x k) (by show n < 1000000; omega) ⟨rfl, ?_, fun x k z => ?_⟩ ?_ ?_ ?_
    · refine ⟨fun j => j, ⟨fun j hj => ⟨by omega, List.not_mem_nil⟩, fun a b _ _ e => e, fun x hx => ⟨x, by have := hx.1; omega, rfl⟩⟩, ?_, fun j hj => ?_, fun j hj => ?_, fun p hp => absurd hp (Nat.not_lt_zero p), fun x hx => absurd hx List.not_mem_nil, fun r hr => ?_⟩
      · dsimp only; rw [gs_ne (by omega), q1]; rfl
      · dsimp only; rw [gs_ne (by omega)]; exact q2 j (by omega)
      · dsimp only; rw [gs_ne (by omega)]; exact q3 j (by omega)
      · have hr : r ≤ 0 := hr
        rw [show r = 0 by omega]; dsimp only; rw [gs_eq]; rfl
    · unfold esG at z
      dsimp only; rw [gs_ne (by omega), q4 _ _ (by omega) (by omega) (by omega)]
    · rintro i ⟨⟨v, u, y⟩, s2⟩ rec hi ⟨z1, z2, z3⟩
      dsimp only at z1 z2 z3 ⊢
      injection z1 with z1 z1'
      injection z1' with z1' z1''
      subst z1; subst z1'; subst z1''
      obtain ⟨s3, e3, g3, f3⟩ := m_gstep hM hM2 (by rw [z3 _ _ (by unfold esG; omega)]; exact h6) hs htu hn hR hR2 (by rw [z3 _ _ (by unfold esG; omega)]; exact h2) (fun j hj => by rw [z3 _ _ (by unfold esG; omega)]; exact hk j hj) hF hi (gi_all hR (by omega)) z2 (fun u0 u1 u2 t => rec ((u0, u1, u2), t))
      exact ⟨_, e3, rfl, g3, fun x k q => by dsimp only; rw [f3 x k q]; exact z3 x k q⟩
    · rintro ⟨⟨v, u, y⟩, s2⟩ rec ⟨z1, z2, z3⟩
      dsimp only at z1 z2 z3 ⊢
      injection z1 with z1 z1'
      injection z1' with z1' z1''
      subst z1; subst z1'; subst z1''
      unfold bX7_laysRuns_51
      rw [m_many hM hM2, bd_ok, z3 _ _ (by unfold esG; omega), h2, if_pos (nI_le (Nat.le_refl _) (by omega))]
      exact ⟨_, rfl, rfl, z2, z3⟩
    · rintro ⟨v, u, y⟩ s2 ⟨z1, ⟨W, r1, r2, r3, r4, r5, r6, r7⟩, z3⟩
      dsimp only at z1 r2 r3 r4 r5 r6 r7 z3 ⊢
      subst z1
      have hgi := gi_all (F := F) (tu := tu) hR (Nat.le_refl n)
      obtain ⟨nr1, nr2⟩ := gf_nr hn0 hgi hn
      unfold nrG at nr1 nr2
      rw [show (14 : Int32) = nI 14 from rfl, ck_n (by omega) (by omega), nI_clamp (by omega), ss_ok, m_many hM hM2, bd_ok, nI_add, i1, nI_add, nI_add, ck_n (by omega) (by omega), nI_clamp (by omega), ss_ok]
      rw [gs_ne (show (396 : Nat) ≠ 396 ∨ 0 ≠ 14 by omega), z3 396 0 (by unfold esG; omega), h2]
      refine ⟨_, rfl, ?_, fun x hx => ?_, fun p hp => ?_, fun r hr => ?_, fun x k he hq => ?_⟩
      · rw [gs_ne (by omega), gs_eq]; rfl
      · rw [gs_ne (by omega), gs_ne (by omega)]; exact r6 x ((gf_all hgi).mpr hx)
      · rw [gs_ne (by omega), gs_ne (by omega)]; exact r5 p hp
      · unfold nrG at hr
        unfold bgG
        by_cases hrc : r ≤ gC (gst F n R tu n)
        · rw [if_pos hrc, gs_ne (by omega), gs_ne (by omega)]; exact r7 r hrc
        · rw [if_neg hrc, show 926 + r = 926 + gC (gst F n R tu n) + 1 by omega, gs_eq]
      · unfold esG at he
        rw [gs_ne (by omega), gs_ne (by omega)]; exact z3 x k (by unfold esG; omega)
end MG
end
section
/-! the reference's mill: who gives, phases -/
theorem bt_get : ∀ b, b < 64 → ∀ t, t < 6 → (nI b >>> (nI t &&& 31)) &&& 1 = bI (b.testBit t) := by decide +kernel
theorem bt_or : ∀ b, b < 64 → ∀ t, t < 6 → (nI b ||| ((1 : Int32) <<< (nI t &&& 31)) = nI (b ||| 2 ^ t) ∧ b ||| 2 ^ t < 64) ∧ nI b ||| ((0 : Int32) <<< (nI t &&& 31)) = nI b := by decide +kernel
theorem bt_sh : ∀ t, t < 6 → (1 : Int32) <<< (nI t &&& 31) = nI (2 ^ t) ∧ 2 ^ t < 64 := by decide +kernel
theorem bt_tb : ∀ b, b < 64 → ∀ t, t < 6 → ∀ u, u < 6 → (b ||| 2 ^ t).testBit u = (b.testBit u || (u == t)) := by decide +kernel
theorem bt_pw : ∀ t, t < 6 → ∀ u, u < 6 → (2 ^ t).testBit u = (u == t) := by decide +kernel
def MKm (σ : Sg) (w T : Nat) (s : Sk) : Prop := gi σ 396 2 = nI T ∧ gi σ 396 3 = nI w ∧ gi σ 396 13 = nI (kto s) ∧ gi σ 396 17 = nI (if klo s then 0 else 1) ∧ ∃ b v, b < 64 ∧ v < 64 ∧ gi σ 396 15 = nI b ∧ gi σ 396 16 = nI v ∧ ∀ t, t < T → ko s t = (b.testBit t && !(v.testBit t))
def CTm (σ : Sg) (T : Nat) (s : Sk) : Prop := ∀ t, t < T → gi σ 396 (20 + t) = nI (kc s t) ∧ kc s t ≤ 256
theorem mk_fr {σ σ' : Sg} {w T : Nat} {s : Sk} (h : MKm σ w T s) (hf : ∀ k, k = 2 ∨ k = 3 ∨ k = 13 ∨ (15 ≤ k ∧ k ≤ 17) → gi σ' 396 k = gi σ 396 k) : MKm σ' w T s := by
  obtain ⟨h1, h2, h3, h4, b, v, h5, h6, h7, h8, h9⟩ := h
  exact ⟨by rw [hf _ (by omega)]; exact h1, by rw [hf _ (by omega)]; exact h2, by rw [hf _ (by omega)]; exact h3, by rw [hf _ (by omega)]; exact h4, b, v, h5, h6, by rw [hf _ (by omega)]; exact h7, by rw [hf _ (by omega)]; exact h8, h9⟩
theorem ct_fr {σ σ' : Sg} {T : Nat} {s : Sk} (h : CTm σ T s) (hT : T ≤ 6) (hf : ∀ k, 20 ≤ k → k < 26 → gi σ' 396 k = gi σ 396 k) : CTm σ' T s := fun t ht => by rw [hf _ (by omega) (by omega)]; exact h t ht
section MC
variable {E : En} {σ : Sg} {w T : Nat} {s : Sk}
theorem m_inHalf (hM : LMod E) (hM2 : LMo2 E) {t hv : Nat} {lo : Bool} (h2 : gi σ 396 2 = nI T) (hT : T ≤ 6) (ht : t < 6) (hh : hv = if lo then 0 else 1) : fX7_isInHalf E 395 (nI t) (nI hv) σ = some (bI (decide (t < T / 2) == lo), σ) := by
  unfold fX7_isInHalf
  rw [tk_ok hM.1, m_tapes hM hM2, bd_ok, h2, i2, pk_div (by omega) (by omega) (by omega)]
  have e1 : (if nI (T / 2) ≤ nI t then (some ((0 : Int32), σ)) else (some ((1 : Int32), σ))) = some (bI (decide (t < T / 2)), σ) := by
    by_cases h : T / 2 ≤ t
    · rw [if_pos (nI_le h (by omega)), decide_eq_false (by omega)]; rfl
    · rw [if_neg (nI_ge (by omega) (by omega)), decide_eq_true (by omega)]; rfl
  rw [e1, bd_ok]
  have e2 : (if ¬ nI hv = 0 then (some ((0 : Int32), σ)) else (some ((1 : Int32), σ))) = some (bI lo, σ) := by
    subst hh; cases lo <;> rfl
  rw [e2, bd_ok]
  cases decide (t < T / 2) <;> cases lo <;> rfl
theorem m_gives (hM : LMod E) (hM2 : LMo2 E) (hk : MKm σ w T s) (hc : CTm σ T s) (hT : T ≤ 6) (hT3 : 3 ≤ T) (hw : w ≤ 2) (hto : kto s < T) (hf : flg w (T / 2) s (kto s) = false) (h0 : w = 0 → ∀ t, t < T → t ≠ kto s → 0 < kc s t) {t : Nat} (ht : t < 6) : fX7_doesGive E 395 (nI t) σ = some (bI (decide (t < T) && gvf w (T / 2) s t), σ) := by
  obtain ⟨k2, k3, k13, k17, b, v, hb, hv, k15, k16, kb'⟩ := hk
  unfold fX7_doesGive
  rw [tk_ok hM.1, dr_ok hM.2.1 hM2.1.1, hM2.1.2, show (13 : Int32) = nI 13 from rfl, ck_n (by omega) (by omega), nI_clamp (by omega), k13]
  by_cases h1 : t = kto s
  · rw [if_pos (by rw [h1]), h1, gv_no hf, Bool.and_false]; rfl
  · rw [if_neg (fun q => h1 ((nI_eq (by omega) (by omega)).mp q)), m_tapes hM hM2, bd_ok, k2, i1, sub_n (by omega), i0]
    by_cases h2 : t < T
    · rw [m_inN (by omega), bd_ok, if_pos (by decide), m_way hM hM2, bd_ok, k3, decide_eq_true h2, Bool.true_and]
      obtain ⟨c1, c2⟩ := hc t h2
      rcases (show w = 0 ∨ w = 1 ∨ w = 2 by omega) with rfl | rfl | rfl
      · rw [if_pos rfl]
        have := h0 rfl t h2 h1
        rw [gv_of (w := 0) (by show (!(t == kto s)) = true; simpa using h1) this]; rfl
      · rw [if_neg (by decide), if_pos rfl, show (17 : Int32) = nI 17 from rfl, ck_n (by omega) (by omega), nI_clamp (by omega), k17, m_inHalf hM hM2 (lo := klo s) k2 hT ht rfl, bd_ok]
        rw [show gvf 1 (T / 2) s t = (!(kc s t == 0) && (decide (t < T / 2) == klo s)) from rfl]
        cases hq : (decide (t < T / 2) == klo s) with
        | false => rw [if_pos (by rfl), bd_ok, kb_n0, Bool.and_false]; rfl
        | true =>
          rw [if_neg (by decide), show (20 : Int32) = nI 20 from rfl, nI_add, ck_n (by omega) (by omega), nI_clamp (by omega), c1, Bool.and_true]
          by_cases hz : kc s t = 0
          · rw [hz, if_pos (by decide), bd_ok, kb_n0]; rfl
          · have hz' : (kc s t == 0) = false := by simpa using hz
            rw [if_neg (show ¬ nI (kc s t) ≤ nI 0 from nI_nle (by omega) (by omega)), bd_ok, kb_n1, hz']; rfl
      · rw [if_neg (by decide), if_neg (by decide), show (15 : Int32) = nI 15 from rfl, ck_n (by omega) (by omega), nI_clamp (by omega), k15, show nI 1 = (1 : Int32) from rfl, bt_get b hb t ht]
        rw [show gvf 2 (T / 2) s t = (!(kc s t == 0) && ko s t) from rfl, kb' t h2]
        cases hq : b.testBit t with
        | false => rw [if_pos (by decide), bd_ok, kb_n0, Bool.false_and, Bool.and_false]; rfl
        | true =>
          rw [if_neg (by decide), show (16 : Int32) = nI 16 from rfl, ck_n (by omega) (by omega), nI_clamp (by omega), k16, bt_get v hv t ht, Bool.true_and]
          cases hq2 : v.testBit t with
          | true => rw [if_pos (by decide), bd_ok, kb_n0]; simp; rfl
          | false =>
            rw [if_neg (by decide), show (20 : Int32) = nI 20 from rfl, nI_add, ck_n (by omega) (by omega), nI_clamp (by omega), c1]
            by_cases hz : kc s t = 0
            · rw [hz, if_pos (by decide), bd_ok, kb_n0]; rfl
            · have hz' : (kc s t == 0) = false := by simpa using hz
              rw [if_neg (show ¬ nI (kc s t) ≤ nI 0 from nI_nle (by omega) (by omega)), bd_ok, kb_1, hz']; rfl
    · rw [m_inO (by omega), bd_ok, if_neg (by simp; rfl), decide_eq_false h2, Bool.false_and]; rfl
theorem fstF_ext {p : Nat → Bool} {m : Nat} : ∀ {n : Nat}, m ≤ n → (∀ t, m ≤ t → t < n → p t = false) → fstF p n = fstF p m
  | 0, h, _ => by rw [show m = 0 by omega]
  | n + 1, h, hp => by
    by_cases hm : m = n + 1
    · rw [hm]
    · have ih := fstF_ext (n := n) (by omega) (fun t h1 h2 => hp t h1 (by omega))
      have e : fstF p (n + 1) = match fstF p n with | some x => some x | none => if p n then some n else none := rfl
      rw [e, ih, hp n (by omega) (by omega)]
      cases fstF p m with
      | none => rfl
      | some e => rfl
theorem m_emptied (hM : LMod E) (hM2 : LMo2 E) (hc : CTm σ T s) (hT : T ≤ 6) {g : Nat → Bool} (htk : ∀ t, t < 6 → (gi σ 407 t = -1 ↔ (decide (t < T) && g t) = false)) : fX7_emptied E 395 σ = some (optI (fstF (fun t => g t && (kc s t == 0)) T), σ) := by
  obtain ⟨m0, m1, m2, m3, m4, m5, m6, m7, m8, m9, m10, m11, m12, mz⟩ := id hM
  obtain ⟨n1, n2, n3, n4, n5, n6, n7, n8, n9, n10, n11, n12, nz⟩ := id hM2
  have body : ∀ i rec, i < 6 → bX7_emptied_2 E 395 rec (nI i) σ = if (decide (i < T) && (g i && (kc s i == 0))) = true then some (.inr (nI i), σ) else rec (nI (i + 1)) σ := by
    intro i rec hi
    unfold bX7_emptied_2
    rw [i6, if_neg (nI_ge hi (by omega)), dr_ok m12 n12.1, n12.2, ck_n (by omega) (by omega), nI_clamp (by omega)]
    by_cases hg : (decide (i < T) && g i) = false
    · rw [if_pos ((htk i hi).mpr hg), lt_ok, ad1, if_neg]
      rw [← Bool.and_assoc, hg]; simp
    · have hg' : (decide (i < T) && g i) = true := by simpa using hg
      have hiT : i < T := by simp at hg'; exact hg'.1
      obtain ⟨c1, c2⟩ := hc i hiT
      rw [if_neg (fun q => hg ((htk i hi).mp q)), dr_ok m1 n1.1, n1.2, show (20 : Int32) = nI 20 from rfl, nI_add, ck_n (by omega) (by omega), nI_clamp (by omega), c1, ← Bool.and_assoc, hg', Bool.true_and]
      by_cases hz : kc s i = 0
      · rw [hz, if_neg (by simp; rfl), if_pos (by rfl)]
      · have hz' : (kc s i == 0) = false := by simpa using hz
        rw [if_pos (nI_ne0 (by omega) (by omega)), lt_ok, ad1, hz', if_neg (by decide)]
  unfold fX7_emptied
  rw [tk_ok m0]
  have he : fstF (fun t => decide (t < T) && (g t && (kc s t == 0))) 6 = fstF (fun t => g t && (kc s t == 0)) T := by
    rw [fstF_ext hT (fun t h1 h2 => by rw [decide_eq_false (by omega), Bool.false_and])]
    exact fstF_congr (fun t ht => by rw [decide_eq_true ht, Bool.true_and])
  rw [← he]
  cases hf : fstF (fun t => decide (t < T) && (g t && (kc s t == 0))) 6 with
  | some e =>
    obtain ⟨q1, q2, q3⟩ := fstF_some hf
    refine bd_tr (Sum.inr (nI e), σ) e (fun i => (nI i, σ)) (by show e < 1000000; omega) (fun i rec hi => ?_) (fun rec => ?_) rfl
    · dsimp only; rw [body i _ (by omega), if_neg (by rw [q3 i hi]; decide)]
    · dsimp only; rw [body e _ q1, if_pos q2]
  | none =>
    have q3 := fstF_none hf
    refine bd_tr (Sum.inl (nI 6), σ) 6 (fun i => (nI i, σ)) (by show 6 < 1000000; omega) (fun i rec hi => ?_) (fun rec => ?_) rfl
    · dsimp only; rw [body i _ (by omega), if_neg (by rw [q3 i hi]; decide)]
    · unfold bX7_emptied_2
      dsimp only
      rw [i6, if_pos (nI_le (Nat.le_refl _) (by omega))]
/-- a pass begins: bits -/
theorem m_begPass (hM : LMod E) (hM2 : LMo2 E) (hT : T ≤ 6) (h2 : gi σ 396 2 = nI T) {to : Nat} {c : Nat → Nat} (h13 : gi σ 396 13 = nI to) (hto : to < 6) (hc : ∀ t, t < T → gi σ 396 (20 + t) = nI (c t) ∧ c t < 2 ^ 31) :
    ∃ s' b, fX7_beginsPass E 395 σ = some s' ∧ b < 64 ∧ gi s' 396 15 = nI b ∧ gi s' 396 16 = nI (2 ^ to) ∧ (∀ t, t < T → b.testBit t = !(c t == 0)) ∧ ∀ x k, ¬ (x = 396 ∧ (k = 15 ∨ k = 16)) → gi s' x k = gi σ x k := by
  unfold fX7_beginsPass
  rw [tk_ok hM.1, dr_ok hM.2.1 hM2.1.1, hM2.1.2, show (15 : Int32) = nI 15 from rfl, ck_n (by omega) (by omega), nI_clamp (by omega), ss_ok]
  obtain ⟨⟨u, s2⟩, e2, b, g1, g2, g3, g4⟩ := for_in (F := fun (rec : Int32 × Sg → Option (Int32 × Sg)) (a : Int32 × Sg) => bX7_beginsPass_10 E 395 396 (fun u0 t => rec (u0, t)) a.1 a.2) T
    (fun i a => a.1 = nI i ∧ ∃ b, b < 64 ∧ gi a.2 396 15 = nI b ∧ (∀ t, t < 6 → b.testBit t = (decide (t < i) && !(c t == 0))) ∧ ∀ x k, ¬ (x = 396 ∧ k = 15) → gi a.2 x k = gi σ x k)
    (fun a => ∃ b, b < 64 ∧ gi a.2 396 15 = nI b ∧ (∀ t, t < 6 → b.testBit t = (decide (t < T) && !(c t == 0))) ∧ ∀ x k, ¬ (x = 396 ∧ k = 15) → gi a.2 x k = gi σ x k) (N := FU) (by show T < 1000000; omega)
    (by
      rintro i ⟨u, s2⟩ rec hi ⟨rfl, b, g1, g2, g3, g4⟩
      dsimp only at g2 g4 ⊢
      obtain ⟨c1, c2⟩ := hc i hi
      unfold bX7_beginsPass_10
      rw [m_tapes hM hM2, bd_ok, g4 396 2 (by omega), h2, if_neg (nI_ge hi (by omega)), hM2.1.2, show (15 : Int32) = nI 15 from rfl, ck_n (by omega) (by omega), show (20 : Int32) = nI 20 from rfl, nI_add, ck_n (by omega) (by omega), nI_clamp (by omega), g4 396 (20 + i) (by omega), c1]
      obtain ⟨⟨o1, o2⟩, o3⟩ := bt_or b g1 i (by omega)
      by_cases hz : c i = 0
      · rw [hz, if_pos (show nI 0 ≤ 0 by decide), bd_ok, m_truth, if_pos rfl, bd_ok, ck_n (by omega) (by omega), nI_clamp (by omega), g2, ss_ok, lt_ok, ad1, o3]
        refine ⟨_, rfl, rfl, b, g1, gs_eq, fun t ht => ?_, fun x k q => by dsimp only; rw [gs_ne (by omega)]; exact g4 x k q⟩
        rw [g3 t ht]
        by_cases hti : t = i
        · subst hti; rw [decide_eq_false (by omega), hz]; simp
        · by_cases hlt : t < i
          · rw [decide_eq_true hlt, decide_eq_true (by omega)]
          · rw [decide_eq_false hlt, decide_eq_false (by omega)]
      · rw [if_neg (nI_nle (by omega) (by omega)), bd_ok, m_truth, if_neg (by decide), bd_ok, ck_n (by omega) (by omega), nI_clamp (by omega), g2, ss_ok, lt_ok, ad1, o1]
        refine ⟨_, rfl, rfl, b ||| 2 ^ i, o2, gs_eq, fun t ht => ?_, fun x k q => by dsimp only; rw [gs_ne (by omega)]; exact g4 x k q⟩
        rw [bt_tb b g1 i (by omega) t ht, g3 t ht]
        by_cases hti : t = i
        · subst hti
          have hz' : (c t == 0) = false := by simpa using hz
          rw [decide_eq_true (show t < t + 1 by omega), hz']; simp
        · have hti' : (t == i) = false := by simpa using hti
          rw [hti', Bool.or_false]
          by_cases hlt : t < i
          · rw [decide_eq_true hlt, decide_eq_true (by omega)]
          · rw [decide_eq_false hlt, decide_eq_false (by omega)])
    (by
      rintro ⟨u, s2⟩ rec ⟨rfl, b, g1, g2, g3, g4⟩
      dsimp only at g2 g4 ⊢
      unfold bX7_beginsPass_10
      rw [m_tapes hM hM2, bd_ok, g4 396 2 (by omega), h2, if_pos (nI_le (Nat.le_refl _) (by omega))]
      exact ⟨_, rfl, b, g1, g2, g3, g4⟩)
    (a := ((0 : Int32), si σ 396 15 0)) ⟨rfl, 0, by omega, gs_eq, fun t ht => by rw [decide_eq_false (by omega)]; simp, fun x k q => by dsimp only; rw [gs_ne (by omega)]⟩
  dsimp only at g2 g4
  obtain ⟨o1, o2⟩ := bt_sh to hto
  rw [e2, bd_ok, show (13 : Int32) = nI 13 from rfl, ck_n (by omega) (by omega), show (16 : Int32) = nI 16 from rfl, ck_n (by omega) (by omega), nI_clamp (by omega), nI_clamp (by omega), g4 396 13 (by omega), h13, ss_ok, o1]
  refine ⟨_, b, rfl, g1, by rw [gs_ne (by omega)]; exact g2, gs_eq, fun t ht => ?_, fun x k q => ?_⟩
  · rw [g3 t (by omega), decide_eq_true ht, Bool.true_and]
  · rw [gs_ne (by omega)]; exact g4 x k (by omega)
end MC
end
section
/-! the reference's mill: phases -/
section MP
variable {E : En} {σ : Sg} {w T : Nat} {s : Sk}
theorem m_goesB (hM : LMod E) (hM2 : LMo2 E) (hk : MKm σ 1 T s) (hc : CTm σ T (skc 1 T (T / 2) s, s.2)) (hT : T ≤ 6) (hT3 : 3 ≤ T) (hto : kto s < T) (hf : flg 1 (T / 2) s (kto s) = false) {ph : Nat} (hp : gi σ 396 11 = nI ph) :
    ∃ s', fX7_goesOnBalanced E 395 σ = some s' ∧ MKm s' 1 T (skn 1 T (T / 2) s).1 ∧ gi s' 396 11 = nI (ph + if (skn 1 T (T / 2) s).2 then 1 else 0) ∧ ∀ x k, ¬ (x = 396 ∧ (k = 11 ∨ k = 13 ∨ (15 ≤ k ∧ k ≤ 17))) → gi s' x k = gi σ x k := by
  obtain ⟨k2, k3, k13, k17, b, v, hb, hv, k15, k16, kb'⟩ := hk
  obtain ⟨m0, m1, mz⟩ := id hM
  obtain ⟨n1, nz⟩ := id hM2
  have hfl : (decide (kto s < T / 2) == klo s) = false := hf
  unfold fX7_goesOnBalanced
  rw [tk_ok m0, m_tapes hM hM2, bd_ok, lt_ok, k2, i2, pk_div (by omega) (by omega) (by omega)]
  have hloop : fx (fun rec a => bX7_goesOnBalanced_11 E 395 (fun u0 u1 t => rec ((u0, u1), t)) a.1.1 a.1.2 a.2) FU (((1 : Int32), (0 : Int32)), σ) = some ((bI (cntF (gvf 1 (T / 2) (skc 1 T (T / 2) s, s.2)) T == 0), nI T), σ) := by
    refine for_tr T (fun i => ((bI (cntF (gvf 1 (T / 2) (skc 1 T (T / 2) s, s.2)) i == 0), nI i), σ)) (by show T < 1000000; omega) (fun i rec hi => ?_) (fun rec => ?_) rfl
    · obtain ⟨c1, c2⟩ := hc i hi
      dsimp only
      unfold bX7_goesOnBalanced_11
      rw [m_tapes hM hM2, bd_ok, k2, if_neg (nI_ge hi (by omega))]
      have e : cntF (gvf 1 (T / 2) (skc 1 T (T / 2) s, s.2)) (i + 1) = cntF (gvf 1 (T / 2) (skc 1 T (T / 2) s, s.2)) i + (if gvf 1 (T / 2) (skc 1 T (T / 2) s, s.2) i then 1 else 0) := rfl
      rw [e]
      have eg : gvf 1 (T / 2) (skc 1 T (T / 2) s, s.2) i = (!(kc (skc 1 T (T / 2) s, s.2) i == 0) && (decide (i < T / 2) == klo s)) := rfl
      rw [eg]
      cases hz : (cntF (gvf 1 (T / 2) (skc 1 T (T / 2) s, s.2)) i == 0) with
      | false =>
        rw [if_pos (by rfl), bd_ok, lt_ok, ad1]
        have hne : cntF (gvf 1 (T / 2) (skc 1 T (T / 2) s, s.2)) i ≠ 0 := by simpa using hz
        have : (cntF (gvf 1 (T / 2) (skc 1 T (T / 2) s, s.2)) i + (if (!(kc (skc 1 T (T / 2) s, s.2) i == 0) && (decide (i < T / 2) == klo s)) = true then 1 else 0) == 0) = false := by simp; omega
        rw [this]; rfl
      | true =>
        have hze : cntF (gvf 1 (T / 2) (skc 1 T (T / 2) s, s.2)) i = 0 := by simpa using hz
        rw [if_neg (by decide), dr_ok m1 n1.1, n1.2, show (17 : Int32) = nI 17 from rfl, ck_n (by omega) (by omega), nI_clamp (by omega), k17, m_inHalf hM hM2 (lo := klo s) k2 hT (by omega) rfl, bd_ok, hze]
        cases hq : (decide (i < T / 2) == klo s) with
        | false => rw [if_pos (by rfl), bd_ok, lt_ok, ad1, Bool.and_false]; rfl
        | true =>
          rw [if_neg (by decide), show (20 : Int32) = nI 20 from rfl, nI_add, ck_n (by omega) (by omega), nI_clamp (by omega), c1]
          by_cases hcz : kc (skc 1 T (T / 2) s, s.2) i = 0
          · rw [hcz, if_neg (by simp; rfl), bd_ok, lt_ok, ad1]; rfl
          · have hcz' : (kc (skc 1 T (T / 2) s, s.2) i == 0) = false := by simpa using hcz
            rw [if_pos (nI_ne0 (by omega) (by omega)), bd_ok, lt_ok, ad1, hcz']; rfl
    · unfold bX7_goesOnBalanced_11
      dsimp only
      rw [m_tapes hM hM2, bd_ok, k2, if_pos (nI_le (Nat.le_refl _) (by omega))]
  rw [hloop, bd_ok]
  dsimp only
  have hsk : skn 1 T (T / 2) s = if cntF (gvf 1 (T / 2) (skc 1 T (T / 2) s, s.2)) T = 0 then ((skc 1 T (T / 2) s, (if klo s then 0 else T / 2), s.2.2.1, !klo s), true)
    else ((skc 1 T (T / 2) s, (if (if klo s then T - 1 else T / 2 - 1) ≤ kto s then (if klo s then T / 2 else 0) else kto s + 1), s.2.2.1, klo s), false) := by unfold skn; rw [if_pos rfl]
  by_cases hz : cntF (gvf 1 (T / 2) (skc 1 T (T / 2) s, s.2)) T = 0
  · rw [hsk, if_pos hz, hz, if_neg (by decide), dr_ok m1 n1.1, n1.2, show (11 : Int32) = nI 11 from rfl, ck_n (by omega) (by omega), ck_n (by omega) (by omega), nI_clamp (by omega), hp, ad1, ss_ok, show (17 : Int32) = nI 17 from rfl, ck_n (by omega) (by omega), ck_n (by omega) (by omega), nI_clamp (by omega), gs_ne (by omega), k17, ss_ok, gs_eq, ck_n (by omega) (by omega), show (13 : Int32) = nI 13 from rfl]
    have e1 : (1 : Int32) - nI (if klo s then 0 else 1) = nI (if klo s then 1 else 0) := by cases klo s <;> rfl
    rw [e1]
    have e2 : ∀ s46 : Sg, (if ¬ nI (if klo s then 1 else 0) = 0 then (some ((0 : Int32), s46)) else (some (nI (T / 2), s46))) = some (nI (if klo s then 0 else T / 2), s46) := fun s46 => by cases klo s <;> rfl
    rw [e2, bd_ok, ck_n (by omega) (by omega), nI_clamp (by omega), ss_ok]
    refine ⟨_, rfl, ⟨?_, ?_, gs_eq, ?_, b, v, hb, hv, ?_, ?_, kb'⟩, ?_, fun x k q => ?_⟩
    · rw [gs_ne (by omega), gs_ne (by omega), gs_ne (by omega)]; exact k2
    · rw [gs_ne (by omega), gs_ne (by omega), gs_ne (by omega)]; exact k3
    · rw [gs_ne (by omega), gs_eq]; show nI _ = nI (if (!klo s) = true then 0 else 1); cases klo s <;> rfl
    · rw [gs_ne (by omega), gs_ne (by omega), gs_ne (by omega)]; exact k15
    · rw [gs_ne (by omega), gs_ne (by omega), gs_ne (by omega)]; exact k16
    · rw [gs_ne (by omega), gs_ne (by omega), gs_eq]; rfl
    · rw [gs_ne (by omega), gs_ne (by omega), gs_ne (by omega)]
  · have hz' : (cntF (gvf 1 (T / 2) (skc 1 T (T / 2) s, s.2)) T == 0) = false := by simpa using hz
    rw [hsk, if_neg hz, hz', if_pos (by rfl), dr_ok m1 n1.1, n1.2, show (17 : Int32) = nI 17 from rfl, ck_n (by omega) (by omega), nI_clamp (by omega), k17]
    have e1 : (if ¬ nI (if klo s then 0 else 1) = 0 then (some ((nI (T / 2) - (1 : Int32)), σ)) else (bd (fX7_tapes E 395 σ) (fun r32 s30 => some ((r32 - (1 : Int32)), s30)))) = some (nI (if klo s then T - 1 else T / 2 - 1), σ) := by
      rw [m_tapes hM hM2, bd_ok, k2, i1, sub_n (by omega), sub_n (by omega)]
      cases klo s <;> rfl
    rw [e1, bd_ok, show (13 : Int32) = nI 13 from rfl, ck_n (by omega) (by omega), nI_clamp (by omega), k13, ck_n (by omega) (by omega), ck_n (by omega) (by omega), k17]
    have hle : kto s ≤ (if klo s then T - 1 else T / 2 - 1) := by
      cases hl : klo s with
      | true => simp; omega
      | false =>
        rw [hl] at hfl
        have : kto s < T / 2 := by simpa using hfl
        simp; omega
    have e2 : (if ¬ nI (kto s) = nI (if klo s then T - 1 else T / 2 - 1) then (some ((nI (kto s) + (1 : Int32)), σ)) else (if ¬ nI (if klo s then 0 else 1) = 0 then (some ((0 : Int32), σ)) else (some (nI (T / 2), σ)))) = some (nI (if (if klo s then T - 1 else T / 2 - 1) ≤ kto s then (if klo s then T / 2 else 0) else kto s + 1), σ) := by
      have hb2 : (if klo s then T - 1 else T / 2 - 1) < 2 ^ 31 := by cases klo s <;> simp <;> omega
      by_cases hq : (if klo s then T - 1 else T / 2 - 1) ≤ kto s
      · rw [if_neg (fun z => z (by rw [Nat.le_antisymm hle hq])), if_pos hq]
        cases klo s <;> rfl
      · rw [if_pos (fun z => hq (by rw [(nI_eq (by omega) hb2).mp z]; exact Nat.le_refl _)), if_neg hq, ad1]
    rw [e2, bd_ok, ck_n (by omega) (by omega), ss_ok]
    refine ⟨_, rfl, ⟨?_, ?_, gs_eq, ?_, b, v, hb, hv, ?_, ?_, kb'⟩, ?_, fun x k q => ?_⟩
    · rw [gs_ne (by omega)]; exact k2
    · rw [gs_ne (by omega)]; exact k3
    · rw [gs_ne (by omega)]; exact k17
    · rw [gs_ne (by omega)]; exact k15
    · rw [gs_ne (by omega)]; exact k16
    · rw [gs_ne (by omega)]; exact hp
    · rw [gs_ne (by omega)]
theorem m_goesOn (hM : LMod E) (hM2 : LMo2 E) (hk : MKm σ w T s) (hc : CTm σ T (skc w T (T / 2) s, s.2)) (hT : T ≤ 6) (hT3 : 3 ≤ T) (hw : w ≤ 2) (hto : kto s < T) (hf : flg w (T / 2) s (kto s) = false) (htk : ∀ t, t < 6 → (gi σ 407 t = -1 ↔ (decide (t < T) && gvf w (T / 2) s t) = false)) {ph : Nat} (hp : gi σ 396 11 = nI ph) :
    ∃ s', fX7_goesOn E 395 σ = some s' ∧ MKm s' w T (skn w T (T / 2) s).1 ∧ gi s' 396 11 = nI (ph + if (skn w T (T / 2) s).2 then 1 else 0) ∧ ∀ x k, ¬ (x = 396 ∧ (k = 11 ∨ k = 13 ∨ (15 ≤ k ∧ k ≤ 17))) → gi s' x k = gi σ x k := by
  obtain ⟨m0, m1, mz⟩ := id hM
  obtain ⟨n1, nz⟩ := id hM2
  unfold fX7_goesOn
  rw [tk_ok m0, m_way hM hM2, bd_ok, hk.2.1]
  by_cases hw1 : w = 1
  · subst hw1
    obtain ⟨s', e, q⟩ := m_goesB hM hM2 hk hc hT hT3 hto hf hp
    rw [if_neg (by simp; rfl), e, bv_ok]
    exact ⟨s', rfl, q⟩
  · rw [i1, if_pos (fun q => hw1 ((nI_eq (by omega) (by omega)).mp q)), m_emptied hM hM2 hc hT htk, bd_ok]
    have hsk : skn w T (T / 2) s = match fstF (fun t => gvf w (T / 2) s t && ((skc w T (T / 2) s).getD t 0 == 0)) T with
      | none => ((skc w T (T / 2) s, s.2), false)
      | some e =>
        if w = 0 then ((skc w T (T / 2) s, e, s.2.2.1, klo s), true)
        else if cntF (gvf 2 (T / 2) (skc w T (T / 2) s, e, tab (fun t => ko s t && !(t == e)) T, klo s)) T < 2 then ((skc w T (T / 2) s, e, tab (fun t => !((skc w T (T / 2) s).getD t 0 == 0) && !(t == e)) T, klo s), true)
        else ((skc w T (T / 2) s, e, tab (fun t => ko s t && !(t == e)) T, klo s), true) := by unfold skn; rw [if_neg hw1]; rfl
    have hfe : (fun t => gvf w (T / 2) s t && (kc (skc w T (T / 2) s, s.2) t == 0)) = fun t => gvf w (T / 2) s t && ((skc w T (T / 2) s).getD t 0 == 0) := rfl
    rw [hfe]
    obtain ⟨k2, k3, k13, k17, b, v, hb, hv, k15, k16, kb'⟩ := id hk
    cases hfs : fstF (fun t => gvf w (T / 2) s t && ((skc w T (T / 2) s).getD t 0 == 0)) T with
    | none =>
      rw [show optI none = -1 from rfl, show (-nI 1 : Int32) = -1 from rfl, if_neg (by simp)]
      rw [show skn w T (T / 2) s = ((skc w T (T / 2) s, s.2), false) by rw [hsk, hfs]]
      exact ⟨σ, rfl, hk, hp, fun _ _ _ => rfl⟩
    | some e =>
      obtain ⟨q1, q2, q3⟩ := fstF_some hfs
      rw [show optI (some e) = nI e from rfl, show (-nI 1 : Int32) = -1 from rfl, if_pos (nI_nm1 (n := e) (by omega)), dr_ok m1 n1.1, n1.2, show (11 : Int32) = nI 11 from rfl, ck_n (by omega) (by omega), ck_n (by omega) (by omega), nI_clamp (by omega), hp, nI_add, ss_ok, show (13 : Int32) = nI 13 from rfl, ck_n (by omega) (by omega), nI_clamp (by omega), ss_ok, m_way hM hM2, bd_ok, gs_ne (by omega), gs_ne (by omega), k3]
      generalize hs2 : si (si σ 396 11 (nI (ph + 1))) 396 13 (nI e) = s2
      have f2 : ∀ x k, ¬ (x = 396 ∧ (k = 11 ∨ k = 13)) → gi s2 x k = gi σ x k := fun x k q => by rw [← hs2]; simp (disch := omega) only [i0, i1, i2, i3, i4, i5, i6, i7, i8, mle, mlt, meq, if_pos, if_neg, dr_s, tk_s, ck_m, nI_clamp, lt_ok, ss_ok, nI_add, pk_mul, sub_n, bd_ok, bv_ok, gs_ne, gs_eq]
      have g13 : gi s2 396 13 = nI e := by rw [← hs2]; simp (disch := omega) only [i0, i1, i2, i3, i4, i5, i6, i7, i8, mle, mlt, meq, if_pos, if_neg, dr_s, tk_s, ck_m, nI_clamp, lt_ok, ss_ok, nI_add, pk_mul, sub_n, bd_ok, bv_ok, gs_ne, gs_eq]
      have g11 : gi s2 396 11 = nI (ph + 1) := by rw [← hs2]; simp (disch := omega) only [i0, i1, i2, i3, i4, i5, i6, i7, i8, mle, mlt, meq, if_pos, if_neg, dr_s, tk_s, ck_m, nI_clamp, lt_ok, ss_ok, nI_add, pk_mul, sub_n, bd_ok, bv_ok, gs_ne, gs_eq]
      by_cases h0 : w = 0
      · subst h0
        rw [show skn 0 T (T / 2) s = ((skc 0 T (T / 2) s, e, s.2.2.1, klo s), true) by rw [hsk, hfs]; rfl]
        rw [if_neg (by simp; rfl)]
        refine ⟨s2, rfl, ⟨?_, ?_, g13, ?_, b, v, hb, hv, ?_, ?_, kb'⟩, g11, fun x k q => f2 x k (by omega)⟩
        · rw [f2 _ _ (by omega)]; exact k2
        · rw [f2 _ _ (by omega)]; exact k3
        · rw [f2 _ _ (by omega)]; exact k17
        · rw [f2 _ _ (by omega)]; exact k15
        · rw [f2 _ _ (by omega)]; exact k16
      · have hw2 : w = 2 := by omega
        subst hw2
        obtain ⟨⟨o1, o2⟩, o3⟩ := bt_or v hv e (by omega)
        rw [if_pos (by decide), show (16 : Int32) = nI 16 from rfl, ck_n (by omega) (by omega), ck_n (by omega) (by omega), nI_clamp (by omega), f2 _ _ (by omega), k16, show nI 1 = (1 : Int32) from rfl, o1, ss_ok]
        generalize hs3 : si s2 396 16 (nI (v ||| 2 ^ e)) = s3
        have f3 : ∀ x k, ¬ (x = 396 ∧ k = 16) → gi s3 x k = gi s2 x k := fun x k q => by rw [← hs3]; simp (disch := omega) only [i0, i1, i2, i3, i4, i5, i6, i7, i8, mle, mlt, meq, if_pos, if_neg, dr_s, tk_s, ck_m, nI_clamp, lt_ok, ss_ok, nI_add, pk_mul, sub_n, bd_ok, bv_ok, gs_ne, gs_eq]
        have g16 : gi s3 396 16 = nI (v ||| 2 ^ e) := by rw [← hs3]; simp (disch := omega) only [i0, i1, i2, i3, i4, i5, i6, i7, i8, mle, mlt, meq, if_pos, if_neg, dr_s, tk_s, ck_m, nI_clamp, lt_ok, ss_ok, nI_add, pk_mul, sub_n, bd_ok, bv_ok, gs_ne, gs_eq]
        have hk3 : MKm s3 2 T (skc 2 T (T / 2) s, e, tab (fun t => ko s t && !(t == e)) T, klo s) := by
          refine ⟨?_, ?_, ?_, ?_, b, v ||| 2 ^ e, hb, o2, ?_, g16, fun t ht => ?_⟩
          · rw [f3 _ _ (by omega), f2 _ _ (by omega)]; exact k2
          · rw [f3 _ _ (by omega), f2 _ _ (by omega)]; exact k3
          · rw [f3 _ _ (by omega)]; exact g13
          · rw [f3 _ _ (by omega), f2 _ _ (by omega)]; exact k17
          · rw [f3 _ _ (by omega), f2 _ _ (by omega)]; exact k15
          · show (tab (fun t => ko s t && !(t == e)) T).getD t false = _
            rw [tab_at ht, kb' t ht, bt_tb v hv e (by omega) t (by omega)]
            cases b.testBit t <;> cases v.testBit t <;> cases (t == e) <;> rfl
        have hc3 : CTm s3 T (skc 2 T (T / 2) s, e, tab (fun t => ko s t && !(t == e)) T, klo s) := fun t ht => by
          rw [f3 _ _ (by omega), f2 _ _ (by omega)]; exact hc t ht
        have hfe3 : flg 2 (T / 2) (skc 2 T (T / 2) s, e, tab (fun t => ko s t && !(t == e)) T, klo s) e = false := by
          show (tab (fun t => ko s t && !(t == e)) T).getD e false = false
          rw [tab_at q1]; simp
        have hloop : fx (fun rec a => bX7_goesOn_68 E 395 (fun u0 u1 t => rec ((u0, u1), t)) a.1.1 a.1.2 a.2) FU (((0 : Int32), (0 : Int32)), s3) = some ((nI (cntF (gvf 2 (T / 2) (skc 2 T (T / 2) s, e, tab (fun t => ko s t && !(t == e)) T, klo s)) T), nI T), s3) := by
          refine for_tr T (fun i => ((nI (cntF (gvf 2 (T / 2) (skc 2 T (T / 2) s, e, tab (fun t => ko s t && !(t == e)) T, klo s)) i), nI i), s3)) (by show T < 1000000; omega) (fun i rec hi => ?_) (fun rec => ?_) rfl
          · dsimp only
            unfold bX7_goesOn_68
            rw [m_tapes hM hM2, bd_ok, hk3.1, if_neg (nI_ge hi (by omega)), m_gives hM hM2 hk3 hc3 hT hT3 (by omega) q1 hfe3 (fun z => by cases z) (t := i) (by omega), bd_ok, m_truth, bd_ok, decide_eq_true hi, Bool.true_and, lt_ok, lt_ok, ad1]
            show _ = rec ((nI (cntF _ i + if gvf 2 (T / 2) (skc 2 T (T / 2) s, e, tab (fun t => ko s t && !(t == e)) T, klo s) i then 1 else 0), _), s3)
            cases gvf 2 (T / 2) (skc 2 T (T / 2) s, e, tab (fun t => ko s t && !(t == e)) T, klo s) i with
            | false => rw [if_pos (by rfl), i0, nI_add]; rfl
            | true => rw [if_neg (by decide), i1, nI_add]; rfl
          · unfold bX7_goesOn_68
            dsimp only
            rw [m_tapes hM hM2, bd_ok, hk3.1, if_pos (nI_le (Nat.le_refl _) (by omega))]
        have hcl := cntF_le (gvf 2 (T / 2) (skc 2 T (T / 2) s, e, tab (fun t => ko s t && !(t == e)) T, klo s)) T
        rw [hloop, bd_ok]
        dsimp only
        by_cases hq : cntF (gvf 2 (T / 2) (skc 2 T (T / 2) s, e, tab (fun t => ko s t && !(t == e)) T, klo s)) T < 2
        · obtain ⟨s4, b4, e4, p1, p2, p3, p4, p5⟩ := m_begPass hM hM2 hT hk3.1 hk3.2.2.1 (show e < 6 by omega) (c := fun t => (skc 2 T (T / 2) s).getD t 0) (fun t ht => ⟨(hc3 t ht).1, by have := (hc3 t ht).2; show kc (skc 2 T (T / 2) s, e, tab (fun t => ko s t && !(t == e)) T, klo s) t < _; omega⟩)
          rw [show skn 2 T (T / 2) s = ((skc 2 T (T / 2) s, e, tab (fun t => !((skc 2 T (T / 2) s).getD t 0 == 0) && !(t == e)) T, klo s), true) by rw [hsk, hfs]; dsimp only; rw [if_neg (by decide), if_pos hq]]
          rw [i2, if_neg (nI_ge hq (by omega)), e4, bv_ok, bd_ok]
          obtain ⟨z2, z3, z13, z17, _⟩ := hk3
          refine ⟨s4, rfl, ⟨?_, ?_, ?_, ?_, b4, 2 ^ e, p1, (bt_sh e (by omega)).2, p2, p3, fun t ht => ?_⟩, ?_, fun x k q => ?_⟩
          · rw [p5 _ _ (by omega)]; exact z2
          · rw [p5 _ _ (by omega)]; exact z3
          · rw [p5 _ _ (by omega)]; exact z13
          · rw [p5 _ _ (by omega)]; exact z17
          · show (tab (fun t => !((skc 2 T (T / 2) s).getD t 0 == 0) && !(t == e)) T).getD t false = _
            rw [tab_at ht, p4 t ht, bt_pw e (by omega) t (by omega)]
          · rw [p5 _ _ (by omega), f3 _ _ (by omega)]; exact g11
          · rw [p5 _ _ (by omega), f3 _ _ (by omega), f2 _ _ (by omega)]
        · rw [show skn 2 T (T / 2) s = ((skc 2 T (T / 2) s, e, tab (fun t => ko s t && !(t == e)) T, klo s), true) by rw [hsk, hfs]; dsimp only; rw [if_neg (by decide), if_neg hq]]
          rw [i2, if_pos (nI_le (by omega) (by omega)), bd_ok]
          refine ⟨s3, rfl, hk3, ?_, fun x k q => ?_⟩
          · rw [f3 _ _ (by omega)]; exact g11
          · rw [f3 _ _ (by omega), f2 _ _ (by omega)]
end MP
end
section
/-! the reference's tapes: runs with their numbers and places; sorting -/
abbrev Dn : Type := Nat × Nat × Rn
def d0 : Dn := (0, 0, dum)
def zz (gl : Nat → Nat) (z : Dn) : Nat := szl gl z.2.2.1
def catX {α : Type} (X : Nat → List α) : Nat → List α
  | 0 => []
  | n + 1 => catX X n ++ X n
def upX {α : Type} (X : Nat → List α) (t : Nat) (l : List α) : Nat → List α := fun u => if u = t then l else X u
def psX {α : Type} (bk : Bool) (z : α) (l : List α) : List α := if bk then z :: l else l ++ [z]
def XT (σ : Sg) (X : Nat → List Dn) : Prop := ∀ t, t < 6 → gi σ 396 (20 + t) = nI (X t).length ∧ (X t).length ≤ 256 ∧ ∀ k, k < (X t).length → gi σ 396 (3327 + 700 * t + k) = nI ((X t).getD k d0).1
section XX
variable {E : En} {σ : Sg} {X : Nat → List Dn} {t : Nat}
theorem xt_fr {σ' : Sg} (h : XT σ X) (hf : ∀ k, (20 ≤ k ∧ k < 26) ∨ (3327 ≤ k ∧ k < 7527) → gi σ' 396 k = gi σ 396 k) : XT σ' X := fun t ht => by
  obtain ⟨h1, h2, h3⟩ := h t ht
  exact ⟨by rw [hf _ (by omega)]; exact h1, h2, fun k hk => by rw [hf _ (by omega)]; exact h3 k hk⟩
theorem m_runAt (hM : LMod E) (hM2 : LMo2 E) {k : Nat} (ht : t < 6) (hk : k < 700) : fX7_runAt E 395 (nI t) (nI k) σ = some (gi σ 396 (3327 + 700 * t + k), σ) := by
  unfold fX7_runAt
  rw [tk_ok hM.1, dr_ok hM.2.1 hM2.1.1, hM2.1.2, show (3327 : Int32) = nI 3327 from rfl, show (700 : Int32) = nI 700 from rfl, pk_mul, nI_add, nI_add, ck_n (by omega) (by omega), nI_clamp (by omega)]
theorem m_takes (hM : LMod E) (hM2 : LMo2 E) (h : XT σ X) (ht : t < 6) {z : Dn} {l : List Dn} (hz : X t = z :: l) : ∃ s, fX7_takesFirst E 395 (nI t) σ = some (nI z.1, s) ∧ XT s (upX X t l) ∧ ∀ x k, ¬ (x = 396 ∧ (k = 20 + t ∨ (3327 + 700 * t ≤ k ∧ k < 3327 + 700 * t + 700))) → gi s x k = gi σ x k := by
  obtain ⟨h1, h2, h3⟩ := h t ht
  rw [hz] at h1 h2 h3
  have h30 := h3 0 (by simp)
  simp only [List.length_cons] at h1 h2 h3
  unfold fX7_takesFirst
  rw [tk_ok hM.1, i0, m_runAt hM hM2 ht (by omega), bd_ok, dr_ok hM.2.1 hM2.1.1, hM2.1.2, show (20 : Int32) = nI 20 from rfl, nI_add, ck_n (by omega) (by omega), ck_n (by omega) (by omega), nI_clamp (by omega), h1, i1, sub_n (by omega), show l.length + 1 - 1 = l.length by omega, ss_ok, h30]
  obtain ⟨⟨v, s⟩, e, q1, q2⟩ := for_in (F := fun (rec : Int32 × Sg → Option (Int32 × Sg)) (a : Int32 × Sg) => bX7_takesFirst_22 E (nI t) 396 (fun u0 t => rec (u0, t)) a.1 a.2) l.length (fun i b => b.1 = nI i ∧ (∀ k, k < l.length + 1 → gi b.2 396 (3327 + 700 * t + k) = nI ((if k < i then l.getD k d0 else (z :: l).getD k d0) : Dn).1) ∧ ∀ x k, ¬ (x = 396 ∧ (3327 + 700 * t ≤ k ∧ k < 3327 + 700 * t + 700)) → gi b.2 x k = gi (si σ 396 (20 + t) (nI l.length)) x k)
    (fun b => (∀ k, k < l.length → gi b.2 396 (3327 + 700 * t + k) = nI (l.getD k d0).1) ∧ ∀ x k, ¬ (x = 396 ∧ (3327 + 700 * t ≤ k ∧ k < 3327 + 700 * t + 700)) → gi b.2 x k = gi (si σ 396 (20 + t) (nI l.length)) x k) (N := FU) (by show l.length < 1000000; omega)
    (by
      rintro i ⟨v, s⟩ rec hi ⟨rfl, q1, q2⟩
      dsimp only at q1 q2 ⊢
      have g20 : gi s 396 (20 + t) = nI l.length := by rw [q2 _ _ (by omega), gs_eq]
      have gn := q1 (i + 1) (by omega)
      rw [if_neg (by omega)] at gn
      unfold bX7_takesFirst_22
      rw [hM2.1.2, show (20 : Int32) = nI 20 from rfl, nI_add, ck_n (by omega) (by omega), nI_clamp (by omega), g20, if_neg (nI_ge hi (by omega)), show (3327 : Int32) = nI 3327 from rfl, show (700 : Int32) = nI 700 from rfl, pk_mul, nI_add, nI_add, ad1, ck_n (by omega) (by omega), ck_n (by omega) (by omega), nI_clamp (by omega), nI_clamp (by omega), show 3327 + 700 * t + i + 1 = 3327 + 700 * t + (i + 1) by omega, gn, ss_ok, lt_ok, ad1]
      refine ⟨_, rfl, rfl, fun k hk => ?_, fun x k q => ?_⟩
      · dsimp only
        by_cases hki : k = i
        · subst hki; rw [gs_eq, if_pos (by omega)]; rfl
        · rw [gs_ne (by omega), q1 k hk, ifc (p := k < i) (q := k < i + 1) ⟨fun q => by omega, fun q => by omega⟩]
      · dsimp only; rw [gs_ne (by omega)]; exact q2 x k q)
    (by
      rintro ⟨v, s⟩ rec ⟨rfl, q1, q2⟩
      dsimp only at q1 q2 ⊢
      unfold bX7_takesFirst_22
      rw [hM2.1.2, show (20 : Int32) = nI 20 from rfl, nI_add, ck_n (by omega) (by omega), nI_clamp (by omega), q2 _ _ (by omega), gs_eq, if_pos (nI_le (Nat.le_refl _) (by omega))]
      exact ⟨_, rfl, fun k hk => by have := q1 k (by omega); rw [if_pos hk] at this; exact this, q2⟩)
    (a := (nI 0, si σ 396 (20 + t) (nI l.length))) ⟨rfl, fun k hk => by dsimp only; rw [if_neg (by omega), gs_ne (by omega)]; exact h3 k hk, fun _ _ _ => rfl⟩
  dsimp only at q1 q2
  rw [e, bd_ok]
  refine ⟨s, rfl, fun u hu => ?_, fun x k q => by rw [q2 _ _ (by omega), gs_ne (by omega)]⟩
  unfold upX
  by_cases hut : u = t
  · subst hut
    rw [if_pos rfl]
    exact ⟨by rw [q2 _ _ (by omega), gs_eq], by omega, q1⟩
  · rw [if_neg hut]
    obtain ⟨g1, g2, g3⟩ := h u hu
    exact ⟨by rw [q2 _ _ (by omega), gs_ne (by omega)]; exact g1, g2, fun k hk => by rw [q2 _ _ (by omega), gs_ne (by omega)]; exact g3 k hk⟩
theorem m_last (hM : LMod E) (hM2 : LMo2 E) (h : XT σ X) (ht : t < 6) (z : Dn) (hl : (X t).length < 256) : ∃ s, fX7_comesLast E 395 (nI t) (nI z.1) σ = some s ∧ XT s (upX X t (X t ++ [z])) ∧ ∀ x k, ¬ (x = 396 ∧ (k = 20 + t ∨ (3327 + 700 * t ≤ k ∧ k < 3327 + 700 * t + 700))) → gi s x k = gi σ x k := by
  obtain ⟨h1, h2, h3⟩ := h t ht
  unfold fX7_comesLast
  rw [tk_ok hM.1, dr_ok hM.2.1 hM2.1.1, hM2.1.2, show (20 : Int32) = nI 20 from rfl, nI_add, ck_n (by omega) (by omega), nI_clamp (by omega), h1, show (3327 : Int32) = nI 3327 from rfl, show (700 : Int32) = nI 700 from rfl, pk_mul, nI_add, nI_add, ck_n (by omega) (by omega), nI_clamp (by omega), ss_ok, ck_n (by omega) (by omega), ck_n (by omega) (by omega), gs_ne (by omega), h1, ad1, ss_ok]
  refine ⟨_, rfl, fun u hu => ?_, fun x k q => by rw [gs_ne (by omega), gs_ne (by omega)]⟩
  unfold upX
  by_cases hut : u = t
  · subst hut
    rw [if_pos rfl]
    refine ⟨by rw [gs_eq, List.length_append]; rfl, by rw [List.length_append]; simp; omega, fun k hk => ?_⟩
    rw [List.length_append] at hk
    simp only [List.length_singleton] at hk
    rw [gs_ne (by omega), List.getD_eq_getElem?_getD]
    by_cases hkl : k = (X u).length
    · subst hkl; rw [gs_eq, List.getElem?_append_right (Nat.le_refl _), Nat.sub_self]; rfl
    · rw [gs_ne (by omega), List.getElem?_append_left (by omega), ← List.getD_eq_getElem?_getD]; exact h3 k (by omega)
  · rw [if_neg hut]
    obtain ⟨g1, g2, g3⟩ := h u hu
    exact ⟨by rw [gs_ne (by omega), gs_ne (by omega)]; exact g1, g2, fun k hk => by rw [gs_ne (by omega), gs_ne (by omega)]; exact g3 k hk⟩
theorem m_first (hM : LMod E) (hM2 : LMo2 E) (h : XT σ X) (ht : t < 6) (z : Dn) (hl : (X t).length < 256) : ∃ s, fX7_comesFirst E 395 (nI t) (nI z.1) σ = some s ∧ XT s (upX X t (z :: X t)) ∧ ∀ x k, ¬ (x = 396 ∧ (k = 20 + t ∨ (3327 + 700 * t ≤ k ∧ k < 3327 + 700 * t + 700))) → gi s x k = gi σ x k := by
  obtain ⟨h1, h2, h3⟩ := h t ht
  unfold fX7_comesFirst
  rw [tk_ok hM.1, dr_ok hM.2.1 hM2.1.1, hM2.1.2, show (20 : Int32) = nI 20 from rfl, nI_add, ck_n (by omega) (by omega), nI_clamp (by omega), h1, lt_ok]
  have key := fx_ok (F := fun (rec : Int32 × Sg → Option (Int32 × Sg)) (b : Int32 × Sg) => bX7_comesFirst_10 E (nI t) 396 (fun u0 t => rec (u0, t)) b.1 b.2)
    (fun j b => b.1 = nI j ∧ j ≤ (X t).length ∧ (∀ k, k < j → gi b.2 396 (3327 + 700 * t + k) = nI ((X t).getD k d0).1) ∧ (∀ k, j ≤ k → k < (X t).length → gi b.2 396 (3327 + 700 * t + k + 1) = nI ((X t).getD k d0).1) ∧ ∀ x k, ¬ (x = 396 ∧ (3327 + 700 * t ≤ k ∧ k < 3327 + 700 * t + 700)) → gi b.2 x k = gi σ x k)
    (fun b => (∀ k, k < (X t).length → gi b.2 396 (3327 + 700 * t + k + 1) = nI ((X t).getD k d0).1) ∧ ∀ x k, ¬ (x = 396 ∧ (3327 + 700 * t ≤ k ∧ k < 3327 + 700 * t + 700)) → gi b.2 x k = gi σ x k)
    ?_ FU (X t).length (nI (X t).length, σ) (by show (X t).length < 1000000; omega) ⟨rfl, Nat.le_refl _, h3, fun k g1 g2 => by omega, fun _ _ _ => rfl⟩
  · obtain ⟨⟨v, s⟩, e, q1, q2⟩ := key
    dsimp only at q1 q2
    rw [e, bd_ok, show (3327 : Int32) = nI 3327 from rfl, show (700 : Int32) = nI 700 from rfl, pk_mul, nI_add, ck_n (by omega) (by omega), nI_clamp (by omega), ss_ok, ck_n (by omega) (by omega), ck_n (by omega) (by omega), gs_ne (by omega), q2 _ _ (by omega), h1, ad1, ss_ok]
    refine ⟨_, rfl, fun u hu => ?_, fun x k q => by rw [gs_ne (by omega), gs_ne (by omega)]; exact q2 x k (by omega)⟩
    unfold upX
    by_cases hut : u = t
    · subst hut
      rw [if_pos rfl]
      refine ⟨by rw [gs_eq, List.length_cons], by rw [List.length_cons]; omega, fun k hk => ?_⟩
      rw [List.length_cons] at hk
      rw [gs_ne (by omega)]
      cases k with
      | zero => rw [Nat.add_zero, gs_eq]; rfl
      | succ k => rw [gs_ne (by omega)]; exact q1 k (by omega)
    · rw [if_neg hut]
      obtain ⟨g1, g2, g3⟩ := h u hu
      exact ⟨by rw [gs_ne (by omega), gs_ne (by omega), q2 _ _ (by omega)]; exact g1, g2, fun k hk => by rw [gs_ne (by omega), gs_ne (by omega), q2 _ _ (by omega)]; exact g3 k hk⟩
  · rintro j ⟨v, s⟩ rec ⟨g0, g1, g2, g3, g4⟩ IH
    dsimp only at g0 g2 g3 g4 ⊢
    subst g0
    unfold bX7_comesFirst_10
    by_cases hj : j = 0
    · subst hj
      rw [if_pos (by decide)]
      exact ⟨_, rfl, fun k hk => g3 k (Nat.zero_le _) hk, g4⟩
    · rw [if_neg (nI_nle (by omega) (by omega)), hM2.1.2, show (3327 : Int32) = nI 3327 from rfl, show (700 : Int32) = nI 700 from rfl, pk_mul, nI_add, nI_add, i1, sub_n (by omega), ck_n (by omega) (by omega), ck_n (by omega) (by omega), nI_clamp (by omega), nI_clamp (by omega), show 3327 + 700 * t + j - 1 = 3327 + 700 * t + (j - 1) by omega, g2 (j - 1) (by omega), ss_ok, lt_ok, show nI j + -nI 1 = nI (j - 1) from sb_m1 (by omega)]
      refine IH (j - 1) _ (by omega) ⟨rfl, by omega, fun k hk => ?_, fun k z1 z2 => ?_, fun x k q => ?_⟩
      · dsimp only; rw [gs_ne (by omega)]; exact g2 k (by omega)
      · dsimp only
        by_cases hkj : k = j - 1
        · subst hkj; rw [show 3327 + 700 * t + (j - 1) + 1 = 3327 + 700 * t + j by omega, gs_eq]
        · rw [gs_ne (by omega)]; exact g3 k (by omega) z2
      · dsimp only; rw [gs_ne (by omega)]; exact g4 x k q
theorem ins_get {P : List Nat} {p y : Nat} (hp : p ≤ P.length) (i : Nat) : (P.take p ++ y :: P.drop p).getD i 0 = if i < p then P.getD i 0 else if i = p then y else P.getD (i - 1) 0 := by
  simp only [List.getD_eq_getElem?_getD]
  by_cases h1 : i < p
  · rw [if_pos h1, List.getElem?_append_left (by rw [List.length_take]; omega), List.getElem?_take_of_lt h1]
  · rw [if_neg h1, List.getElem?_append_right (by rw [List.length_take]; omega), List.length_take, Nat.min_eq_left hp]
    by_cases h2 : i = p
    · rw [if_pos h2, h2, Nat.sub_self]; rfl
    · rw [if_neg h2, show i - p = (i - p - 1) + 1 by omega, List.getElem?_cons_succ, List.getElem?_drop, show p + (i - p - 1) = i - 1 by omega]
theorem pw_at {R : Nat → Nat → Prop} {P : List Nat} (h : P.Pairwise R) {i j : Nat} (hij : i < j) (hj : j < P.length) : R (P.getD i 0) (P.getD j 0) := by
  rw [List.getD_eq_getElem?_getD, List.getD_eq_getElem?_getD, List.getElem?_eq_getElem (by omega), List.getElem?_eq_getElem hj]
  exact List.pairwise_iff_getElem.mp h i j (by omega) hj hij
theorem getD_mem {P : List Nat} {i : Nat} (h : i < P.length) : P.getD i 0 ∈ P := by
  rw [List.getD_eq_getElem?_getD, List.getElem?_eq_getElem h]
  exact List.getElem_mem _
theorem mem_getD {P : List Nat} {x : Nat} (h : x ∈ P) : ∃ i, i < P.length ∧ P.getD i 0 = x := by
  obtain ⟨i, hi, e⟩ := List.getElem_of_mem h
  exact ⟨i, hi, by rw [List.getD_eq_getElem?_getD, List.getElem?_eq_getElem hi]; exact e⟩
theorem m_sorts (hM : LMod E) (hM2 : LMo2 E) {n first : Nat} {F : Nat → Nat} {rising : Bool} (hn : n ≤ 300) (hk : ∀ i, i < n → gi σ 396 (26 + i) = nI (F i)) (hF : ∀ i, i < n → F i < 256) {L : List Nat} (hin : ∀ x, x ∈ L → x < n) (hnd : L.Nodup) (hfs : first + L.length ≤ 300) (hcell : ∀ i, i < L.length → gi σ 396 (7527 + first + i) = nI (L.getD i 0)) :
    ∃ s, fX7_sorts E 395 (nI first) (nI L.length) (bI rising) σ = some s ∧ (∃ L' : List Nat, L'.Perm L ∧ L'.Pairwise (bet F (!rising)) ∧ ∀ i, i < L.length → gi s 396 (7527 + first + i) = nI (L'.getD i 0)) ∧ ∀ x k, ¬ (x = 396 ∧ (7527 + first ≤ k ∧ k < 7527 + first + L.length)) → gi s x k = gi σ x k := by
  unfold fX7_sorts
  rw [tk_ok hM.1, lt_ok, ad1]
  by_cases h0 : L.length = 0
  · have hLn : L = [] := List.eq_nil_of_length_eq_zero h0
    refine ⟨σ, ?_, ⟨[], by rw [hLn], List.Pairwise.nil, fun i hi => by omega⟩, fun _ _ _ => rfl⟩
    rw [show FU = 999999 + 1 from rfl, fx_1]
    dsimp only
    unfold bX7_sorts_5
    rw [nI_add, if_pos (nI_le (by omega) (by omega)), bd_ok]
  refine bd_in (L.length - 1) (fun i b => b.1 = nI (first + (i + 1)) ∧ (∃ P : List Nat, P.Perm (L.take (i + 1)) ∧ P.Pairwise (bet F (!rising)) ∧ ∀ k, k < i + 1 → gi b.2 396 (7527 + first + k) = nI (P.getD k 0)) ∧ (∀ k, i + 1 ≤ k → k < L.length → gi b.2 396 (7527 + first + k) = nI (L.getD k 0)) ∧ ∀ x k, ¬ (x = 396 ∧ (7527 + first ≤ k ∧ k < 7527 + first + L.length)) → gi b.2 x k = gi σ x k)
    (fun b => (∃ L' : List Nat, L'.Perm L ∧ L'.Pairwise (bet F (!rising)) ∧ ∀ i, i < L.length → gi b.2 396 (7527 + first + i) = nI (L'.getD i 0)) ∧ ∀ x k, ¬ (x = 396 ∧ (7527 + first ≤ k ∧ k < 7527 + first + L.length)) → gi b.2 x k = gi σ x k) (by show L.length - 1 < 1000000; omega) ⟨rfl, ⟨L.take 1, List.Perm.refl _, ?_, fun k hk => ?_⟩, fun k _ h2 => hcell k h2, fun _ _ _ => rfl⟩ ?_ ?_ (fun v s q => ⟨s, rfl, q⟩)
  · cases L with
    | nil => simp at h0
    | cons a l => simp
  · rw [show k = 0 by omega]
    cases L with
    | nil => simp at h0
    | cons a l => exact hcell 0 (by simp)
  · rintro i ⟨v, s⟩ rec hi ⟨rfl, ⟨P, p1, p2, p3⟩, q2, q3⟩
    dsimp only at p3 q2 q3 ⊢
    have hPl : P.length = i + 1 := by rw [p1.length_eq, List.length_take]; omega
    have hPm : ∀ x, x ∈ P → x ∈ L.take (i + 1) := fun x hx => p1.mem_iff.mp hx
    have hPn : ∀ x, x ∈ P → x < n := fun x hx => hin x (List.mem_of_mem_take (hPm x hx))
    have hits : gi s 396 (7527 + first + (i + 1)) = nI (L.getD (i + 1) 0) := q2 (i + 1) (Nat.le_refl _) (by omega)
    have hin1 : L.getD (i + 1) 0 ∈ L := getD_mem (by omega)
    have hy := hin _ hin1
    have hyP : L.getD (i + 1) 0 ∉ P := fun hm => by
      obtain ⟨j, hj, e⟩ := mem_getD (hPm _ hm)
      rw [List.length_take] at hj
      have e2 : (L.take (i + 1)).getD j 0 = L.getD j 0 := by rw [List.getD_eq_getElem?_getD, List.getD_eq_getElem?_getD, List.getElem?_take_of_lt (by omega)]
      rw [e2] at e
      exact pw_at (R := fun a b => a ≠ b) hnd (i := j) (j := i + 1) (by omega) (by omega) e
    generalize hyd : L.getD (i + 1) 0 = y at *
    have hks : ∀ s' : Sg, (∀ x k, ¬ (x = 396 ∧ 7527 ≤ k) → gi s' x k = gi s x k) → ∀ j, j < n → gi s' 396 (26 + j) = nI (F j) := fun s' hs j hj => by rw [hs _ _ (by omega), q3 _ _ (by omega)]; exact hk j hj
    unfold bX7_sorts_5
    rw [nI_add, if_neg (nI_ge (by omega) (by omega)), dr_ok hM.2.1 hM2.1.1, hM2.1.2, show (7527 : Int32) = nI 7527 from rfl, nI_add, ck_n (by omega) (by omega), nI_clamp (by omega), lt_ok, show 7527 + (first + (i + 1)) = 7527 + first + (i + 1) by omega, hits]
    have key := fx_ok (F := fun (rec : Int32 × Sg → Option (Int32 × Sg)) (b : Int32 × Sg) => bX7_sorts_30 E (nI first) 396 395 (nI y) (bI rising) (fun u0 t => rec (u0, t)) b.1 b.2)
      (fun j b => b.1 = nI (first + j) ∧ j ≤ i + 1 ∧ (∀ k, k < j → gi b.2 396 (7527 + first + k) = nI (P.getD k 0)) ∧ (∀ k, j ≤ k → k < i + 1 → gi b.2 396 (7527 + first + k + 1) = nI (P.getD k 0) ∧ bet F (!rising) y (P.getD k 0)) ∧ (∀ x k, ¬ (x = 396 ∧ (7527 + first ≤ k ∧ k < 7527 + first + (i + 2))) → gi b.2 x k = gi s x k))
      (fun b => ∃ j, b.1 = nI (first + j) ∧ j ≤ i + 1 ∧ (∀ k, k < j → gi b.2 396 (7527 + first + k) = nI (P.getD k 0)) ∧ (∀ k, j ≤ k → k < i + 1 → gi b.2 396 (7527 + first + k + 1) = nI (P.getD k 0) ∧ bet F (!rising) y (P.getD k 0)) ∧ (∀ x k, ¬ (x = 396 ∧ (7527 + first ≤ k ∧ k < 7527 + first + (i + 2))) → gi b.2 x k = gi s x k) ∧ (0 < j → bet F (!rising) (P.getD (j - 1) 0) y))
      ?_ FU (i + 1) (nI (first + (i + 1)), s) (by show i + 1 < 1000000; omega) ⟨rfl, Nat.le_refl _, fun k hk => p3 k hk, fun k z1 z2 => by omega, fun _ _ _ => rfl⟩
    · obtain ⟨⟨u, s2⟩, e, j, g0, g1, g2, g3, g4, g5⟩ := key
      dsimp only at g0 g2 g3 g4
      subst g0
      rw [e, bd_ok, nI_add, ck_n (by omega) (by omega), nI_clamp (by omega), ss_ok, lt_ok, ad1]
      refine ⟨_, rfl, rfl, ⟨P.take j ++ y :: P.drop j, ?_, ?_, fun k hk => ?_⟩, fun k z1 z2 => ?_, fun x k q => ?_⟩
      · have h1 : (P.take j ++ y :: P.drop j).Perm (y :: P) := by
          have := List.perm_middle (a := y) (l₁ := P.take j) (l₂ := P.drop j)
          rw [List.take_append_drop] at this; exact this
        refine h1.trans ?_
        have h2 : L.take (i + 1 + 1) = L.take (i + 1) ++ [y] := by
          have hil : i + 1 < L.length := by omega
          have ey : L[i + 1] = y := by
            have := hyd
            rw [List.getD_eq_getElem?_getD, List.getElem?_eq_getElem hil] at this
            exact this
          rw [List.take_succ_eq_append_getElem hil, ey]
        rw [h2]
        exact ((List.Perm.cons y p1).trans (List.perm_append_singleton y _).symm)
      · have hlow : ∀ k, k < j → bet F (!rising) (P.getD k 0) y := fun k hk => by
          by_cases hq : k = j - 1
          · subst hq; exact g5 (by omega)
          · exact bet_trans (pw_at p2 (show k < j - 1 by omega) (by omega)) (g5 (by omega))
        rw [List.pairwise_append]
        refine ⟨p2.sublist (List.take_sublist _ _), List.pairwise_cons.mpr ⟨fun b hb => ?_, p2.sublist (List.drop_sublist _ _)⟩, fun a ha b hb => ?_⟩
        · obtain ⟨k, hk', e'⟩ := mem_getD hb
          rw [List.length_drop] at hk'
          rw [List.getD_eq_getElem?_getD, List.getElem?_drop, ← List.getD_eq_getElem?_getD] at e'
          rw [← e']
          exact (g3 (j + k) (by omega) (by omega)).2
        · obtain ⟨k, hk', e'⟩ := mem_getD ha
          rw [List.length_take] at hk'
          rw [List.getD_eq_getElem?_getD, List.getElem?_take_of_lt (by omega), ← List.getD_eq_getElem?_getD] at e'
          rcases List.mem_cons.mp hb with rfl | hb
          · rw [← e']; exact hlow k (by omega)
          · obtain ⟨k2, hk2, e2⟩ := mem_getD hb
            rw [List.length_drop] at hk2
            rw [List.getD_eq_getElem?_getD, List.getElem?_drop, ← List.getD_eq_getElem?_getD] at e2
            rw [← e', ← e2]
            exact pw_at p2 (by omega) (by omega)
      · dsimp only
        rw [ins_get (by omega)]
        by_cases c1 : k < j
        · rw [if_pos c1, gs_ne (by omega)]; exact g2 k c1
        · rw [if_neg c1]
          by_cases c2 : k = j
          · rw [if_pos c2, c2, show 7527 + first + j = 7527 + (first + j) by omega, gs_eq]
          · rw [if_neg c2, gs_ne (by omega)]
            have := (g3 (k - 1) (by omega) (by omega)).1
            rw [show 7527 + first + (k - 1) + 1 = 7527 + first + k by omega] at this
            exact this
      · dsimp only; rw [gs_ne (by omega), g4 _ _ (by omega)]; exact q2 k (by omega) z2
      · dsimp only; rw [gs_ne (by omega), g4 _ _ (by omega)]; exact q3 x k q
    · rintro j ⟨u, s2⟩ rec2 ⟨g0, g1, g2, g3, g4⟩ IH
      dsimp only at g0 g2 g3 g4 ⊢
      subst g0
      unfold bX7_sorts_30
      by_cases hj : j = 0
      · subst hj
        rw [if_pos (nI_le (by omega) (by omega))]
        exact ⟨_, rfl, 0, rfl, by omega, g2, g3, g4, fun h => by omega⟩
      · have hpj : P.getD (j - 1) 0 ∈ P := getD_mem (by omega)
        have hpn := hPn _ hpj
        have hne : y ≠ P.getD (j - 1) 0 := fun q => hyP (q ▸ hpj)
        rw [if_neg (nI_ge (by omega) (by omega)), hM2.1.2, show (7527 : Int32) = nI 7527 from rfl, nI_add, i1, sub_n (by omega), ck_n (by omega) (by omega), nI_clamp (by omega), show 7527 + (first + j) - 1 = 7527 + first + (j - 1) by omega, g2 (j - 1) (by omega), m_isLess hM hM2 hy hpn hn (fun j hj => hks s2 (fun x k q => g4 x k (by omega)) j hj) hF, bd_ok]
        by_cases hc : lsB F y (P.getD (j - 1) 0) = rising
        · have hb : bet F (!rising) y (P.getD (j - 1) 0) := (bet_ls hne).mp (by rw [hc]; cases rising <;> rfl)
          rw [if_neg (fun q => q (by rw [hc])), ck_n (by omega) (by omega), ck_n (by omega) (by omega), nI_clamp (by omega), ss_ok, lt_ok, show nI (first + j) + -nI 1 = nI (first + j - 1) from sb_m1 (by omega), show first + j - 1 = first + (j - 1) by omega]
          refine IH (j - 1) _ (by omega) ⟨rfl, by omega, fun k hk => ?_, fun k z1 z2 => ?_, fun x k q => ?_⟩
          · dsimp only; rw [gs_ne (by omega)]; exact g2 k (by omega)
          · dsimp only
            by_cases hkj : k = j - 1
            · subst hkj; rw [show 7527 + first + (j - 1) + 1 = 7527 + (first + j) by omega, gs_eq]; exact ⟨g2 (j - 1) (by omega), hb⟩
            · rw [gs_ne (by omega)]; exact g3 k (by omega) z2
          · dsimp only; rw [gs_ne (by omega)]; exact g4 x k q
        · rw [if_pos (by rw [bI_e]; exact hc)]
          refine ⟨_, rfl, j, rfl, g1, g2, g3, g4, fun _ => ?_⟩
          rcases bet_tot (F := F) (f := !rising) hne with z | z
          · have := (bet_ls hne).mpr z
            exfalso; apply hc
            revert this
            cases lsB F y (P.getD (j - 1) 0) <;> cases rising <;> simp
          · exact z
  · rintro ⟨v, s⟩ rec ⟨rfl, ⟨P, p1, p2, p3⟩, q2, q3⟩
    dsimp only at p3 q2 q3 ⊢
    unfold bX7_sorts_5
    rw [nI_add, if_pos (nI_le (by omega) (by omega))]
    refine ⟨_, rfl, ⟨P, ?_, p2, fun i hi => p3 i (by omega)⟩, q3⟩
    rw [show L.length - 1 + 1 = L.length by omega, List.take_length] at p1
    exact p1
end XX
end
section
/-! pieces of the pool: what is taken, what is left -/
def apt (gl : Nat → Nat) (z y : Dn) : Prop := z.1 ≠ y.1 ∧ (z.2.1 + zz gl z ≤ y.2.1 ∨ y.2.1 + zz gl y ≤ z.2.1)
theorem apt_symm {gl : Nat → Nat} {z y : Dn} (h : apt gl z y) : apt gl y z := ⟨fun q => h.1 q.symm, h.2.symm⟩
def hit (gl : Nat → Nat) (k : Nat) (z : Dn) : Bool := decide (z.2.1 ≤ k ∧ k < z.2.1 + zz gl z)
def inT (gl : Nat → Nat) (H : List Dn) (k : Nat) : Bool := H.any (hit gl k)
def nu (gl : Nat → Nat) (H : List Dn) (k : Nat) : Nat := cntF (fun j => !(inT gl H j)) k
def lsm (f : Dn → Nat) : List Dn → Nat
  | [] => 0
  | z :: l => f z + lsm f l
def lss (gl : Nat → Nat) (H : List Dn) (k : Nat) : Nat := lsm (fun z => if z.2.1 < k then zz gl z else 0) H
theorem lsm_app {f : Dn → Nat} : ∀ {a b : List Dn}, lsm f (a ++ b) = lsm f a + lsm f b
  | [], b => by simp [lsm]
  | z :: a, b => by show f z + lsm f (a ++ b) = f z + lsm f a + lsm f b; rw [lsm_app]; omega
theorem lsm_cat {f : Dn → Nat} {X : Nat → List Dn} : ∀ n, lsm f (catX X n) = sumF (fun t => lsm f (X t)) n
  | 0 => rfl
  | n + 1 => by show lsm f (catX X n ++ X n) = sumF _ n + _; rw [lsm_app, lsm_cat n]
theorem cntF_or {p q : Nat → Bool} (h : ∀ j, ¬ (p j = true ∧ q j = true)) : ∀ n, cntF (fun j => p j || q j) n = cntF p n + cntF q n
  | 0 => rfl
  | n + 1 => by
    unfold cntF
    rw [cntF_or h n]
    have := h n
    cases hp : p n <;> cases hq : q n <;> simp [hp, hq] at this ⊢ <;> omega
theorem cntF_iv {a s : Nat} : ∀ {n : Nat}, (a + s ≤ n ∨ n ≤ a) → cntF (fun j => decide (a ≤ j ∧ j < a + s)) n = if a < n then s else 0 := by
  have base : ∀ n, cntF (fun j => decide (a ≤ j ∧ j < a + s)) n = min (n - a) s := by
    intro n
    induction n with
    | zero => simp [cntF]
    | succ n ih =>
      unfold cntF
      rw [ih]
      by_cases h : a ≤ n ∧ n < a + s
      · rw [decide_eq_true h, if_pos rfl]; omega
      · rw [decide_eq_false h, if_neg (by decide)]; omega
  intro n hn
  rw [base]
  split <;> omega
theorem inT_cnt {gl : Nat → Nat} : ∀ {H : List Dn} {n : Nat}, H.Pairwise (apt gl) → (∀ z, z ∈ H → z.2.1 + zz gl z ≤ n ∨ n ≤ z.2.1) → cntF (inT gl H) n = lss gl H n
  | [], n, _, _ => by
    have : ∀ m, cntF (inT gl []) m = 0 := fun m => by induction m with
      | zero => rfl
      | succ m ih => unfold cntF; rw [ih]; rfl
    rw [this]; rfl
  | z :: H, n, h, hb => by
    obtain ⟨h1, h2⟩ := List.pairwise_cons.mp h
    have ih := inT_cnt h2 (fun y hy => hb y (List.mem_cons_of_mem _ hy))
    have e : inT gl (z :: H) = fun j => hit gl j z || inT gl H j := by funext j; unfold inT; rw [List.any_cons]
    rw [e, cntF_or (p := fun j => hit gl j z) (q := inT gl H), ih, show cntF (fun j => hit gl j z) n = if z.2.1 < n then zz gl z else 0 from cntF_iv (hb z List.mem_cons_self)]
    · rfl
    · rintro j ⟨q1, q2⟩
      unfold hit at q1
      simp only [decide_eq_true_eq] at q1
      unfold inT at q2
      obtain ⟨y, hy, hyj⟩ := List.any_eq_true.mp q2
      unfold hit at hyj
      simp only [decide_eq_true_eq] at hyj
      have := (h1 y hy).2
      omega
theorem cnt_not {p : Nat → Bool} : ∀ n, cntF (fun j => !(p j)) n + cntF p n = n
  | 0 => rfl
  | n + 1 => by
    unfold cntF
    have := cnt_not (p := p) n
    cases p n <;> simp <;> omega
theorem nu_eq {gl : Nat → Nat} {H : List Dn} {n : Nat} (h : H.Pairwise (apt gl)) (hb : ∀ z, z ∈ H → z.2.1 + zz gl z ≤ n ∨ n ≤ z.2.1) : nu gl H n + lss gl H n = n := by
  rw [← inT_cnt h hb]; exact cnt_not n
theorem nu_s {gl : Nat → Nat} {H : List Dn} {k : Nat} : nu gl H (k + 1) = nu gl H k + if inT gl H k then 0 else 1 := by
  unfold nu
  show cntF (fun j => !(inT gl H j)) k + (if (!(inT gl H k)) = true then 1 else 0) = _
  cases inT gl H k <;> rfl
theorem nu_mono {gl : Nat → Nat} {H : List Dn} {a b : Nat} (h : a ≤ b) : nu gl H a ≤ nu gl H b := by
  induction b with
  | zero => rw [show a = 0 by omega]; exact Nat.le_refl _
  | succ b ih =>
    by_cases hq : a = b + 1
    · subst hq; exact Nat.le_refl _
    · rw [nu_s]; have := ih (by omega); omega
theorem nu_le {gl : Nat → Nat} {H : List Dn} (k : Nat) : nu gl H k ≤ k := cntF_le _ k
theorem nu_run {gl : Nat → Nat} {H : List Dn} {f s : Nat} (h : ∀ i, i < s → inT gl H (f + i) = false) : ∀ i, i ≤ s → nu gl H (f + i) = nu gl H f + i
  | 0, _ => rfl
  | i + 1, hi => by
    rw [show f + (i + 1) = f + i + 1 by omega, nu_s, nu_run h i (by omega), h i (by omega)]; simp; omega
theorem nu_inj {gl : Nat → Nat} {H : List Dn} {a b : Nat} (ha : inT gl H a = false) (hab : a < b) : nu gl H a < nu gl H b := by
  have h1 : nu gl H (a + 1) = nu gl H a + 1 := by rw [nu_s, ha]; rfl
  have h2 := nu_mono (gl := gl) (H := H) (show a + 1 ≤ b by omega)
  omega
/-- what is taken, tape by tape -/
def hds (Hd : Nat → Option Dn) : Nat → List Dn := fun t => (Hd t).toList
def tkO : Option Dn → Int32
  | none => -1
  | some z => nI z.1
def any6 (gl : Nat → Nat) (Hd : Nat → Option Dn) (k t : Nat) : Bool := match Hd t with
  | none => false
  | some z => hit gl k z
theorem any_cat {gl : Nat → Nat} {Hd : Nat → Option Dn} {k : Nat} : ∀ n, inT gl (catX (hds Hd) n) k = (fstF (any6 gl Hd k) n).isSome
  | 0 => rfl
  | n + 1 => by
    have e : fstF (any6 gl Hd k) (n + 1) = match fstF (any6 gl Hd k) n with | some x => some x | none => if any6 gl Hd k n then some n else none := rfl
    have ih := any_cat (gl := gl) (Hd := Hd) (k := k) n
    have e2 : inT gl (catX (hds Hd) (n + 1)) k = (inT gl (catX (hds Hd) n) k || inT gl (hds Hd n) k) := by
      show (catX (hds Hd) n ++ hds Hd n).any _ = _
      rw [List.any_append]; rfl
    have e3 : inT gl (hds Hd n) k = any6 gl Hd k n := by
      unfold inT hds any6
      cases Hd n with
      | none => rfl
      | some z => simp
    rw [e2, e3, ih, e]
    cases fstF (any6 gl Hd k) n with
    | some x => simp
    | none => cases any6 gl Hd k n <;> rfl
section GA
variable {E : En} {σ : Sg} {n T : Nat} {gl : Nat → Nat} {Hd : Nat → Option Dn} {C : Dn → List Nat}
/-- what the cells say of what is taken -/
def HC' (σ : Sg) (n : Nat) (gl : Nat → Nat) (C : Dn → List Nat) (Hd : Nat → Option Dn) : Prop := (∀ t, t < 6 → gi σ 407 t = tkO (Hd t)) ∧ ∀ t z, t < 6 → Hd t = some z → z.1 < 700 ∧ gi σ 396 (1227 + z.1) = nI z.2.1 ∧ gi σ 396 (1927 + z.1) = nI (zz gl z) ∧ z.2.1 + zz gl z ≤ n ∧ (C z).length = zz gl z ∧ ∀ i, i < zz gl z → gi σ 396 (7527 + z.2.1 + i) = nI ((C z).getD i 0)
theorem m_inIv {k a s : Nat} (hk : k < 2 ^ 30) (ha : a + s < 2 ^ 30) : fX7_in E (nI k) (nI a) (nI a + nI s - 1) σ = some (bI (decide (a ≤ k ∧ k < a + s)), σ) := by
  rw [m_in, nI_add]
  by_cases h0 : a + s = 0
  · rw [h0, show nI 0 - 1 = -1 from by decide, if_neg (fun q => absurd (Int32.lt_of_le_of_lt q.2 (by decide : (-1 : Int32) < 0)) (nI_pos (by omega))), decide_eq_false (by omega)]; rfl
  · rw [i1, sub_n (by omega)]
    by_cases h : a ≤ k ∧ k < a + s
    · rw [if_pos ⟨nI_le h.1 (by omega), nI_le (by omega) (by omega)⟩, decide_eq_true h]; rfl
    · rw [if_neg (fun q => h ⟨(nI_leI (by omega) (by omega)).mp q.1, by have := (nI_leI (by omega) (by omega)).mp q.2; omega⟩), decide_eq_false h]; rfl
theorem m_isInT (hM : LMod E) (hM2 : LMo2 E) (hn : n ≤ 300) (hh : HC' σ n gl C Hd) {k : Nat} (hk : k < n) : fX7_isInTaken E 395 (nI k) σ = some (bI (inT gl (catX (hds Hd) 6) k), σ) := by
  obtain ⟨m0, m1, m2, m3, m4, m5, m6, m7, m8, m9, m10, m11, m12, mz⟩ := id hM
  obtain ⟨n1, n2, n3, n4, n5, n6, n7, n8, n9, n10, n11, n12, nz⟩ := id hM2
  have body : ∀ i rec, i < 6 → bX7_isInTaken_2 E 395 (nI k) rec (nI i) σ = if any6 gl Hd k i = true then some (.inr (1 : Int32), σ) else rec (nI (i + 1)) σ := by
    intro i rec hi
    unfold bX7_isInTaken_2
    rw [i6, if_neg (nI_ge hi (by omega)), dr_ok m12 n12.1, n12.2, ck_n (by omega) (by omega), nI_clamp (by omega), hh.1 i hi]
    cases hq : Hd i with
    | none => rw [if_pos (by rfl), lt_ok, ad1]; unfold any6; rw [hq]; rfl
    | some z =>
      obtain ⟨z1, z2, z3, z4, z5, z6⟩ := hh.2 i z hi hq
      rw [show tkO (some z) = nI z.1 from rfl, if_neg (nI_nm1 (by omega)), dr_ok m1 n1.1, n1.2, show (1227 : Int32) = nI 1227 from rfl, show (1927 : Int32) = nI 1927 from rfl, nI_add, nI_add, ck_n (by omega) (by omega), ck_n (by omega) (by omega), ck_n (by omega) (by omega), ck_n (by omega) (by omega), ck_n (by omega) (by omega), ck_n (by omega) (by omega), nI_clamp (by omega), nI_clamp (by omega), z2, z3, m_inIv (by omega) (by omega), bd_ok]
      have ea : any6 gl Hd k i = decide (z.2.1 ≤ k ∧ k < z.2.1 + zz gl z) := by unfold any6 hit; rw [hq]
      rw [ea]
      by_cases hd : z.2.1 ≤ k ∧ k < z.2.1 + zz gl z
      · rw [decide_eq_true hd, if_neg (by decide), if_pos rfl]
      · rw [decide_eq_false hd, if_pos (by rfl), lt_ok, ad1, if_neg (by decide)]
  unfold fX7_isInTaken
  rw [tk_ok m0, any_cat]
  cases hf : fstF (any6 gl Hd k) 6 with
  | some e =>
    obtain ⟨q1, q2, q3⟩ := fstF_some hf
    refine bd_tr (Sum.inr (1 : Int32), σ) e (fun i => (nI i, σ)) (by show e < 1000000; omega) (fun i rec hi => ?_) (fun rec => ?_) rfl
    · dsimp only; rw [body i _ (by omega), if_neg (by rw [q3 i hi]; decide)]
    · dsimp only; rw [body e _ q1, if_pos q2]
  | none =>
    have q3 := fstF_none hf
    refine bd_tr (Sum.inl (nI 6), σ) 6 (fun i => (nI i, σ)) (by show 6 < 1000000; omega) (fun i rec hi => ?_) (fun rec => ?_) rfl
    · dsimp only; rw [body i _ (by omega), if_neg (by rw [q3 i hi]; decide)]
    · unfold bX7_isInTaken_2
      dsimp only
      rw [i6, if_pos (nI_le (Nat.le_refl _) (by omega))]
theorem hc_fr {σ' : Sg} (h : HC' σ n gl C Hd) (h1 : ∀ t, t < 6 → gi σ' 407 t = gi σ 407 t) (h2 : ∀ k, 1227 ≤ k → gi σ' 396 k = gi σ 396 k) : HC' σ' n gl C Hd := by
  refine ⟨fun t ht => by rw [h1 t ht]; exact h.1 t ht, fun t z ht hz => ?_⟩
  obtain ⟨z1, z2, z3, z4, z5, z6⟩ := h.2 t z ht hz
  exact ⟨z1, by rw [h2 _ (by omega)]; exact z2, by rw [h2 _ (by omega)]; exact z3, z4, z5, fun i hi => by rw [h2 _ (by omega)]; exact z6 i hi⟩
/-- what isn't taken comes ahead -/
theorem m_gath1 (hM : LMod E) (hM2 : LMo2 E) (hn : n ≤ 300) (h0 : gi σ 396 0 = nI n) (hh : HC' σ n gl C Hd) :
    ∃ b, fx (fun rec a => bX7_gathers_6 E 395 (fun u0 u1 u2 t => rec ((u0, u1, u2), t)) a.1.1 a.1.2.1 a.1.2.2 a.2) FU (((0 : Int32), (0 : Int32), (0 : Int32)), σ) = some b ∧ (b.1.2.1 = nI (nu gl (catX (hds Hd) 6) n) ∧ (∀ j, j < n → inT gl (catX (hds Hd) 6) j = false → gi b.2 408 (nu gl (catX (hds Hd) 6) j) = gi σ 396 (7527 + j)) ∧ ∀ x k, x ≠ 408 → gi b.2 x k = gi σ x k) := by
  obtain ⟨m0, m1, m2, m3, m4, m5, m6, m7, m8, m9, m10, m11, m12, m13, mz⟩ := id hM
  obtain ⟨n1, n2, n3, n4, n5, n6, n7, n8, n9, n10, n11, n12, n13, nz⟩ := id hM2
  generalize hH : catX (hds Hd) 6 = H
  refine for_in n (fun i b => b.1.2.1 = nI (nu gl H i) ∧ b.1.2.2 = nI i ∧ (∀ j, j < i → inT gl H j = false → gi b.2 408 (nu gl H j) = gi σ 396 (7527 + j)) ∧ ∀ x k, x ≠ 408 → gi b.2 x k = gi σ x k) _ (by show n < 1000000; omega) ?_ ?_ ⟨rfl, rfl, fun j hj => absurd hj (Nat.not_lt_zero j), fun _ _ _ => rfl⟩
  · rintro i ⟨⟨u, v, y⟩, s⟩ rec hi ⟨q1, q2, q3, q4⟩
    dsimp only at q1 q2 q3 q4 ⊢
    subst q1; subst q2
    have hin := m_isInT (σ := s) hM hM2 hn (hc_fr hh (fun t _ => q4 _ _ (by omega)) (fun k _ => q4 _ _ (by omega))) hi
    rw [hH] at hin
    have hnl := nu_le (gl := gl) (H := H) i
    unfold bX7_gathers_6
    rw [m_many hM hM2, bd_ok, q4 _ _ (by omega), h0, if_neg (nI_ge hi (by omega)), hin, bd_ok]
    cases hz : inT gl H i with
    | true =>
      rw [if_pos (by decide), lt_ok, bd_ok, lt_ok, ad1]
      refine ⟨_, rfl, ?_, rfl, fun j hj hj2 => ?_, q4⟩
      · dsimp only; rw [nu_s, hz]; rfl
      · by_cases hji : j = i
        · subst hji; rw [hz] at hj2; cases hj2
        · exact q3 j (by omega) hj2
    | false =>
      rw [if_neg (by decide), dr_ok m13 n13.1, dr_ok m1 n1.1, n1.2, n13.2, show (7527 : Int32) = nI 7527 from rfl, nI_add, ck_n (by omega) (by omega), ck_n (by omega) (by omega), nI_clamp (by omega), nI_clamp (by omega), ss_ok, lt_ok, ad1, bd_ok, lt_ok, ad1, q4 396 _ (by omega)]
      refine ⟨_, rfl, ?_, rfl, fun j hj hj2 => ?_, fun x k hx => ?_⟩
      · dsimp only; rw [nu_s, hz]; rfl
      · dsimp only
        by_cases hji : j = i
        · subst hji; rw [gs_eq]
        · have := nu_inj (gl := gl) (H := H) hj2 (show j < i by omega)
          rw [gs_ne (by omega)]; exact q3 j (by omega) hj2
      · dsimp only; rw [gs_ne (by omega)]; exact q4 x k hx
  · rintro ⟨⟨u, v, y⟩, s⟩ rec ⟨q1, q2, q3, q4⟩
    dsimp only at q1 q2 q3 q4 ⊢
    subst q1; subst q2
    unfold bX7_gathers_6
    rw [m_many hM hM2, bd_ok, q4 _ _ (by omega), h0, if_pos (nI_le (Nat.le_refl _) (by omega))]
    exact ⟨_, rfl, rfl, q3, q4⟩
/-- the contents of what is taken, one behind the other -/
def cnts (C : Dn → List Nat) (Hd : Nat → Option Dn) : Nat → List Nat := fun t => match Hd t with
  | none => []
  | some z => C z
theorem m_gath2 (hM : LMod E) (hM2 : LMo2 E) (hn : n ≤ 300) (hh : HC' σ n gl C Hd) {left : Nat} (hl : left + (catX (cnts C Hd) 6).length ≤ 300) :
    ∃ b, fx (fun rec a => bX7_gathers_58 E 395 (fun u0 u1 t => rec ((u0, u1), t)) a.1.1 a.1.2 a.2) FU ((nI left, (0 : Int32)), σ) = some b ∧ ((∀ i, i < (catX (cnts C Hd) 6).length → gi b.2 408 (left + i) = nI ((catX (cnts C Hd) 6).getD i 0)) ∧ ∀ x k, ¬ (x = 408 ∧ left ≤ k) → gi b.2 x k = gi σ x k) := by
  obtain ⟨m0, m1, m2, m3, m4, m5, m6, m7, m8, m9, m10, m11, m12, m13, mz⟩ := id hM
  obtain ⟨n1, n2, n3, n4, n5, n6, n7, n8, n9, n10, n11, n12, n13, nz⟩ := id hM2
  have hmon : ∀ i, i ≤ 6 → (catX (cnts C Hd) i).length ≤ (catX (cnts C Hd) 6).length := by
    have : ∀ j i, (catX (cnts C Hd) i).length ≤ (catX (cnts C Hd) (i + j)).length := by
      intro j
      induction j with
      | zero => intro i; exact Nat.le_refl _
      | succ j ih => intro i; refine Nat.le_trans (ih i) ?_; show _ ≤ (catX (cnts C Hd) (i + j) ++ _).length; rw [List.length_append]; omega
    intro i hi
    have h := this (6 - i) i
    rw [show i + (6 - i) = 6 by omega] at h
    exact h
  refine for_in 6 (fun i b => b.1.1 = nI (left + (catX (cnts C Hd) i).length) ∧ b.1.2 = nI i ∧ (∀ j, j < (catX (cnts C Hd) i).length → gi b.2 408 (left + j) = nI ((catX (cnts C Hd) i).getD j 0)) ∧ ∀ x k, ¬ (x = 408 ∧ left ≤ k) → gi b.2 x k = gi σ x k) _ (by show 6 < 1000000; omega) ?_ ?_ ⟨rfl, rfl, fun j hj => absurd hj (Nat.not_lt_zero j), fun _ _ _ => rfl⟩
  · rintro i ⟨⟨u, v⟩, s⟩ rec hi ⟨q1, q2, q3, q4⟩
    dsimp only at q1 q2 q3 q4 ⊢
    subst q1; subst q2
    have hm1 := hmon (i + 1) (by omega)
    have ec : catX (cnts C Hd) (i + 1) = catX (cnts C Hd) i ++ cnts C Hd i := rfl
    unfold bX7_gathers_58
    rw [i6, if_neg (nI_ge hi (by omega)), dr_ok m12 n12.1, n12.2, ck_n (by omega) (by omega), nI_clamp (by omega), q4 407 i (by omega), hh.1 i hi]
    cases hq : Hd i with
    | none =>
      have en : cnts C Hd i = [] := by unfold cnts; rw [hq]
      rw [if_pos (by rfl), bd_ok, lt_ok, ad1]
      refine ⟨_, rfl, ?_, rfl, ?_, q4⟩
      · dsimp only; rw [ec, en, List.append_nil]
      · rw [ec, en, List.append_nil]; exact q3
    | some z =>
      obtain ⟨z1, z2, z3, z4, z5, z6⟩ := hh.2 i z hi hq
      have en : cnts C Hd i = C z := by unfold cnts; rw [hq]
      rw [ec, en, List.length_append] at hm1
      rw [show tkO (some z) = nI z.1 from rfl, if_neg (nI_nm1 (by omega))]
      generalize hP : catX (cnts C Hd) i = P at *
      obtain ⟨⟨⟨u, v⟩, s2⟩, e2, g1, g2, g3⟩ := for_in (F := fun (rec : (Int32 × Int32) × Sg → Option ((Int32 × Int32) × Sg)) (a : (Int32 × Int32) × Sg) => bX7_gathers_79 E 395 (nI i) 407 (fun u0 u1 t => rec ((u0, u1), t)) a.1.1 a.1.2 a.2) (zz gl z)
        (fun j b => b.1 = (nI (left + P.length + j), nI j) ∧ (∀ k, k < P.length + j → gi b.2 408 (left + k) = nI ((P ++ C z).getD k 0)) ∧ ∀ x k, ¬ (x = 408 ∧ left ≤ k) → gi b.2 x k = gi σ x k)
        (fun b => b.1.1 = nI (left + P.length + zz gl z) ∧ (∀ k, k < P.length + zz gl z → gi b.2 408 (left + k) = nI ((P ++ C z).getD k 0)) ∧ ∀ x k, ¬ (x = 408 ∧ left ≤ k) → gi b.2 x k = gi σ x k) (N := FU) (by show zz gl z < 1000000; omega)
        (by
          rintro j ⟨⟨u, v⟩, s2⟩ rec hj ⟨g1, g2, g3⟩
          dsimp only at g1 g2 g3 ⊢
          injection g1 with g1 g1'
          subst g1; subst g1'
          unfold bX7_gathers_79
          rw [dr_ok m1 n1.1, n1.2, n12.2, ck_n (by omega) (by omega), nI_clamp (by omega), g3 407 i (by omega), hh.1 i hi, hq, show tkO (some z) = nI z.1 from rfl, show (1927 : Int32) = nI 1927 from rfl, nI_add, ck_n (by omega) (by omega), nI_clamp (by omega), g3 396 _ (by omega), z3, if_neg (nI_ge hj (by omega)), dr_ok m13 n13.1, n13.2, ck_n (by omega) (by omega), show (1227 : Int32) = nI 1227 from rfl, nI_add, ck_n (by omega) (by omega), nI_clamp (by omega), g3 396 _ (by omega), z2, show (7527 : Int32) = nI 7527 from rfl, nI_add, nI_add, ck_n (by omega) (by omega), ck_n (by omega) (by omega), nI_clamp (by omega), nI_clamp (by omega), g3 396 _ (by omega), z6 j hj, ss_ok, lt_ok, lt_ok, ad1, ad1]
          refine ⟨_, rfl, rfl, fun k hk => ?_, fun x k q => ?_⟩
          · dsimp only
            by_cases hkj : k = P.length + j
            · subst hkj
              rw [show left + (P.length + j) = left + P.length + j by omega, gs_eq, List.getD_eq_getElem?_getD, List.getD_eq_getElem?_getD, List.getElem?_append_right (by omega), show P.length + j - P.length = j by omega]
            · rw [gs_ne (by omega)]; exact g2 k (by omega)
          · dsimp only; rw [gs_ne (by omega)]; exact g3 x k q)
        (by
          rintro ⟨⟨u, v⟩, s2⟩ rec ⟨g1, g2, g3⟩
          dsimp only at g1 g2 g3 ⊢
          injection g1 with g1 g1'
          subst g1; subst g1'
          unfold bX7_gathers_79
          rw [dr_ok m1 n1.1, n1.2, n12.2, ck_n (by omega) (by omega), nI_clamp (by omega), g3 407 i (by omega), hh.1 i hi, hq, show tkO (some z) = nI z.1 from rfl, show (1927 : Int32) = nI 1927 from rfl, nI_add, ck_n (by omega) (by omega), nI_clamp (by omega), g3 396 _ (by omega), z3, if_pos (nI_le (Nat.le_refl _) (by omega))]
          exact ⟨_, rfl, rfl, g2, g3⟩)
        (a := ((nI (left + P.length), (0 : Int32)), s)) ⟨rfl, fun k hk => by
          dsimp only
          rw [q3 k (by omega), List.getD_eq_getElem?_getD, List.getD_eq_getElem?_getD, List.getElem?_append_left (by omega)], q4⟩
      dsimp only at g1 g2 g3
      subst g1
      rw [e2, bd_ok, bd_ok, lt_ok, ad1]
      refine ⟨_, rfl, ?_, rfl, fun j hj => ?_, g3⟩
      · dsimp only; rw [ec, en, List.length_append, z5]; congr 1; omega
      · dsimp only; rw [ec, en, List.length_append] at hj; rw [ec, en]; exact g2 j (by omega)
  · rintro ⟨⟨u, v⟩, s⟩ rec ⟨q1, q2, q3, q4⟩
    dsimp only at q1 q2 q3 q4 ⊢
    subst q2
    unfold bX7_gathers_58
    rw [i6, if_pos (nI_le (Nat.le_refl _) (by omega))]
    exact ⟨_, rfl, q3, q4⟩
end GA
end
section
/-! what is left of the pool moves ahead -/
theorem catX_sub {α : Type} {X : Nat → List α} : ∀ {n m : Nat}, m ≤ n → (catX X m).Sublist (catX X n)
  | 0, m, h => by rw [show m = 0 by omega]; exact List.Sublist.refl _
  | n + 1, m, h => by
    by_cases hq : m = n + 1
    · rw [hq]; exact List.Sublist.refl _
    · exact (catX_sub (n := n) (by omega)).trans (List.sublist_append_left _ _)
theorem catX_mem {α : Type} {X : Nat → List α} {z : α} : ∀ {n : Nat}, z ∈ catX X n ↔ ∃ t, t < n ∧ z ∈ X t
  | 0 => ⟨fun h => absurd h List.not_mem_nil, fun ⟨t, h, _⟩ => absurd h (Nat.not_lt_zero t)⟩
  | n + 1 => by
    show z ∈ catX X n ++ X n ↔ _
    rw [List.mem_append, catX_mem]
    constructor
    · rintro (⟨t, h1, h2⟩ | h)
      · exact ⟨t, by omega, h2⟩
      · exact ⟨n, by omega, h⟩
    · rintro ⟨t, h1, h2⟩
      by_cases hq : t = n
      · subst hq; exact Or.inr h2
      · exact Or.inl ⟨t, by omega, h2⟩
theorem take_s {l : List Dn} {k : Nat} (h : k < l.length) : l.take (k + 1) = l.take k ++ [l.getD k d0] := by
  rw [List.take_succ_eq_append_getElem h, List.getD_eq_getElem?_getD, List.getElem?_eq_getElem h]; rfl
theorem getDn_mem {l : List Dn} {k : Nat} (h : k < l.length) : l.getD k d0 ∈ l := by
  rw [List.getD_eq_getElem?_getD, List.getElem?_eq_getElem h]; exact List.getElem_mem _
section SH
variable {E : En} {σ : Sg} {n T : Nat} {gl : Nat → Nat} {Hd : Nat → Option Dn} {C : Dn → List Nat} {Y : Nat → List Dn}
theorem m_less (hM : LMod E) (hM2 : LMo2 E) (hn : n ≤ 300) (hh : HC' σ n gl C Hd) {z : Dn} (hz1 : z.1 < 700) (hzF : gi σ 396 (1227 + z.1) = nI z.2.1) (hzn : z.2.1 ≤ n) (hne : ∀ t y, t < 6 → Hd t = some y → y.1 ≠ z.1) : fx (fun rec a => bX7_shiftsRuns_38 E 395 (nI z.1) 396 (fun u0 u1 t => rec ((u0, u1), t)) a.1.1 a.1.2 a.2) FU (((0 : Int32), (0 : Int32)), σ) = some ((nI (lss gl (catX (hds Hd) 6) z.2.1), nI 6), σ) := by
  obtain ⟨m0, m1, m2, m3, m4, m5, m6, m7, m8, m9, m10, m11, m12, m13, mz⟩ := id hM
  obtain ⟨n1, n2, n3, n4, n5, n6, n7, n8, n9, n10, n11, n12, n13, nz⟩ := id hM2
  refine for_tr 6 (fun i => ((nI (lss gl (catX (hds Hd) i) z.2.1), nI i), σ)) (by show 6 < 1000000; omega) (fun i rec hi => ?_) (fun rec => ?_) rfl
  · have e : lss gl (catX (hds Hd) (i + 1)) z.2.1 = lss gl (catX (hds Hd) i) z.2.1 + lss gl (hds Hd i) z.2.1 := lsm_app
    dsimp only
    rw [e]
    unfold bX7_shiftsRuns_38
    rw [i6, if_neg (nI_ge hi (by omega)), dr_ok m12 n12.1, n12.2, ck_n (by omega) (by omega), nI_clamp (by omega), hh.1 i hi]
    cases hq : Hd i with
    | none =>
      have eh : lss gl (hds Hd i) z.2.1 = 0 := by unfold hds lss; rw [hq]; rfl
      rw [if_pos (by rfl), bd_ok, lt_ok, lt_ok, ad1, i0, nI_add, eh]
    | some y =>
      obtain ⟨y1, y2, y3, y4, y5, y6⟩ := hh.2 i y hi hq
      have hyz := hne i y hi hq
      have eh : lss gl (hds Hd i) z.2.1 = if y.2.1 < z.2.1 then zz gl y else 0 := by unfold hds lss; rw [hq]; show _ + 0 = _; rw [Nat.add_zero]
      rw [show tkO (some y) = nI y.1 from rfl, if_neg (nI_nm1 (by omega)), ck_n (by omega) (by omega), if_neg (fun q => hyz ((nI_eq (by omega) (by omega)).mp q)), ck_n (by omega) (by omega), n1.2, show (1227 : Int32) = nI 1227 from rfl, nI_add, nI_add, ck_n (by omega) (by omega), ck_n (by omega) (by omega), nI_clamp (by omega), nI_clamp (by omega), hzF, y2, show (1927 : Int32) = nI 1927 from rfl, nI_add, nI_clamp (by omega), y3, eh]
      by_cases hc : z.2.1 ≤ y.2.1
      · rw [if_pos (nI_le hc (by omega)), bd_ok, lt_ok, lt_ok, ad1, i0, nI_add, if_neg (by omega)]
      · rw [if_neg (nI_ge (by omega) (by omega)), ck_n (by omega) (by omega), ck_n (by omega) (by omega), bd_ok, lt_ok, lt_ok, ad1, nI_add, if_pos (by omega)]
  · unfold bX7_shiftsRuns_38
    dsimp only
    rw [i6, if_pos (nI_le (Nat.le_refl _) (by omega))]
/-- what the cells say of what is left -/
def YC (σ : Sg) (n T : Nat) (Y : Nat → List Dn) : Prop := ∀ z, z ∈ catX Y T → z.1 < 700 ∧ gi σ 396 (1227 + z.1) = nI z.2.1 ∧ z.2.1 ≤ n
theorem m_shift (hM : LMod E) (hM2 : LMo2 E) (hn : n ≤ 300) (hT : T ≤ 6) (h2 : gi σ 396 2 = nI T) (hh : HC' σ n gl C Hd) (hx : XT σ Y) (hy : YC σ n T Y) (hp : (catX (hds Hd) 6 ++ catX Y T).Pairwise (apt gl)) :
    ∃ s, fX7_shiftsRuns E 395 σ = some s ∧ (∀ z, z ∈ catX Y T → gi s 396 (1227 + z.1) = nI (nu gl (catX (hds Hd) 6) z.2.1)) ∧ (∀ x k, ¬ (x = 396 ∧ 1227 ≤ k ∧ k < 1927) → x ≠ 409 → gi s x k = gi σ x k) ∧ ∀ j, (∀ z, z ∈ catX Y T → z.1 ≠ j) → gi s 396 (1227 + j) = gi σ 396 (1227 + j) := by
  obtain ⟨m0, m1, m2, m3, m4, m5, m6, m7, m8, m9, m10, m11, m12, m13, m14, mz⟩ := id hM
  obtain ⟨n1, n2, n3, n4, n5, n6, n7, n8, n9, n10, n11, n12, n13, n14, nz⟩ := id hM2
  obtain ⟨hp1, hp2, hp3⟩ := List.pairwise_append.mp hp
  have hne : ∀ z, z ∈ catX Y T → ∀ t y, t < 6 → Hd t = some y → y.1 ≠ z.1 := fun z hz t y ht hq => (hp3 y (catX_mem.mpr ⟨t, ht, by unfold hds; rw [hq]; simp⟩) z hz).1
  have hle : ∀ z, z ∈ catX Y T → nu gl (catX (hds Hd) 6) z.2.1 + lss gl (catX (hds Hd) 6) z.2.1 = z.2.1 := fun z hz => nu_eq hp1 (fun y hy' => by have := (hp3 y hy' z hz).2; unfold zz at this ⊢; omega)
  generalize hH : catX (hds Hd) 6 = H at *
  have hsub : ∀ t k, t < T → (catX Y t ++ (Y t).take k).Sublist (catX Y T) := fun t k ht => (List.Sublist.append_left (List.take_sublist _ _) _).trans (catX_sub (show t + 1 ≤ T by omega))
  have hnew : ∀ t k, t < T → k < (Y t).length → ∀ z, z ∈ catX Y t ++ (Y t).take k → z.1 ≠ ((Y t).getD k d0).1 := fun t k ht hk z hz => by
    have := hp2.sublist (hsub t (k + 1) ht)
    rw [take_s hk, ← List.append_assoc] at this
    exact ((List.pairwise_append.mp this).2.2 z hz _ (by simp)).1
  have hmemT : ∀ t k, t < T → k < (Y t).length → (Y t).getD k d0 ∈ catX Y T := fun t k ht hk => catX_mem.mpr ⟨t, ht, getDn_mem hk⟩
  unfold fX7_shiftsRuns
  rw [tk_ok m0]
  refine bd_in T (fun t b => b.1 = nI t ∧ (∀ z, z ∈ catX Y t → gi b.2 409 z.1 = nI (lss gl H z.2.1)) ∧ ∀ x k, x ≠ 409 → gi b.2 x k = gi σ x k)
    (fun b => (∀ z, z ∈ catX Y T → gi b.2 409 z.1 = nI (lss gl H z.2.1)) ∧ ∀ x k, x ≠ 409 → gi b.2 x k = gi σ x k) (by show T < 1000000; omega) ⟨rfl, fun z hz => absurd hz List.not_mem_nil, fun _ _ _ => rfl⟩ ?_ ?_ ?_
  · rintro t ⟨v, s⟩ rec ht ⟨rfl, q1, q2⟩
    dsimp only at q1 q2 ⊢
    obtain ⟨x1, x2, x3⟩ := hx t (by omega)
    unfold bX7_shiftsRuns_2
    rw [m_tapes hM hM2, bd_ok, q2 _ _ (by omega), h2, if_neg (nI_ge ht (by omega))]
    obtain ⟨⟨v, s2⟩, e2, g1, g2⟩ := for_in (F := fun (rec : Int32 × Sg → Option (Int32 × Sg)) (a : Int32 × Sg) => bX7_shiftsRuns_12 E 395 (nI t) (fun u0 t => rec (u0, t)) a.1 a.2) (Y t).length
      (fun k b => b.1 = nI k ∧ (∀ z, z ∈ catX Y t ++ (Y t).take k → gi b.2 409 z.1 = nI (lss gl H z.2.1)) ∧ ∀ x k, x ≠ 409 → gi b.2 x k = gi σ x k)
      (fun b => (∀ z, z ∈ catX Y (t + 1) → gi b.2 409 z.1 = nI (lss gl H z.2.1)) ∧ ∀ x k, x ≠ 409 → gi b.2 x k = gi σ x k) (N := FU) (by show (Y t).length < 1000000; omega)
      (by
        rintro k ⟨v, s2⟩ rec hk ⟨rfl, g1, g2⟩
        dsimp only at g1 g2 ⊢
        obtain ⟨y1, y2, y3⟩ := hy _ (hmemT t k ht hk)
        have hl := m_less (σ := s2) (z := (Y t).getD k d0) hM hM2 hn (hc_fr hh (fun t _ => g2 _ _ (by omega)) (fun k _ => g2 _ _ (by omega))) y1 (by rw [g2 _ _ (by omega)]; exact y2) y3 (hne _ (hmemT t k ht hk))
        rw [hH] at hl
        unfold bX7_shiftsRuns_12
        rw [dr_ok m1 n1.1, n1.2, show (20 : Int32) = nI 20 from rfl, nI_add, ck_n (by omega) (by omega), nI_clamp (by omega), g2 _ _ (by omega), x1, if_neg (nI_ge hk (by omega)), m_runAt hM hM2 (by omega) (by omega), bd_ok, g2 _ _ (by omega), x3 k hk, hl, bd_ok, dr_ok m14 n14.1, n14.2, ck_n (by omega) (by omega), nI_clamp (by omega), ss_ok, lt_ok, ad1]
        refine ⟨_, rfl, rfl, fun z hz => ?_, fun x k hx' => ?_⟩
        · dsimp only
          rw [take_s hk, ← List.append_assoc] at hz
          rcases List.mem_append.mp hz with hz | hz
          · rw [gs_ne (Or.inr (hnew t k ht hk z hz))]; exact g1 z hz
          · rw [List.mem_singleton.mp hz, gs_eq]
        · dsimp only; rw [gs_ne (by omega)]; exact g2 x k hx')
      (by
        rintro ⟨v, s2⟩ rec ⟨rfl, g1, g2⟩
        dsimp only at g1 g2 ⊢
        unfold bX7_shiftsRuns_12
        rw [dr_ok m1 n1.1, n1.2, show (20 : Int32) = nI 20 from rfl, nI_add, ck_n (by omega) (by omega), nI_clamp (by omega), g2 _ _ (by omega), x1, if_pos (nI_le (Nat.le_refl _) (by omega))]
        rw [List.take_length] at g1
        exact ⟨_, rfl, g1, g2⟩)
      (a := ((0 : Int32), s)) ⟨rfl, fun z hz => by rw [List.take_zero, List.append_nil] at hz; exact q1 z hz, q2⟩
    dsimp only at g1 g2
    rw [e2, bd_ok, lt_ok, ad1]
    exact ⟨_, rfl, rfl, g1, g2⟩
  · rintro ⟨v, s⟩ rec ⟨rfl, q1, q2⟩
    dsimp only at q1 q2 ⊢
    unfold bX7_shiftsRuns_2
    rw [m_tapes hM hM2, bd_ok, q2 _ _ (by omega), h2, if_pos (nI_le (Nat.le_refl _) (by omega))]
    exact ⟨_, rfl, q1, q2⟩
  · rintro v s1 ⟨q1, q2⟩
    dsimp only at q1 q2
    refine bd_in T (fun t b => b.1 = nI t ∧ (∀ z, z ∈ catX Y t → gi b.2 396 (1227 + z.1) = nI (nu gl H z.2.1)) ∧ (∀ x k, ¬ (x = 396 ∧ 1227 ≤ k ∧ k < 1927) → gi b.2 x k = gi s1 x k) ∧ ∀ j, (∀ z, z ∈ catX Y t → z.1 ≠ j) → gi b.2 396 (1227 + j) = gi σ 396 (1227 + j))
      (fun b => (∀ z, z ∈ catX Y T → gi b.2 396 (1227 + z.1) = nI (nu gl H z.2.1)) ∧ (∀ x k, ¬ (x = 396 ∧ 1227 ≤ k ∧ k < 1927) → gi b.2 x k = gi s1 x k) ∧ ∀ j, (∀ z, z ∈ catX Y T → z.1 ≠ j) → gi b.2 396 (1227 + j) = gi σ 396 (1227 + j)) (by show T < 1000000; omega) ⟨rfl, fun z hz => absurd hz List.not_mem_nil, fun _ _ _ => rfl, fun j _ => q2 _ _ (by omega)⟩ ?_ ?_ (fun v s q => ⟨s, rfl, q.1, fun x k z1 z2 => by rw [q.2.1 x k z1]; exact q2 x k z2, q.2.2⟩)
    · rintro t ⟨v, s⟩ rec ht ⟨rfl, w1, w2, w3⟩
      dsimp only at w1 w2 w3 ⊢
      obtain ⟨x1, x2, x3⟩ := hx t (by omega)
      unfold bX7_shiftsRuns_149
      rw [m_tapes hM hM2, bd_ok, w2 _ _ (by omega), q2 _ _ (by omega), h2, if_neg (nI_ge ht (by omega))]
      obtain ⟨⟨v, s2⟩, e2, g1, g2, g3⟩ := for_in (F := fun (rec : Int32 × Sg → Option (Int32 × Sg)) (a : Int32 × Sg) => bX7_shiftsRuns_159 E 395 (nI t) (fun u0 t => rec (u0, t)) a.1 a.2) (Y t).length
        (fun k b => b.1 = nI k ∧ (∀ z, z ∈ catX Y t ++ (Y t).take k → gi b.2 396 (1227 + z.1) = nI (nu gl H z.2.1)) ∧ (∀ x k, ¬ (x = 396 ∧ 1227 ≤ k ∧ k < 1927) → gi b.2 x k = gi s1 x k) ∧ ∀ j, (∀ z, z ∈ catX Y t ++ (Y t).take k → z.1 ≠ j) → gi b.2 396 (1227 + j) = gi σ 396 (1227 + j))
        (fun b => (∀ z, z ∈ catX Y (t + 1) → gi b.2 396 (1227 + z.1) = nI (nu gl H z.2.1)) ∧ (∀ x k, ¬ (x = 396 ∧ 1227 ≤ k ∧ k < 1927) → gi b.2 x k = gi s1 x k) ∧ ∀ j, (∀ z, z ∈ catX Y (t + 1) → z.1 ≠ j) → gi b.2 396 (1227 + j) = gi σ 396 (1227 + j)) (N := FU) (by show (Y t).length < 1000000; omega)
        (by
          rintro k ⟨v, s2⟩ rec hk ⟨rfl, g1, g2, g3⟩
          dsimp only at g1 g2 g3 ⊢
          obtain ⟨y1, y2, y3⟩ := hy _ (hmemT t k ht hk)
          have hz9 := q1 _ (hmemT t k ht hk)
          have hzl := hle _ (hmemT t k ht hk)
          have hzf := g3 ((Y t).getD k d0).1 (hnew t k ht hk)
          rw [y2] at hzf
          unfold bX7_shiftsRuns_159
          rw [dr_ok m1 n1.1, n1.2, show (20 : Int32) = nI 20 from rfl, nI_add, ck_n (by omega) (by omega), nI_clamp (by omega), g2 _ _ (by omega), q2 _ _ (by omega), x1, if_neg (nI_ge hk (by omega)), m_runAt hM hM2 (by omega) (by omega), bd_ok, g2 _ _ (by omega), q2 _ _ (by omega), x3 k hk, show (1227 : Int32) = nI 1227 from rfl, nI_add, ck_n (by omega) (by omega), dr_ok m14 n14.1, n14.2, m_runAt hM hM2 (by omega) (by omega), bd_ok, g2 396 (3327 + 700 * t + k) (by omega), q2 396 (3327 + 700 * t + k) (by omega), x3 k hk, ck_n (by omega) (by omega), ck_n (by omega) (by omega), nI_clamp (by omega), nI_clamp (by omega), hzf, g2 409 _ (by omega), hz9, sub_n (by omega), show ((Y t).getD k d0).2.1 - lss gl H ((Y t).getD k d0).2.1 = nu gl H ((Y t).getD k d0).2.1 by omega, ss_ok, lt_ok, ad1]
          refine ⟨_, rfl, rfl, fun z hz => ?_, fun x k hx' => ?_, fun j hj => ?_⟩
          · dsimp only
            rw [take_s hk, ← List.append_assoc] at hz
            rcases List.mem_append.mp hz with hz | hz
            · have := hnew t k ht hk z hz
              rw [gs_ne (by omega)]; exact g1 z hz
            · rw [List.mem_singleton.mp hz, gs_eq]
          · dsimp only; rw [gs_ne (by omega)]; exact g2 x k hx'
          · dsimp only
            rw [take_s hk, ← List.append_assoc] at hj
            have h1 := hj _ (List.mem_append.mpr (Or.inr (List.mem_singleton.mpr rfl)))
            rw [gs_ne (by omega)]; exact g3 j (fun z hz => hj z (List.mem_append.mpr (Or.inl hz))))
        (by
          rintro ⟨v, s2⟩ rec ⟨rfl, g1, g2, g3⟩
          dsimp only at g1 g2 g3 ⊢
          unfold bX7_shiftsRuns_159
          rw [dr_ok m1 n1.1, n1.2, show (20 : Int32) = nI 20 from rfl, nI_add, ck_n (by omega) (by omega), nI_clamp (by omega), g2 _ _ (by omega), q2 _ _ (by omega), x1, if_pos (nI_le (Nat.le_refl _) (by omega))]
          rw [List.take_length] at g1 g3
          exact ⟨_, rfl, g1, g2, g3⟩)
        (a := ((0 : Int32), s)) ⟨rfl, fun z hz => by rw [List.take_zero, List.append_nil] at hz; exact w1 z hz, w2, fun j hj => by rw [List.take_zero, List.append_nil] at hj; exact w3 j hj⟩
      dsimp only at g1 g2 g3
      rw [e2, bd_ok, lt_ok, ad1]
      exact ⟨_, rfl, rfl, g1, g2, g3⟩
    · rintro ⟨v, s⟩ rec ⟨rfl, w1, w2, w3⟩
      dsimp only at w1 w2 w3 ⊢
      unfold bX7_shiftsRuns_149
      rw [m_tapes hM hM2, bd_ok, w2 _ _ (by omega), q2 _ _ (by omega), h2, if_pos (nI_le (Nat.le_refl _) (by omega))]
      exact ⟨_, rfl, w1, w2, w3⟩
theorem lsm_len {gl : Nat → Nat} : ∀ m, (∀ t z, t < m → Hd t = some z → (C z).length = zz gl z) → lsm (zz gl) (catX (hds Hd) m) = (catX (cnts C Hd) m).length
  | 0, _ => rfl
  | m + 1, h => by
    show lsm _ (catX (hds Hd) m ++ hds Hd m) = (catX (cnts C Hd) m ++ cnts C Hd m).length
    rw [lsm_app, List.length_append, lsm_len m (fun t z ht => h t z (by omega))]
    congr 1
    unfold hds cnts
    cases hq : Hd m with
    | none => rfl
    | some z => show zz gl z + 0 = _; have := h m z (by omega) hq; dsimp only; omega
theorem lss_all {gl : Nat → Nat} : ∀ {H : List Dn}, (∀ z, z ∈ H → z.2.1 + zz gl z ≤ n) → lss gl H n = lsm (zz gl) H
  | [], _ => rfl
  | z :: H, h => by
    show (if z.2.1 < n then zz gl z else 0) + lss gl H n = zz gl z + lsm (zz gl) H
    rw [lss_all (fun y hy => h y (List.mem_cons_of_mem _ hy))]
    have := h z List.mem_cons_self
    split <;> omega
theorem m_gathers (hM : LMod E) (hM2 : LMo2 E) (hn : n ≤ 300) (hT : T ≤ 6) (h0 : gi σ 396 0 = nI n) (h2 : gi σ 396 2 = nI T) (hh : HC' σ n gl C Hd) (hx : XT σ Y) (hy : YC σ n T Y) (hp : (catX (hds Hd) 6 ++ catX Y T).Pairwise (apt gl)) :
    ∃ s, fX7_gathers E 395 σ = some (nI (nu gl (catX (hds Hd) 6) n), s) ∧ nu gl (catX (hds Hd) 6) n + (catX (cnts C Hd) 6).length = n ∧ (∀ z, z ∈ catX Y T → gi s 396 (1227 + z.1) = nI (nu gl (catX (hds Hd) 6) z.2.1)) ∧
      (∀ j, j < n → inT gl (catX (hds Hd) 6) j = false → gi s 396 (7527 + nu gl (catX (hds Hd) 6) j) = gi σ 396 (7527 + j)) ∧ (∀ i, i < (catX (cnts C Hd) 6).length → gi s 396 (7527 + nu gl (catX (hds Hd) 6) n + i) = nI ((catX (cnts C Hd) 6).getD i 0)) ∧
      (∀ x k, ¬ (x = 396 ∧ 1227 ≤ k ∧ k < 1927) → ¬ (x = 396 ∧ 7527 ≤ k ∧ k < 7827) → x ≠ 408 → x ≠ 409 → gi s x k = gi σ x k) ∧ ∀ j, j < 700 → (∀ z, z ∈ catX Y T → z.1 ≠ j) → gi s 396 (1227 + j) = gi σ 396 (1227 + j) := by
  obtain ⟨m0, m1, m2, m3, m4, m5, m6, m7, m8, m9, m10, m11, m12, m13, m14, mz⟩ := id hM
  obtain ⟨n1, n2, n3, n4, n5, n6, n7, n8, n9, n10, n11, n12, n13, n14, nz⟩ := id hM2
  have hall : ∀ z, z ∈ catX (hds Hd) 6 → z.2.1 + zz gl z ≤ n := fun z hz => by
    obtain ⟨t, ht, hzt⟩ := catX_mem.mp hz
    unfold hds at hzt
    cases hq : Hd t with
    | none => rw [hq] at hzt; simp at hzt
    | some y => rw [hq] at hzt; simp at hzt; subst hzt; exact (hh.2 t z ht hq).2.2.2.1
  have hsum := nu_eq (gl := gl) (List.pairwise_append.mp hp).1 (n := n) (fun z hz => Or.inl (hall z hz))
  rw [lss_all hall, lsm_len (C := C) 6 (fun t z ht hq => (hh.2 t z ht hq).2.2.2.2.1)] at hsum
  obtain ⟨⟨⟨u, v, y⟩, s1⟩, e1, g1, g2, g3⟩ := m_gath1 hM hM2 hn h0 hh
  dsimp only at g1 g2 g3
  subst g1
  have hh1 : HC' s1 n gl C Hd := hc_fr hh (fun t _ => g3 _ _ (by omega)) (fun k _ => g3 _ _ (by omega))
  obtain ⟨⟨uv, s2⟩, e2, p1, p2⟩ := m_gath2 (left := nu gl (catX (hds Hd) 6) n) hM hM2 hn hh1 (by omega)
  dsimp only at p1 p2
  have f2 : ∀ x k, x ≠ 408 → gi s2 x k = gi σ x k := fun x k q => by rw [p2 x k (by omega)]; exact g3 x k q
  have hh2 : HC' s2 n gl C Hd := hc_fr hh (fun t _ => f2 _ _ (by omega)) (fun k _ => f2 _ _ (by omega))
  obtain ⟨s3, e3, w1, w2, w3⟩ := m_shift (σ := s2) hM hM2 hn hT (by rw [f2 _ _ (by omega)]; exact h2) hh2 (xt_fr hx (fun k _ => f2 _ _ (by omega))) (fun z hz => by obtain ⟨a, b, c⟩ := hy z hz; exact ⟨a, by rw [f2 _ _ (by omega)]; exact b, c⟩) hp
  unfold fX7_gathers
  rw [tk_ok m0, e1, bd_ok, lt_ok]
  dsimp only
  rw [e2, bd_ok, e3, bv_ok]
  obtain ⟨⟨v, s4⟩, e4, z1, z2⟩ := for_in (F := fun (rec : Int32 × Sg → Option (Int32 × Sg)) (a : Int32 × Sg) => bX7_gathers_156 E 395 (fun u0 t => rec (u0, t)) a.1 a.2) n
    (fun k b => b.1 = nI k ∧ (∀ j, j < k → gi b.2 396 (7527 + j) = gi s3 408 j) ∧ ∀ x j, ¬ (x = 396 ∧ 7527 ≤ j ∧ j < 7827) → gi b.2 x j = gi s3 x j)
    (fun b => (∀ j, j < n → gi b.2 396 (7527 + j) = gi s3 408 j) ∧ ∀ x j, ¬ (x = 396 ∧ 7527 ≤ j ∧ j < 7827) → gi b.2 x j = gi s3 x j) (N := FU) (by show n < 1000000; omega)
    (by
      rintro k ⟨v, s4⟩ rec hk ⟨rfl, z1, z2⟩
      dsimp only at z1 z2 ⊢
      unfold bX7_gathers_156
      rw [m_many hM hM2, bd_ok, z2 _ _ (by omega), w2 _ _ (by omega) (by omega), f2 _ _ (by omega), h0, if_neg (nI_ge hk (by omega)), dr_ok m1 n1.1, dr_ok m13 n13.1, n13.2, n1.2, ck_n (by omega) (by omega), show (7527 : Int32) = nI 7527 from rfl, nI_add, ck_n (by omega) (by omega), nI_clamp (by omega), nI_clamp (by omega), z2 408 k (by omega), ss_ok, lt_ok, ad1]
      refine ⟨_, rfl, rfl, fun j hj => ?_, fun x j q => ?_⟩
      · dsimp only
        by_cases hjk : j = k
        · subst hjk; rw [gs_eq]
        · rw [gs_ne (by omega)]; exact z1 j (by omega)
      · dsimp only; rw [gs_ne (by omega)]; exact z2 x j q)
    (by
      rintro ⟨v, s4⟩ rec ⟨rfl, z1, z2⟩
      dsimp only at z1 z2 ⊢
      unfold bX7_gathers_156
      rw [m_many hM hM2, bd_ok, z2 _ _ (by omega), w2 _ _ (by omega) (by omega), f2 _ _ (by omega), h0, if_pos (nI_le (Nat.le_refl _) (by omega))]
      exact ⟨_, rfl, z1, z2⟩)
    (a := ((0 : Int32), s3)) ⟨rfl, fun j hj => absurd hj (Nat.not_lt_zero j), fun _ _ _ => rfl⟩
  dsimp only at z1 z2
  rw [e4, bd_ok]
  refine ⟨s4, rfl, by omega, fun z hz => ?_, fun j hj hj2 => ?_, fun i hi => ?_, fun x k q1 q2 q3 q4 => ?_, fun j hj hj2 => ?_⟩
  · obtain ⟨a, _, _⟩ := hy z hz
    rw [z2 _ _ (by omega)]; exact w1 z hz
  · have h1 := nu_inj (gl := gl) (H := catX (hds Hd) 6) hj2 hj
    rw [z1 _ (by omega), w2 _ _ (by omega) (by omega), p2 _ _ (by omega)]; exact g2 j hj hj2
  · rw [show 7527 + nu gl (catX (hds Hd) 6) n + i = 7527 + (nu gl (catX (hds Hd) 6) n + i) by omega, z1 _ (by omega), w2 _ _ (by omega) (by omega)]; exact p1 i hi
  · rw [z2 _ _ q2, w2 _ _ q1 q4, f2 _ _ q3]
  · rw [z2 _ _ (by omega), w3 j hj2, f2 _ _ (by omega)]
end SH
end
section
/-! the reference's mill -/
/-- the records of a run, as they stand -/
def cnt (F : Nat → Nat) (n : Nat) (ro : Nat → Nat) (q : Rn) : List Nat := (lst F n q.2).filter (fun x => q.1.contains (ro x))
theorem cnt_mem {F : Nat → Nat} {n : Nat} {ro : Nat → Nat} {q : Rn} {x : Nat} : x ∈ cnt F n ro q ↔ x < n ∧ ro x ∈ q.1 := by
  unfold cnt
  simp [List.mem_filter, lst_mem]
theorem cnt_srt {F : Nat → Nat} {n : Nat} {ro : Nat → Nat} {q : Rn} : (cnt F n ro q).Pairwise (bet F q.2) := lst_srt.filter _
theorem lst_cnt {F : Nat → Nat} {n : Nat} {f : Bool} {p : Nat → Bool} : (lst F n f).countP p = (rs F n).countP p := by
  unfold lst; cases f
  · rfl
  · simp [List.countP_reverse]
/-- how many records each that grew has -/
def Gln (F : Nat → Nat) (n : Nat) (ro gl : Nat → Nat) (nr : Nat) : Prop := (∀ j, j < nr → (rs F n).countP (fun x => ro x == j) = gl j ∧ 0 < gl j) ∧ ∀ x, x < n → ro x < nr
theorem cp_or {l : List Nat} {p q : Nat → Bool} (h : ∀ x, ¬ (p x = true ∧ q x = true)) : l.countP (fun x => p x || q x) = l.countP p + l.countP q := by
  induction l with
  | nil => rfl
  | cons a l ih =>
    simp only [List.countP_cons]
    rw [ih]
    have := h a
    cases hp : p a <;> cases hq : q a <;> simp [hp, hq] at this ⊢ <;> omega
theorem cnt_len {F : Nat → Nat} {n : Nat} {ro gl : Nat → Nat} {nr : Nat} (hg : Gln F n ro gl nr) {q : Rn} (hnd : q.1.Nodup) (hlt : ∀ j, j ∈ q.1 → j < nr) : (cnt F n ro q).length = szl gl q.1 := by
  unfold cnt
  rw [← List.countP_eq_length_filter, lst_cnt]
  have : ∀ l : List Nat, l.Nodup → (∀ j, j ∈ l → j < nr) → (rs F n).countP (fun x => l.contains (ro x)) = szl gl l := by
    intro l
    induction l with
    | nil => intro _ _; simp [szl]
    | cons a l ih =>
      intro h1 h2
      obtain ⟨h3, h4⟩ := List.nodup_cons.mp h1
      have e : (fun x => (a :: l).contains (ro x)) = fun x => (ro x == a) || l.contains (ro x) := by funext x; rw [List.contains_cons]
      rw [e, cp_or (p := fun x => ro x == a) (q := fun x => l.contains (ro x)), (hg.1 a (h2 a List.mem_cons_self)).1, ih h4 (fun j hj => h2 j (List.mem_cons_of_mem _ hj))]
      · rfl
      · rintro x ⟨q1, q2⟩
        simp only [beq_iff_eq] at q1
        simp only [List.contains_iff_mem] at q2
        rw [q1] at q2
        exact h3 q2
  exact this q.1 hnd hlt
theorem szl_zero {F : Nat → Nat} {n : Nat} {ro gl : Nat → Nat} {nr : Nat} (hg : Gln F n ro gl nr) {l : List Nat} (hlt : ∀ j, j ∈ l → j < nr) : szl gl l = 0 ↔ l = [] := by
  cases l with
  | nil => simp [szl]
  | cons a l => have := (hg.1 a (hlt a List.mem_cons_self)).2; simp only [szl]; constructor <;> intro h; · omega
                · cases h
def DD (σ : Sg) (F : Nat → Nat) (n : Nat) (ro gl : Nat → Nat) (z : Dn) : Prop := z.1 < 700 ∧ gi σ 396 (1227 + z.1) = nI z.2.1 ∧ gi σ 396 (1927 + z.1) = nI (zz gl z) ∧ gi σ 396 (2627 + z.1) = bI z.2.2.2 ∧ z.2.1 + zz gl z ≤ n ∧ ∀ i, i < zz gl z → gi σ 396 (7527 + z.2.1 + i) = nI ((cnt F n ro z.2.2).getD i 0)
/-- settings and records in the reference's row -/
def SR (σ : Sg) (F : Nat → Nat) (n w T : Nat) (bk : Bool) : Prop := gi σ 396 0 = nI n ∧ gi σ 396 2 = nI T ∧ gi σ 396 3 = nI w ∧ gi σ 396 5 = nI (if bk then 1 else 0) ∧ ∀ i, i < n → gi σ 396 (26 + i) = nI (F i)
def Xm (X : Nat → List Dn) (tp : Nat → List Rn) : Prop := ∀ t, (X t).map (fun z => z.2.2) = tp t
/-- runs on the tapes, with their places -/
def RX (σ : Sg) (F : Nat → Nat) (n : Nat) (ro gl : Nat → Nat) (X : Nat → List Dn) : Prop := XT σ X ∧ (∀ z, z ∈ catX X 6 → DD σ F n ro gl z) ∧ (catX X 6).Pairwise (apt gl)
def RMm (σ : Sg) (F : Nat → Nat) (n : Nat) (ro gl : Nat → Nat) (w T : Nat) (bk : Bool) (A : Mi) : Prop := SR σ F n w T bk ∧ (∃ X, Xm X (mT A) ∧ RX σ F n ro gl X) ∧ MKm σ w T (mK A) ∧ gi σ 396 9 = nI (mMo A) ∧ gi σ 396 10 = nI (mSt A) ∧ gi σ 396 11 = nI (mPh A) ∧ gi σ 396 12 = nI (mTu A)
/-- what is given all along -/
def GV (F : Nat → Nat) (n : Nat) (ro gl : Nat → Nat) (nr : Nat) : Prop := n ≤ 300 ∧ (∀ i, i < n → F i < 256) ∧ Gln F n ro gl nr
theorem xm_len {X : Nat → List Dn} {tp : Nat → List Rn} (h : Xm X tp) (t : Nat) : (X t).length = (tp t).length := by rw [← h t, List.length_map]
theorem xm_nil {X : Nat → List Dn} {tp : Nat → List Rn} (h : Xm X tp) {t : Nat} (ht : tp t = []) : X t = [] := List.eq_nil_of_length_eq_zero (by rw [xm_len h, ht]; rfl)
theorem catX_ext {α : Type} {X : Nat → List α} {m : Nat} : ∀ {n : Nat}, m ≤ n → (∀ t, m ≤ t → t < n → X t = []) → catX X n = catX X m
  | 0, h, _ => by rw [show m = 0 by omega]
  | n + 1, h, hx => by
    by_cases hm : m = n + 1
    · rw [hm]
    · show catX X n ++ X n = _
      rw [hx n (by omega) (by omega), List.append_nil, catX_ext (by omega) (fun t h1 h2 => hx t h1 (by omega))]
theorem oc_nd {T nr : Nat} {tp : Nat → List Rn} (h : Oc T nr tp) {t : Nat} {r : Rn} (ht : t < T) (hr : r ∈ tp t) : r.1.Nodup := by
  rw [List.nodup_iff_count]
  intro j
  have h1 := h j
  have h3 : occL j (tp t) ≤ sumF (fun t => occL j (tp t)) T := sumF_pos (f := fun t => occL j (tp t)) ht
  have h4 : ∀ l : List Rn, r ∈ l → r.1.count j ≤ occL j l := by
    intro l
    induction l with
    | nil => intro h; cases h
    | cons a l ih =>
      intro h
      show _ ≤ a.1.count j + occL j l
      rcases List.mem_cons.mp h with rfl | h
      · omega
      · have := ih h; omega
  have := h4 _ hr
  split at h1 <;> omega
section ML
variable {E : En} {σ : Sg} {F : Nat → Nat} {n nr w T : Nat} {ro gl : Nat → Nat} {bk : Bool} {A : Mi}
theorem m_isBack (hM : LMod E) (hM2 : LMo2 E) (h5 : gi σ 396 5 = nI (if bk then 1 else 0)) : fX7_isBack E 395 σ = some (bI bk, σ) := by
  unfold fX7_isBack
  rw [tk_ok hM.1, dr_ok hM.2.1 hM2.1.1, hM2.1.2, i5, ck_n (by omega) (by omega), nI_clamp (by omega), h5]
  cases bk
  · rw [if_pos (by decide), bd_ok, kb_0]; rfl
  · rw [if_neg (by simp; rfl), bd_ok, kb_1]; rfl
theorem dd_fr {σ' : Sg} {z : Dn} (h : DD σ F n ro gl z) (h1 : gi σ' 396 (1227 + z.1) = gi σ 396 (1227 + z.1)) (h2 : gi σ' 396 (1927 + z.1) = gi σ 396 (1927 + z.1)) (h3 : gi σ' 396 (2627 + z.1) = gi σ 396 (2627 + z.1)) (h4 : ∀ i, i < zz gl z → gi σ' 396 (7527 + z.2.1 + i) = gi σ 396 (7527 + z.2.1 + i)) : DD σ' F n ro gl z := by
  obtain ⟨z1, z2, z3, z4, z5, z6⟩ := h
  exact ⟨z1, h1.trans z2, h2.trans z3, h3.trans z4, z5, fun i hi => (h4 i hi).trans (z6 i hi)⟩
theorem sr_fr {σ' : Sg} (h : SR σ F n w T bk) (hn : n ≤ 300) (hf : ∀ k, k = 0 ∨ k = 2 ∨ k = 3 ∨ k = 5 ∨ (26 ≤ k ∧ k < 326) → gi σ' 396 k = gi σ 396 k) : SR σ' F n w T bk := by
  obtain ⟨h1, h2, h3, h4, h5⟩ := h
  exact ⟨by rw [hf _ (by omega)]; exact h1, by rw [hf _ (by omega)]; exact h2, by rw [hf _ (by omega)]; exact h3, by rw [hf _ (by omega)]; exact h4, fun i hi => by rw [hf _ (by omega)]; exact h5 i hi⟩
theorem xm_ct {X : Nat → List Dn} (hT : T ≤ 6) (hx : XT σ X) (hm : Xm X (mT A)) (ha : AI T nr A) : CTm σ T (mK A) := fun t ht => by
  obtain ⟨x1, x2, x3⟩ := hx t (by omega)
  have h1 := ha.2.1 t ht
  have h2 := xm_len hm t
  rw [h1, ← h2]
  exact ⟨x1, x2⟩
theorem m_onAll (hM : LMod E) (hM2 : LMo2 E) (hT : T ≤ 6) (h2 : gi σ 396 2 = nI T) {s : Sk} (hc : CTm σ T s) : fX7_onAll E 395 σ = some (nI (lef T s), σ) := by
  unfold fX7_onAll
  rw [tk_ok hM.1]
  refine bd_tr ((nI (sumF (kc s) T), nI T), σ) T (fun i => ((nI (sumF (kc s) i), nI i), σ)) (by show T < 1000000; omega) (fun i rec hi => ?_) (fun rec => ?_) rfl
  · obtain ⟨c1, c2⟩ := hc i hi
    dsimp only
    unfold bX7_onAll_4
    rw [m_tapes hM hM2, bd_ok, h2, if_neg (nI_ge hi (by omega)), dr_ok hM.2.1 hM2.1.1, hM2.1.2, show (20 : Int32) = nI 20 from rfl, nI_add, ck_n (by omega) (by omega), nI_clamp (by omega), c1, nI_add, lt_ok, lt_ok, ad1]
    rfl
  · unfold bX7_onAll_4
    dsimp only
    rw [m_tapes hM hM2, bd_ok, h2, if_pos (nI_le (Nat.le_refl _) (by omega))]
theorem ct_lef {s : Sk} (hT : T ≤ 6) (hc : CTm σ T s) : lef T s ≤ 1536 := by
  have := lef_lt (T := T) (s := s) (c := 256) (fun t ht => (hc t ht).2)
  omega
/-- cells that steps leave alone -/
def esQ (x k : Nat) : Prop := (x ≠ 396 ∨ k < 7 ∨ k = 8 ∨ k = 14 ∨ k = 18 ∨ k = 19 ∨ (26 ≤ k ∧ k < 1227)) ∧ x ≠ 407 ∧ x ≠ 408 ∧ x ≠ 409
theorem m_looks (hM : LMod E) (hM2 : LMo2 E) (hg : GV F n ro gl nr) (hT : T ≤ 6) (ha : AI T nr A) (h : RMm σ F n ro gl w T bk A) : ∃ s, fX7_looksWhetherMerged E 395 σ = some s ∧ RMm s F n ro gl w T bk (tul gl T A) ∧ gi s 396 7 = (if lef T (mK A) = 1 then 3 else gi σ 396 7) ∧ ∀ x k, esQ x k → gi s x k = gi σ x k := by
  obtain ⟨hn, hF, hgl⟩ := hg
  obtain ⟨hs, ⟨X, hm, hx, hd, hp⟩, hk, t9, t10, t11, t12⟩ := id h
  obtain ⟨a1, a2, a3, a4⟩ := id ha
  have hc := xm_ct hT hx hm ha
  have hll := ct_lef hT hc
  obtain ⟨s0, s2, s3, s5, sk⟩ := id hs
  unfold fX7_looksWhetherMerged
  rw [tk_ok hM.1, m_onAll hM hM2 hT s2 hc, bd_ok]
  by_cases h1 : lef T (mK A) = 1
  · rw [if_pos (by rw [h1]; rfl), dr_ok hM.2.1 hM2.1.1, hM2.1.2, i7, ck_n (by omega) (by omega), nI_clamp (by omega), ss_ok]
    obtain ⟨e, q1, q2, q3⟩ := sum_one h1
    have hlen : (mT A e).length = 1 := by rw [← a2 e q1]; exact q2
    have hoth : ∀ t, t ≠ e → mT A t = [] := fun t ht => by
      by_cases htT : t < T
      · exact List.eq_nil_of_length_eq_zero (by rw [← a2 t htT]; exact q3 t htT ht)
      · exact a3 t (by omega)
    have hXe : ∃ z, X e = [z] := by
      have := xm_len hm e
      rw [hlen] at this
      cases hq : X e with
      | nil => rw [hq] at this; simp at this
      | cons z l => rw [hq] at this; cases l with
        | nil => exact ⟨z, rfl⟩
        | cons _ _ => simp at this
    obtain ⟨z, hz⟩ := hXe
    have hXo : ∀ t, t ≠ e → X t = [] := fun t ht => xm_nil hm (hoth t ht)
    have hme : mT A e = [z.2.2] := by rw [← hm e, hz]; rfl
    have hzin : z ∈ catX X 6 := catX_mem.mpr ⟨e, by omega, by rw [hz]; simp⟩
    obtain ⟨z1, z2, z3, z4, z5, z6⟩ := hd z hzin
    have hloop : ∀ s' : Sg, (∀ k, k ≠ 7 → gi s' 396 k = gi σ 396 k) → fx (fun rec a => bX7_looksWhetherMerged_19 E 396 (fun u0 t => rec (u0, t)) a.1 a.2) FU ((0 : Int32), s') = some (nI e, s') := fun s' hs' => by
      refine for_tr e (fun i => (nI i, s')) (by show e < 1000000; omega) (fun i rec hi => ?_) (fun rec => ?_) rfl
      · obtain ⟨x1, x2, x3⟩ := hx i (by omega)
        rw [hXo i (by omega)] at x1
        dsimp only
        unfold bX7_looksWhetherMerged_19
        rw [hM2.1.2, show (20 : Int32) = nI 20 from rfl, nI_add, ck_n (by omega) (by omega), nI_clamp (by omega), hs' _ (by omega), x1, if_neg (by simp; rfl), lt_ok, ad1]
      · obtain ⟨x1, x2, x3⟩ := hx e (by omega)
        rw [hz] at x1
        dsimp only
        unfold bX7_looksWhetherMerged_19
        rw [hM2.1.2, show (20 : Int32) = nI 20 from rfl, nI_add, ck_n (by omega) (by omega), nI_clamp (by omega), hs' _ (by omega), x1, if_pos (by simp; decide)]
    have hrun := (hx e (by omega)).2.2 0 (by rw [hz]; simp)
    rw [hz] at hrun
    have hrun : gi σ 396 (3327 + 700 * e + 0) = nI z.1 := hrun
    rw [hloop _ (fun k hk => gs_ne (by omega)), bd_ok, i0, m_runAt hM hM2 (by omega) (by omega), bd_ok, gs_ne (by omega), hrun, show (2627 : Int32) = nI 2627 from rfl, nI_add, ck_n (by omega) (by omega), nI_clamp (by omega), gs_ne (by omega), z4]
    have hsum : sumF (fun t => if (hdr (mT A t)).2 then szl gl (hdr (mT A t)).1 else 0) T = if z.2.2.2 then zz gl z else 0 := by
      have : ∀ m, m ≤ T → sumF (fun t => if (hdr (mT A t)).2 then szl gl (hdr (mT A t)).1 else 0) m = if e < m then (if z.2.2.2 then zz gl z else 0) else 0 := by
        intro m
        induction m with
        | zero => intro _; rfl
        | succ m ih =>
          intro hm'
          show sumF _ m + _ = _
          rw [ih (by omega)]
          dsimp only
          by_cases hne : m = e
          · subst hne; rw [hme, if_neg (show ¬ m < m by omega), if_pos (show m < m + 1 by omega)]; simp [zz]
          · rw [hoth m hne]
            by_cases hen : e < m
            · rw [if_pos hen, if_pos (show e < m + 1 by omega)]; simp
            · rw [if_neg hen, if_neg (show ¬ e < m + 1 by omega)]; simp
      rw [this T (Nat.le_refl _), if_pos q1]
    have hct : tul gl T A = (fun t => upr (mT A t), mK A, mMo A, mSt A, mPh A, mTu A + if z.2.2.2 then zz gl z else 0) := by unfold tul; rw [if_pos h1, hsum]
    -- the new decoration
    have fin : ∀ s' : Sg, (∀ k, k ≠ 7 → k ≠ 12 → k ≠ 2627 + z.1 → ¬ (7527 ≤ k ∧ k < 7827) → gi s' 396 k = gi σ 396 k) → gi s' 396 (2627 + z.1) = bI false → gi s' 396 12 = nI (mTu A + if z.2.2.2 then zz gl z else 0) → (∀ i, i < zz gl z → gi s' 396 (7527 + z.2.1 + i) = nI ((cnt F n ro (z.2.2.1, false)).getD i 0)) → RMm s' F n ro gl w T bk (tul gl T A) := by
      intro s' f1 f2 f3 f4
      rw [hct]
      refine ⟨sr_fr hs hn (fun k hk => f1 k (by omega) (by omega) (by omega) (by omega)), ⟨fun t => (X t).map (fun y => (y.1, y.2.1, y.2.2.1, false)), fun t => ?_, fun t ht => ?_, fun y hy => ?_, ?_⟩, mk_fr hk (fun k hk => f1 k (by omega) (by omega) (by omega) (by omega)), ?_, ?_, ?_, f3⟩
      · show _ = upr (mT A t)
        rw [← hm t]
        unfold upr
        rw [List.map_map, List.map_map]; rfl
      · obtain ⟨x1, x2, x3⟩ := hx t ht
        dsimp only
        rw [List.length_map]
        refine ⟨by rw [f1 _ (by omega) (by omega) (by omega) (by omega)]; exact x1, x2, fun k hk => ?_⟩
        rw [f1 _ (by omega) (by omega) (by omega) (by omega), x3 k hk, List.getD_eq_getElem?_getD, List.getD_eq_getElem?_getD, List.getElem?_map, List.getElem?_eq_getElem hk]; rfl
      · obtain ⟨t, ht, hyt⟩ := catX_mem.mp hy
        obtain ⟨y', hy', rfl⟩ := List.mem_map.mp hyt
        have hte : t = e := Decidable.byContradiction (fun hne => by rw [hXo t hne] at hy'; cases hy')
        subst hte
        rw [hz] at hy'
        rw [List.mem_singleton.mp hy']
        exact ⟨z1, by rw [f1 _ (by omega) (by omega) (by omega) (by omega)]; exact z2, by rw [f1 _ (by omega) (by omega) (by omega) (by omega)]; exact z3, f2, z5, f4⟩
      · have e1 : catX (fun t => (X t).map (fun y => ((y.1, y.2.1, y.2.2.1, false) : Dn))) 6 = (catX X 6).map (fun y => (y.1, y.2.1, y.2.2.1, false)) := by
          have : ∀ m, catX (fun t => (X t).map (fun y => ((y.1, y.2.1, y.2.2.1, false) : Dn))) m = (catX X m).map (fun y => (y.1, y.2.1, y.2.2.1, false)) := by
            intro m
            induction m with
            | zero => rfl
            | succ m ih => show _ ++ _ = (catX X m ++ X m).map _; rw [ih, List.map_append]
          exact this 6
        rw [e1, List.pairwise_map]
        exact hp
      · rw [f1 _ (by omega) (by omega) (by omega) (by omega)]; exact t9
      · rw [f1 _ (by omega) (by omega) (by omega) (by omega)]; exact t10
      · rw [f1 _ (by omega) (by omega) (by omega) (by omega)]; exact t11
    rw [if_pos h1]
    cases hdn : z.2.2.2 with
    | false =>
      rw [if_pos (by decide), bd_ok]
      refine ⟨_, rfl, fin _ (fun k k1 _ _ _ => gs_ne (by omega)) (by rw [gs_ne (by omega), z4, hdn]) (by rw [gs_ne (by omega), hdn]; exact t12) (fun i hi => ?_), gs_eq, fun x k he => gs_ne (by unfold esQ at he; omega)⟩
      rw [gs_ne (by omega), z6 i hi]
      congr 3
      rw [← hdn]
    | true =>
      rw [hdn] at fin
      rw [if_neg (by simp; rfl), show (12 : Int32) = nI 12 from rfl, ck_n (by omega) (by omega), show (1927 : Int32) = nI 1927 from rfl, nI_add, ck_n (by omega) (by omega), ck_n (by omega) (by omega), nI_clamp (by omega), nI_clamp (by omega), gs_ne (by omega), gs_ne (by omega), t12, z3, nI_add, ss_ok, ck_n (by omega) (by omega), ss_ok, show (1227 : Int32) = nI 1227 from rfl, nI_add, ck_n (by omega) (by omega), ck_n (by omega) (by omega), nI_clamp (by omega)]
      generalize hs2 : si (si (si σ 396 7 3) 396 12 (nI (mTu A + zz gl z))) 396 (2627 + z.1) (nI 0) = s4
      have f4 : ∀ x k, ¬ (x = 396 ∧ (k = 7 ∨ k = 12 ∨ k = 2627 + z.1)) → gi s4 x k = gi σ x k := fun x k q => by rw [← hs2, gs_ne (by omega), gs_ne (by omega), gs_ne (by omega)]
      have g7 : gi s4 396 7 = 3 := by rw [← hs2, gs_ne (by omega), gs_ne (by omega), gs_eq]
      have g12 : gi s4 396 12 = nI (mTu A + zz gl z) := by rw [← hs2, gs_ne (by omega), gs_eq]
      have g26 : gi s4 396 (2627 + z.1) = bI false := by rw [← hs2, gs_eq]; rfl
      have hzT : z.2.2 ∈ mT A e := by rw [hme]; simp
      have hcl := cnt_len (q := z.2.2) hgl (oc_nd a1 q1 hzT) (fun j hj => oc_lt a1 q1 hzT hj)
      have hcl : (cnt F n ro z.2.2).length = zz gl z := hcl
      rw [f4 _ _ (by omega), z2, f4 _ _ (by omega), z3, ← hcl]
      obtain ⟨s5', e5, ⟨L', l1, l2, l3⟩, f5⟩ := m_sorts (σ := s4) (first := z.2.1) (rising := true) (L := cnt F n ro z.2.2) hM hM2 hn (fun i hi => by rw [f4 _ _ (by omega)]; exact sk i hi) hF (fun x hx => (cnt_mem.mp hx).1) (bet_nodup cnt_srt) (by omega) (fun i hi => by rw [f4 _ _ (by omega)]; exact z6 i (by omega))
      rw [show (1 : Int32) = bI true from rfl, e5, bv_ok, bd_ok]
      have hL' : L' = cnt F n ro (z.2.2.1, false) := srt_uniq (F := F) (f := false) l2 (cnt_srt (q := (z.2.2.1, false))) (fun x => by rw [l1.mem_iff, cnt_mem, cnt_mem])
      refine ⟨s5', rfl, fin s5' (fun k k1 k2 k3 k4 => by rw [f5 _ _ (by omega), f4 _ _ (by omega)]) (by rw [f5 _ _ (by omega)]; exact g26) (by rw [f5 _ _ (by omega)]; exact g12) (fun i hi => by rw [l3 i (by omega), hL']), by rw [f5 _ _ (by omega)]; exact g7, fun x k he => by unfold esQ at he; rw [f5 _ _ (by omega), f4 _ _ (by omega)]⟩
  · rw [i1, if_neg (fun q => h1 ((nI_eq (by omega) (by omega)).mp q)), if_neg h1]
    refine ⟨σ, rfl, ?_, rfl, fun _ _ _ => rfl⟩
    unfold tul
    rw [if_neg h1]
    exact h
end ML
end
section
/-! what the reference's step takes -/
def gT (w T : Nat) (s : Sk) (t : Nat) : Bool := decide (t < T) && gvf w (T / 2) s t
/-- the runs that are taken -/
def hdO (g : Nat → Bool) (X : Nat → List Dn) (t : Nat) : Option Dn := if g t then some ((X t).getD 0 d0) else none
def rsg (bk : Bool) : Option Bool → Bool
  | none => true
  | some d => !bk || d
theorem ldF_6 {w T : Nat} {s : Sk} {tp : Nat → List Rn} (hT : T ≤ 6) : ldF (gT w T s) tp 6 = ldF (gvf w (T / 2) s) tp T := by
  unfold ldF
  rw [fstF_ext hT (fun t h1 h2 => by unfold gT; rw [decide_eq_false (by omega)]; rfl)]
  exact fstF_congr (fun t ht => by unfold gT; rw [decide_eq_true ht, Bool.true_and])
theorem catF_6 {w T : Nat} {s : Sk} {tp : Nat → List Rn} (hT : T ≤ 6) : catF (gT w T s) tp 6 = catF (gvf w (T / 2) s) tp T := by
  have h1 : ∀ m, m ≤ T → catF (gT w T s) tp m = catF (gvf w (T / 2) s) tp m := by
    intro m
    induction m with
    | zero => intro _; rfl
    | succ m ih => intro hm; show catF _ tp m ++ _ = catF _ tp m ++ _; rw [ih (by omega)]; unfold gT; rw [decide_eq_true (show m < T by omega), Bool.true_and]
  have h2 : ∀ m, T ≤ m → catF (gT w T s) tp m = catF (gT w T s) tp T := by
    intro m
    induction m with
    | zero => intro h; rw [show T = 0 by omega]
    | succ m ih =>
      intro h
      by_cases hq : T = m + 1
      · rw [hq]
      · show catF _ tp m ++ _ = _
        rw [ih (by omega)]; unfold gT; rw [decide_eq_false (show ¬ m < T by omega), Bool.false_and]; simp
  rw [h2 6 hT, h1 T (Nat.le_refl _)]
theorem sumF_6 {w T : Nat} {s : Sk} {tp : Nat → List Rn} {gl : Nat → Nat} {d : Bool} (hT : T ≤ 6) : sumF (tuF gl (gT w T s) tp d) 6 = sumF (tuF gl (gvf w (T / 2) s) tp d) T := by
  have h1 : sumF (tuF gl (gT w T s) tp d) T = sumF (tuF gl (gvf w (T / 2) s) tp d) T := sumF_congr (fun t ht => by unfold tuF gT; rw [decide_eq_true ht, Bool.true_and])
  have h2 : ∀ m, T ≤ m → sumF (tuF gl (gT w T s) tp d) m = sumF (tuF gl (gT w T s) tp d) T := by
    intro m
    induction m with
    | zero => intro h; rw [show T = 0 by omega]
    | succ m ih =>
      intro h
      by_cases hq : T = m + 1
      · rw [hq]
      · show sumF _ m + _ = _
        rw [ih (by omega)]; unfold tuF gT; rw [decide_eq_false (show ¬ m < T by omega), Bool.false_and]; simp
  rw [h2 6 hT, h1]
section TK
variable {E : En} {σ : Sg} {F : Nat → Nat} {n nr w T : Nat} {ro gl : Nat → Nat} {bk : Bool} {A : Mi} {X : Nat → List Dn}
theorem hd_run (hm : Xm X (mT A)) (ha : AI T nr A) {t : Nat} (hg : gT w T (mK A) t = true) : t < T ∧ ∃ l, X t = (X t).getD 0 d0 :: l ∧ ((X t).getD 0 d0).2.2 = hdr (mT A t) ∧ 0 < (mT A t).length := by
  unfold gT at hg
  simp only [Bool.and_eq_true, decide_eq_true_eq] at hg
  have h1 := (gv_fl hg.2).2
  rw [ha.2.1 t hg.1] at h1
  refine ⟨hg.1, ?_⟩
  cases hq : X t with
  | nil => have := xm_len hm t; rw [hq] at this; simp at this; omega
  | cons z l => exact ⟨l, rfl, by rw [← hm t, hq]; rfl, h1⟩
theorem m_laysTaken (hM : LMod E) (hM2 : LMo2 E) (hg : GV F n ro gl nr) (hT : T ≤ 6) (hT3 : 3 ≤ T) (hw : w ≤ 2) (ha : AI T nr A) (hok : oks w T (T / 2) (mK A) = true) (hs : SR σ F n w T bk) (hm : Xm X (mT A)) (hx : RX σ F n ro gl X) (hk : MKm σ w T (mK A)) :
    ∃ s, fX7_laysTaken E 395 σ = some (bI (rsg bk (ldD (gvf w (T / 2) (mK A)) (mT A) T)), s) ∧ (∀ t, t < 6 → gi s 407 t = tkO (hdO (gT w T (mK A)) X t)) ∧ ∀ x k, x ≠ 407 → gi s x k = gi σ x k := by
  obtain ⟨m0, m1, m2, m3, m4, m5, m6, m7, m8, m9, m10, m11, m12, m13, mz⟩ := id hM
  obtain ⟨n1, n2, n3, n4, n5, n6, n7, n8, n9, n10, n11, n12, n13, nz⟩ := id hM2
  obtain ⟨hn, hF, hgl⟩ := hg
  obtain ⟨o1, o2, o3, o4, o5⟩ := oks_un hok
  obtain ⟨hx1, hx2, hx3⟩ := hx
  have hc := xm_ct hT hx1 hm ha
  unfold fX7_laysTaken
  rw [tk_ok m0]
  generalize hgd : gT w T (mK A) = g
  have hgr : ∀ t, g t = true → t < T ∧ ∃ l, X t = (X t).getD 0 d0 :: l ∧ ((X t).getD 0 d0).2.2 = hdr (mT A t) ∧ 0 < (mT A t).length := fun t q => hd_run hm ha (by rw [hgd]; exact q)
  have eld : ldD (gvf w (T / 2) (mK A)) (mT A) T = ldD g (mT A) 6 := by unfold ldD; rw [← hgd, ldF_6 hT]
  rw [eld]
  obtain ⟨⟨⟨u, v, y⟩, s⟩, e, q1, q2, q3⟩ := for_in (F := fun (rec : (Int32 × Int32 × Int32) × Sg → Option ((Int32 × Int32 × Int32) × Sg)) (a : (Int32 × Int32 × Int32) × Sg) => bX7_laysTaken_6 E 395 (fun u0 u1 u2 t => rec ((u0, u1, u2), t)) a.1.1 a.1.2.1 a.1.2.2 a.2) 6
    (fun i b => b.1 = (bI (rsg bk (ldD g (mT A) i)), bI (ldF g (mT A) i).isNone, nI i) ∧ (∀ t, t < i → gi b.2 407 t = tkO (hdO g X t)) ∧ ∀ x k, x ≠ 407 → gi b.2 x k = gi σ x k)
    (fun b => b.1.1 = bI (rsg bk (ldD g (mT A) 6)) ∧ (∀ t, t < 6 → gi b.2 407 t = tkO (hdO g X t)) ∧ ∀ x k, x ≠ 407 → gi b.2 x k = gi σ x k) (N := FU) (by show 6 < 1000000; omega)
    (by
      rintro i ⟨⟨u, v, y⟩, s⟩ rec hi ⟨q1, q2, q3⟩
      dsimp only at q1 q2 q3 ⊢
      injection q1 with q1 q1'
      injection q1' with q1' q1''
      subst q1; subst q1'; subst q1''
      have hgi : fX7_doesGive E 395 (nI i) s = some (bI (g i), s) := by
        rw [← hgd]
        exact m_gives hM hM2 (mk_fr hk (fun k _ => q3 _ _ (by omega))) (ct_fr hc hT (fun k _ _ => q3 _ _ (by omega))) hT hT3 hw o2 o3 o5 hi
      have hl1 : ldF g (mT A) (i + 1) = match ldF g (mT A) i with | some x => some x | none => if (g i && !(hdr (mT A i)).1.isEmpty) = true then some i else none := rfl
      have fin : ∀ (s' : Sg) (u v : Int32), (∀ t, t < i + 1 → gi s' 407 t = tkO (hdO g X t)) → (∀ x k, x ≠ 407 → gi s' x k = gi σ x k) → (u, v) = (bI (rsg bk (ldD g (mT A) (i + 1))), bI (ldF g (mT A) (i + 1)).isNone) → ∃ a', rec ((u, v, nI i + 1), s') = rec a' ∧ (a'.1 = (bI (rsg bk (ldD g (mT A) (i + 1))), bI (ldF g (mT A) (i + 1)).isNone, nI (i + 1)) ∧ (∀ t, t < i + 1 → gi a'.2 407 t = tkO (hdO g X t)) ∧ ∀ x k, x ≠ 407 → gi a'.2 x k = gi σ x k) := by
        intro s' u v h1 h2 h3
        injection h3 with h3 h4
        subst h3; subst h4
        exact ⟨_, rfl, by dsimp only; rw [ad1], h1, h2⟩
      unfold bX7_laysTaken_6
      rw [i6, if_neg (nI_ge hi (by omega)), dr_ok m12 n12.1, hgi, bd_ok, n12.2]
      cases hgi' : g i with
      | false =>
        have ho : hdO g X i = none := by unfold hdO; rw [hgi']; rfl
        have hl2 : ldF g (mT A) (i + 1) = ldF g (mT A) i := by
          rw [hl1, hgi']
          cases ldF g (mT A) i <;> rfl
        rw [if_pos (by rfl), bd_ok, ck_n (by omega) (by omega), nI_clamp (by omega), ss_ok, ck_n (by omega) (by omega), gs_eq, if_pos rfl, bd_ok, lt_ok]
        refine fin _ _ _ (fun t ht => ?_) (fun x k hx => by rw [gs_ne (by omega)]; exact q3 x k hx) (by unfold ldD; rw [hl2])
        by_cases hti : t = i
        · subst hti; rw [gs_eq, ho]; rfl
        · rw [gs_ne (by omega)]; exact q2 t (by omega)
      | true =>
        obtain ⟨hiT, l, hXi, hrn, hpos⟩ := hgr i hgi'
        generalize hz : (X i).getD 0 d0 = z at *
        have ho : hdO g X i = some z := by unfold hdO; rw [hgi', hz]; rfl
        have hzin : z ∈ catX X 6 := catX_mem.mpr ⟨i, hi, by rw [hXi]; simp⟩
        obtain ⟨z1, z2, z3, z4, z5, z6⟩ := hx2 z hzin
        have hrt := (hx1 i hi).2.2 0 (by rw [hXi]; simp)
        rw [hz] at hrt
        have hzr : z.2.2 ∈ mT A i := by rw [hrn]; exact hdr_mem hpos
        have hzl : ∀ j, j ∈ z.2.2.1 → j < nr := fun j hj => oc_lt ha.1 hiT hzr hj
        have hsz : zz gl z = 0 ↔ z.2.2.1 = [] := szl_zero hgl hzl
        have hszn : zz gl z < 2 ^ 31 := by omega
        rw [if_neg (by decide), i0, m_runAt hM hM2 hi (by omega), bd_ok, bd_ok, q3 _ _ (by omega), hrt, ck_n (by omega) (by omega), nI_clamp (by omega), ss_ok, ck_n (by omega) (by omega), gs_eq, if_neg (nI_nm1 (by omega)), dr_ok m1 n1.1, n1.2, ck_n (by omega) (by omega), show (1927 : Int32) = nI 1927 from rfl, nI_add, ck_n (by omega) (by omega), nI_clamp (by omega), gs_ne (by omega), q3 _ _ (by omega), z3]
        have h407 : ∀ t, t < i + 1 → gi (si s 407 i (nI z.1)) 407 t = tkO (hdO g X t) := fun t ht => by
          by_cases hti : t = i
          · subst hti; rw [gs_eq, ho]; rfl
          · rw [gs_ne (by omega)]; exact q2 t (by omega)
        have hfr : ∀ x k, x ≠ 407 → gi (si s 407 i (nI z.1)) x k = gi σ x k := fun x k hx => by rw [gs_ne (by omega)]; exact q3 x k hx
        by_cases h0 : zz gl z = 0
        · have hl2 : ldF g (mT A) (i + 1) = ldF g (mT A) i := by
            rw [hl1, ← hrn, hsz.mp h0]
            cases ldF g (mT A) i <;> simp
          rw [h0, if_pos (show nI 0 ≤ nI 0 by decide), bd_ok, lt_ok]
          exact fin _ _ _ h407 hfr (by unfold ldD; rw [hl2])
        · rw [if_neg (show ¬ nI (zz gl z) ≤ nI 0 from nI_nle (by omega) hszn)]
          have hne : (hdr (mT A i)).1.isEmpty = false := by
            rw [← hrn]
            cases hq : z.2.2.1 with
            | nil => exact absurd (hsz.mpr hq) h0
            | cons _ _ => rfl
          cases hlf : ldF g (mT A) i with
          | some t' =>
            have hl2 : ldF g (mT A) (i + 1) = ldF g (mT A) i := by rw [hl1, hlf]
            rw [hlf] at hl2
            rw [if_pos (by rfl), bd_ok, lt_ok]
            exact fin _ _ _ h407 hfr (by unfold ldD; rw [hl2, hlf])
          | none =>
            have hl2 : ldF g (mT A) (i + 1) = some i := by rw [hl1, hlf, hgi', hne]; rfl
            rw [if_neg (by decide), m_isBack hM hM2 (bk := bk) (by rw [hfr _ _ (by omega)]; exact hs.2.2.2.1), bd_ok]
            have hdd : ldD g (mT A) (i + 1) = some z.2.2.2 := by unfold ldD; rw [hl2, hrn]; rfl
            cases hbk : bk with
            | false =>
              rw [if_pos (by rfl), bd_ok, bd_ok, lt_ok]
              rw [hbk] at fin
              exact fin _ _ _ h407 hfr (by rw [hdd, hl2]; rfl)
            | true =>
              rw [hbk] at fin
              rw [if_neg (by decide), ck_n (by omega) (by omega), gs_eq, show (2627 : Int32) = nI 2627 from rfl, nI_add, ck_n (by omega) (by omega), nI_clamp (by omega), hfr _ _ (by omega), z4]
              have hw29 : (if ¬ bI z.2.2.2 = (1 : Int32) then (some ((nI 0), si s 407 i (nI z.1))) else (some ((1 : Int32), si s 407 i (nI z.1)))) = some (bI z.2.2.2, si s 407 i (nI z.1)) := by
                cases z.2.2.2 <;> rfl
              rw [hw29, bd_ok, bd_ok, lt_ok]
              exact fin _ _ _ h407 hfr (by rw [hdd, hl2]; rfl))
    (by
      rintro ⟨⟨u, v, y⟩, s⟩ rec ⟨q1, q2, q3⟩
      dsimp only at q1 q2 q3 ⊢
      injection q1 with q1 q1'
      injection q1' with q1' q1''
      subst q1; subst q1'; subst q1''
      unfold bX7_laysTaken_6
      rw [i6, if_pos (nI_le (Nat.le_refl _) (by omega))]
      exact ⟨_, rfl, rfl, q2, q3⟩)
    (a := (((1 : Int32), (1 : Int32), (0 : Int32)), σ)) ⟨rfl, fun t ht => absurd ht (Nat.not_lt_zero t), fun _ _ _ => rfl⟩
  dsimp only at q1 q2 q3
  subst q1
  rw [e, bd_ok, kb_b]
  exact ⟨s, rfl, q2, q3⟩
/-- what is left on the tapes -/
def lft (g : Nat → Bool) (X : Nat → List Dn) (t : Nat) : List Dn := if g t then (X t).tail else X t
theorem m_takeAll (hM : LMod E) (hM2 : LMo2 E) (hg : GV F n ro gl nr) (hT : T ≤ 6) (ha : AI T nr A) (hs : SR σ F n w T bk) (hm : Xm X (mT A)) (hx : RX σ F n ro gl X) (h407 : ∀ t, t < 6 → gi σ 407 t = tkO (hdO (gT w T (mK A)) X t)) {tu : Nat} (h12 : gi σ 396 12 = nI tu) {ld : Option Bool} (hld : ld = none → ∀ t, t < 6 → gT w T (mK A) t = true → (hdr (mT A t)).1 = []) :
    ∃ b, fx (fun rec a => bX7_steps_12 E 395 (bI (rsg bk ld)) (fun u0 u1 u2 t => rec ((u0, u1, u2), t)) a.1.1 a.1.2.1 a.1.2.2 a.2) FU (((0 : Int32), (-1 : Int32), (0 : Int32)), σ) = some b ∧ (b.1.1 = nI (szl gl (catF (gT w T (mK A)) (mT A) 6)) ∧ (∀ e, fstF (gT w T (mK A)) 6 = some e → b.1.2.1 = nI ((X e).getD 0 d0).1) ∧ gi b.2 396 12 = nI (tu + sumF (tuF gl (gT w T (mK A)) (mT A) (bk && (ld == some true))) 6) ∧ XT b.2 (lft (gT w T (mK A)) X) ∧ ∀ x k, ¬ (x = 396 ∧ (k = 12 ∨ (20 ≤ k ∧ k < 26) ∨ (3327 ≤ k ∧ k < 7527))) → gi b.2 x k = gi σ x k) := by
  obtain ⟨m0, m1, m2, m3, m4, m5, m6, m7, m8, m9, m10, m11, m12, m13, mz⟩ := id hM
  obtain ⟨n1, n2, n3, n4, n5, n6, n7, n8, n9, n10, n11, n12, n13, nz⟩ := id hM2
  obtain ⟨hn, hF, hgl⟩ := hg
  obtain ⟨hx1, hx2, hx3⟩ := hx
  generalize hgd : gT w T (mK A) = g at *
  have hgr : ∀ t, g t = true → t < T ∧ ∃ l, X t = (X t).getD 0 d0 :: l ∧ ((X t).getD 0 d0).2.2 = hdr (mT A t) ∧ 0 < (mT A t).length := fun t q => hd_run hm ha (by rw [hgd]; exact q)
  refine for_in 6 (fun i b => b.1.1 = nI (szl gl (catF g (mT A) i)) ∧ b.1.2.1 = (match fstF g i with | none => -1 | some e => nI ((X e).getD 0 d0).1) ∧ b.1.2.2 = nI i ∧ gi b.2 396 12 = nI (tu + sumF (tuF gl g (mT A) (bk && (ld == some true))) i) ∧ XT b.2 (fun t => if t < i then lft g X t else X t) ∧ ∀ x k, ¬ (x = 396 ∧ (k = 12 ∨ (20 ≤ k ∧ k < 26) ∨ (3327 ≤ k ∧ k < 7527))) → gi b.2 x k = gi σ x k) _ (by show 6 < 1000000; omega) ?_ ?_ ⟨rfl, rfl, rfl, h12, fun t ht => ?_, fun _ _ _ => rfl⟩
  · rintro i ⟨⟨u, v, y⟩, s⟩ rec hi ⟨q1, q2, q3, q4, q5, q6⟩
    dsimp only at q1 q2 q3 q4 q5 q6 ⊢
    subst q1; subst q2; subst q3
    have hf1 : fstF g (i + 1) = match fstF g i with | some x => some x | none => if g i then some i else none := rfl
    unfold bX7_steps_12
    rw [i6, if_neg (nI_ge hi (by omega)), dr_ok m12 n12.1, n12.2, ck_n (by omega) (by omega), nI_clamp (by omega), q6 407 i (by omega), h407 i hi]
    cases hgi' : g i with
    | false =>
      have ho : hdO g X i = none := by unfold hdO; rw [hgi']; rfl
      rw [ho, show tkO none = -1 from rfl, if_pos rfl, bd_ok, lt_ok, ad1]
      refine ⟨_, rfl, ?_, ?_, rfl, ?_, fun t ht => ?_, q6⟩
      · dsimp only; show _ = nI (szl gl (catF g (mT A) i ++ (if g i then _ else []))); rw [hgi']; simp
      · dsimp only; rw [hf1, hgi']; cases fstF g i <;> rfl
      · dsimp only; rw [q4]; show _ = nI (tu + (sumF _ i + tuF gl g (mT A) _ i)); unfold tuF; rw [hgi']; rfl
      · have := q5 t ht
        dsimp only at this ⊢
        by_cases hti : t = i
        · subst hti
          rw [if_neg (by omega)] at this
          rw [if_pos (by omega)]; unfold lft; rw [hgi', if_neg (by decide)]; exact this
        · rw [ifc (p := t < i + 1) (q := t < i) ⟨fun q => by omega, fun q => by omega⟩]; exact this
    | true =>
      obtain ⟨hiT, l, hXi, hrn, hpos⟩ := hgr i hgi'
      generalize hz : (X i).getD 0 d0 = z at *
      have ho : hdO g X i = some z := by unfold hdO; rw [hgi', hz]; rfl
      have hzin : z ∈ catX X 6 := catX_mem.mpr ⟨i, hi, by rw [hXi]; simp⟩
      obtain ⟨z1, z2, z3, z4, z5, z6⟩ := hx2 z hzin
      have hzr : z.2.2 ∈ mT A i := by rw [hrn]; exact hdr_mem hpos
      have hsz : zz gl z = 0 ↔ z.2.2.1 = [] := szl_zero hgl (fun j hj => oc_lt ha.1 hiT hzr hj)
      obtain ⟨s2, e2, x2, f2⟩ := m_takes (t := i) hM hM2 q5 hi (z := z) (l := l) (by rw [if_neg (by omega)]; exact hXi)
      have f2' : ∀ x k, ¬ (x = 396 ∧ ((20 ≤ k ∧ k < 26) ∨ (3327 ≤ k ∧ k < 7527))) → gi s2 x k = gi s x k := fun x k q => f2 x k (by omega)
      have h27 : gi s2 407 i = nI z.1 := by rw [f2' _ _ (by omega), q6 _ _ (by omega), h407 i hi, ho]; rfl
      have g19 : gi s2 396 (1927 + z.1) = nI (zz gl z) := by rw [f2' _ _ (by omega), q6 _ _ (by omega)]; exact z3
      have g26 : gi s2 396 (2627 + z.1) = bI z.2.2.2 := by rw [f2' _ _ (by omega), q6 _ _ (by omega)]; exact z4
      have g12 : gi s2 396 12 = nI (tu + sumF (tuF gl g (mT A) (bk && (ld == some true))) i) := by rw [f2' _ _ (by omega)]; exact q4
      rw [ho, show tkO (some z) = nI z.1 from rfl, if_neg (nI_nm1 (by omega)), e2, bd_ok, dr_ok m1 n1.1, n1.2, h27, ck_n (by omega) (by omega), show (1927 : Int32) = nI 1927 from rfl, nI_add, ck_n (by omega) (by omega), nI_clamp (by omega), g19, lt_ok, nI_add]
      have hinto : (if ¬ (match fstF g i with | none => (-1 : Int32) | some e => nI ((X e).getD 0 d0).1) = (-1 : Int32) then (some ((match fstF g i with | none => (-1 : Int32) | some e => nI ((X e).getD 0 d0).1), s2)) else (ck (nI i) 6 (some (nI z.1, s2)))) = some ((match fstF g (i + 1) with | none => (-1 : Int32) | some e => nI ((X e).getD 0 d0).1), s2) := by
        rw [hf1]
        cases hfs : fstF g i with
        | some e =>
          obtain ⟨w1, w2, w3⟩ := fstF_some hfs
          obtain ⟨_, l', hXe, _, _⟩ := hgr e w2
          have := (hx2 _ (catX_mem.mpr ⟨e, by omega, by rw [hXe]; simp⟩ : (X e).getD 0 d0 ∈ catX X 6)).1
          dsimp only
          rw [if_pos (nI_nm1 (by omega))]
        | none =>
          dsimp only
          rw [if_neg (by simp), ck_n (by omega) (by omega), hgi', if_pos rfl]
          show some (nI z.1, s2) = some (nI ((X i).getD 0 d0).1, s2)
          rw [hz]
      rw [hinto, bd_ok, ck_n (j := i) (by omega) (by omega), h27, nI_add, ck_n (j := 1927 + z.1) (by omega) (by omega), nI_clamp (n := 1927 + z.1) (by omega), g19]
      -- whether it must be turned
      have hoth : (if nI (zz gl z) ≤ 0 then (some ((0 : Int32), s2)) else (ck (nI i) 6 (ck ((2627 : Int32) + nI z.1) 7827 (bd (fX7_isBack E 395 s2) (fun r34 s32 => bd (if r34 = 0 then (some ((1 : Int32), s32)) else (bd (if ¬ bI (rsg bk ld) = 0 then (some ((0 : Int32), s32)) else (some ((1 : Int32), s32))) (fun w37 s38 => bd (fX7_truth E w37 s38) (fun r41 s39 => some (r41, s39))))) (fun w35 s36 => if ¬ (gi s2 396 ((2627 : Int32) + nI z.1).toNatClampNeg) = w35 then (some ((0 : Int32), s36)) else (some ((1 : Int32), s36)))))))) = some (bI (decide (tuF gl g (mT A) (bk && (ld == some true)) i ≠ 0)), s2) := by
        have htu : tuF gl g (mT A) (bk && (ld == some true)) i = if z.2.2.2 = (bk && (ld == some true)) then 0 else zz gl z := by unfold tuF; rw [hgi', if_pos rfl, ← hrn]; rfl
        rw [htu]
        by_cases h0 : zz gl z = 0
        · rw [h0, if_pos (by decide), ite_self]; rfl
        · rw [if_neg (nI_nle (by omega) (by omega)), ck_n (by omega) (by omega), show (2627 : Int32) = nI 2627 from rfl, nI_add, ck_n (by omega) (by omega), nI_clamp (by omega), g26, m_isBack hM hM2 (bk := bk) (by rw [f2' _ _ (by omega), q6 _ _ (by omega)]; exact hs.2.2.2.1), bd_ok]
          have hldn : ld ≠ none := fun q => by
            have := hld q i hi hgi'
            rw [← hrn] at this
            exact h0 (hsz.mpr this)
          obtain ⟨dl, hdl⟩ := Option.ne_none_iff_exists'.mp hldn
          subst hdl
          cases bk <;> cases dl <;> cases z.2.2.2 <;> simp [rsg, bI, bd, m_truth, h0] <;> rfl
      rw [hoth, bd_ok, show (12 : Int32) = nI 12 from rfl, ck_n (by omega) (by omega)]
      have hadd : (if bI (decide (tuF gl g (mT A) (bk && (ld == some true)) i ≠ 0)) = 0 then (some ((0 : Int32), s2)) else (ck (nI i) 6 (ck (nI (1927 + z.1)) 7827 (some (nI (zz gl z), s2))))) = some (nI (tuF gl g (mT A) (bk && (ld == some true)) i), s2) := by
        have htu : tuF gl g (mT A) (bk && (ld == some true)) i = if z.2.2.2 = (bk && (ld == some true)) then 0 else zz gl z := by unfold tuF; rw [hgi', if_pos rfl, ← hrn]; rfl
        by_cases h0 : tuF gl g (mT A) (bk && (ld == some true)) i = 0
        · rw [h0, if_pos (by rfl)]; rfl
        · rw [decide_eq_true h0, if_neg (by decide), ck_n (by omega) (by omega), ck_n (by omega) (by omega)]
          rw [htu] at h0 ⊢
          split at h0
          · exact absurd rfl h0
          · next hq => rw [if_neg hq]
      rw [h27, nI_add, nI_clamp (n := 1927 + z.1) (by omega), g19, hadd, bd_ok, ck_n (by omega) (by omega), nI_clamp (by omega), g12, nI_add, ss_ok, bd_ok, lt_ok, ad1]
      refine ⟨_, rfl, ?_, rfl, rfl, ?_, ?_, fun x k q => ?_⟩
      · dsimp only
        show _ = nI (szl gl (catF g (mT A) i ++ (if g i then (hdr (mT A i)).1 else [])))
        rw [hgi', if_pos rfl, szl_app, ← hrn]; rfl
      · dsimp only; rw [gs_eq, Nat.add_assoc]; rfl
      · dsimp only
        refine xt_fr (σ := s2) ?_ (fun k _ => gs_ne (by omega))
        intro t ht
        have := x2 t ht
        unfold upX at this
        dsimp only
        by_cases hti : t = i
        · subst hti
          rw [if_pos rfl] at this
          rw [if_pos (by omega)]; unfold lft; rw [hgi', if_pos rfl, hXi]; exact this
        · rw [if_neg hti] at this
          rw [ifc (p := t < i + 1) (q := t < i) ⟨fun q => by omega, fun q => by omega⟩]; exact this
      · dsimp only; rw [gs_ne (by omega), f2' _ _ (by omega)]; exact q6 x k q
  · rintro ⟨⟨u, v, y⟩, s⟩ rec ⟨q1, q2, q3, q4, q5, q6⟩
    dsimp only at q1 q2 q3 q4 q5 q6 ⊢
    subst q3
    unfold bX7_steps_12
    rw [i6, if_pos (nI_le (Nat.le_refl _) (by omega))]
    refine ⟨_, rfl, q1, fun e he => by dsimp only; rw [q2, he], q4, fun t ht => ?_, q6⟩
    have := q5 t ht
    dsimp only at this
    rw [if_pos ht] at this
    exact this
  · dsimp only
    rw [if_neg (by omega)]
    exact hx1 t ht
end TK
end
section
/-! a whole step of the reference's mill -/
theorem cat_split {X Y : Nat → List Dn} {Hd : Nat → Option Dn} : ∀ {n : Nat}, (∀ t, t < n → X t = (Hd t).toList ++ Y t) → (catX X n).Perm (catX (hds Hd) n ++ catX Y n)
  | 0, _ => List.Perm.refl _
  | n + 1, h => by
    have ih := cat_split (X := X) (Y := Y) (Hd := Hd) (n := n) (fun t ht => h t (by omega))
    show (catX X n ++ X n).Perm ((catX (hds Hd) n ++ hds Hd n) ++ (catX Y n ++ Y n))
    rw [h n (by omega)]
    refine (ih.append_right _).trans ?_
    rw [List.append_assoc, List.append_assoc]
    exact (List.perm_append_comm_assoc (catX Y n) (hds Hd n) (Y n)).append_left _
theorem ps_perm {bk : Bool} {z : Dn} {l : List Dn} : (psX bk z l).Perm (z :: l) := by
  unfold psX
  cases bk
  · exact List.perm_append_singleton z l
  · exact List.Perm.refl _
theorem cat_ps {bk : Bool} {z : Dn} {Y : Nat → List Dn} {to : Nat} : ∀ {n : Nat}, to < n → (catX (fun t => if t = to then psX bk z (Y t) else Y t) n).Perm (z :: catX Y n)
  | 0, h => by omega
  | n + 1, h => by
    show (catX _ n ++ (if n = to then psX bk z (Y n) else Y n)).Perm (z :: (catX Y n ++ Y n))
    by_cases hq : n = to
    · subst hq
      rw [if_pos rfl]
      have : ∀ m, m ≤ n → catX (fun t => if t = n then psX bk z (Y t) else Y t) m = catX Y m := by
        intro m
        induction m with
        | zero => intro _; rfl
        | succ m ih => intro hm; show catX _ m ++ (if m = n then _ else Y m) = _; rw [ih (by omega), if_neg (by omega)]; rfl
      rw [this n (Nat.le_refl _)]
      exact (ps_perm.append_left _).trans List.perm_middle
    · rw [if_neg hq]
      exact (cat_ps (n := n) (by omega)).append_right _
theorem cat_map {f : Dn → Dn} {Y : Nat → List Dn} : ∀ n, catX (fun t => (Y t).map f) n = (catX Y n).map f
  | 0 => rfl
  | n + 1 => by show catX _ n ++ _ = (catX Y n ++ Y n).map f; rw [cat_map n, List.map_append]
theorem xt_map {σ : Sg} {f : Dn → Dn} {Y : Nat → List Dn} (hf : ∀ z, (f z).1 = z.1) (h : XT σ Y) : XT σ (fun t => (Y t).map f) := fun t ht => by
  obtain ⟨h1, h2, h3⟩ := h t ht
  dsimp only
  rw [List.length_map]
  refine ⟨h1, h2, fun k hk => ?_⟩
  rw [h3 k hk, List.getD_eq_getElem?_getD, List.getD_eq_getElem?_getD, List.getElem?_map, List.getElem?_eq_getElem hk]
  show nI _ = nI (f _).1
  rw [hf]; rfl
section MS2
variable {E : En} {σ : Sg} {F : Nat → Nat} {n nr w T : Nat} {ro gl : Nat → Nat} {bk : Bool} {A : Mi}
theorem ai_stp0 (h : AI T nr A) (hok : oks w T (T / 2) (mK A) = true) : AI T nr (stp0 w T bk gl A) := by
  obtain ⟨o1, o2, o3, o4, o5⟩ := oks_un hok
  obtain ⟨h1, h2, h3, h4⟩ := h
  have hg : gvf w (T / 2) (mK A) (kto (mK A)) = false := gv_no o3
  have hl : ∀ t, t < T → gvf w (T / 2) (mK A) t = true → 0 < (mT A t).length := fun t ht q => by rw [← h2 t ht]; exact (gv_fl q).2
  refine ⟨oc_step h1 o2 hg hl, fun t ht => ?_, fun t ht => ?_, fun t r hr hz => ?_⟩
  · show (skn w T (T / 2) (mK A)).1.1.getD t 0 = (tpn T (kto (mK A)) bk (gvf w (T / 2) (mK A)) _ (mT A) t).length
    rw [skn_1, skc_at ht]
    unfold tpn
    have := h2 t ht
    by_cases q1 : t = kto (mK A)
    · rw [if_pos q1, if_pos q1, psh_len, this]
    · rw [if_neg q1, if_neg q1]
      by_cases q2 : gvf w (T / 2) (mK A) t = true
      · rw [if_pos q2, if_pos ⟨ht, q2⟩, List.length_tail, this]
      · rw [if_neg q2, if_neg (fun q => q2 q.2), this]
  · show tpn T (kto (mK A)) bk (gvf w (T / 2) (mK A)) _ (mT A) t = []
    unfold tpn
    rw [if_neg (by omega), if_neg (by omega)]; exact h3 t ht
  · have hr : r ∈ tpn T (kto (mK A)) bk (gvf w (T / 2) (mK A)) (catF (gvf w (T / 2) (mK A)) (mT A) T, bk && (ldD (gvf w (T / 2) (mK A)) (mT A) T == some false)) (mT A) t := hr
    unfold tpn at hr
    by_cases q1 : t = kto (mK A)
    · rw [if_pos q1] at hr
      rcases psh_mem hr with rfl | hr
      · dsimp only at hz ⊢
        rw [ld_none hz]; simp
      · exact h4 t r hr hz
    · rw [if_neg q1] at hr
      by_cases q2 : t < T ∧ gvf w (T / 2) (mK A) t = true
      · rw [if_pos q2] at hr; exact h4 t r (List.mem_of_mem_tail hr) hz
      · rw [if_neg q2] at hr; exact h4 t r hr hz
theorem cat_memI {g : Nat → Bool} {tp : Nat → List Rn} {j : Nat} : ∀ {m : Nat}, (j ∈ catF g tp m ↔ ∃ t, t < m ∧ g t = true ∧ j ∈ (hdr (tp t)).1)
  | 0 => ⟨fun h => absurd h List.not_mem_nil, fun ⟨t, h, _⟩ => absurd h (Nat.not_lt_zero t)⟩
  | m + 1 => by
    show j ∈ catF g tp m ++ (if g m then (hdr (tp m)).1 else []) ↔ _
    rw [List.mem_append, cat_memI]
    constructor
    · rintro (⟨t, h1, h2⟩ | h)
      · exact ⟨t, by omega, h2⟩
      · by_cases hg : g m = true
        · rw [if_pos hg] at h; exact ⟨m, by omega, hg, h⟩
        · rw [if_neg hg] at h; cases h
    · rintro ⟨t, h1, h2, h3⟩
      by_cases hq : t = m
      · subst hq; right; rw [if_pos h2]; exact h3
      · exact Or.inl ⟨t, by omega, h2, h3⟩
theorem cat_nd {g : Nat → Bool} {tp : Nat → List Rn} (h : Oc T nr tp) (hl : ∀ t, t < T → g t = true → 0 < (tp t).length) : (catF g tp T).Nodup := by
  rw [List.nodup_iff_count]
  intro j
  rw [cat_cnt]
  have h1 := h j
  have : sumF (fun t => if g t then (hdr (tp t)).1.count j else 0) T ≤ sumF (fun t => occL j (tp t)) T := sum_le (fun t ht => by
    by_cases hg : g t = true
    · rw [if_pos hg]; have := occ_hd (j := j) (hl t ht hg); omega
    · rw [if_neg hg]; exact Nat.zero_le _)
  split at h1 <;> omega
theorem cnts_nd {g : Nat → Bool} {X : Nat → List Dn} {tp : Nat → List Rn} (hr : ∀ t, g t = true → ((X t).getD 0 d0).2.2 = hdr (tp t)) : ∀ {m : Nat}, (catF g tp m).Nodup → (catX (cnts (fun z => cnt F n ro z.2.2) (hdO g X)) m).Nodup ∧ ∀ x, x ∈ catX (cnts (fun z => cnt F n ro z.2.2) (hdO g X)) m ↔ x < n ∧ ro x ∈ catF g tp m
  | 0, _ => ⟨List.nodup_nil, fun x => ⟨fun h => absurd h List.not_mem_nil, fun h => absurd h.2 List.not_mem_nil⟩⟩
  | m + 1, h => by
    have h : (catF g tp m ++ (if g m then (hdr (tp m)).1 else [])).Nodup := h
    obtain ⟨n1, n2, n3⟩ := List.nodup_append.mp h
    obtain ⟨i1', i2'⟩ := cnts_nd (X := X) hr n1
    have ec : cnts (fun z => cnt F n ro z.2.2) (hdO g X) m = if g m then cnt F n ro (hdr (tp m)) else [] := by
      unfold cnts hdO
      by_cases hg : g m = true
      · rw [if_pos hg, if_pos hg, ← hr m hg]
      · rw [if_neg hg, if_neg hg]
    have em : ∀ x, x ∈ (if g m then cnt F n ro (hdr (tp m)) else []) ↔ x < n ∧ ro x ∈ (if g m then (hdr (tp m)).1 else []) := fun x => by
      by_cases hg : g m = true
      · rw [if_pos hg, if_pos hg]; exact cnt_mem
      · rw [if_neg hg, if_neg hg]; exact ⟨fun h => absurd h List.not_mem_nil, fun h => absurd h.2 List.not_mem_nil⟩
    show (catX _ m ++ cnts _ _ m).Nodup ∧ ∀ x, x ∈ catX _ m ++ cnts _ _ m ↔ x < n ∧ ro x ∈ catF g tp m ++ (if g m then (hdr (tp m)).1 else [])
    rw [ec]
    refine ⟨List.nodup_append.mpr ⟨i1', ?_, fun a ha b hb e => ?_⟩, fun x => ?_⟩
    · by_cases hg : g m = true
      · rw [if_pos hg]; exact bet_nodup cnt_srt
      · rw [if_neg hg]; exact List.nodup_nil
    · subst e
      exact n3 _ ((i2' a).mp ha).2 _ ((em a).mp hb).2 rfl
    · rw [List.mem_append, List.mem_append, i2' x, em x]
      constructor
      · rintro (⟨q1, q2⟩ | ⟨q1, q2⟩)
        · exact ⟨q1, Or.inl q2⟩
        · exact ⟨q1, Or.inr q2⟩
      · rintro ⟨q1, q2 | q2⟩
        · exact Or.inl ⟨q1, q2⟩
        · exact Or.inr ⟨q1, q2⟩
set_option maxHeartbeats 1600000 in
theorem m_step (hM : LMod E) (hM2 : LMo2 E) (hg : GV F n ro gl nr) (hT : T ≤ 6) (hT3 : 3 ≤ T) (hw : w ≤ 2) (ha : AI T nr A) (hok : oks w T (T / 2) (mK A) = true) (h : RMm σ F n ro gl w T bk A) :
    ∃ s', fX7_steps E 395 σ = some (nI (szl gl (catF (gvf w (T / 2) (mK A)) (mT A) T)), s') ∧ RMm s' F n ro gl w T bk (stp w T bk gl A) ∧ gi s' 396 7 = (if lef T (mK (stp w T bk gl A)) = 1 then 3 else gi σ 396 7) ∧ ∀ x k, esQ x k → gi s' x k = gi σ x k := by
  obtain ⟨m0, m1, mz⟩ := id hM
  obtain ⟨n1, nz⟩ := id hM2
  obtain ⟨hn, hF, hgl⟩ := id hg
  obtain ⟨o1, o2, o3, o4, o5⟩ := oks_un hok
  obtain ⟨hs, ⟨X, hm, hx⟩, hk, t9, t10, t11, t12⟩ := id h
  obtain ⟨hx1, hx2, hx3⟩ := id hx
  obtain ⟨s1, e1, p407, f1⟩ := m_laysTaken hM hM2 hg hT hT3 hw ha hok hs hm hx hk
  have hx1' : RX s1 F n ro gl X := ⟨xt_fr hx1 (fun k _ => f1 _ _ (by omega)), fun z hz => dd_fr (hx2 z hz) (f1 _ _ (by omega)) (f1 _ _ (by omega)) (f1 _ _ (by omega)) (fun i _ => f1 _ _ (by omega)), hx3⟩
  have hs1 : SR s1 F n w T bk := sr_fr hs hn (fun k _ => f1 _ _ (by omega))
  obtain ⟨⟨⟨sz, into, y⟩, s2⟩, e2, q1, q2, q3, q4, f2⟩ := m_takeAll (ld := ldD (gvf w (T / 2) (mK A)) (mT A) T) hM hM2 hg hT ha hs1 hm hx1' p407 (tu := mTu A) (by rw [f1 _ _ (by omega)]; exact t12) (fun q t ht hgt => by
    unfold gT at hgt
    simp only [Bool.and_eq_true, decide_eq_true_eq] at hgt
    have hln : ldF (gvf w (T / 2) (mK A)) (mT A) T = none := by
      unfold ldD at q
      cases hq : ldF (gvf w (T / 2) (mK A)) (mT A) T with
      | none => rfl
      | some e => rw [hq] at q; cases q
    have := fstF_none hln t hgt.1
    rw [hgt.2] at this
    simpa using this)
  dsimp only at q1 q2 q3 q4 f2
  rw [catF_6 hT] at q1
  rw [sumF_6 hT] at q3
  generalize hldd : ldD (gvf w (T / 2) (mK A)) (mT A) T = ld at *
  unfold fX7_steps
  rw [tk_ok m0, e1, bd_ok, e2, bd_ok]
  dsimp only
  -- the first that gives
  obtain ⟨t0, ht0, hgt0⟩ := cntF_pos o1
  obtain ⟨e, hfe, hle⟩ := fstF_ex (p := gT w T (mK A)) (n := 6) (j := t0) (by omega) (by unfold gT; rw [decide_eq_true ht0, hgt0]; rfl)
  obtain ⟨he1, he2, he3⟩ := fstF_some hfe
  have hinto := q2 e hfe
  subst q1; subst hinto
  have hgr : ∀ t, gT w T (mK A) t = true → t < T ∧ ∃ l, X t = (X t).getD 0 d0 :: l ∧ ((X t).getD 0 d0).2.2 = hdr (mT A t) ∧ 0 < (mT A t).length := fun t q => hd_run hm ha q
  have hXT : ∀ t, T ≤ t → X t = [] := fun t ht => xm_nil hm (ha.2.2.1 t ht)
  have hgo : ∀ t, T ≤ t → gT w T (mK A) t = false := fun t ht => by unfold gT; rw [decide_eq_false (by omega)]; rfl
  have hge : ∀ t, t < T → gT w T (mK A) t = gvf w (T / 2) (mK A) t := fun t ht => by unfold gT; rw [decide_eq_true ht, Bool.true_and]
  have hlN : ∀ t, T ≤ t → lft (gT w T (mK A)) X t = [] := fun t ht => by unfold lft; rw [hgo t ht, if_neg (by decide)]; exact hXT t ht
  have hsplit := cat_split (X := X) (Y := lft (gT w T (mK A)) X) (Hd := hdO (gT w T (mK A)) X) (n := 6) (fun t ht => by
    unfold hdO lft
    by_cases hgt : gT w T (mK A) t = true
    · obtain ⟨_, l, hX, _, _⟩ := hgr t hgt
      rw [if_pos hgt, if_pos hgt, Option.toList_some]
      conv => lhs; rw [hX]
      conv => rhs; rw [hX]
      rfl
    · rw [if_neg hgt, if_neg hgt]; rfl)
  have eY6 : catX (lft (gT w T (mK A)) X) 6 = catX (lft (gT w T (mK A)) X) T := catX_ext hT (fun t h1 _ => hlN t h1)
  have hpw := hx3.perm hsplit (fun {x y} q => apt_symm q)
  rw [eY6] at hpw
  have hnd : (catF (gT w T (mK A)) (mT A) 6).Nodup := by
    rw [catF_6 hT]
    exact cat_nd ha.1 (fun t ht q => by have := (gv_fl q).2; rw [ha.2.1 t ht] at this; exact this)
  obtain ⟨cn1, cn2⟩ := cnts_nd (F := F) (n := n) (ro := ro) (g := gT w T (mK A)) (X := X) (tp := mT A) (fun t q => (hgr t q).2.choose_spec.2.1) hnd
  rw [catF_6 hT] at cn2
  generalize hgd : gT w T (mK A) = g at *
  -- membership in the old tapes
  have hHm : ∀ t z, t < 6 → hdO g X t = some z → z ∈ catX X 6 ∧ z.2.2 ∈ mT A t ∧ t < T := fun t z ht hq => by
    unfold hdO at hq
    by_cases hgt : g t = true
    · rw [if_pos hgt] at hq
      injection hq with hq
      obtain ⟨w1, l, hX, w2, w3⟩ := hgr t hgt
      rw [hq] at hX w2
      exact ⟨catX_mem.mpr ⟨t, ht, by rw [hX]; simp⟩, by rw [w2]; exact hdr_mem w3, w1⟩
    · rw [if_neg hgt] at hq; cases hq
  have hYm : ∀ z, z ∈ catX (lft g X) T → z ∈ catX X 6 := fun z hz => by
    obtain ⟨t, ht, hzt⟩ := catX_mem.mp hz
    refine catX_mem.mpr ⟨t, by omega, ?_⟩
    unfold lft at hzt
    split at hzt
    · exact List.mem_of_mem_tail hzt
    · exact hzt
  have f2s : ∀ x k, ¬ (x = 396 ∧ (k = 12 ∨ (20 ≤ k ∧ k < 26) ∨ (3327 ≤ k ∧ k < 7527))) → x ≠ 407 → gi s2 x k = gi σ x k := fun x k z1 z2 => by rw [f2 x k z1, f1 x k z2]
  have hzlen : ∀ t z, t < 6 → hdO g X t = some z → (cnt F n ro z.2.2).length = zz gl z := fun t z ht hq => by
    obtain ⟨_, h2, h3⟩ := hHm t z ht hq
    exact cnt_len hgl (oc_nd ha.1 h3 h2) (fun j hj => oc_lt ha.1 h3 h2 hj)
  have hHC : HC' s2 n gl (fun z => cnt F n ro z.2.2) (hdO g X) := by
    refine ⟨fun t ht => by rw [f2 _ _ (by omega)]; exact p407 t ht, fun t z ht hq => ?_⟩
    obtain ⟨z1, z2, z3, z4, z5, z6⟩ := hx2 z (hHm t z ht hq).1
    exact ⟨z1, by rw [f2s _ _ (by omega) (by omega)]; exact z2, by rw [f2s _ _ (by omega) (by omega)]; exact z3, z5, hzlen t z ht hq, fun i hi => by rw [f2s _ _ (by omega) (by omega)]; exact z6 i hi⟩
  have hYC : YC s2 n T (lft g X) := fun z hz => by
    obtain ⟨z1, z2, z3, z4, z5, z6⟩ := hx2 z (hYm z hz)
    exact ⟨z1, by rw [f2s _ _ (by omega) (by omega)]; exact z2, by omega⟩
  obtain ⟨s3, e3, gl1, gl2, gl3, gl4, f3, gl5⟩ := m_gathers hM hM2 hn hT (by rw [f2s _ _ (by omega) (by omega)]; exact hs.1) (by rw [f2s _ _ (by omega) (by omega)]; exact hs.2.1) hHC q4 hYC hpw
  obtain ⟨hpH, hpY, hpX⟩ := List.pairwise_append.mp hpw
  -- the number of the run that is made
  obtain ⟨_, le, hXe, hre, hpe⟩ := hgr e he2
  generalize hid : ((X e).getD 0 d0).1 = id' at *
  have hoe : hdO g X e = some ((X e).getD 0 d0) := by unfold hdO; rw [if_pos he2]
  have hid7 : id' < 700 := by rw [← hid]; exact (hx2 _ (hHm e _ he1 hoe).1).1
  have hidY : ∀ z, z ∈ catX (lft g X) T → z.1 ≠ id' := fun z hz q => by
    have := (hpX ((X e).getD 0 d0) (catX_mem.mpr ⟨e, he1, by unfold hds; rw [hoe]; simp⟩) z hz).1
    rw [hid] at this; exact this q.symm
  generalize hH : catX (hds (hdO g X)) 6 = H at *
  generalize hCL : catX (cnts (fun z => cnt F n ro z.2.2) (hdO g X)) 6 = CL at *
  generalize hc : catF (gvf w (T / 2) (mK A)) (mT A) T = c at *
  have hszc : CL.length = szl gl c := by
    have hcn : (cnt F n ro (c, true)).length = szl gl c := cnt_len (q := (c, true)) hgl (by show c.Nodup; rw [← hc, ← catF_6 (w := w) (s := mK A) hT, hgd]; exact hnd) (fun j hj => by
      rw [← hc] at hj
      obtain ⟨t, h1, h2, h3⟩ := cat_memI.mp hj
      exact oc_lt ha.1 h1 (hdr_mem (by have := (gv_fl h2).2; rw [ha.2.1 t h1] at this; exact this)) h3)
    rw [← hcn]
    have : CL.Perm (cnt F n ro (c, true)) := (List.perm_ext_iff_of_nodup cn1 (bet_nodup cnt_srt)).mpr (fun x => by rw [cn2 x]; exact (cnt_mem (q := (c, true))).symm)
    exact this.length_eq
  have hc0 : szl gl c = 0 ↔ c = [] := szl_zero hgl (fun j hj => by
      rw [← hc] at hj
      obtain ⟨t, h1, h2, h3⟩ := cat_memI.mp hj
      exact oc_lt ha.1 h1 (hdr_mem (by have := (gv_fl h2).2; rw [ha.2.1 t h1] at this; exact this)) h3)
  generalize hfl : (bk && (ld == some false)) = fl
  have hrf : rsg bk ld = !fl := by
    rw [← hfl]
    cases ld with
    | none => cases bk <;> rfl
    | some d => cases bk <;> cases d <;> rfl
  have hfc : c = [] → fl = false := fun q => by
    rw [← hfl, ← hldd]
    rw [← hc] at q
    rw [ld_none q]; simp
  have hszb : szl gl c ≤ 300 := by omega
  rw [e3, bd_ok, dr_ok m1 n1.1, n1.2, show (1227 : Int32) = nI 1227 from rfl, nI_add, ck_n (by omega) (by omega), nI_clamp (by omega), ss_ok, show (1927 : Int32) = nI 1927 from rfl, nI_add, ck_n (by omega) (by omega), nI_clamp (by omega), ss_ok]
  generalize hs4 : si (si s3 396 (1227 + id') (nI (nu gl H n))) 396 (1927 + id') (nI (szl gl c)) = s4
  have hdn : (if ¬ bI (rsg bk ld) = 0 then (some ((0 : Int32), s4)) else (if nI (szl gl c) ≤ 0 then (some ((0 : Int32), s4)) else (some ((1 : Int32), s4)))) = some (bI fl, s4) := by
    rw [hrf]
    cases hfl' : fl with
    | false => rw [if_pos (by decide)]; rfl
    | true =>
      have hcn : c ≠ [] := fun q => by have := hfc q; rw [hfl'] at this; cases this
      have h0 : szl gl c ≠ 0 := fun q => hcn (hc0.mp q)
      rw [if_neg (by simp; rfl), if_neg (nI_nle (by omega) (by omega))]; rfl
  rw [hdn, bd_ok, m_truth, bd_ok, show (2627 : Int32) = nI 2627 from rfl, nI_add, ck_n (by omega) (by omega), nI_clamp (by omega), ss_ok]
  have hbb : (if bI fl = 0 then (0 : Int32) else 1) = bI fl := by cases fl <;> rfl
  rw [hbb]
  generalize hs5 : si s4 396 (2627 + id') (bI fl) = s5
  have f5 : ∀ x k, ¬ (x = 396 ∧ (k = 1227 + id' ∨ k = 1927 + id' ∨ k = 2627 + id')) → gi s5 x k = gi s3 x k := fun x k q => by rw [← hs5, ← hs4, gs_ne (by omega), gs_ne (by omega), gs_ne (by omega)]
  have g51 : gi s5 396 (1227 + id') = nI (nu gl H n) := by rw [← hs5, ← hs4, gs_ne (by omega), gs_ne (by omega), gs_eq]
  have g52 : gi s5 396 (1927 + id') = nI (szl gl c) := by rw [← hs5, ← hs4, gs_ne (by omega), gs_eq]
  have g53 : gi s5 396 (2627 + id') = bI fl := by rw [← hs5, gs_eq]
  have f5s : ∀ x k, ¬ (x = 396 ∧ (k = 12 ∨ (20 ≤ k ∧ k < 26) ∨ 1227 ≤ k)) → x ≠ 407 → x ≠ 408 → x ≠ 409 → gi s5 x k = gi σ x k := fun x k z1 z2 z3 z4 => by rw [f5 _ _ (by omega), f3 _ _ (by omega) (by omega) z3 z4, f2s _ _ (by omega) z2]
  obtain ⟨s6, e6, ⟨L', l1, l2, l3⟩, f6⟩ := m_sorts (σ := s5) (first := nu gl H n) (rising := rsg bk ld) (L := CL) hM hM2 hn (fun i hi => by rw [f5s _ _ (by omega) (by omega) (by omega) (by omega)]; exact hs.2.2.2.2 i hi) hF (fun x hx => ((cn2 x).mp hx).1) cn1 (by omega) (fun i hi => by rw [f5 _ _ (by omega)]; exact gl4 i hi)
  rw [hszc] at e6 l3 f6
  rw [e6, bv_ok]
  have f6s : ∀ x k, ¬ (x = 396 ∧ (k = 12 ∨ (20 ≤ k ∧ k < 26) ∨ 1227 ≤ k)) → x ≠ 407 → x ≠ 408 → x ≠ 409 → gi s6 x k = gi σ x k := fun x k z1 z2 z3 z4 => by rw [f6 _ _ (by omega), f5s _ _ z1 z2 z3 z4]
  rw [m_isBack hM hM2 (bk := bk) (by rw [f6s _ _ (by omega) (by omega) (by omega) (by omega)]; exact hs.2.2.2.1), bd_ok]
  -- the tapes
  have hxY : XT s6 (fun t => (lft g X t).map (fun z => ((z.1, nu gl H z.2.1, z.2.2) : Dn))) := xt_map (fun _ => rfl) (xt_fr q4 (fun k hk => by rw [f6 _ _ (by omega), f5 _ _ (by omega), f3 _ _ (by omega) (by omega) (by omega) (by omega)]))
  have h13 : gi s6 396 13 = nI (kto (mK A)) := by rw [f6s _ _ (by omega) (by omega) (by omega) (by omega)]; exact hk.2.2.1
  have hgto : g (kto (mK A)) = false := by rw [hge _ o2]; exact gv_no o3
  have hlto : ((fun t => (lft g X t).map (fun z => ((z.1, nu gl H z.2.1, z.2.2) : Dn))) (kto (mK A))).length < 256 := by
    dsimp only
    rw [List.length_map]
    unfold lft
    rw [hgto, if_neg (by decide), xm_len hm, ← ha.2.1 _ o2]; exact o4
  generalize hYd : (fun t => (lft g X t).map (fun z => ((z.1, nu gl H z.2.1, z.2.2) : Dn))) = Y' at *
  obtain ⟨s7, e7, x7, f7⟩ : ∃ s7, (if bI bk = 0 then (ck (13 : Int32) 7827 (bv (fX7_comesLast E 395 (gi s6 396 (13 : Int32).toNatClampNeg) (nI id') s6) (fun s75 => some ((), s75)))) else (ck (13 : Int32) 7827 (bv (fX7_comesFirst E 395 (gi s6 396 (13 : Int32).toNatClampNeg) (nI id') s6) (fun s78 => some ((), s78))))) = some ((), s7) ∧ XT s7 (fun t => if t = kto (mK A) then psX bk (id', nu gl H n, c, fl) (Y' t) else Y' t) ∧ ∀ x k, ¬ (x = 396 ∧ ((20 ≤ k ∧ k < 26) ∨ (3327 ≤ k ∧ k < 7527))) → gi s7 x k = gi s6 x k := by
    rw [show (13 : Int32) = nI 13 from rfl, ck_n (by omega) (by omega), ck_n (by omega) (by omega), nI_clamp (by omega), h13]
    have hcg : ∀ s7 : Sg, ∀ l, XT s7 (upX Y' (kto (mK A)) l) → l = psX bk ((id', nu gl H n, c, fl) : Dn) (Y' (kto (mK A))) → XT s7 (fun t => if t = kto (mK A) then psX bk (id', nu gl H n, c, fl) (Y' t) else Y' t) := by
      intro s7 l h1 h2 t ht
      have := h1 t ht
      unfold upX at this
      dsimp only
      by_cases hq : t = kto (mK A)
      · rw [if_pos hq] at this ⊢
        rw [hq] at this ⊢
        rw [← h2]; exact this
      · rw [if_neg hq] at this ⊢; exact this
    cases hbk : bk with
    | false =>
      obtain ⟨s7, e7, x7, f7⟩ := m_last hM hM2 hxY (t := kto (mK A)) (by omega) (id', nu gl H n, c, fl) hlto
      rw [if_pos (by rfl), e7, bv_ok]
      rw [hbk] at hcg
      exact ⟨s7, rfl, hcg s7 _ x7 rfl, fun x k q => f7 x k (by omega)⟩
    | true =>
      obtain ⟨s7, e7, x7, f7⟩ := m_first hM hM2 hxY (t := kto (mK A)) (by omega) (id', nu gl H n, c, fl) hlto
      rw [if_neg (by decide), e7, bv_ok]
      rw [hbk] at hcg
      exact ⟨s7, rfl, hcg s7 _ x7 rfl, fun x k q => f7 x k (by omega)⟩
  rw [e7, bd_ok]
  have f7s : ∀ x k, ¬ (x = 396 ∧ (k = 12 ∨ (20 ≤ k ∧ k < 26) ∨ 1227 ≤ k)) → x ≠ 407 → x ≠ 408 → x ≠ 409 → gi s7 x k = gi σ x k := fun x k z1 z2 z3 z4 => by rw [f7 _ _ (by omega), f6s _ _ z1 z2 z3 z4]
  rw [show (9 : Int32) = nI 9 from rfl, ck_n (by omega) (by omega), ck_n (by omega) (by omega), nI_clamp (by omega), f7s 396 9 (by omega) (by omega) (by omega) (by omega), t9, nI_add, ss_ok, show (10 : Int32) = nI 10 from rfl, ck_n (by omega) (by omega), ck_n (by omega) (by omega), nI_clamp (by omega), gs_ne (by omega), f7s 396 10 (by omega) (by omega) (by omega) (by omega), t10, ad1, ss_ok]
  generalize hs8 : si (si s7 396 9 (nI (mMo A + szl gl c))) 396 10 (nI (mSt A + 1)) = s8
  have f8 : ∀ x k, ¬ (x = 396 ∧ (k = 9 ∨ k = 10)) → gi s8 x k = gi s7 x k := fun x k q => by rw [← hs8, gs_ne (by omega), gs_ne (by omega)]
  have g89 : gi s8 396 9 = nI (mMo A + szl gl c) := by rw [← hs8, gs_ne (by omega), gs_eq]
  have g80 : gi s8 396 10 = nI (mSt A + 1) := by rw [← hs8, gs_eq]
  have f8s : ∀ x k, ¬ (x = 396 ∧ (k = 9 ∨ k = 10 ∨ k = 12 ∨ (20 ≤ k ∧ k < 26) ∨ 1227 ≤ k)) → x ≠ 407 → x ≠ 408 → x ≠ 409 → gi s8 x k = gi σ x k := fun x k z1 z2 z3 z4 => by rw [f8 _ _ (by omega), f7s _ _ (by omega) z2 z3 z4]
  have x8 : XT s8 (fun t => if t = kto (mK A) then psX bk (id', nu gl H n, c, fl) (Y' t) else Y' t) := xt_fr x7 (fun k hk => f8 _ _ (by omega))
  -- what is on the tapes now
  have hXm : Xm (fun t => if t = kto (mK A) then psX bk (id', nu gl H n, c, fl) (Y' t) else Y' t) (mT (stp0 w T bk gl A)) := by
    intro t
    have eY : (Y' t).map (fun z => z.2.2) = if t < T ∧ gvf w (T / 2) (mK A) t = true then (mT A t).tail else mT A t := by
      rw [← hYd]
      dsimp only
      rw [List.map_map]
      show (lft g X t).map (fun z => z.2.2) = _
      unfold lft
      by_cases hgt : g t = true
      · have htT := (hgr t hgt).1
        rw [if_pos hgt, if_pos ⟨htT, by rw [← hge t htT]; exact hgt⟩, ← hm t, List.map_tail]
      · rw [if_neg hgt, if_neg (fun q => hgt (by rw [hge t q.1]; exact q.2)), hm t]
    have eT : mT (stp0 w T bk gl A) t = if t = kto (mK A) then psh bk (c, fl) (mT A t) else if t < T ∧ gvf w (T / 2) (mK A) t = true then (mT A t).tail else mT A t := by
      rw [← hfl, ← hldd, ← hc]; rfl
    rw [eT]
    dsimp only
    by_cases hq : t = kto (mK A)
    · rw [if_pos hq, if_pos hq]
      have hnt : ¬ (t < T ∧ gvf w (T / 2) (mK A) t = true) := fun z => by rw [hq, gv_no o3] at z; exact absurd z.2 (by decide)
      rw [if_neg hnt] at eY
      rw [← eY]
      unfold psX psh
      cases bk
      · simp
      · simp
    · rw [if_neg hq, if_neg hq]; exact eY
  have hai := ai_stp0 (bk := bk) (gl := gl) ha hok
  have hCT : CTm s8 T (skc w T (T / 2) (mK A), (mK A).2) := fun t ht => by
    obtain ⟨c1, c2, _⟩ := x8 t (by omega)
    have h1 := xm_len hXm t
    have h2 := hai.2.1 t ht
    have h3 : kc (mK (stp0 w T bk gl A)) t = (skc w T (T / 2) (mK A)).getD t 0 := by
      show (skn w T (T / 2) (mK A)).1.1.getD t 0 = _
      rw [skn_1]
    have h4 : kc (skc w T (T / 2) (mK A), (mK A).2) t = (skc w T (T / 2) (mK A)).getD t 0 := rfl
    rw [h4, ← h3, h2, ← h1]
    exact ⟨c1, c2⟩
  have h84 : ∀ t, t < 6 → gi s8 407 t = gi s1 407 t := fun t ht => by rw [f8 _ _ (by omega), f7 _ _ (by omega), f6 _ _ (by omega), f5 _ _ (by omega), f3 _ _ (by omega) (by omega) (by omega) (by omega), f2 _ _ (by omega)]
  obtain ⟨s9, e9, k9, g9, f9⟩ := m_goesOn hM hM2 (mk_fr hk (fun k hk => f8s _ _ (by omega) (by omega) (by omega) (by omega))) hCT hT hT3 hw o2 o3 (fun t ht => by
    rw [h84 t ht, p407 t ht]
    have hgg : (decide (t < T) && gvf w (T / 2) (mK A) t) = g t := by rw [← hgd]; rfl
    rw [hgg]
    unfold hdO
    by_cases hgt : g t = true
    · rw [if_pos hgt, hgt]
      obtain ⟨_, l, hX, _, _⟩ := hgr t hgt
      have := (hx2 ((X t).getD 0 d0) (catX_mem.mpr ⟨t, ht, by rw [hX]; simp⟩)).1
      exact ⟨fun q => absurd q (nI_nm1 (by omega)), fun q => by cases q⟩
    · rw [if_neg hgt]
      exact ⟨fun _ => by simpa using hgt, fun _ => rfl⟩) (ph := mPh A) (by rw [f8s _ _ (by omega) (by omega) (by omega) (by omega)]; exact t11)
  rw [e9, bv_ok]
  have hRM : RMm s9 F n ro gl w T bk (stp0 w T bk gl A) := by
    have f9s : ∀ k, ¬ (k = 11 ∨ k = 13 ∨ (15 ≤ k ∧ k ≤ 17)) → gi s9 396 k = gi s8 396 k := fun k q => f9 _ _ (by omega)
    have hst : mMo (stp0 w T bk gl A) = mMo A + szl gl c ∧ mSt (stp0 w T bk gl A) = mSt A + 1 ∧ mPh (stp0 w T bk gl A) = mPh A + (if (skn w T (T / 2) (mK A)).2 then 1 else 0) ∧ mTu (stp0 w T bk gl A) = mTu A + sumF (tuF gl (gvf w (T / 2) (mK A)) (mT A) (bk && (ld == some true))) T := by
      rw [← hldd, ← hc]; exact ⟨rfl, rfl, rfl, rfl⟩
    refine ⟨sr_fr hs hn (fun k hk => by rw [f9s _ (by omega), f8s _ _ (by omega) (by omega) (by omega) (by omega)]), ⟨_, hXm, xt_fr x8 (fun k hk => f9s _ (by omega)), fun z hz => ?_, ?_⟩, k9, ?_, ?_, ?_, ?_⟩
    · -- data of each run
      have fr : ∀ k, 1227 ≤ k → ¬ (3327 ≤ k ∧ k < 7527) → gi s9 396 k = gi s6 396 k := fun k k1 k2 => by rw [f9s _ (by omega), f8 _ _ (by omega), f7 _ _ (by omega)]
      have old : ∀ z, z ∈ catX Y' T → DD s9 F n ro gl z := by
        intro z hz
        rw [← hYd, cat_map] at hz
        obtain ⟨z', hz', rfl⟩ := List.mem_map.mp hz
        obtain ⟨z1, z2, z3, z4, z5, z6⟩ := hx2 z' (hYm z' hz')
        have hne := hidY z' hz'
        have hno : ∀ i, i < zz gl z' → inT gl H (z'.2.1 + i) = false := fun i hi => by
          cases hq : inT gl H (z'.2.1 + i) with
          | false => rfl
          | true =>
            unfold inT at hq
            obtain ⟨y', hy', hyh⟩ := List.any_eq_true.mp hq
            unfold hit at hyh
            simp only [decide_eq_true_eq] at hyh
            have := (hpX y' hy' z' hz').2
            omega
        have hrun := nu_run (f := z'.2.1) hno
        have hlef : nu gl H z'.2.1 + zz gl z' ≤ nu gl H n := by rw [← hrun _ (Nat.le_refl _)]; exact nu_mono z5
        refine ⟨z1, ?_, ?_, ?_, by show nu gl H z'.2.1 + zz gl z' ≤ n; omega, fun i hi => ?_⟩
        · show gi s9 396 (1227 + z'.1) = _
          rw [fr _ (by omega) (by omega), f6 _ _ (by omega), f5 _ _ (by omega)]; exact gl2 z' hz'
        · show gi s9 396 (1927 + z'.1) = _
          rw [fr _ (by omega) (by omega), f6 _ _ (by omega), f5 _ _ (by omega), f3 _ _ (by omega) (by omega) (by omega) (by omega), f2s _ _ (by omega) (by omega)]; exact z3
        · show gi s9 396 (2627 + z'.1) = _
          rw [fr _ (by omega) (by omega), f6 _ _ (by omega), f5 _ _ (by omega), f3 _ _ (by omega) (by omega) (by omega) (by omega), f2s _ _ (by omega) (by omega)]; exact z4
        · show gi s9 396 (7527 + nu gl H z'.2.1 + i) = _
          have hi : i < zz gl z' := hi
          have hlt := nu_inj (gl := gl) (H := H) (hno i hi) (show z'.2.1 + i < n by omega)
          have hri := hrun i (by omega)
          rw [fr _ (by omega) (by omega), f6 _ _ (by omega), f5 _ _ (by omega), show 7527 + nu gl H z'.2.1 + i = 7527 + nu gl H (z'.2.1 + i) by omega, gl3 _ (by omega) (hno i hi), f2s _ _ (by omega) (by omega), show 7527 + (z'.2.1 + i) = 7527 + z'.2.1 + i by omega]; exact z6 i hi
      have hz' : z = (id', nu gl H n, c, fl) ∨ z ∈ catX Y' T := by
        have := (cat_ps (bk := bk) (z := ((id', nu gl H n, c, fl) : Dn)) (Y := Y') (to := kto (mK A)) (n := 6) (by omega)).mem_iff.mp hz
        rcases List.mem_cons.mp this with q | q
        · exact Or.inl q
        · right
          rw [catX_ext hT (fun t h1 _ => by rw [← hYd]; dsimp only; rw [hlN t h1]; rfl)] at q
          exact q
      rcases hz' with rfl | hz'
      · refine ⟨hid7, ?_, ?_, ?_, by show nu gl H n + szl gl c ≤ n; omega, fun i hi => ?_⟩
        · rw [fr _ (by omega) (by omega), f6 _ _ (by omega)]; exact g51
        · rw [fr _ (by omega) (by omega), f6 _ _ (by omega)]; exact g52
        · rw [fr _ (by omega) (by omega), f6 _ _ (by omega)]; exact g53
        · have hi : i < szl gl c := hi
          have hL' : L' = cnt F n ro (c, fl) := by
            refine srt_uniq (F := F) (f := fl) ?_ (cnt_srt (q := (c, fl))) (fun x => by rw [l1.mem_iff, cn2 x]; exact (cnt_mem (q := (c, fl))).symm)
            rw [hrf, Bool.not_not] at l2; exact l2
          show gi s9 396 (7527 + nu gl H n + i) = nI ((cnt F n ro (c, fl)).getD i 0)
          rw [fr _ (by omega) (by omega), l3 i hi, hL']
      · exact old z hz'
    · -- unlike numbers, places apart
      refine ((cat_ps (bk := bk) (z := ((id', nu gl H n, c, fl) : Dn)) (Y := Y') (to := kto (mK A)) (n := 6) (by omega)).symm.pairwise ?_ (fun {x y} q => apt_symm q))
      rw [catX_ext hT (fun t h1 _ => by rw [← hYd]; dsimp only; rw [hlN t h1]; rfl), ← hYd, cat_map]
      have hno : ∀ z', z' ∈ catX (lft g X) T → ∀ i, i < zz gl z' → inT gl H (z'.2.1 + i) = false := fun z' hz' i hi => by
        cases hq : inT gl H (z'.2.1 + i) with
        | false => rfl
        | true =>
          unfold inT at hq
          obtain ⟨y', hy', hyh⟩ := List.any_eq_true.mp hq
          unfold hit at hyh
          simp only [decide_eq_true_eq] at hyh
          have := (hpX y' hy' z' hz').2
          omega
      have hend : ∀ z', z' ∈ catX (lft g X) T → ∀ k, z'.2.1 + zz gl z' ≤ k → nu gl H z'.2.1 + zz gl z' ≤ nu gl H k := fun z' hz' k hk' => by
        rw [← nu_run (hno z' hz') _ (Nat.le_refl _)]; exact nu_mono hk'
      refine List.pairwise_cons.mpr ⟨fun z hz => ?_, ?_⟩
      · obtain ⟨z', hz', rfl⟩ := List.mem_map.mp hz
        exact ⟨fun q => hidY z' hz' q.symm, Or.inr (hend z' hz' n (hx2 z' (hYm z' hz')).2.2.2.2.1)⟩
      · rw [List.pairwise_map]
        refine hpY.imp_of_mem (fun {a b} ha' hb' hab => ⟨hab.1, ?_⟩)
        rcases hab.2 with q | q
        · exact Or.inl (hend a ha' _ q)
        · exact Or.inr (hend b hb' _ q)
    · rw [f9s _ (by omega), g89, hst.1]
    · rw [f9s _ (by omega), g80, hst.2.1]
    · rw [g9, hst.2.2.1]
    · rw [f9s _ (by omega), f8 _ _ (by omega), f7 _ _ (by omega), f6 _ _ (by omega), f5 _ _ (by omega), f3 _ _ (by omega) (by omega) (by omega) (by omega), q3, hst.2.2.2]
  obtain ⟨s10, e10, r10, g10, f10⟩ := m_looks hM hM2 hg hT hai hRM
  rw [e10, bv_ok]
  refine ⟨s10, rfl, r10, ?_, fun x k he => ?_⟩
  · rw [g10, f9 _ _ (by omega), f8s _ _ (by omega) (by omega) (by omega) (by omega)]
    unfold stp
    rw [tul_K]
  · have he' := he
    unfold esQ at he'
    rw [f10 x k he, f9 _ _ (by omega), f8s _ _ (by omega) (by omega) (by omega) (by omega)]
end MS2
end
section
/-! perfect numbers in the reference; runs are made -/
section PF
variable {E : En} {σ : Sg} {w k l : Nat}
theorem m_layP (hM : LMod E) (hM2 : LMo2 E) (h1 : 2 ≤ k) (h5 : k ≤ 5) (hw : w = 0 ∨ w = 2) (hl : l ≤ 100) : ∃ s, fX7_laysPerfect E 395 (nI l) (nI w) (nI k) σ = some s ∧ (∀ i, i < k → gi s 403 i = nI ((pfn w k l).getD i 0)) ∧ ∀ x j, x ≠ 403 → x ≠ 404 → gi s x j = gi σ x j := by
  obtain ⟨m0, m1, m2, m3, m4, m5, m6, m7, m8, m9, mz⟩ := id hM
  obtain ⟨n1, n2, n3, n4, n5, n6, n7, n8, n9, nz⟩ := id hM2
  unfold fX7_laysPerfect
  rw [tk_ok m0]
  refine bd_in k (fun i b => b.1 = nI i ∧ (∀ j, j < i → gi b.2 403 j = nI (if j = 0 then 1 else 0)) ∧ ∀ x j, x ≠ 403 → gi b.2 x j = gi σ x j)
    (fun b => (∀ j, j < k → gi b.2 403 j = nI (if j = 0 then 1 else 0)) ∧ ∀ x j, x ≠ 403 → gi b.2 x j = gi σ x j) (by show k < 1000000; omega) ⟨rfl, fun j hj => absurd hj (Nat.not_lt_zero j), fun _ _ _ => rfl⟩ ?_ ?_ ?_
  · rintro i ⟨v, s⟩ rec hi ⟨rfl, q1, q2⟩
    dsimp only at q1 q2 ⊢
    unfold bX7_laysPerfect_3
    have hw' : (if ¬ nI i = 0 then (some ((0 : Int32), s)) else (some ((1 : Int32), s))) = some (bI (decide (i = 0)), s) := by
      by_cases h0 : i = 0
      · subst h0; rfl
      · rw [if_pos (nI_ne0 (by omega) (by omega)), decide_eq_false h0]; rfl
    rw [if_neg (nI_ge hi (by omega)), dr_ok m8 n8.1, hw', bd_ok, m_truth, bd_ok, n8.2, ck_n (by omega) (by omega), nI_clamp (by omega), ss_ok, lt_ok, ad1]
    refine ⟨_, rfl, rfl, fun j hj => ?_, fun x j hx => by dsimp only; rw [gs_ne (by omega)]; exact q2 x j hx⟩
    dsimp only
    by_cases hji : j = i
    · subst hji; rw [gs_eq]
      by_cases h0 : j = 0
      · subst h0; rfl
      · rw [decide_eq_false h0, if_neg h0]; rfl
    · rw [gs_ne (by omega)]; exact q1 j (by omega)
  · rintro ⟨v, s⟩ rec ⟨rfl, q⟩
    unfold bX7_laysPerfect_3
    rw [if_pos (nI_le (Nat.le_refl _) (by omega))]
    exact ⟨_, rfl, q⟩
  · rintro v s0 ⟨q1, q2⟩
    dsimp only at q1 q2
    refine bd_in l (fun i b => b.1 = nI i ∧ (∀ j, j < k → gi b.2 403 j = nI ((pfn w k i).getD j 0)) ∧ ∀ x j, x ≠ 403 → x ≠ 404 → gi b.2 x j = gi σ x j)
      (fun b => (∀ j, j < k → gi b.2 403 j = nI ((pfn w k l).getD j 0)) ∧ ∀ x j, x ≠ 403 → x ≠ 404 → gi b.2 x j = gi σ x j) (by show l < 1000000; omega) ⟨rfl, fun j hj => ?_, fun x j h1 _ => q2 x j h1⟩ ?_ ?_ (fun v s q => ⟨s, rfl, q⟩)
    · rw [q1 j hj]; unfold pfn; rw [tab_at hj]
    · rintro i ⟨v, s⟩ rec hi ⟨rfl, g1, g2⟩
      dsimp only at g1 g2 ⊢
      unfold bX7_laysPerfect_38
      rw [if_neg (nI_ge hi (by omega))]
      have hsc : ∀ m, m < k → (pfn w k (i + 1)).getD m 0 = if w = 0 then (pfn w k i).getD 0 0 + (if m + 1 < k then (pfn w k i).getD (m + 1) 0 else 0) else sumF (fun j => (pfn w k i).getD j 0) (k - m) := fun m hm => by
        show (if w = 0 then _ else _ : List Nat).getD m 0 = _
        split
        · rw [tab_at hm]
        · rw [tab_at hm]
      generalize hP : pfn w k i = P at *
      obtain ⟨⟨⟨u, v⟩, s2⟩, e2, p1, p2⟩ := for_in (F := fun (rec : (Int32 × Int32) × Sg → Option ((Int32 × Int32) × Sg)) (a : (Int32 × Int32) × Sg) => bX7_laysPerfect_50 E (nI k) 395 (nI w) (fun u0 u1 t => rec ((u0, u1), t)) a.1.1 a.1.2 a.2) k
        (fun m b => b.1 = (nI (sumF (fun j => P.getD j 0) m), nI m) ∧ (∀ j, j < k → (if w = 0 then j < m else k - m ≤ j) → gi b.2 404 j = nI ((pfn w k (i + 1)).getD j 0)) ∧ ∀ x j, x ≠ 404 → gi b.2 x j = gi s x j)
        (fun b => (∀ j, j < k → gi b.2 404 j = nI ((pfn w k (i + 1)).getD j 0)) ∧ ∀ x j, x ≠ 404 → gi b.2 x j = gi s x j) (N := FU) (by show k < 1000000; omega)
        (by
          rintro m ⟨⟨u, v⟩, s2⟩ rec hm ⟨p0, p1, p2⟩
          dsimp only at p0 p1 p2 ⊢
          injection p0 with p0 p0'
          subst p0; subst p0'
          unfold bX7_laysPerfect_50
          rw [if_neg (nI_ge hm (by omega)), dr_ok m8 n8.1, n8.2, ck_n (by omega) (by omega), nI_clamp (by omega), p2 403 m (by omega), g1 m hm, nI_add, lt_ok]
          rcases hw with rfl | rfl
          · have hw41 : (if nI k ≤ nI m + (1 : Int32) then (some ((0 : Int32), s2)) else (ck (nI m + (1 : Int32)) 6 (some ((gi s2 403 (nI m + (1 : Int32)).toNatClampNeg), s2)))) = some (nI (if m + 1 < k then P.getD (m + 1) 0 else 0), s2) := by
              rw [ad1]
              by_cases hq : k ≤ m + 1
              · rw [if_pos (nI_le hq (by omega)), if_neg (by omega)]; rfl
              · rw [if_neg (nI_ge (by omega) (by omega)), ck_n (by omega) (by omega), nI_clamp (by omega), p2 403 _ (by omega), g1 _ (by omega), if_pos (by omega)]
            rw [if_neg (by simp; rfl), dr_ok m9 n9.1, n9.2, i0, ck_n (by omega) (by omega), show nI 0 = (0 : Int32) from rfl, hw41, bd_ok, ck_n (by omega) (by omega), p2 403 _ (by omega), cl0_, g1 0 (by omega), nI_add, ss_ok, bd_ok, lt_ok, ad1]
            refine ⟨_, rfl, rfl, fun j hj hq => ?_, fun x j hx => by dsimp only; rw [gs_ne (by omega)]; exact p2 x j hx⟩
            dsimp only
            rw [if_pos rfl] at hq
            by_cases hjm : j = m
            · subst hjm; rw [gs_eq, hsc j hj, if_pos rfl]
            · rw [gs_ne (by omega)]; exact p1 j hj (by rw [if_pos rfl]; omega)
          · rw [if_pos (by decide), dr_ok m9 n9.1, n9.2, i1, sub_n (by omega), sub_n (by omega), ck_n (by omega) (by omega), nI_clamp (by omega), ss_ok, bd_ok, lt_ok, nI_add]
            refine ⟨_, rfl, rfl, fun j hj hq => ?_, fun x j hx => by dsimp only; rw [gs_ne (by omega)]; exact p2 x j hx⟩
            dsimp only
            rw [if_neg (by decide)] at hq
            by_cases hjm : j = k - 1 - m
            · subst hjm; rw [gs_eq, hsc _ hj, if_neg (by decide), show k - (k - 1 - m) = m + 1 by omega]; rfl
            · rw [gs_ne (by omega)]; exact p1 j hj (by rw [if_neg (by decide)]; omega))
        (by
          rintro ⟨⟨u, v⟩, s2⟩ rec ⟨p0, p1, p2⟩
          dsimp only at p0 p1 p2 ⊢
          injection p0 with p0 p0'
          subst p0; subst p0'
          unfold bX7_laysPerfect_50
          rw [if_pos (nI_le (Nat.le_refl _) (by omega))]
          exact ⟨_, rfl, fun j hj => p1 j hj (by split <;> omega), p2⟩)
        (a := (((0 : Int32), (0 : Int32)), s)) ⟨rfl, fun j hj hq => by split at hq <;> omega, fun _ _ _ => rfl⟩
      dsimp only at p1 p2
      rw [e2, bd_ok]
      obtain ⟨⟨v, s3⟩, e3, z1, z2⟩ := for_in (F := fun (rec : Int32 × Sg → Option (Int32 × Sg)) (a : Int32 × Sg) => bX7_laysPerfect_132 E (nI k) 395 (fun u0 t => rec (u0, t)) a.1 a.2) k
        (fun m b => b.1 = nI m ∧ (∀ j, j < m → gi b.2 403 j = nI ((pfn w k (i + 1)).getD j 0)) ∧ ∀ x j, x ≠ 403 → gi b.2 x j = gi s2 x j)
        (fun b => (∀ j, j < k → gi b.2 403 j = nI ((pfn w k (i + 1)).getD j 0)) ∧ ∀ x j, x ≠ 403 → gi b.2 x j = gi s2 x j) (N := FU) (by show k < 1000000; omega)
        (by
          rintro m ⟨v, s3⟩ rec hm ⟨rfl, z1, z2⟩
          dsimp only at z1 z2 ⊢
          unfold bX7_laysPerfect_132
          rw [if_neg (nI_ge hm (by omega)), dr_ok m8 n8.1, dr_ok m9 n9.1, n9.2, n8.2, ck_n (by omega) (by omega), ck_n (by omega) (by omega), nI_clamp (by omega), z2 404 m (by omega), p1 m hm, ss_ok, lt_ok, ad1]
          refine ⟨_, rfl, rfl, fun j hj => ?_, fun x j hx => by dsimp only; rw [gs_ne (by omega)]; exact z2 x j hx⟩
          dsimp only
          by_cases hjm : j = m
          · subst hjm; rw [gs_eq]
          · rw [gs_ne (by omega)]; exact z1 j (by omega))
        (by
          rintro ⟨v, s3⟩ rec ⟨rfl, z1, z2⟩
          unfold bX7_laysPerfect_132
          rw [if_pos (nI_le (Nat.le_refl _) (by omega))]
          exact ⟨_, rfl, z1, z2⟩)
        (a := ((0 : Int32), s2)) ⟨rfl, fun j hj => absurd hj (Nat.not_lt_zero j), fun _ _ _ => rfl⟩
      dsimp only at z1 z2
      rw [e3, bd_ok, lt_ok, ad1]
      exact ⟨_, rfl, rfl, z1, fun x j h1 h2 => by dsimp only; rw [z2 _ _ h1, p2 _ _ h2]; exact g2 x j h1 h2⟩
    · rintro ⟨v, s⟩ rec ⟨rfl, q⟩
      unfold bX7_laysPerfect_38
      rw [if_pos (nI_le (Nat.le_refl _) (by omega))]
      exact ⟨_, rfl, q⟩
theorem m_allP (hM : LMod E) (hM2 : LMo2 E) (h5 : k ≤ 5) {P : Nat → Nat} (hp : ∀ i, i < k → gi σ 403 i = nI (P i)) : fX7_allPerfect E 395 (nI k) σ = some (nI (sumF P k), σ) := by
  obtain ⟨m0, m1, m2, m3, m4, m5, m6, m7, m8, m9, mz⟩ := id hM
  obtain ⟨n1, n2, n3, n4, n5, n6, n7, n8, n9, nz⟩ := id hM2
  unfold fX7_allPerfect
  rw [tk_ok m0]
  refine bd_tr ((nI (sumF P k), nI k), σ) k (fun i => ((nI (sumF P i), nI i), σ)) (by show k < 1000000; omega) (fun i rec hi => ?_) (fun rec => ?_) rfl
  · dsimp only
    unfold bX7_allPerfect_4
    rw [if_neg (nI_ge hi (by omega)), dr_ok m8 n8.1, n8.2, ck_n (by omega) (by omega), nI_clamp (by omega), hp i hi, nI_add, lt_ok, lt_ok, ad1]
    rfl
  · unfold bX7_allPerfect_4
    dsimp only
    rw [if_pos (nI_le (Nat.le_refl _) (by omega))]
theorem m_makes (hM : LMod E) (hM2 : LMo2 E) {m : Nat} {a b : Int32} (h : gi σ 395 15 = nI m) (hm : m < 700) : fX7_makesRun E 395 a b σ = some (nI m, si (si (si (si σ 396 (1227 + m) a) 396 (1927 + m) b) 396 (2627 + m) 0) 395 15 (nI (m + 1))) := by
  unfold fX7_makesRun
  rw [tk_ok hM.1, dr_ok hM.2.1 hM2.1.1, hM2.1.2, h, show (1227 : Int32) = nI 1227 from rfl, nI_add, ck_n (by omega) (by omega), nI_clamp (by omega), ss_ok, gs_ne (by omega), h, show (1927 : Int32) = nI 1927 from rfl, nI_add, ck_n (by omega) (by omega), nI_clamp (by omega), ss_ok, gs_ne (by omega), gs_ne (by omega), h, show (2627 : Int32) = nI 2627 from rfl, nI_add, ck_n (by omega) (by omega), nI_clamp (by omega), ss_ok, ss_ok]
  have e : gi (si (si (si σ 396 (1227 + m) a) 396 (1927 + m) b) 396 (2627 + m) 0) 395 15 = nI m := by rw [gs_ne (by omega), gs_ne (by omega), gs_ne (by omega), h]
  rw [e, ad1, gs_eq, i1, sub_n (by omega), show m + 1 - 1 = m by omega]
def insX (d : Nat) (z : Dn) (l : List Dn) : List Dn := l.take d ++ z :: l.drop d
theorem insX_get {d : Nat} {z : Dn} {P : List Dn} (hp : d ≤ P.length) (i : Nat) : (insX d z P).getD i d0 = if i < d then P.getD i d0 else if i = d then z else P.getD (i - 1) d0 := by
  unfold insX
  simp only [List.getD_eq_getElem?_getD]
  by_cases h1 : i < d
  · rw [if_pos h1, List.getElem?_append_left (by rw [List.length_take]; omega), List.getElem?_take_of_lt h1]
  · rw [if_neg h1, List.getElem?_append_right (by rw [List.length_take]; omega), List.length_take, Nat.min_eq_left hp]
    by_cases h2 : i = d
    · rw [if_pos h2, h2, Nat.sub_self]; rfl
    · rw [if_neg h2, show i - d = (i - d - 1) + 1 by omega, List.getElem?_cons_succ, List.getElem?_drop, show d + (i - d - 1) = i - 1 by omega]
theorem insX_len {d : Nat} {z : Dn} {P : List Dn} : (insX d z P).length = P.length + 1 := by
  unfold insX; rw [List.length_append, List.length_cons, List.length_take, List.length_drop]; omega
/-- a run comes into the midst of a tape -/
theorem m_insert (hM : LMod E) (hM2 : LMo2 E) {X : Nat → List Dn} {t d : Nat} (h : XT σ X) (ht : t < 6) (z : Dn) (hl : (X t).length < 256) (hd : d ≤ (X t).length) : ∃ s, bd (fx (fun rec a => bX7_dealsRun_83 E (nI d) (nI t) 396 (fun u0 t => rec (u0, t)) a.1 a.2) FU (nI (X t).length, σ)) (fun o39 s40 => ck (((3327 : Int32) + ((700 : Int32) * nI t)) + nI d) 7827 (ss (si s40 396 (((3327 : Int32) + ((700 : Int32) * nI t)) + nI d).toNatClampNeg (nI z.1)) (fun s42 => ck ((20 : Int32) + nI t) 7827 (ck ((20 : Int32) + nI t) 7827 (ss (si s42 396 ((20 : Int32) + nI t).toNatClampNeg ((gi s42 396 ((20 : Int32) + nI t).toNatClampNeg) + (1 : Int32))) (fun s45 => some s45)))))) = some s ∧ XT s (upX X t (insX d z (X t))) ∧ ∀ x k, ¬ (x = 396 ∧ (k = 20 + t ∨ (3327 + 700 * t ≤ k ∧ k < 3327 + 700 * t + 700))) → gi s x k = gi σ x k := by
  obtain ⟨h1, h2, h3⟩ := h t ht
  have key := fx_ok (F := fun (rec : Int32 × Sg → Option (Int32 × Sg)) (b : Int32 × Sg) => bX7_dealsRun_83 E (nI d) (nI t) 396 (fun u0 t => rec (u0, t)) b.1 b.2)
    (fun j b => b.1 = nI (d + j) ∧ d + j ≤ (X t).length ∧ (∀ k, k < d + j → gi b.2 396 (3327 + 700 * t + k) = nI ((X t).getD k d0).1) ∧ (∀ k, d + j ≤ k → k < (X t).length → gi b.2 396 (3327 + 700 * t + k + 1) = nI ((X t).getD k d0).1) ∧ ∀ x k, ¬ (x = 396 ∧ (3327 + 700 * t ≤ k ∧ k < 3327 + 700 * t + 700)) → gi b.2 x k = gi σ x k)
    (fun b => (∀ k, k < d → gi b.2 396 (3327 + 700 * t + k) = nI ((X t).getD k d0).1) ∧ (∀ k, d ≤ k → k < (X t).length → gi b.2 396 (3327 + 700 * t + k + 1) = nI ((X t).getD k d0).1) ∧ ∀ x k, ¬ (x = 396 ∧ (3327 + 700 * t ≤ k ∧ k < 3327 + 700 * t + 700)) → gi b.2 x k = gi σ x k)
    ?_ FU ((X t).length - d) (nI (X t).length, σ) (by show (X t).length - d < 1000000; omega) ⟨by dsimp only; congr 1; omega, by omega, fun k hk => h3 k (by omega), fun k g1 g2 => by omega, fun _ _ _ => rfl⟩
  · obtain ⟨⟨v, s⟩, e, q0, q1, q2⟩ := key
    dsimp only at q0 q1 q2
    rw [e, bd_ok, show (3327 : Int32) = nI 3327 from rfl, show (700 : Int32) = nI 700 from rfl, pk_mul, nI_add, nI_add, ck_n (by omega) (by omega), nI_clamp (by omega), ss_ok, show (20 : Int32) = nI 20 from rfl, nI_add, ck_n (by omega) (by omega), ck_n (by omega) (by omega), nI_clamp (by omega), gs_ne (by omega), q2 _ _ (by omega), h1, ad1, ss_ok]
    refine ⟨_, rfl, fun u hu => ?_, fun x k q => by rw [gs_ne (by omega), gs_ne (by omega)]; exact q2 x k (by omega)⟩
    unfold upX
    by_cases hut : u = t
    · subst hut
      rw [if_pos rfl]
      refine ⟨by rw [gs_eq, insX_len], by rw [insX_len]; omega, fun k hk => ?_⟩
      rw [insX_len] at hk
      rw [gs_ne (by omega), insX_get hd]
      by_cases c1 : k < d
      · rw [if_pos c1, gs_ne (by omega)]; exact q0 k c1
      · rw [if_neg c1]
        by_cases c2 : k = d
        · rw [if_pos c2, c2, gs_eq]
        · rw [if_neg c2, gs_ne (by omega)]
          have := q1 (k - 1) (by omega) (by omega)
          rw [show 3327 + 700 * u + (k - 1) + 1 = 3327 + 700 * u + k by omega] at this
          exact this
    · rw [if_neg hut]
      obtain ⟨g1, g2, g3⟩ := h u hu
      exact ⟨by rw [gs_ne (by omega), gs_ne (by omega), q2 _ _ (by omega)]; exact g1, g2, fun k hk => by rw [gs_ne (by omega), gs_ne (by omega), q2 _ _ (by omega)]; exact g3 k hk⟩
  · rintro j ⟨v, s⟩ rec ⟨g0, g1, g2, g3, g4⟩ IH
    dsimp only at g0 g2 g3 g4 ⊢
    subst g0
    unfold bX7_dealsRun_83
    by_cases hj : j = 0
    · subst hj
      rw [if_pos (nI_le (by omega) (by omega))]
      exact ⟨_, rfl, g2, fun k z1 z2 => g3 k (by omega) z2, g4⟩
    · rw [if_neg (nI_ge (by omega) (by omega)), hM2.1.2, show (3327 : Int32) = nI 3327 from rfl, show (700 : Int32) = nI 700 from rfl, pk_mul, nI_add, nI_add, i1, sub_n (by omega), ck_n (by omega) (by omega), ck_n (by omega) (by omega), nI_clamp (by omega), nI_clamp (by omega), show 3327 + 700 * t + (d + j) - 1 = 3327 + 700 * t + (d + (j - 1)) by omega, g2 (d + (j - 1)) (by omega), ss_ok, lt_ok, show nI (d + j) + -nI 1 = nI (d + j - 1) from sb_m1 (by omega), show d + j - 1 = d + (j - 1) by omega]
      refine IH (j - 1) _ (by omega) ⟨rfl, by omega, fun k hk => ?_, fun k z1 z2 => ?_, fun x k q => ?_⟩
      · dsimp only; rw [gs_ne (by omega)]; exact g2 k (by omega)
      · dsimp only
        by_cases hkj : k = d + (j - 1)
        · subst hkj; rw [show 3327 + 700 * t + (d + (j - 1)) + 1 = 3327 + 700 * t + (d + j) by omega, gs_eq]
        · rw [gs_ne (by omega)]; exact g3 k (by omega) z2
      · dsimp only; rw [gs_ne (by omega)]; exact g4 x k q
end PF
end
section
/-! the reference deals -/
theorem cat_up {X : Nat → List Dn} {t : Nat} {z : Dn} {l : List Dn} (hl : l.Perm (z :: X t)) : ∀ {n : Nat}, t < n → (catX (upX X t l) n).Perm (z :: catX X n)
  | 0, h => by omega
  | n + 1, h => by
    show (catX (upX X t l) n ++ upX X t l n).Perm (z :: (catX X n ++ X n))
    by_cases hq : n = t
    · subst hq
      have : ∀ m, m ≤ n → catX (upX X n l) m = catX X m := by
        intro m
        induction m with
        | zero => intro _; rfl
        | succ m ih => intro hm; show catX _ m ++ upX X n l m = _; rw [ih (by omega)]; unfold upX; rw [if_neg (by omega)]; rfl
      rw [this n (Nat.le_refl _)]
      unfold upX
      rw [if_pos rfl]
      exact (hl.append_left _).trans List.perm_middle
    · unfold upX at *
      rw [if_neg hq]
      exact (cat_up hl (n := n) (by omega)).append_right _
theorem insX_perm {d : Nat} {z : Dn} {l : List Dn} : (insX d z l).Perm (z :: l) := by
  unfold insX
  have := List.perm_middle (a := z) (l₁ := l.take d) (l₂ := l.drop d)
  rw [List.take_append_drop] at this; exact this
/-- runs dealt so far: m are made, none reaches beyond bnd -/
def DLr (σ : Sg) (F : Nat → Nat) (n : Nat) (ro gl : Nat → Nat) (X : Nat → List Dn) (m bnd : Nat) : Prop := XT σ X ∧ gi σ 395 15 = nI m ∧ (∀ z, z ∈ catX X 6 → z.1 < m ∧ DD σ F n ro gl z ∧ z.2.1 + zz gl z ≤ bnd) ∧ (catX X 6).Pairwise (apt gl)
def esR (x k : Nat) : Prop := ¬ (x = 396 ∧ ((20 ≤ k ∧ k < 26) ∨ (1227 ≤ k ∧ k < 7527))) ∧ ¬ (x = 395 ∧ k = 15)
section DE
variable {E : En} {σ : Sg} {F : Nat → Nat} {n nr w T m bnd : Nat} {ro gl bg : Nat → Nat} {bk tu fr : Bool} {X : Nat → List Dn}
theorem dl_add {s : Sg} {t : Nat} {z : Dn} {l : List Dn} (h : DLr σ F n ro gl X m bnd) (ht : t < 6) (hm : m < 700) (hz : z.1 = m) (hl : l.Perm (z :: X t)) (hx : XT s (upX X t l)) (h15 : gi s 395 15 = nI (m + 1)) (hzd : DD s F n ro gl z) (hb : bnd ≤ z.2.1) (hf : ∀ k, (1227 ≤ k ∧ k < 3327 ∧ k ≠ 1227 + m ∧ k ≠ 1927 + m ∧ k ≠ 2627 + m) ∨ 7527 ≤ k → gi s 396 k = gi σ 396 k) : DLr s F n ro gl (upX X t l) (m + 1) (z.2.1 + zz gl z) := by
  obtain ⟨h1, h2, h3, h4⟩ := h
  have hp := cat_up (X := X) hl (n := 6) ht
  refine ⟨hx, h15, fun y hy => ?_, ?_⟩
  · rcases List.mem_cons.mp (hp.mem_iff.mp hy) with rfl | hy
    · exact ⟨by omega, hzd, Nat.le_refl _⟩
    · obtain ⟨y1, y2, y3⟩ := h3 y hy
      have := y2.1
      exact ⟨by omega, dd_fr y2 (hf _ (by omega)) (hf _ (by omega)) (hf _ (by omega)) (fun i _ => hf _ (by omega)), by omega⟩
  · refine hp.symm.pairwise ?_ (fun {x y} q => apt_symm q)
    refine List.pairwise_cons.mpr ⟨fun y hy => ?_, h4⟩
    obtain ⟨y1, y2, y3⟩ := h3 y hy
    exact ⟨by omega, Or.inr (by omega)⟩
/-- what growth has left in the reference's row -/
def GRm (σ : Sg) (F : Nat → Nat) (n : Nat) (ro gl bg : Nat → Nat) (tu : Bool) (nr : Nat) : Prop := gi σ 396 14 = nI nr ∧ (∃ s5, gi σ 396 6 = nI s5 ∧ s5 ≤ 1 ∧ tu = (s5 == 1)) ∧ (∀ r, r ≤ nr → gi σ 396 (926 + r) = nI (bg r)) ∧ (∀ r, r < nr → bg r + gl r = bg (r + 1) ∧ bg (r + 1) ≤ n) ∧ ∀ r, r < nr → ∀ i, i < gl r → gi σ 396 (7527 + bg r + i) = nI ((cnt F n ro (rnj tu r)).getD i 0)
theorem gr_fr {s : Sg} (h : GRm σ F n ro gl bg tu nr) (hnr : nr ≤ 300) (hf : ∀ k, k = 14 ∨ k = 6 ∨ (926 ≤ k ∧ k < 1227) ∨ 7527 ≤ k → gi s 396 k = gi σ 396 k) : GRm s F n ro gl bg tu nr := by
  obtain ⟨h1, ⟨s5, h2, h3, h4⟩, h5, h6, h7⟩ := h
  exact ⟨by rw [hf _ (by omega)]; exact h1, ⟨s5, by rw [hf _ (by omega)]; exact h2, h3, h4⟩, fun r hr => by rw [hf _ (by omega)]; exact h5 r hr, h6, fun r hr i hi => by rw [hf _ (by omega)]; exact h7 r hr i hi⟩
theorem m_runSize (hM : LMod E) (hM2 : LMo2 E) (h : GRm σ F n ro gl bg tu nr) (hnr : nr ≤ 300) {r : Nat} (hr : r < nr) : fX7_runSize E 395 (nI r) σ = some (nI (gl r), σ) := by
  obtain ⟨h1, h2, h5, h6, h7⟩ := h
  unfold fX7_runSize
  rw [tk_ok hM.1, dr_ok hM.2.1 hM2.1.1, hM2.1.2, show (926 : Int32) = nI 926 from rfl, nI_add, ad1, ck_n (by omega) (by omega), ck_n (by omega) (by omega), nI_clamp (by omega), nI_clamp (by omega), show 926 + r + 1 = 926 + (r + 1) by omega, h5 _ (by omega), h5 _ (by omega), sub_n (by have := (h6 r hr).1; omega), show bg (r + 1) - bg r = gl r by have := (h6 r hr).1; omega]
theorem m_dealRun (hM : LMod E) (hM2 : LMo2 E) (hn : n ≤ 300) (hnr : nr ≤ 300) (hs : SR σ F n w T bk) (hg : GRm σ F n ro gl bg tu nr) {t r d : Nat} (hd : DLr σ F n ro gl X m (bg r)) (hm : m < 700) (ht : t < 6) (hl : (X t).length < 256) (hr : r < nr) (hw : w ≤ 2) (hdl : d ≤ (X t).length) (hdc : bk = true → if w = 1 then d = 0 else gi σ 405 t = nI d) :
    ∃ s, fX7_dealsRun E 395 (nI t) (nI r) σ = some s ∧ DLr s F n ro gl (upX X t (if bk then insX d (m, bg r, rnj tu r) (X t) else X t ++ [(m, bg r, rnj tu r)])) (m + 1) (bg (r + 1)) ∧ ∀ x k, esR x k → gi s x k = gi σ x k := by
  obtain ⟨m0, m1, m2, m3, m4, m5, m6, m7, m8, m9, m10, mz⟩ := id hM
  obtain ⟨n1, n2, n3, n4, n5, n6, n7, n8, n9, n10, nz⟩ := id hM2
  obtain ⟨h1, ⟨s5, h6, hs5, htu⟩, h26, hbg, hct⟩ := id hg
  obtain ⟨b1, b2⟩ := hbg r hr
  have hx := hd.1
  have h15 := hd.2.1
  unfold fX7_dealsRun
  rw [tk_ok m0, dr_ok m1 n1.1, n1.2, show (926 : Int32) = nI 926 from rfl, nI_add, ck_n (by omega) (by omega), nI_clamp (by omega), m_runSize hM hM2 hg hnr hr, bd_ok, h26 r (by omega), m_makes hM hM2 h15 hm, bd_ok]
  generalize hs1 : si (si (si (si σ 396 (1227 + m) (nI (bg r))) 396 (1927 + m) (nI (gl r))) 396 (2627 + m) 0) 395 15 (nI (m + 1)) = s1
  have f1 : ∀ x k, ¬ (x = 396 ∧ (k = 1227 + m ∨ k = 1927 + m ∨ k = 2627 + m)) → ¬ (x = 395 ∧ k = 15) → gi s1 x k = gi σ x k := fun x k q1 q2 => by rw [← hs1, gs_ne (by omega), gs_ne (by omega), gs_ne (by omega), gs_ne (by omega)]
  rw [m_doesFall hM hM2 (by rw [f1 _ _ (by omega) (by omega)]; exact h6) hs5 (by omega), bd_ok, m_truth, bd_ok, show (2627 : Int32) = nI 2627 from rfl, nI_add, ck_n (by omega) (by omega), nI_clamp (by omega), ss_ok, ← htu]
  have hbb : (if bI (fal tu r) = 0 then (0 : Int32) else 1) = bI (fal tu r) := by cases fal tu r <;> rfl
  rw [hbb]
  generalize hs2 : si s1 396 (2627 + m) (bI (fal tu r)) = s2
  have f2 : ∀ x k, ¬ (x = 396 ∧ (k = 1227 + m ∨ k = 1927 + m ∨ k = 2627 + m)) → ¬ (x = 395 ∧ k = 15) → gi s2 x k = gi σ x k := fun x k q1 q2 => by rw [← hs2, gs_ne (by omega)]; exact f1 x k q1 q2
  have g1 : gi s2 396 (1227 + m) = nI (bg r) := by rw [← hs2, ← hs1, gs_ne (by omega), gs_ne (by omega), gs_ne (by omega), gs_ne (by omega), gs_eq]
  have g2 : gi s2 396 (1927 + m) = nI (gl r) := by rw [← hs2, ← hs1, gs_ne (by omega), gs_ne (by omega), gs_ne (by omega), gs_eq]
  have g3 : gi s2 396 (2627 + m) = bI (fal tu r) := by rw [← hs2, gs_eq]
  have g4 : gi s2 395 15 = nI (m + 1) := by rw [← hs2, gs_ne (by omega), ← hs1, gs_eq]
  have hzz : zz gl (m, bg r, rnj tu r) = gl r := by unfold zz rnj; show gl r + 0 = _; omega
  have hx2 : XT s2 X := xt_fr hx (fun k hk => f2 _ _ (by omega) (by omega))
  rw [m_isBack hM hM2 (bk := bk) (by rw [f2 _ _ (by omega) (by omega)]; exact hs.2.2.2.1), bd_ok]
  -- all the rest is about tapes alone
  have fin : ∀ (s : Sg) (l : List Dn), l.Perm ((m, bg r, rnj tu r) :: X t) → XT s (upX X t l) → (∀ x k, ¬ (x = 396 ∧ (k = 20 + t ∨ (3327 + 700 * t ≤ k ∧ k < 3327 + 700 * t + 700))) → gi s x k = gi s2 x k) → DLr s F n ro gl (upX X t l) (m + 1) (bg (r + 1)) ∧ ∀ x k, esR x k → gi s x k = gi σ x k := by
    intro s l hlp hxs hf
    refine ⟨?_, fun x k he => ?_⟩
    · have := dl_add (s := s) (z := (m, bg r, rnj tu r)) hd ht hm rfl hlp hxs (by rw [hf _ _ (by omega)]; exact g4) ⟨hm, by rw [hf _ _ (by omega)]; exact g1, by rw [hf _ _ (by omega), hzz]; exact g2, by rw [hf _ _ (by omega)]; exact g3, by rw [hzz]; show bg r + gl r ≤ n; omega, fun i hi => by rw [hzz] at hi; rw [hf _ _ (by omega), f2 _ _ (by omega) (by omega)]; exact hct r hr i hi⟩ (Nat.le_refl _) (fun k hk => by rw [hf _ _ (by omega), f2 _ _ (by omega) (by omega)])
      rw [hzz] at this
      rw [← b1]; exact this
    · unfold esR at he
      rw [hf _ _ (by omega), f2 _ _ (by omega) (by omega)]
  cases hbk : bk with
  | false =>
    obtain ⟨s3, e3, x3, f3⟩ := m_last hM hM2 hx2 ht (m, bg r, rnj tu r) hl
    rw [if_neg (by simp; rfl), e3, bv_ok]
    exact ⟨s3, rfl, fin s3 _ (List.perm_append_singleton _ _) x3 f3⟩
  | true =>
    have hw3 : gi s2 396 3 = nI w := by rw [f2 _ _ (by omega) (by omega)]; exact hs.2.2.1
    have hsel : (if ¬ nI w = (1 : Int32) then (dr (rf E 395 13) E 100 (fun x25 => ck (nI t) (ln E x25) (some ((gi s2 x25 (nI t).toNatClampNeg), s2)))) else (some ((0 : Int32), s2))) = some (nI d, s2) := by
      have hd' := hdc hbk
      by_cases hw1 : w = 1
      · rw [if_pos hw1] at hd'
        rw [hw1, if_neg (by simp; rfl), hd']; rfl
      · rw [if_neg hw1] at hd'
        rw [i1, if_pos (fun q => hw1 ((nI_eq (by omega) (by omega)).mp q)), dr_ok m10 n10.1, n10.2, ck_n (by omega) (by omega), nI_clamp (by omega), f2 _ _ (by omega) (by omega), hd']
    have hcnt : gi s2 396 (20 + t) = nI (X t).length := (hx2 t ht).1
    obtain ⟨s3, e3, x3, f3⟩ := m_insert hM hM2 hx2 ht (m, bg r, rnj tu r) hl hdl
    rw [if_pos (by decide), m_way hM hM2, bd_ok, hw3, hsel, bd_ok, show (20 : Int32) = nI 20 from rfl, nI_add, ck_n (by omega) (by omega), lt_ok, nI_clamp (by omega), hcnt]
    rw [show (20 : Int32) = nI 20 from rfl, nI_add, nI_clamp (by omega)] at e3
    rw [e3]
    exact ⟨s3, rfl, fin s3 _ insX_perm x3 f3⟩
/-- what runs on the tapes come to, one more -/
theorem tpi_add {d : Nat → Nat} {dl dl' : Nat → List Nat} {t b r : Nat} (hm : (X t).map (fun z => z.2.2) = tpi bk tu d dl t) (hb : dl' t = if t = b then dl t ++ [r] else dl t) : (upX X b (if bk then insX (d b) (m, bnd, rnj tu r) (X b) else X b ++ [(m, bnd, rnj tu r)]) t).map (fun z => z.2.2) = tpi bk tu d dl' t := by
  unfold upX
  by_cases hq : t = b
  · subst hq
    rw [if_pos rfl] at hb ⊢
    unfold tpi at hm ⊢
    rw [hb]
    cases bk
    · simp only [Bool.false_eq_true, if_false] at hm ⊢
      rw [List.map_append, hm]; simp
    · simp only [if_true] at hm ⊢
      unfold insX
      rw [List.map_append, List.map_cons, List.map_take, List.map_drop, hm]
      have hl : (List.replicate (d t) dum).length = d t := List.length_replicate
      rw [List.take_append_of_le_length (by omega), List.take_of_length_le (by omega), List.drop_append_of_le_length (by omega), List.drop_of_length_le (by omega)]
      simp
  · rw [if_neg hq] at hb ⊢
    rw [hm]
    unfold tpi
    rw [hb]
theorem m_isFront (hM : LMod E) (hM2 : LMo2 E) (h4 : gi σ 396 4 = nI (if fr then 1 else 0)) : fX7_isFront E 395 σ = some (bI fr, σ) := by
  unfold fX7_isFront
  rw [tk_ok hM.1, dr_ok hM.2.1 hM2.1.1, hM2.1.2, i4, ck_n (by omega) (by omega), nI_clamp (by omega), h4]
  cases fr
  · rw [if_pos (by decide), bd_ok, kb_0]; rfl
  · rw [if_neg (by simp; rfl), bd_ok, kb_1]; rfl
/-- dummies are dealt -/
theorem m_dummies (hM : LMod E) (hM2 : LMo2 E) (hn : n ≤ 300) {k D : Nat} {pf : Nat → Nat} (hk : k ≤ 5) (h4 : gi σ 396 4 = nI (if fr then 1 else 0)) (hp : ∀ t, t < k → gi σ 403 t = nI (pf t) ∧ pf t ≤ 253) (hD : D ≤ sumF pf k) (hD7 : D < 700) (hx : DLr σ F n ro gl (fun _ => []) 0 0) :
    ∃ s X, fX7_dealsDummies E 395 (nI k) (nI D) σ = some s ∧ DLr s F n ro gl X D 0 ∧ (∀ t, (X t).map (fun z => z.2.2) = List.replicate (dms pf fr k D t) dum) ∧ (∀ t, t < k → gi s 405 t = nI (dms pf fr k D t)) ∧ (∀ t, t < k → gi s 403 t = nI (pf t)) ∧ ∀ x j, esR x j → x ≠ 405 → gi s x j = gi σ x j := by
  obtain ⟨m0, m1, m2, m3, m4, m5, m6, m7, m8, m9, m10, m11, mz⟩ := id hM
  obtain ⟨n1, n2, n3, n4, n5, n6, n7, n8, n9, n10, n11, nz⟩ := id hM2
  unfold fX7_dealsDummies
  rw [tk_ok m0]
  obtain ⟨⟨v, s1⟩, e1, p1, p2⟩ := for_in (F := fun (rec : Int32 × Sg → Option (Int32 × Sg)) (a : Int32 × Sg) => bX7_dealsDummies_2 E (nI k) 395 (fun u0 t => rec (u0, t)) a.1 a.2) k
    (fun i b => b.1 = nI i ∧ (∀ j, j < i → gi b.2 405 j = nI 0) ∧ ∀ x j, x ≠ 405 → gi b.2 x j = gi σ x j) (fun b => (∀ j, j < k → gi b.2 405 j = nI 0) ∧ ∀ x j, x ≠ 405 → gi b.2 x j = gi σ x j) (N := FU) (by show k < 1000000; omega)
    (by
      rintro i ⟨v, s⟩ rec hi ⟨rfl, q1, q2⟩
      dsimp only at q1 q2 ⊢
      unfold bX7_dealsDummies_2
      rw [if_neg (nI_ge hi (by omega)), dr_ok m10 n10.1, n10.2, ck_n (by omega) (by omega), nI_clamp (by omega), ss_ok, lt_ok, ad1]
      refine ⟨_, rfl, rfl, fun j hj => ?_, fun x j hx => by dsimp only; rw [gs_ne (by omega)]; exact q2 x j hx⟩
      dsimp only
      by_cases hji : j = i
      · subst hji; rw [gs_eq]; rfl
      · rw [gs_ne (by omega)]; exact q1 j (by omega))
    (by
      rintro ⟨v, s⟩ rec ⟨rfl, q⟩
      unfold bX7_dealsDummies_2
      rw [if_pos (nI_le (Nat.le_refl _) (by omega))]
      exact ⟨_, rfl, q⟩)
    (a := ((0 : Int32), σ)) ⟨rfl, fun j hj => absurd hj (Nat.not_lt_zero j), fun _ _ _ => rfl⟩
  dsimp only at p1 p2
  rw [e1, bd_ok]
  obtain ⟨⟨v, s2⟩, e2, g1, g2⟩ := for_in (F := fun (rec : Int32 × Sg → Option (Int32 × Sg)) (a : Int32 × Sg) => bX7_dealsDummies_22 E (nI D) (nI k) 395 (fun u0 t => rec (u0, t)) a.1 a.2) D
    (fun i b => b.1 = nI i ∧ (∀ j, j < k → gi b.2 405 j = nI (dms pf fr k i j)) ∧ ∀ x j, x ≠ 405 → gi b.2 x j = gi σ x j) (fun b => (∀ j, j < k → gi b.2 405 j = nI (dms pf fr k D j)) ∧ ∀ x j, x ≠ 405 → gi b.2 x j = gi σ x j) (N := FU) (by show D < 1000000; omega)
    (by
      rintro i ⟨v, s⟩ rec hi ⟨rfl, q1, q2⟩
      dsimp only at q1 q2 ⊢
      obtain ⟨d1, d2, d3, d4⟩ := dms_ok (pf := pf) (fr := fr) (k := k) (n := i) (by omega)
      obtain ⟨b, hb⟩ := d4 (by omega)
      obtain ⟨hb1, hb2⟩ := bst_some hb
      generalize hdd : dms pf fr k i = d at *
      have hdb : ∀ t, t < k → d t ≤ 253 := fun t ht => Nat.le_trans (d2 t ht) (hp t ht).2
      have hloop : fx (fun rec a => bX7_dealsDummies_33 E (nI k) 395 (fun u0 u1 t => rec ((u0, u1), t)) a.1.1 a.1.2 a.2) FU (((-1 : Int32), (0 : Int32)), s) = some ((optI (bst pf d fr k), nI k), s) := by
        refine for_tr k (fun j => ((optI (bst pf d fr j), nI j), s)) (by show k < 1000000; omega) (fun j rec hj => ?_) (fun rec => ?_) rfl
        · obtain ⟨z1, z2⟩ := hp j hj
          have z3 := hdb j hj
          dsimp only
          unfold bX7_dealsDummies_33
          rw [if_neg (nI_ge hj (by omega)), dr_ok m10 n10.1, n10.2, ck_n (by omega) (by omega), dr_ok m8 n8.1, n8.2, ck_n (by omega) (by omega), nI_clamp (by omega), q1 j hj, q2 403 j (by omega), z1]
          have hbs : bst pf d fr (j + 1) = match bst pf d fr j with | none => if d j < pf j then some j else none | some b => if d j < pf j ∧ fr = false ∧ d j < d b then some j else some b := rfl
          rw [hbs]
          by_cases hc : pf j ≤ d j
          · rw [if_pos (nI_le hc (by omega)), bd_ok, if_pos rfl, bd_ok, lt_ok, ad1]
            cases bst pf d fr j with
            | none => dsimp only; rw [if_neg (by omega)]
            | some b => dsimp only; rw [if_neg (by omega)]
          · rw [if_neg (nI_ge (by omega) (by omega)), bd_ok, if_neg (by decide)]
            cases hbj : bst pf d fr j with
            | none => rw [if_pos (by rfl), bd_ok, lt_ok, ad1]; dsimp only; rw [if_pos (by omega)]; rfl
            | some b =>
              obtain ⟨w1, w2⟩ := bst_some hbj
              have w3 := hdb b (by omega)
              rw [show optI (some b) = nI b from rfl, if_neg (nI_nm1 (by omega)), m_isFront hM hM2 (fr := fr) (by rw [q2 _ _ (by omega)]; exact h4), bd_ok]
              dsimp only
              cases hfr : fr with
              | true => rw [if_pos (by decide), bd_ok, lt_ok, ad1, if_neg (by simp)]; rfl
              | false =>
                rw [if_neg (by simp; rfl), ck_n (by omega) (by omega), ck_n (by omega) (by omega), nI_clamp (by omega), q1 b (by omega), q1 j hj]
                by_cases hc2 : d b ≤ d j
                · rw [if_pos (nI_le hc2 (by omega)), bd_ok, lt_ok, ad1, if_neg (by omega)]; rfl
                · rw [if_neg (nI_ge (by omega) (by omega)), bd_ok, lt_ok, ad1, if_pos ⟨by omega, rfl, by omega⟩]; rfl
        · unfold bX7_dealsDummies_33
          dsimp only
          rw [if_pos (nI_le (Nat.le_refl _) (by omega))]
      unfold bX7_dealsDummies_22
      rw [if_neg (nI_ge hi (by omega)), hloop, bd_ok, hb]
      dsimp only
      rw [show optI (some b) = nI b from rfl, dr_ok m10 n10.1, n10.2, ck_n (by omega) (by omega), ck_n (by omega) (by omega), nI_clamp (by omega), q1 b hb1, ad1, ss_ok, lt_ok, ad1]
      have hnx : dms pf fr k (i + 1) = inc d b := by show inc (dms pf fr k i) ((bst pf (dms pf fr k i) fr k).getD 0) = _; rw [hdd, hb]; rfl
      refine ⟨_, rfl, rfl, fun j hj => ?_, fun x j hx => by dsimp only; rw [gs_ne (by omega)]; exact q2 x j hx⟩
      dsimp only
      rw [hnx]; unfold inc
      by_cases hjb : j = b
      · subst hjb; rw [gs_eq, if_pos rfl]
      · rw [if_neg hjb, gs_ne (by omega)]; exact q1 j hj)
    (by
      rintro ⟨v, s⟩ rec ⟨rfl, q⟩
      unfold bX7_dealsDummies_22
      rw [if_pos (nI_le (Nat.le_refl _) (by omega))]
      exact ⟨_, rfl, q⟩)
    (a := ((0 : Int32), s1)) ⟨rfl, p1, p2⟩
  dsimp only at g1 g2
  rw [e2, bd_ok]
  obtain ⟨d1, d2, d3, d4⟩ := dms_ok (pf := pf) (fr := fr) (k := k) (n := D) hD
  generalize hdd : dms pf fr k D = d at *
  have hdb : ∀ t, t < k → d t ≤ 253 := fun t ht => Nat.le_trans (d2 t ht) (hp t ht).2
  have hx2 : DLr s2 F n ro gl (fun _ => []) 0 0 := by
    obtain ⟨y1, y2, y3, y4⟩ := hx
    exact ⟨xt_fr y1 (fun k _ => g2 _ _ (by omega)), by rw [g2 _ _ (by omega)]; exact y2, fun z hz => (by
      obtain ⟨t, _, hzt⟩ := catX_mem.mp hz
      cases hzt), y4⟩
  obtain ⟨⟨v, s3⟩, e3, X, w1, w2, w3⟩ := for_in (F := fun (rec : Int32 × Sg → Option (Int32 × Sg)) (a : Int32 × Sg) => bX7_dealsDummies_127 E (nI k) 395 (fun u0 t => rec (u0, t)) a.1 a.2) k
    (fun i b => b.1 = nI i ∧ ∃ X, DLr b.2 F n ro gl X (sumF d i) 0 ∧ (∀ t, (X t).map (fun z => z.2.2) = if t < i then List.replicate (d t) dum else []) ∧ ∀ x j, esR x j → gi b.2 x j = gi s2 x j)
    (fun b => ∃ X, DLr b.2 F n ro gl X D 0 ∧ (∀ t, (X t).map (fun z => z.2.2) = if t < k then List.replicate (d t) dum else []) ∧ ∀ x j, esR x j → gi b.2 x j = gi s2 x j) (N := FU) (by show k < 1000000; omega)
    (by
      rintro i ⟨v, s⟩ rec hi ⟨rfl, X, q1, q2, q3⟩
      dsimp only at q1 q3 ⊢
      have hsd : sumF d i + d i ≤ D := by
        have : sumF d (i + 1) ≤ sumF d k := by
          have : ∀ j, i + 1 ≤ j → sumF d (i + 1) ≤ sumF d j := by
            intro j
            induction j with
            | zero => intro h; omega
            | succ j ih =>
              intro h
              by_cases hq : i = j
              · subst hq; exact Nat.le_refl _
              · have := ih (by omega); show _ ≤ sumF d j + d j; omega
          exact this k (by omega)
        have e : sumF d (i + 1) = sumF d i + d i := rfl
        omega
      unfold bX7_dealsDummies_127
      rw [if_neg (nI_ge hi (by omega))]
      obtain ⟨⟨v, s3⟩, e3, X3, w1, w2, w3⟩ := for_in (F := fun (rec : Int32 × Sg → Option (Int32 × Sg)) (a : Int32 × Sg) => bX7_dealsDummies_135 E 395 (nI i) (fun u0 t => rec (u0, t)) a.1 a.2) (d i)
        (fun j b => b.1 = nI j ∧ ∃ X, DLr b.2 F n ro gl X (sumF d i + j) 0 ∧ (∀ t, (X t).map (fun z => z.2.2) = if t < i then List.replicate (d t) dum else if t = i then List.replicate j dum else []) ∧ ∀ x j, esR x j → gi b.2 x j = gi s2 x j)
        (fun b => ∃ X, DLr b.2 F n ro gl X (sumF d i + d i) 0 ∧ (∀ t, (X t).map (fun z => z.2.2) = if t < i then List.replicate (d t) dum else if t = i then List.replicate (d i) dum else []) ∧ ∀ x j, esR x j → gi b.2 x j = gi s2 x j) (N := FU) (by show d i < 1000000; omega)
        (by
          rintro j ⟨v, s3⟩ rec hj ⟨rfl, X, w1, w2, w3⟩
          dsimp only at w1 w3 ⊢
          have hlen : (X i).length = j := by
            have := w2 i
            rw [if_neg (by omega), if_pos rfl] at this
            rw [← List.length_map (f := fun z : Dn => z.2.2), this, List.length_replicate]
          have hdi := hdb i hi
          unfold bX7_dealsDummies_135
          rw [dr_ok m10 n10.1, n10.2, ck_n (by omega) (by omega), nI_clamp (by omega), w3 405 i (by unfold esR; omega), g1 i hi, if_neg (nI_ge hj (by omega)), m_makes hM hM2 w1.2.1 (by omega), bd_ok]
          generalize hs4 : si (si (si (si s3 396 (1227 + (sumF d i + j)) 0) 396 (1927 + (sumF d i + j)) 0) 396 (2627 + (sumF d i + j)) 0) 395 15 (nI (sumF d i + j + 1)) = s4
          have f4 : ∀ x k, ¬ (x = 396 ∧ (k = 1227 + (sumF d i + j) ∨ k = 1927 + (sumF d i + j) ∨ k = 2627 + (sumF d i + j))) → ¬ (x = 395 ∧ k = 15) → gi s4 x k = gi s3 x k := fun x k q1 q2 => by rw [← hs4, gs_ne (by omega), gs_ne (by omega), gs_ne (by omega), gs_ne (by omega)]
          obtain ⟨s5, e5, x5, f5⟩ := m_last hM hM2 (σ := s4) (xt_fr w1.1 (fun k hk => f4 _ _ (by omega) (by omega))) (t := i) (by omega) (sumF d i + j, 0, dum) (by omega)
          rw [e5, bv_ok, lt_ok, ad1]
          refine ⟨_, rfl, rfl, upX X i (X i ++ [(sumF d i + j, 0, dum)]), ?_, fun t => ?_, fun x j' he => ?_⟩
          · have := dl_add (s := s5) (t := i) (z := ((sumF d i + j, 0, dum) : Dn)) w1 (by omega) (by omega) rfl (List.perm_append_singleton _ _) x5 (by rw [f5 _ _ (by omega), ← hs4, gs_eq]) ⟨by show sumF d i + j < 700; omega, by rw [f5 _ _ (by omega), ← hs4, gs_ne (by omega), gs_ne (by omega), gs_ne (by omega), gs_eq]; rfl, by rw [f5 _ _ (by omega), ← hs4, gs_ne (by omega), gs_ne (by omega), gs_eq]; rfl, by rw [f5 _ _ (by omega), ← hs4, gs_ne (by omega), gs_eq]; rfl, Nat.zero_le _, fun i hi => absurd hi (Nat.not_lt_zero i)⟩ (Nat.le_refl _) (fun k hk => by rw [f5 _ _ (by omega), f4 _ _ (by omega) (by omega)])
            exact this
          · unfold upX
            by_cases hti : t = i
            · subst hti
              rw [if_pos rfl, if_neg (by omega), if_pos rfl, List.map_append]
              have := w2 t
              rw [if_neg (by omega), if_pos rfl] at this
              rw [this, List.replicate_succ']; rfl
            · rw [if_neg hti, w2 t, if_neg hti, if_neg hti]
          · dsimp only
            have h1 : gi s5 x j' = gi s3 x j' := by
              unfold esR at he
              rw [f5 _ _ (by omega), f4 _ _ (by omega) (by omega)]
            rw [h1]; exact w3 x j' he)
        (by
          rintro ⟨v, s3⟩ rec ⟨rfl, X, w1, w2, w3⟩
          dsimp only at w1 w3 ⊢
          unfold bX7_dealsDummies_135
          rw [dr_ok m10 n10.1, n10.2, ck_n (by omega) (by omega), nI_clamp (by omega), w3 405 i (by unfold esR; omega), g1 i hi, if_pos (nI_le (Nat.le_refl _) (by have := hdb i hi; omega))]
          exact ⟨_, rfl, X, w1, w2, w3⟩)
        (a := ((0 : Int32), s)) ⟨rfl, X, q1, fun t => by
          rw [q2 t]
          by_cases hti : t = i
          · subst hti; rw [if_neg (by omega), if_neg (by omega), if_pos rfl]; rfl
          · rw [if_neg hti], q3⟩
      dsimp only at w1 w3
      rw [e3, bd_ok, lt_ok, ad1]
      refine ⟨_, rfl, rfl, X3, w1, fun t => ?_, w3⟩
      rw [w2 t]
      by_cases hti : t = i
      · subst hti; rw [if_neg (by omega), if_pos rfl, if_pos (by omega)]
      · rw [if_neg hti]
        by_cases hlt : t < i
        · rw [if_pos hlt, if_pos (by omega)]
        · rw [if_neg hlt, if_neg (by omega)])
    (by
      rintro ⟨v, s⟩ rec ⟨rfl, X, q1, q2, q3⟩
      dsimp only at q1 q3
      unfold bX7_dealsDummies_127
      rw [if_pos (nI_le (Nat.le_refl _) (by omega))]
      rw [d1] at q1
      exact ⟨_, rfl, X, q1, q2, q3⟩)
    (a := ((0 : Int32), s2)) ⟨rfl, fun _ => [], hx2, fun t => by rw [if_neg (by omega)]; rfl, fun _ _ _ => rfl⟩
  dsimp only at w1 w3
  rw [e3, bd_ok]
  refine ⟨s3, X, rfl, w1, fun t => ?_, fun t ht => by rw [w3 405 t (by unfold esR; omega)]; exact g1 t ht, fun t ht => by rw [w3 403 t (by unfold esR; omega), g2 _ _ (by omega)]; exact (hp t ht).1, fun x j he h5 => ?_⟩
  · rw [w2 t]
    by_cases hlt : t < k
    · rw [if_pos hlt]
    · rw [if_neg hlt, d3 t (by omega)]; rfl
  · rw [w3 x j he]
    exact g2 x j h5
end DE
end
section
/-! the reference spreads -/
section SQ
variable {E : En} {σ : Sg} {F : Nat → Nat} {n nr w T : Nat} {ro gl bg : Nat → Nat} {bk tu fr : Bool}
theorem bg_mono (hbg : ∀ r, r < nr → bg r + gl r = bg (r + 1) ∧ bg (r + 1) ≤ n) : ∀ r, r ≤ nr → bg 0 ≤ bg r
  | 0, _ => Nat.le_refl _
  | r + 1, h => by have := bg_mono hbg r (by omega); have := (hbg r (by omega)).1; omega
theorem m_spreadsP (hM : LMod E) (hM2 : LMo2 E) (hn : n ≤ 300) (hnr : nr ≤ 300) (hT : T ≤ 6) (hT3 : 3 ≤ T) (hw : w = 0 ∨ w = 2) (hc : Cap w T nr) (hsm : smp w (T - 1) (lvA w T nr) ≤ 700) (hs : SR σ F n w T bk) (h4 : gi σ 396 4 = nI (if fr then 1 else 0)) (hg : GRm σ F n ro gl bg tu nr) (hb0 : bg 0 = 0) (hx : DLr σ F n ro gl (fun _ => []) 0 0) (hn1 : 1 ≤ nr) :
    ∃ s X, fX7_spreadsPerfectly E 395 σ = some s ∧ DLr s F n ro gl X (smp w (T - 1) (lvA w T nr)) (bg nr) ∧ (∀ t, (X t).map (fun z => z.2.2) = tp0 w T bk fr tu nr t) ∧ gi s 396 13 = nI (T - 1) ∧ gi s 396 18 = nI (smp w (T - 1) (lvA w T nr) - nr) ∧ gi s 396 19 = nI (lvA w T nr) ∧ ∀ x k, esR x k → ¬ (403 ≤ x ∧ x ≤ 406) → ¬ (x = 396 ∧ (k = 13 ∨ k = 18 ∨ k = 19)) → gi s x k = gi σ x k := by
  obtain ⟨m0, m1, m2, m3, m4, m5, m6, m7, m8, m9, m10, m11, mz⟩ := id hM
  obtain ⟨n1, n2, n3, n4, n5, n6, n7, n8, n9, n10, n11, nz⟩ := id hM2
  have hw1 : w ≠ 1 := by omega
  obtain ⟨c1, c2, c3, c4, c5⟩ := cap_pf hc hw1
  generalize hl : lvA w T nr = l at *
  obtain ⟨l1, l2, l3⟩ := fstF_some c1
  simp only [decide_eq_false_iff_not] at l3
  have hpf : ∀ i, i < T - 1 → (pfn w (T - 1) l).getD i 0 = pfA w T l i := fun i hi => by unfold pfA; rw [if_pos hi]
  have hsum := pfA_sum (w := w) (T := T) (l := l)
  have htp : ∀ t, tp0 w T bk fr tu nr t = tpi bk tu (dms (pfA w T l) fr (T - 1) (smp w (T - 1) l - nr)) (dlt (fun t => pfA w T l t - dms (pfA w T l) fr (T - 1) (smp w (T - 1) l - nr) t) (T - 1) nr) t := fun t => by unfold tp0; rw [if_neg hw1]; unfold dlA dmA; rw [hl]
  generalize hpfd : pfA w T l = pf at *
  generalize hsmd : smp w (T - 1) l = sm at *
  unfold fX7_spreadsPerfectly
  rw [tk_ok m0, m_tapes hM hM2, bd_ok, hs.2.1, i1, sub_n (by omega), lt_ok, dr_ok m1 n1.1, n1.2, show (14 : Int32) = nI 14 from rfl, ck_n (by omega) (by omega), nI_clamp (by omega), hg.1, lt_ok, m_way hM hM2, bd_ok, hs.2.2.1]
  obtain ⟨s1, e1, p1, f1⟩ := m_layP (σ := σ) (w := w) (k := T - 1) (l := 0) hM hM2 (by omega) (by omega) hw (by omega)
  rw [i0, e1, bv_ok]
  obtain ⟨⟨v, s2⟩, e2, g0, g1, g2⟩ := for_in (F := fun (rec : Int32 × Sg → Option (Int32 × Sg)) (a : Int32 × Sg) => bX7_spreadsPerfectly_27 E 395 (nI (T - 1)) (nI nr) (fun u0 t => rec (u0, t)) a.1 a.2) l
    (fun i b => b.1 = nI i ∧ (∀ j, j < T - 1 → gi b.2 403 j = nI ((pfn w (T - 1) i).getD j 0)) ∧ ∀ x j, x ≠ 403 → x ≠ 404 → gi b.2 x j = gi σ x j)
    (fun b => b.1 = nI l ∧ (∀ j, j < T - 1 → gi b.2 403 j = nI ((pfn w (T - 1) l).getD j 0)) ∧ ∀ x j, x ≠ 403 → x ≠ 404 → gi b.2 x j = gi σ x j) (N := FU) (by show l < 1000000; omega)
    (by
      rintro i ⟨v, s⟩ rec hi ⟨rfl, q1, q2⟩
      dsimp only at q1 q2 ⊢
      have hsi := c3 i (by omega)
      have hlt := l3 i hi
      obtain ⟨s3, e3, p3, f3⟩ := m_layP (σ := s) (w := w) (k := T - 1) (l := i + 1) hM hM2 (by omega) (by omega) hw (by omega)
      unfold bX7_spreadsPerfectly_27
      rw [m_allP hM hM2 (by omega) q1, bd_ok]
      rw [show sumF (fun j => (pfn w (T - 1) i).getD j 0) (T - 1) = smp w (T - 1) i from rfl, if_neg (nI_ge (by omega) (by omega)), lt_ok, m_way hM hM2, bd_ok, q2 396 3 (by omega) (by omega), hs.2.2.1, ad1, e3, bv_ok]
      exact ⟨_, rfl, rfl, p3, fun x j h1 h2 => by dsimp only; rw [f3 _ _ h1 h2]; exact q2 x j h1 h2⟩)
    (by
      rintro ⟨v, s⟩ rec ⟨rfl, q1, q2⟩
      dsimp only at q1 q2 ⊢
      have hsi := c3 l (by omega)
      unfold bX7_spreadsPerfectly_27
      rw [m_allP hM hM2 (by omega) q1, bd_ok]
      rw [show sumF (fun j => (pfn w (T - 1) l).getD j 0) (T - 1) = sm from hsmd, if_pos (nI_le c4 (by omega))]
      exact ⟨_, rfl, rfl, q1, q2⟩)
    (a := (nI 0, s1)) ⟨rfl, p1, f1⟩
  dsimp only at g0 g1 g2
  subst g0
  rw [e2, bd_ok, show (19 : Int32) = nI 19 from rfl, ck_n (by omega) (by omega), nI_clamp (by omega), ss_ok, m_allP (σ := si s2 396 19 (nI l)) (P := fun j => (pfn w (T - 1) l).getD j 0) hM hM2 (by omega) (fun i hi => by rw [gs_ne (by omega)]; exact g1 i hi), bd_ok]
  rw [show sumF (fun j => (pfn w (T - 1) l).getD j 0) (T - 1) = sm from hsmd, sub_n c4, show (18 : Int32) = nI 18 from rfl, ck_n (by omega) (by omega), nI_clamp (by omega), ss_ok, ck_n (by omega) (by omega), gs_eq]
  generalize hs3 : si (si s2 396 19 (nI l)) 396 18 (nI (sm - nr)) = s3
  have f3 : ∀ x k, ¬ (x = 396 ∧ (k = 18 ∨ k = 19)) → x ≠ 403 → x ≠ 404 → gi s3 x k = gi σ x k := fun x k q1 q2 q3 => by rw [← hs3, gs_ne (by omega), gs_ne (by omega)]; exact g2 x k q2 q3
  have g318 : gi s3 396 18 = nI (sm - nr) := by rw [← hs3, gs_eq]
  have g319 : gi s3 396 19 = nI l := by rw [← hs3, gs_ne (by omega), gs_eq]
  have hx3 : DLr s3 F n ro gl (fun _ => []) 0 0 := by
    obtain ⟨y1, y2, y3, y4⟩ := hx
    exact ⟨xt_fr y1 (fun k _ => f3 _ _ (by omega) (by omega) (by omega)), by rw [f3 _ _ (by omega) (by omega) (by omega)]; exact y2, fun z hz => (by
      obtain ⟨t, _, hzt⟩ := catX_mem.mp hz
      cases hzt), y4⟩
  have h403 : ∀ t, t < T - 1 → gi s3 403 t = nI (pf t) ∧ pf t ≤ 253 := fun t ht => ⟨by rw [← hs3, gs_ne (by omega), gs_ne (by omega), g1 t ht, hpf t ht], c5 t ht⟩
  obtain ⟨s4, X4, e4, d4, x4, g45, g43, f4⟩ := m_dummies (fr := fr) (k := T - 1) (D := sm - nr) (pf := pf) hM hM2 hn (by omega) (by rw [f3 _ _ (by omega) (by omega) (by omega)]; exact h4) h403 (by omega) (by omega) hx3
  rw [e4, bv_ok]
  obtain ⟨dd1, dd2, dd3, dd4⟩ := dms_ok (pf := pf) (fr := fr) (k := T - 1) (n := sm - nr) (by omega)
  generalize hdd : dms pf fr (T - 1) (sm - nr) = d at *
  have hps : sumF (fun t => pf t - d t) (T - 1) = nr := by have := sumF_sub (f := pf) (g := d) (n := T - 1) dd2; omega
  obtain ⟨⟨v, s5⟩, e5, z1, z2⟩ := for_in (F := fun (rec : Int32 × Sg → Option (Int32 × Sg)) (a : Int32 × Sg) => bX7_spreadsPerfectly_89 E (nI (T - 1)) 395 (fun u0 t => rec (u0, t)) a.1 a.2) (T - 1)
    (fun i b => b.1 = nI i ∧ (∀ j, j < i → gi b.2 406 j = nI 0) ∧ ∀ x j, x ≠ 406 → gi b.2 x j = gi s4 x j) (fun b => (∀ j, j < T - 1 → gi b.2 406 j = nI 0) ∧ ∀ x j, x ≠ 406 → gi b.2 x j = gi s4 x j) (N := FU) (by show T - 1 < 1000000; omega)
    (by
      rintro i ⟨v, s⟩ rec hi ⟨rfl, q1, q2⟩
      dsimp only at q1 q2 ⊢
      unfold bX7_spreadsPerfectly_89
      rw [if_neg (nI_ge hi (by omega)), dr_ok m11 n11.1, n11.2, ck_n (by omega) (by omega), nI_clamp (by omega), ss_ok, lt_ok, ad1]
      refine ⟨_, rfl, rfl, fun j hj => ?_, fun x j hx => by dsimp only; rw [gs_ne (by omega)]; exact q2 x j hx⟩
      dsimp only
      by_cases hji : j = i
      · subst hji; rw [gs_eq]; rfl
      · rw [gs_ne (by omega)]; exact q1 j (by omega))
    (by
      rintro ⟨v, s⟩ rec ⟨rfl, q⟩
      unfold bX7_spreadsPerfectly_89
      rw [if_pos (nI_le (Nat.le_refl _) (by omega))]
      exact ⟨_, rfl, q⟩)
    (a := (nI 0, s4)) ⟨rfl, fun j hj => absurd hj (Nat.not_lt_zero j), fun _ _ _ => rfl⟩
  dsimp only at z1 z2
  rw [e5, bd_ok]
  have d5 : DLr s5 F n ro gl X4 (sm - nr) 0 := by
    obtain ⟨y1, y2, y3, y4⟩ := d4
    exact ⟨xt_fr y1 (fun k _ => z2 _ _ (by omega)), by rw [z2 _ _ (by omega)]; exact y2, fun z hz => ⟨(y3 z hz).1, dd_fr (y3 z hz).2.1 (z2 _ _ (by omega)) (z2 _ _ (by omega)) (z2 _ _ (by omega)) (fun i _ => z2 _ _ (by omega)), (y3 z hz).2.2⟩, y4⟩
  have f5 : ∀ x k, esR x k → ¬ (403 ≤ x ∧ x ≤ 406) → ¬ (x = 396 ∧ (k = 18 ∨ k = 19)) → gi s5 x k = gi σ x k := fun x k he h1 h2 => by
    rw [z2 _ _ (by omega), f4 x k he (by omega), f3 _ _ h2 (by omega) (by omega)]
  -- runs, one by one
  generalize hp : (fun t => pf t - d t) = p at *
  have hpt : ∀ t, p t = pf t - d t := fun t => by rw [← hp]
  obtain ⟨⟨v, s6⟩, e6, X6, w1, w2, w3⟩ := for_in (F := fun (rec : Int32 × Sg → Option (Int32 × Sg)) (a : Int32 × Sg) => bX7_spreadsPerfectly_112 E (nI nr) (nI (T - 1)) 395 (fun u0 t => rec (u0, t)) a.1 a.2) nr
    (fun r b => b.1 = nI r ∧ ∃ X, DLr b.2 F n ro gl X (sm - nr + r) (bg r) ∧ (∀ t, (X t).map (fun z => z.2.2) = tpi bk tu d (dlt p (T - 1) r) t) ∧ (∀ t, t < T - 1 → gi b.2 406 t = nI (dlt p (T - 1) r t).length ∧ gi b.2 405 t = nI (d t) ∧ gi b.2 403 t = nI (pf t)) ∧ (∀ x k, esR x k → x ≠ 406 → gi b.2 x k = gi s5 x k))
    (fun b => ∃ X, DLr b.2 F n ro gl X sm (bg nr) ∧ (∀ t, (X t).map (fun z => z.2.2) = tpi bk tu d (dlt p (T - 1) nr) t) ∧ (∀ x k, esR x k → x ≠ 406 → gi b.2 x k = gi s5 x k)) (N := FU) (by show nr < 1000000; omega)
    (by
      rintro r ⟨v, s⟩ rec hr ⟨rfl, X, w1, w2, w3, w4⟩
      dsimp only at w1 w3 w4 ⊢
      obtain ⟨r1, r2, r3, r4⟩ := dlt_ok (p := p) (k := T - 1) (by omega) (r := r) (by omega)
      have r4 := r4 (by omega)
      rw [show T - 1 - 1 = T - 2 by omega] at r4
      have hpl : ∀ (s' : Sg) i, (∀ x k, ¬ (x = 396) → gi s' x k = gi s x k) → i < T - 1 → fX7_placesLeft E 395 (nI i) s' = some (nI (p i - (dlt p (T - 1) r i).length), s') := by
        intro s' i hs' hi
        obtain ⟨y1, y2, y3⟩ := w3 i hi
        have q1 := r2 i hi
        have q2 := hpt i
        have q3 := dd2 i hi
        unfold fX7_placesLeft
        rw [tk_ok m0, dr_ok m8 n8.1, n8.2, ck_n (by omega) (by omega), dr_ok m10 n10.1, n10.2, ck_n (by omega) (by omega), dr_ok m11 n11.1, n11.2, ck_n (by omega) (by omega), nI_clamp (by omega), hs' _ _ (by omega), hs' _ _ (by omega), hs' _ _ (by omega), y1, y2, y3, sub_n (by omega), sub_n (by omega), ← q2]
      have hloop : fx (fun rec a => bX7_spreadsPerfectly_124 E (nI (T - 1)) 395 (fun u0 u1 t => rec ((u0, u1), t)) a.1.1 a.1.2 a.2) FU (((0 : Int32), (1 : Int32)), s) = some ((nI (amx (fun u => p u - (dlt p (T - 1) r u).length) (T - 2)), nI (T - 1)), s) := by
        refine for_tr (T - 2) (fun i => ((nI (amx (fun u => p u - (dlt p (T - 1) r u).length) i), nI (i + 1)), s)) (by show T - 2 < 1000000; omega) (fun i rec hi => ?_) (fun rec => ?_) rfl
        · have hle := amx_le (fun u => p u - (dlt p (T - 1) r u).length) i
          have hb1 : ∀ u, u < T - 1 → p u - (dlt p (T - 1) r u).length < 2 ^ 31 := fun u hu => by have := hpt u; have := c5 u hu; omega
          dsimp only
          unfold bX7_spreadsPerfectly_124
          rw [if_neg (nI_ge (by omega) (by omega)), hpl s (i + 1) (fun _ _ _ => rfl) (by omega), bd_ok, hpl s _ (fun _ _ _ => rfl) (by omega), bd_ok]
          have ea : amx (fun u => p u - (dlt p (T - 1) r u).length) (i + 1) = if p (amx (fun u => p u - (dlt p (T - 1) r u).length) i) - (dlt p (T - 1) r (amx (fun u => p u - (dlt p (T - 1) r u).length) i)).length < p (i + 1) - (dlt p (T - 1) r (i + 1)).length then i + 1 else amx (fun u => p u - (dlt p (T - 1) r u).length) i := rfl
          rw [ea]
          by_cases hcc : p (i + 1) - (dlt p (T - 1) r (i + 1)).length ≤ p (amx (fun u => p u - (dlt p (T - 1) r u).length) i) - (dlt p (T - 1) r (amx (fun u => p u - (dlt p (T - 1) r u).length) i)).length
          · rw [if_pos (nI_le hcc (hb1 _ (by omega))), bd_ok, lt_ok, ad1, if_neg (by omega)]
          · rw [if_neg (nI_ge (by omega) (hb1 _ (by omega))), bd_ok, lt_ok, ad1, if_pos (by omega)]
        · unfold bX7_spreadsPerfectly_124
          dsimp only
          rw [show T - 2 + 1 = T - 1 by omega, if_pos (nI_le (Nat.le_refl _) (by omega))]
      generalize hb : amx (fun u => p u - (dlt p (T - 1) r u).length) (T - 2) = b at *
      have hbk' : b < T - 1 := by have := amx_le (fun u => p u - (dlt p (T - 1) r u).length) (T - 2); omega
      obtain ⟨y1, y2, y3⟩ := w3 b hbk'
      have hXl : (X b).length = d b + (dlt p (T - 1) r b).length := by rw [← List.length_map (f := fun z : Dn => z.2.2), w2 b, tpi_len]
      have hcb := c5 b hbk'
      have hpb := hpt b
      have hdb := dd2 b hbk'
      unfold bX7_spreadsPerfectly_112
      rw [if_neg (nI_ge hr (by omega)), hloop, bd_ok]
      dsimp only
      rw [dr_ok m11 n11.1, n11.2, ck_n (by omega) (by omega), ck_n (by omega) (by omega), nI_clamp (by omega), y1, ad1, ss_ok]
      have hd6 : DLr (si s 406 b (nI ((dlt p (T - 1) r b).length + 1))) F n ro gl X (sm - nr + r) (bg r) := by
        obtain ⟨q1, q2, q3, q4⟩ := w1
        exact ⟨xt_fr q1 (fun k _ => gs_ne (by omega)), by rw [gs_ne (by omega)]; exact q2, fun z hz => ⟨(q3 z hz).1, dd_fr (q3 z hz).2.1 (gs_ne (by omega)) (gs_ne (by omega)) (gs_ne (by omega)) (fun i _ => gs_ne (by omega)), (q3 z hz).2.2⟩, q4⟩
      have hfr : ∀ k, k < 13 ∨ k = 14 ∨ (26 ≤ k ∧ k < 1227) ∨ 7527 ≤ k → gi (si s 406 b (nI ((dlt p (T - 1) r b).length + 1))) 396 k = gi σ 396 k := fun k hk => by
        rw [gs_ne (by omega), w4 396 k (by unfold esR; omega) (by omega)]; exact f5 396 k (by unfold esR; omega) (by omega) (by omega)
      obtain ⟨s7, e7, d7, f7⟩ := m_dealRun (σ := si s 406 b (nI ((dlt p (T - 1) r b).length + 1))) (tu := tu) (d := d b) hM hM2 hn hnr (sr_fr hs hn (fun k hk => hfr _ (by omega))) (gr_fr hg hnr (fun k hk => hfr _ (by omega))) hd6 (by omega) (t := b) (by omega) (by omega) hr (by omega) (by omega) (fun _ => by rw [if_neg hw1, gs_ne (by omega)]; exact y2)
      rw [e7, bv_ok, lt_ok, ad1]
      have hnx : ∀ t, dlt p (T - 1) (r + 1) t = if t = b then dlt p (T - 1) r t ++ [r] else dlt p (T - 1) r t := fun t => by
        show (if t = amx (fun u => p u - (dlt p (T - 1) r u).length) (T - 1 - 1) then _ else _) = _
        rw [show T - 1 - 1 = T - 2 by omega, hb]
      refine ⟨_, rfl, rfl, _, d7, fun t => ?_, fun t ht => ?_, fun x k he h6 => ?_⟩
      · exact tpi_add (w2 t) (hnx t)
      · obtain ⟨v1, v2, v3⟩ := w3 t ht
        have u6 : ∀ x, x = 405 ∨ x = 403 ∨ x = 406 → gi s7 x t = gi (si s 406 b (nI ((dlt p (T - 1) r b).length + 1))) x t := fun x hx => f7 x t (by unfold esR; omega)
        dsimp only
        rw [u6 406 (by omega), u6 405 (by omega), u6 403 (by omega), hnx]
        refine ⟨?_, by rw [gs_ne (by omega)]; exact v2, by rw [gs_ne (by omega)]; exact v3⟩
        by_cases htb : t = b
        · subst htb; rw [gs_eq, if_pos rfl, List.length_append]; rfl
        · rw [if_neg htb, gs_ne (by omega)]; exact v1
      · dsimp only; rw [f7 x k he, gs_ne (by omega)]; exact w4 x k he (by assumption))
    (by
      rintro ⟨v, s⟩ rec ⟨rfl, X, w1, w2, w3, w4⟩
      dsimp only at w1 w4 ⊢
      unfold bX7_spreadsPerfectly_112
      rw [if_pos (nI_le (Nat.le_refl _) (by omega))]
      rw [show sm - nr + nr = sm by omega] at w1
      exact ⟨_, rfl, X, w1, w2, w4⟩)
    (a := (nI 0, s5)) ⟨rfl, X4, by rw [hb0]; exact d5, fun t => by rw [x4 t]; unfold tpi; cases bk <;> simp [dlt], fun t ht => ⟨z1 t ht, by rw [z2 _ _ (by omega)]; exact g45 t ht, by rw [z2 _ _ (by omega)]; exact g43 t ht⟩, fun _ _ _ _ => rfl⟩
  dsimp only at w1 w3
  rw [e6, bd_ok, show (13 : Int32) = nI 13 from rfl, ck_n (by omega) (by omega), nI_clamp (by omega), ss_ok]
  refine ⟨_, X6, rfl, ?_, fun t => by rw [w2 t, htp t], gs_eq, ?_, ?_, fun x k he h1 h2 => ?_⟩
  · obtain ⟨q1, q2, q3, q4⟩ := w1
    exact ⟨xt_fr q1 (fun k _ => gs_ne (by omega)), by rw [gs_ne (by omega)]; exact q2, fun z hz => ⟨(q3 z hz).1, dd_fr (q3 z hz).2.1 (gs_ne (by omega)) (gs_ne (by omega)) (gs_ne (by omega)) (fun i _ => gs_ne (by omega)), (q3 z hz).2.2⟩, q4⟩
  · rw [gs_ne (by omega), w3 _ _ (by unfold esR; omega) (by omega), z2 _ _ (by omega), f4 _ _ (by unfold esR; omega) (by omega)]; exact g318
  · rw [gs_ne (by omega), w3 _ _ (by unfold esR; omega) (by omega), z2 _ _ (by omega), f4 _ _ (by unfold esR; omega) (by omega)]; exact g319
  · rw [gs_ne (by omega), w3 x k he (by omega)]; exact f5 x k he h1 (by omega)
end SQ
end
section
/-! the reference spreads: all of it -/
/-- what growth has left in the reference's row, ahead of spreading -/
def GOm (σ : Sg) (F : Nat → Nat) (n : Nat) (ro gl bg : Nat → Nat) (ol : Nat → Nat) (tu : Bool) (nr : Nat) : Prop := gi σ 396 14 = nI nr ∧ (∃ s5, gi σ 396 6 = nI s5 ∧ s5 ≤ 1 ∧ tu = (s5 == 1)) ∧ (∀ r, r ≤ nr → gi σ 396 (926 + r) = nI (bg r)) ∧ (∀ p, p < n → gi σ 396 (626 + p) = nI (ol p)) ∧ bg 0 = 0 ∧ (∀ r, r < nr → bg r + gl r = bg (r + 1) ∧ bg (r + 1) ≤ n) ∧ ∀ r, r < nr → ∀ i, i < gl r → ol (bg r + i) = (cnt F n ro (rnj tu r)).getD i 0
def esY (x k : Nat) : Prop := (x ≠ 396 ∨ k < 7 ∨ k = 8 ∨ k = 14 ∨ (26 ≤ k ∧ k < 1227)) ∧ ¬ (x = 395 ∧ k = 15) ∧ ¬ (403 ≤ x ∧ x ≤ 409)
section SY
variable {E : En} {σ : Sg} {F : Nat → Nat} {n nr w T : Nat} {ro gl bg ol : Nat → Nat} {bk tu fr : Bool}
theorem ai_a0 (hT3 : 3 ≤ T) (hc : Cap w T nr) : AI T nr (tp0 w T bk fr tu nr, skI w T (tp0 w T bk fr tu nr), 0, 0, 0, 0) := by
  refine ⟨tp0_oc hT3 hc, fun t ht => ?_, fun t ht => tp0_out hT3 hc ht, fun t r hr hz => ?_⟩
  · show (tab (fun t => (tp0 w T bk fr tu nr t).length) T).getD t 0 = _
    rw [tab_at ht]
  · rcases tp0_mem hr with rfl | ⟨j, rfl⟩
    · rfl
    · cases hz
theorem m_spreads (hM : LMod E) (hM2 : LMo2 E) (hgv : GV F n ro gl nr) (hok : Gok w T nr) (hnr : nr ≤ 300) (hsm : w ≠ 1 → smp w (T - 1) (lvA w T nr) ≤ 700) (hs : SR σ F n w T bk) (h4 : gi σ 396 4 = nI (if fr then 1 else 0)) (hg : GOm σ F n ro gl bg ol tu nr) :
    ∃ s, fX7_spreads E 395 σ = some s ∧ RMm s F n ro gl w T bk (mi0 w T bk fr tu gl nr) ∧ gi s 396 7 = (if lef T (skA w T nr) = 1 then 3 else 2) ∧ gi s 396 18 = nI (dmN w T nr) ∧ gi s 396 19 = lvI w T nr ∧ ∀ x k, esY x k → gi s x k = gi σ x k := by
  obtain ⟨m0, m1, mz⟩ := id hM
  obtain ⟨n1, nz'⟩ := id hM2
  obtain ⟨hn, hF, hgl⟩ := id hgv
  obtain ⟨hw, hT3, hT, hn1, _, hc, hgd⟩ := id hok
  obtain ⟨o1, o2, o3, o4, o5, o6, o7⟩ := id hg
  unfold fX7_spreads
  rw [tk_ok m0, ss_ok]
  -- counts are cleared
  obtain ⟨s1, e1, a9, a10, a11, a12, f1⟩ : ∃ s1, fX7_clearsCounts E 395 (si σ 395 15 0) = some s1 ∧ gi s1 396 9 = nI 0 ∧ gi s1 396 10 = nI 0 ∧ gi s1 396 11 = nI 0 ∧ gi s1 396 12 = nI 0 ∧ ∀ x k, ¬ (x = 396 ∧ 9 ≤ k ∧ k ≤ 12) → gi s1 x k = gi (si σ 395 15 0) x k := by
    unfold fX7_clearsCounts
    rw [tk_ok m0, dr_ok m1 n1.1, n1.2, show (9 : Int32) = nI 9 from rfl, show (10 : Int32) = nI 10 from rfl, show (11 : Int32) = nI 11 from rfl, show (12 : Int32) = nI 12 from rfl, ck_n (by omega) (by omega), ss_ok, ck_n (by omega) (by omega), ss_ok, ck_n (by omega) (by omega), ss_ok, ck_n (by omega) (by omega), ss_ok, nI_clamp (by omega), nI_clamp (by omega), nI_clamp (by omega), nI_clamp (by omega)]
    refine ⟨_, rfl, ?_, ?_, ?_, ?_, fun x k q => ?_⟩
    · rw [gs_ne (by omega), gs_ne (by omega), gs_ne (by omega), gs_eq]; rfl
    · rw [gs_ne (by omega), gs_ne (by omega), gs_eq]; rfl
    · rw [gs_ne (by omega), gs_eq]; rfl
    · rw [gs_eq]; rfl
    · rw [gs_ne (by omega), gs_ne (by omega), gs_ne (by omega), gs_ne (by omega)]
  rw [e1, bv_ok]
  obtain ⟨⟨v, s2⟩, e2, p1, p2⟩ := for_in (F := fun (rec : Int32 × Sg → Option (Int32 × Sg)) (a : Int32 × Sg) => bX7_spreads_11 E 395 (fun u0 t => rec (u0, t)) a.1 a.2) 6
    (fun i b => b.1 = nI i ∧ (∀ t, t < i → gi b.2 396 (20 + t) = nI 0) ∧ ∀ x k, ¬ (x = 396 ∧ 20 ≤ k ∧ k < 26) → gi b.2 x k = gi s1 x k) (fun b => (∀ t, t < 6 → gi b.2 396 (20 + t) = nI 0) ∧ ∀ x k, ¬ (x = 396 ∧ 20 ≤ k ∧ k < 26) → gi b.2 x k = gi s1 x k) (N := FU) (by show 6 < 1000000; omega)
    (by
      rintro i ⟨v, s⟩ rec hi ⟨rfl, q1, q2⟩
      dsimp only at q1 q2 ⊢
      unfold bX7_spreads_11
      rw [i6, if_neg (nI_ge hi (by omega)), dr_ok m1 n1.1, n1.2, show (20 : Int32) = nI 20 from rfl, nI_add, ck_n (by omega) (by omega), nI_clamp (by omega), ss_ok, lt_ok, ad1]
      refine ⟨_, rfl, rfl, fun t ht => ?_, fun x k q => by dsimp only; rw [gs_ne (by omega)]; exact q2 x k q⟩
      dsimp only
      by_cases hti : t = i
      · subst hti; rw [gs_eq]; rfl
      · rw [gs_ne (by omega)]; exact q1 t (by omega))
    (by
      rintro ⟨v, s⟩ rec ⟨rfl, q⟩
      unfold bX7_spreads_11
      rw [i6, if_pos (nI_le (Nat.le_refl _) (by omega))]
      exact ⟨_, rfl, q⟩)
    (a := ((0 : Int32), s1)) ⟨rfl, fun j hj => absurd hj (Nat.not_lt_zero j), fun _ _ _ => rfl⟩
  dsimp only at p1 p2
  rw [e2, bd_ok]
  have f2 : ∀ x k, ¬ (x = 396 ∧ ((9 ≤ k ∧ k ≤ 12) ∨ (20 ≤ k ∧ k < 26))) → ¬ (x = 395 ∧ k = 15) → gi s2 x k = gi σ x k := fun x k q1 q2 => by rw [p2 _ _ (by omega), f1 _ _ (by omega), gs_ne (by omega)]
  obtain ⟨⟨v, s3⟩, e3, g1, g2⟩ := for_in (F := fun (rec : Int32 × Sg → Option (Int32 × Sg)) (a : Int32 × Sg) => bX7_spreads_35 E 395 (fun u0 t => rec (u0, t)) a.1 a.2) n
    (fun i b => b.1 = nI i ∧ (∀ j, j < i → gi b.2 396 (7527 + j) = nI (ol j)) ∧ ∀ x k, ¬ (x = 396 ∧ 7527 ≤ k) → gi b.2 x k = gi s2 x k) (fun b => (∀ j, j < n → gi b.2 396 (7527 + j) = nI (ol j)) ∧ ∀ x k, ¬ (x = 396 ∧ 7527 ≤ k) → gi b.2 x k = gi s2 x k) (N := FU) (by show n < 1000000; omega)
    (by
      rintro i ⟨v, s⟩ rec hi ⟨rfl, q1, q2⟩
      dsimp only at q1 q2 ⊢
      unfold bX7_spreads_35
      rw [m_many hM hM2, bd_ok, q2 _ _ (by omega), f2 _ _ (by omega) (by omega), hs.1, if_neg (nI_ge hi (by omega)), dr_ok m1 n1.1, n1.2, show (626 : Int32) = nI 626 from rfl, nI_add, ck_n (by omega) (by omega), show (7527 : Int32) = nI 7527 from rfl, nI_add, ck_n (by omega) (by omega), nI_clamp (by omega), nI_clamp (by omega), q2 _ _ (by omega), f2 _ _ (by omega) (by omega), o4 i hi, ss_ok, lt_ok, ad1]
      refine ⟨_, rfl, rfl, fun j hj => ?_, fun x k q => by dsimp only; rw [gs_ne (by omega)]; exact q2 x k q⟩
      dsimp only
      by_cases hji : j = i
      · subst hji; rw [gs_eq]
      · rw [gs_ne (by omega)]; exact q1 j (by omega))
    (by
      rintro ⟨v, s⟩ rec ⟨rfl, q1, q2⟩
      dsimp only at q1 q2 ⊢
      unfold bX7_spreads_35
      rw [m_many hM hM2, bd_ok, q2 _ _ (by omega), f2 _ _ (by omega) (by omega), hs.1, if_pos (nI_le (Nat.le_refl _) (by omega))]
      exact ⟨_, rfl, q1, q2⟩)
    (a := ((0 : Int32), s2)) ⟨rfl, fun j hj => absurd hj (Nat.not_lt_zero j), fun _ _ _ => rfl⟩
  dsimp only at g1 g2
  rw [e3, bd_ok, dr_ok m1 n1.1, n1.2, show (17 : Int32) = nI 17 from rfl, ck_n (by omega) (by omega), nI_clamp (by omega), ss_ok]
  generalize hs4 : si s3 396 17 (0 : Int32) = s4
  have f4 : ∀ x k, ¬ (x = 396 ∧ ((9 ≤ k ∧ k ≤ 12) ∨ k = 17 ∨ (20 ≤ k ∧ k < 26) ∨ 7527 ≤ k)) → ¬ (x = 395 ∧ k = 15) → gi s4 x k = gi σ x k := fun x k q1 q2 => by rw [← hs4, gs_ne (by omega), g2 _ _ (by omega), f2 _ _ (by omega) q2]
  have g17 : gi s4 396 17 = nI 0 := by rw [← hs4, gs_eq]; rfl
  have f43 : ∀ k, k ≠ 17 → k < 7527 → gi s4 396 k = gi s2 396 k := fun k h1 h2 => by rw [← hs4, gs_ne (by omega), g2 _ _ (by omega)]
  have hs' : SR s4 F n w T bk := sr_fr hs hn (fun k hk => f4 _ _ (by omega) (by omega))
  have hgr : GRm s4 F n ro gl bg tu nr := by
    refine ⟨by rw [f4 _ _ (by omega) (by omega)]; exact o1, ?_, fun r hr => by rw [f4 _ _ (by omega) (by omega)]; exact o3 r hr, o6, fun r hr i hi => ?_⟩
    · obtain ⟨s5, q1, q2, q3⟩ := o2
      exact ⟨s5, by rw [f4 _ _ (by omega) (by omega)]; exact q1, q2, q3⟩
    · have := o6 r hr
      rw [← hs4, gs_ne (by omega), show 7527 + bg r + i = 7527 + (bg r + i) by omega, g1 _ (by omega), o7 r hr i hi]
  have hx0 : DLr s4 F n ro gl (fun _ => []) 0 0 := by
    refine ⟨fun t ht => ⟨by rw [f43 _ (by omega) (by omega)]; exact p1 t ht, Nat.zero_le _, fun k hk => absurd hk (Nat.not_lt_zero k)⟩, ?_, fun z hz => ?_, ?_⟩
    · rw [← hs4, gs_ne (by omega), g2 _ _ (by omega), p2 _ _ (by omega), f1 _ _ (by omega), gs_eq]; rfl
    · obtain ⟨t, _, hzt⟩ := catX_mem.mp hz
      cases hzt
    · have : catX (fun _ => ([] : List Dn)) 6 = [] := rfl
      rw [this]; exact List.Pairwise.nil
  rw [m_way hM hM2, bd_ok, hs'.2.2.1]
  -- dealing, of either kind
  obtain ⟨s5, X, m5, e5, d5, x5, g13, g18, g19, f5⟩ : ∃ s5 X m5, (if ¬ nI w = (1 : Int32) then (bv (fX7_spreadsPerfectly E 395 s4) (fun s40 => some ((), s40))) else (ck (18 : Int32) 7827 (ss (si s4 396 (18 : Int32).toNatClampNeg (0 : Int32)) (fun s43 => ck (19 : Int32) 7827 (ss (si s43 396 (19 : Int32).toNatClampNeg (-1 : Int32)) (fun s45 => bd (fX7_tapes E 395 s45) (fun r48 s46 => lt (r48 / (2 : Int32)) (fun v49 => bd (fx (fun rec a => bX7_spreads_110 E 396 v49 395 (fun u0 t => rec (u0, t)) a.1 a.2) FU ((0 : Int32), s46)) (fun o61 s62 => ck (13 : Int32) 7827 (ss (si s62 396 (13 : Int32).toNatClampNeg v49) (fun s64 => some ((), s64)))))))))))) = some ((), s5) ∧ DLr s5 F n ro gl X m5 (bg nr) ∧ (∀ t, (X t).map (fun z => z.2.2) = tp0 w T bk fr tu nr t) ∧ gi s5 396 13 = nI (to0 w T) ∧ gi s5 396 18 = nI (dmN w T nr) ∧ gi s5 396 19 = lvI w T nr ∧ ∀ x k, esR x k → ¬ (403 ≤ x ∧ x ≤ 406) → ¬ (x = 396 ∧ (k = 13 ∨ k = 18 ∨ k = 19)) → gi s5 x k = gi s4 x k := by
    by_cases hw1 : w = 1
    · subst hw1
      have hcap := hc
      unfold Cap at hcap
      rw [if_pos rfl] at hcap
      rw [if_neg (by simp; rfl), show (18 : Int32) = nI 18 from rfl, ck_n (by omega) (by omega), nI_clamp (by omega), ss_ok, show (19 : Int32) = nI 19 from rfl, ck_n (by omega) (by omega), nI_clamp (by omega), ss_ok, m_tapes hM hM2, bd_ok, gs_ne (by omega), gs_ne (by omega), hs'.2.1, lt_ok, i2, pk_div (by omega) (by omega) (by omega)]
      generalize hs45 : si (si s4 396 18 (0 : Int32)) 396 19 (-1 : Int32) = s45
      have f45 : ∀ x k, ¬ (x = 396 ∧ (k = 18 ∨ k = 19)) → gi s45 x k = gi s4 x k := fun x k q => by rw [← hs45, gs_ne (by omega), gs_ne (by omega)]
      have g458 : gi s45 396 18 = nI 0 := by rw [← hs45, gs_ne (by omega), gs_eq]; rfl
      have g459 : gi s45 396 19 = -1 := by rw [← hs45, gs_eq]
      have hx45 : DLr s45 F n ro gl (fun _ => []) 0 0 := by
        obtain ⟨y1, y2, y3, y4⟩ := hx0
        exact ⟨xt_fr y1 (fun k _ => f45 _ _ (by omega)), by rw [f45 _ _ (by omega)]; exact y2, fun z hz => (by
          obtain ⟨t, _, hzt⟩ := catX_mem.mp hz
          cases hzt), y4⟩
      have hh : 0 < T / 2 := by omega
      obtain ⟨⟨v, s6⟩, e6, X6, w1, w2, w3⟩ := for_in (F := fun (rec : Int32 × Sg → Option (Int32 × Sg)) (a : Int32 × Sg) => bX7_spreads_110 E 396 (nI (T / 2)) 395 (fun u0 t => rec (u0, t)) a.1 a.2) nr
        (fun r b => b.1 = nI r ∧ ∃ X, DLr b.2 F n ro gl X r (bg r) ∧ (∀ t, (X t).map (fun z => z.2.2) = tpi bk tu (fun _ => 0) (dlb (T / 2) r) t) ∧ ∀ x k, esR x k → gi b.2 x k = gi s45 x k)
        (fun b => ∃ X, DLr b.2 F n ro gl X nr (bg nr) ∧ (∀ t, (X t).map (fun z => z.2.2) = tpi bk tu (fun _ => 0) (dlb (T / 2) nr) t) ∧ ∀ x k, esR x k → gi b.2 x k = gi s45 x k) (N := FU) (by show nr < 1000000; omega)
        (by
          rintro r ⟨v, s⟩ rec hr ⟨rfl, X, w1, w2, w3⟩
          dsimp only at w1 w3 ⊢
          have hlt := Nat.mod_lt r hh
          have hXl : (X (r % (T / 2))).length = (dlb (T / 2) r (r % (T / 2))).length := by rw [← List.length_map (f := fun z : Dn => z.2.2), w2, tpi_len, Nat.zero_add]
          have hX2 : (X (r % (T / 2))).length < 256 := by
            rw [hXl, dlb_len hh r _ hlt]
            have : (r + T / 2 - 1 - r % (T / 2)) / (T / 2) ≤ (r + T / 2 - 1 - r % (T / 2)) / 2 := Nat.div_le_div_left (by omega) (by omega)
            omega
          have h4s : ∀ k, k < 13 ∨ k = 14 ∨ (26 ≤ k ∧ k < 1227) ∨ 7527 ≤ k → gi s 396 k = gi s4 396 k := fun k hk => by rw [w3 _ _ (by unfold esR; omega), f45 _ _ (by omega)]
          obtain ⟨s7, e7, d7, f7⟩ := m_dealRun (σ := s) (w := 1) (tu := tu) (d := 0) (t := r % (T / 2)) hM hM2 hn hnr (sr_fr hs' hn (fun k hk => h4s _ (by omega))) (gr_fr hgr hnr (fun k hk => h4s _ (by omega))) w1 (by omega) (by omega) hX2 hr (by omega) (Nat.zero_le _) (fun _ => by rw [if_pos rfl])
          unfold bX7_spreads_110
          rw [n1.2, show (14 : Int32) = nI 14 from rfl, ck_n (by omega) (by omega), nI_clamp (by omega), h4s _ (by omega), hgr.1, if_neg (nI_ge hr (by omega))]
          unfold nz
          rw [if_neg (nI_ne0 hh (by omega)), im_n (by omega) hh (by omega), e7, bv_ok, lt_ok, ad1]
          refine ⟨_, rfl, rfl, _, d7, fun t => ?_, fun x k he => by dsimp only; rw [f7 x k he]; exact w3 x k he⟩
          exact tpi_add (d := fun _ => 0) (dl := dlb (T / 2) r) (dl' := dlb (T / 2) (r + 1)) (w2 t) rfl)
        (by
          rintro ⟨v, s⟩ rec ⟨rfl, X, w1, w2, w3⟩
          dsimp only at w1 w3 ⊢
          unfold bX7_spreads_110
          rw [n1.2, show (14 : Int32) = nI 14 from rfl, ck_n (by omega) (by omega), nI_clamp (by omega), w3 _ _ (by unfold esR; omega), f45 _ _ (by omega), hgr.1, if_pos (nI_le (Nat.le_refl _) (by omega))]
          exact ⟨_, rfl, X, w1, w2, w3⟩)
        (a := ((0 : Int32), s45)) ⟨rfl, fun _ => [], by rw [o5]; exact hx45, fun t => by unfold tpi; cases bk <;> rfl, fun _ _ _ => rfl⟩
      dsimp only at w1 w3
      rw [e6, bd_ok, show (13 : Int32) = nI 13 from rfl, ck_n (by omega) (by omega), nI_clamp (by omega), ss_ok]
      refine ⟨_, X6, nr, rfl, ?_, fun t => ?_, ?_, ?_, ?_, fun x k he h1 h2 => ?_⟩
      · obtain ⟨q1, q2, q3, q4⟩ := w1
        exact ⟨xt_fr q1 (fun k _ => gs_ne (by omega)), by rw [gs_ne (by omega)]; exact q2, fun z hz => ⟨(q3 z hz).1, dd_fr (q3 z hz).2.1 (gs_ne (by omega)) (gs_ne (by omega)) (gs_ne (by omega)) (fun i _ => gs_ne (by omega)), (q3 z hz).2.2⟩, q4⟩
      · rw [w2 t]; unfold tp0; rw [if_pos rfl]
      · rw [gs_eq]; unfold to0; rw [if_pos rfl]
      · rw [gs_ne (by omega), w3 _ _ (by unfold esR; omega), g458]; unfold dmN; rw [if_pos rfl]
      · rw [gs_ne (by omega), w3 _ _ (by unfold esR; omega), g459]; unfold lvI; rw [if_pos rfl]
      · rw [gs_ne (by omega), w3 x k he, f45 _ _ (by omega)]
    · obtain ⟨s5, X, e5, d5, x5, g13, g18, g19, f5⟩ := m_spreadsP (fr := fr) hM hM2 hn hnr hT hT3 (show w = 0 ∨ w = 2 by omega) hc (hsm hw1) hs' (by rw [f4 _ _ (by omega) (by omega)]; exact h4) hgr o5 hx0 hn1
      rw [i1, if_pos (fun q => hw1 ((nI_eq (by omega) (by omega)).mp q)), e5, bv_ok]
      exact ⟨s5, X, _, rfl, d5, x5, by rw [g13]; unfold to0; rw [if_neg hw1], by rw [g18]; unfold dmN; rw [if_neg hw1], by rw [g19]; unfold lvI; rw [if_neg hw1], f5⟩
  rw [e5, bd_ok]
  have hai := ai_a0 (bk := bk) (fr := fr) (tu := tu) hT3 hc
  have hto : to0 w T < 6 := by unfold to0; split <;> omega
  have f5k : ∀ k, ¬ (k = 13 ∨ k = 18 ∨ k = 19 ∨ (20 ≤ k ∧ k < 26) ∨ (1227 ≤ k ∧ k < 7527)) → gi s5 396 k = gi s4 396 k := fun k hk => f5 _ _ (by unfold esR; omega) (by omega) (by omega)
  have hlen : ∀ t, (X t).length = (tp0 w T bk fr tu nr t).length := fun t => by rw [← x5 t, List.length_map]
  obtain ⟨s6, b6, e6, q1, q2, q3, q4, f6⟩ := m_begPass (c := fun t => (X t).length) hM hM2 hT (by rw [f5k _ (by omega)]; exact hs'.2.1) g13 hto (fun t ht => ⟨(d5.1 t (by omega)).1, by have := (d5.1 t (by omega)).2.1; omega⟩)
  rw [e6, bv_ok, i7, ck_n (by omega) (by omega), nI_clamp (by omega), ss_ok]
  have f6k : ∀ k, k ≠ 7 → k ≠ 15 → k ≠ 16 → gi (si s6 396 7 (2 : Int32)) 396 k = gi s5 396 k := fun k h1 h2 h3 => by rw [gs_ne (by omega), f6 _ _ (by omega)]
  have hRM : RMm (si s6 396 7 (2 : Int32)) F n ro gl w T bk (tp0 w T bk fr tu nr, skI w T (tp0 w T bk fr tu nr), 0, 0, 0, 0) := by
    refine ⟨sr_fr hs' hn (fun k hk => by rw [f6k _ (by omega) (by omega) (by omega), f5k _ (by omega)]), ⟨X, x5, xt_fr d5.1 (fun k hk => f6k _ (by omega) (by omega) (by omega)), fun z hz => ?_, d5.2.2.2⟩, ⟨?_, ?_, ?_, ?_, b6, 2 ^ to0 w T, q1, (bt_sh _ hto).2, ?_, ?_, fun t ht => ?_⟩, ?_, ?_, ?_, ?_⟩
    · obtain ⟨_, z2, _⟩ := d5.2.2.1 z hz
      exact dd_fr z2 (f6k _ (by omega) (by omega) (by omega)) (f6k _ (by omega) (by omega) (by omega)) (f6k _ (by omega) (by omega) (by omega)) (fun i _ => f6k _ (by omega) (by omega) (by omega))
    · rw [f6k _ (by omega) (by omega) (by omega), f5k _ (by omega)]; exact hs'.2.1
    · rw [f6k _ (by omega) (by omega) (by omega), f5k _ (by omega)]; exact hs'.2.2.1
    · rw [f6k _ (by omega) (by omega) (by omega)]; exact g13
    · rw [f6k _ (by omega) (by omega) (by omega), f5k _ (by omega)]; exact g17
    · rw [gs_ne (by omega)]; exact q2
    · rw [gs_ne (by omega)]; exact q3
    · show (opn T (to0 w T) (tab (fun t => (tp0 w T bk fr tu nr t).length) T)).getD t false = _
      unfold opn
      rw [tab_at ht, tab_at ht, q4 t ht, bt_pw _ hto t (by omega), hlen t]
    · rw [f6k _ (by omega) (by omega) (by omega), f5k _ (by omega), f43 _ (by omega) (by omega), p2 _ _ (by omega)]; exact a9
    · rw [f6k _ (by omega) (by omega) (by omega), f5k _ (by omega), f43 _ (by omega) (by omega), p2 _ _ (by omega)]; exact a10
    · rw [f6k _ (by omega) (by omega) (by omega), f5k _ (by omega), f43 _ (by omega) (by omega), p2 _ _ (by omega)]; exact a11
    · rw [f6k _ (by omega) (by omega) (by omega), f5k _ (by omega), f43 _ (by omega) (by omega), p2 _ _ (by omega)]; exact a12
  obtain ⟨s7, e7, r7, g7, f7⟩ := m_looks hM hM2 hgv hT hai hRM
  rw [e7, bv_ok]
  refine ⟨s7, rfl, r7, ?_, ?_, ?_, fun x k he => ?_⟩
  · rw [g7, gs_eq]
    rw [← sk_tp0 (bk := bk) (fr := fr) (tu := tu) hT3 hc]
  · rw [f7 _ _ (by unfold esQ; omega), f6k _ (by omega) (by omega) (by omega)]; exact g18
  · rw [f7 _ _ (by unfold esQ; omega), f6k _ (by omega) (by omega) (by omega)]; exact g19
  · have he' := he
    unfold esY at he'
    rw [f7 _ _ (by unfold esQ; omega), gs_ne (by omega), f6 _ _ (by omega), f5 _ _ (by unfold esR; omega) (by omega) (by omega), f4 _ _ (by omega) (by omega)]
end SY
end
section
/-! a state is copied -/
theorem acp_n {β : Type} {E : En} {σ : Sg} {a b sp dp n : Nat} {k : Sg → Option β} (h1 : sp + n ≤ ln E a) (h2 : dp + n ≤ ln E b) (h3 : sp < 2 ^ 31 ∧ dp < 2 ^ 31 ∧ n < 2 ^ 31) : acp E σ a (nI sp) b (nI dp) (nI n) k = k (sc σ a b sp dp n) := by
  unfold acp
  rw [nI_clamp h3.1, nI_clamp h3.2.1, nI_clamp h3.2.2, if_pos ⟨⟨nI_pos' h3.1, nI_pos' h3.2.1, nI_pos' h3.2.2⟩, h1, h2⟩]
theorem gc_in {σ : Sg} {a b sp dp n j : Nat} (h : dp ≤ j ∧ j < dp + n) : gi (sc σ a b sp dp n) b j = gi σ a (sp + (j - dp)) := by rw [gi_sc, if_pos ⟨rfl, h⟩]
theorem gc_out {σ : Sg} {a b sp dp n x j : Nat} (h : x ≠ b ∨ j < dp ∨ dp + n ≤ j) : gi (sc σ a b sp dp n) x j = gi σ x j := by rw [gi_sc, if_neg (by omega)]
section CP
variable {E : En} {σ : Sg} {w T nr : Nat} {bk : Bool} {gl : Nat → Nat} {A : Mi}
theorem c_cpTape {a b L H : Nat} {l : List Rn} (h0 : LTape E a) (h1 : LTape E b) (hab : a + 2 ≤ b ∨ b + 2 ≤ a) (h : TP σ b bk l L H) : ∃ s, fX5_copyFrom E a b σ = some s ∧ TP s a bk l L H ∧ ∀ x k, x ≠ a → x ≠ a + 1 → gi s x k = gi σ x k := by
  obtain ⟨p1, p2, p3, p4, p5, p6⟩ := h
  unfold fX5_copyFrom
  have e2 : gi (si σ a 1 (nI L)) b 2 = nI H := by rw [gs_ne (by omega)]; exact p2
  rw [tk_ok h0.1, tk_ok h1.1, ss_ok, ss_ok, dr_ok h1.2.1 h1.2.2.1, dr_ok h0.2.1 h0.2.2.1, p1, e2]
  have e3 : gi (si (si σ a 1 (nI L)) a 2 (nI H)) a 1 = nI L := by rw [gs_ne (by omega), gs_eq]
  rw [e3, gs_eq, sub_n p3, acp_n (by rw [h1.2.2.2]; omega) (by rw [h0.2.2.2]; omega) (by omega)]
  refine ⟨_, rfl, ⟨?_, ?_, p3, p4, p5, fun k hk => ?_⟩, fun x k q1 q2 => ?_⟩
  · rw [gc_out (by omega)]; exact e3
  · rw [gc_out (by omega), gs_eq]
  · have := p6 k hk
    have hr : L ≤ (if bk then H - 1 - k else L + k) ∧ (if bk then H - 1 - k else L + k) < H := by cases bk <;> simp <;> omega
    rw [gc_in (by omega), gs_ne (by omega), gs_ne (by omega)]
    rw [show L + ((if bk then H - 1 - k else L + k) - L) = if bk then H - 1 - k else L + k by omega]
    exact this
  · rw [gc_out (by omega), gs_ne (by omega), gs_ne (by omega)]
set_option maxHeartbeats 1000000 in
theorem c_cpMill {m0 m1 N0 N1 : Nat} (h0 : LMill E m0 N0) (h1 : LMill E m1 N1) (hab : m0 + 22 ≤ m1 ∨ m1 + 22 ≤ m0) (hT : T ≤ 6) (hn0 : nr ≤ N0) (hN0 : N0 ≤ 700) (hn1 : nr ≤ N1) (hN1 : N1 ≤ 700) (h : RMl σ m1 w T bk gl nr A) : ∃ s, fX1_copyFrom E m0 m1 σ = some s ∧ RMl s m0 w T bk gl nr A ∧ ∀ x k, (x < m0 ∨ m0 + 22 ≤ x) → gi s x k = gi σ x k := by
  obtain ⟨L, H, ⟨⟨b0, b1, b2, b3, b7⟩, ⟨k9, k11, kop⟩, htp, hkc⟩, hl0, hD, h8, t0, t1, t2, t3⟩ := h
  obtain ⟨l0, l4, l10, l12, l13, l17, l18, l5, l6, a1, a2, a3, a4, a5, a7, a8, a9, ltp⟩ := id h0
  obtain ⟨r0, r4, r10, r12, r13, r17, r18, r5, r6, c1, c2, c3, c4, c5, c7, c8, c9, rtp⟩ := id h1
  unfold fX1_copyFrom
  rw [tk_ok l0, tk_ok r0, ss_ok, ss_ok, ss_ok]
  have v1 : gi (si σ m0 0 (gi σ m1 0)) m1 1 = nI T := by rw [gs_ne (by omega)]; exact b1
  rw [v1, b0]
  have v2 : gi (si (si σ m0 0 (nI w)) m0 1 (nI T)) m1 2 = nI (T / 2) := by rw [gs_ne (by omega), gs_ne (by omega)]; exact b2
  rw [v2]
  generalize hs3 : si (si (si σ m0 0 (nI w)) m0 1 (nI T)) m0 2 (nI (T / 2)) = s3
  have f3 : ∀ x k, x ≠ m0 → gi s3 x k = gi σ x k := fun x k q => by rw [← hs3, gs_ne (by omega), gs_ne (by omega), gs_ne (by omega)]
  have g30 : gi s3 m0 0 = nI w := by rw [← hs3, gs_ne (by omega), gs_ne (by omega), gs_eq]
  have g31 : gi s3 m0 1 = nI T := by rw [← hs3, gs_ne (by omega), gs_eq]
  have g32 : gi s3 m0 2 = nI (T / 2) := by rw [← hs3, gs_eq]
  rw [f3 m1 3 (by omega), b3, kb_b, ss_ok, dr_ok l5 a8.1, ss_ok, ss_ok, ss_ok]
  have v7 : gi (si s3 m0 3 (bI bk)) m1 7 = nI nr := by rw [gs_ne (by omega), f3 _ _ (by omega)]; exact b7
  rw [v7, a8.2, imin_n (by omega) (by omega), Nat.min_eq_left hn0]
  have v8 : gi (si (si s3 m0 3 (bI bk)) m0 7 (nI nr)) m1 8 = nI (lef T (mK A)) := by rw [gs_ne (by omega), gs_ne (by omega), f3 _ _ (by omega)]; exact h8
  rw [v8]
  have v9 : gi (si (si (si s3 m0 3 (bI bk)) m0 7 (nI nr)) m0 8 (nI (lef T (mK A)))) m1 9 = nI (kto (mK A)) := by rw [gs_ne (by omega), gs_ne (by omega), gs_ne (by omega), f3 _ _ (by omega)]; exact k9
  rw [v9]
  generalize hs9 : si (si (si (si s3 m0 3 (bI bk)) m0 7 (nI nr)) m0 8 (nI (lef T (mK A)))) m0 9 (nI (kto (mK A))) = s9
  have f9 : ∀ x k, x ≠ m0 → gi s9 x k = gi σ x k := fun x k q => by rw [← hs9, gs_ne (by omega), gs_ne (by omega), gs_ne (by omega), gs_ne (by omega), f3 _ _ q]
  have g9 : gi s9 m0 0 = nI w ∧ gi s9 m0 1 = nI T ∧ gi s9 m0 2 = nI (T / 2) ∧ gi s9 m0 3 = bI bk ∧ gi s9 m0 7 = nI nr ∧ gi s9 m0 8 = nI (lef T (mK A)) ∧ gi s9 m0 9 = nI (kto (mK A)) := by
    rw [← hs9]
    refine ⟨?_, ?_, ?_, ?_, ?_, ?_, gs_eq⟩
    · rw [gs_ne (by omega), gs_ne (by omega), gs_ne (by omega), gs_ne (by omega)]; exact g30
    · rw [gs_ne (by omega), gs_ne (by omega), gs_ne (by omega), gs_ne (by omega)]; exact g31
    · rw [gs_ne (by omega), gs_ne (by omega), gs_ne (by omega), gs_ne (by omega)]; exact g32
    · rw [gs_ne (by omega), gs_ne (by omega), gs_ne (by omega), gs_eq]
    · rw [gs_ne (by omega), gs_ne (by omega), gs_eq]
    · rw [gs_ne (by omega), gs_eq]
  rw [f9 m1 11 (by omega), k11, kb_b, ss_ok, dr_ok r5 c8.1]
  have v11 : gi (si s9 m0 11 (bI (klo (mK A)))) m0 7 = nI nr := by rw [gs_ne (by omega)]; exact g9.2.2.2.2.1
  rw [v11, i0, acp_n (by rw [c8.2]; omega) (by rw [a8.2]; omega) (by omega), dr_ok r12 c3.1, dr_ok l12 a3.1, i6, acp_n (by rw [c3.2]; omega) (by rw [a3.2]; omega) (by omega)]
  generalize hs16 : sc (sc (si s9 m0 11 (bI (klo (mK A)))) (m1 + 8) (m0 + 8) 0 0 nr) (m1 + 3) (m0 + 3) 0 0 6 = s16
  have f16 : ∀ x k, x ≠ m0 → x ≠ m0 + 3 → x ≠ m0 + 8 → gi s16 x k = gi σ x k := fun x k q1 q2 q3 => by rw [← hs16, gc_out (by omega), gc_out (by omega), gs_ne (by omega), f9 _ _ q1]
  have g16m : ∀ k, gi s16 m0 k = gi (si s9 m0 11 (bI (klo (mK A)))) m0 k := fun k => by rw [← hs16, gc_out (by omega), gc_out (by omega)]
  have g168 : ∀ j, j < nr → gi s16 (m0 + 8) j = gi σ (m1 + 8) j := fun j hj => by rw [← hs16, gc_out (by omega), gc_in (by omega), gs_ne (by omega), f9 _ _ (by omega), show 0 + (j - 0) = j by omega]
  have g163 : ∀ j, j < 6 → gi s16 (m0 + 3) j = gi σ (m1 + 3) j := fun j hj => by rw [← hs16, gc_in (by omega), gc_out (by omega), gs_ne (by omega), f9 _ _ (by omega), show 0 + (j - 0) = j by omega]
  refine bd_in nr (fun i b => b.1 = nI i ∧ (∀ j, j < i → gi b.2 (m0 + 9) j = vp_nar .boolean (gi σ (m1 + 9) j)) ∧ ∀ x k, x ≠ m0 + 9 → gi b.2 x k = gi s16 x k)
    (fun b => (∀ j, j < nr → gi b.2 (m0 + 9) j = vp_nar .boolean (gi σ (m1 + 9) j)) ∧ ∀ x k, x ≠ m0 + 9 → gi b.2 x k = gi s16 x k) (by show nr < 1000000; omega) ⟨rfl, fun j hj => absurd hj (Nat.not_lt_zero j), fun _ _ _ => rfl⟩ ?_ ?_ ?_
  · rintro i ⟨v, s⟩ rec hi ⟨rfl, q1, q2⟩
    dsimp only at q1 q2 ⊢
    unfold bX1_copyFrom_106
    rw [q2 _ _ (by omega), g16m, gs_ne (by omega), g9.2.2.2.2.1, if_neg (nI_ge hi (by omega)), dr_ok l6 a9.1, dr_ok r6 c9.1, c9.2, a9.2, ck_n (by omega) (by omega), ck_n (by omega) (by omega), nI_clamp (by omega), q2 _ _ (by omega), f16 _ _ (by omega) (by omega) (by omega), ss_ok, lt_ok, ad1]
    refine ⟨_, rfl, rfl, fun j hj => ?_, fun x k hx => by dsimp only; rw [gs_ne (by omega)]; exact q2 x k hx⟩
    dsimp only
    by_cases hji : j = i
    · subst hji; rw [gs_eq]
    · rw [gs_ne (by omega)]; exact q1 j (by omega)
  · rintro ⟨v, s⟩ rec ⟨rfl, q1, q2⟩
    dsimp only at q1 q2 ⊢
    unfold bX1_copyFrom_106
    rw [q2 _ _ (by omega), g16m, gs_ne (by omega), g9.2.2.2.2.1, if_pos (nI_le (Nat.le_refl _) (by omega))]
    exact ⟨_, rfl, q1, q2⟩
  · rintro v s17 ⟨q1, q2⟩
    dsimp only at q1 q2
    have f17 : ∀ x k, (x < m0 ∨ m0 + 22 ≤ x) → gi s17 x k = gi σ x k := fun x k q => by rw [q2 _ _ (by omega), f16 _ _ (by omega) (by omega) (by omega)]
    refine bd_in 6 (fun i b => b.1 = nI i ∧ (∀ t, t < i → TP b.2 (m0 + 10 + 2 * t) bk (mT A t) (L t) (H t)) ∧ (∀ t, t < i → gi b.2 (m0 + 2) t = vp_nar .boolean (gi σ (m1 + 2) t)) ∧ ∀ x k, ¬ (m0 + 10 ≤ x ∧ x < m0 + 22) → x ≠ m0 + 2 → gi b.2 x k = gi s17 x k)
      (fun b => (∀ t, t < 6 → TP b.2 (m0 + 10 + 2 * t) bk (mT A t) (L t) (H t)) ∧ (∀ t, t < 6 → gi b.2 (m0 + 2) t = vp_nar .boolean (gi σ (m1 + 2) t)) ∧ ∀ x k, ¬ (m0 + 10 ≤ x ∧ x < m0 + 22) → x ≠ m0 + 2 → gi b.2 x k = gi s17 x k) (by show 6 < 1000000; omega) ⟨rfl, fun j hj => absurd hj (Nat.not_lt_zero j), fun j hj => absurd hj (Nat.not_lt_zero j), fun _ _ _ _ => rfl⟩ ?_ ?_ ?_
    · rintro i ⟨v, s⟩ rec hi ⟨rfl, w1, w2, w3⟩
      dsimp only at w1 w2 w3 ⊢
      obtain ⟨lt1, lt2⟩ := ltp i hi
      obtain ⟨rt1, rt2⟩ := rtp i hi
      obtain ⟨s2, e2, x2, f2⟩ := c_cpTape (σ := s) lt2 rt2 (by omega) (tp_fr (htp i hi) (fun k => by rw [w3 _ _ (by omega) (by omega), f17 _ _ (by omega)]) (fun k => by rw [w3 _ _ (by omega) (by omega), f17 _ _ (by omega)]))
      unfold bX1_copyFrom_134
      rw [i6, if_neg (nI_ge hi (by omega)), dr_ok l4 a1.1, a1.2, ck_n (by omega) (by omega), nI_clamp (by omega), dr_ok lt1 lt2.1, dr_ok r4 c1.1, c1.2, ck_n (by omega) (by omega), dr_ok rt1 rt2.1, e2, bv_ok, dr_ok l10 a2.1, dr_ok r10 c2.1, c2.2, a2.2, ck_n (by omega) (by omega), ck_n (by omega) (by omega), f2 _ _ (by omega) (by omega), w3 _ _ (by omega) (by omega), f17 _ _ (by omega), ss_ok, lt_ok, ad1]
      refine ⟨_, rfl, rfl, fun t ht => ?_, fun t ht => ?_, fun x k z1 z2 => ?_⟩
      · dsimp only
        by_cases hti : t = i
        · subst hti; exact tp_fr x2 (fun k => gs_ne (by omega)) (fun k => gs_ne (by omega))
        · exact tp_fr (w1 t (by omega)) (fun k => by rw [gs_ne (by omega), f2 _ _ (by omega) (by omega)]) (fun k => by rw [gs_ne (by omega), f2 _ _ (by omega) (by omega)])
      · dsimp only
        by_cases hti : t = i
        · subst hti; rw [gs_eq]
        · rw [gs_ne (by omega), f2 _ _ (by omega) (by omega)]; exact w2 t (by omega)
      · dsimp only; rw [gs_ne (by omega), f2 _ _ (by omega) (by omega)]; exact w3 x k z1 z2
    · rintro ⟨v, s⟩ rec ⟨rfl, w⟩
      unfold bX1_copyFrom_134
      rw [i6, if_pos (nI_le (Nat.le_refl _) (by omega))]
      exact ⟨_, rfl, w⟩
    · rintro v s18 ⟨w1, w2, w3⟩
      dsimp only at w1 w2 w3
      have gm : ∀ k, gi s18 m0 k = gi (si s9 m0 11 (bI (klo (mK A)))) m0 k := fun k => by rw [w3 _ _ (by omega) (by omega), q2 _ _ (by omega), g16m]
      have g3 : ∀ j, j < 6 → gi s18 (m0 + 3) j = gi σ (m1 + 3) j := fun j hj => by rw [w3 _ _ (by omega) (by omega), q2 _ _ (by omega)]; exact g163 j hj
      obtain ⟨y0, y1, y2, y3, y7, y8, y9⟩ := g9
      refine ⟨s18, rfl, ⟨L, H, ⟨⟨?_, ?_, ?_, ?_, ?_⟩, ⟨?_, ?_, fun t ht => ?_⟩, w1, hkc⟩, hl0, fun t ht r hr => ?_, ?_, ?_, ?_, ?_, ?_⟩, fun x k q => ?_⟩
      · rw [gm, gs_ne (by omega)]; exact y0
      · rw [gm, gs_ne (by omega)]; exact y1
      · rw [gm, gs_ne (by omega)]; exact y2
      · rw [gm, gs_ne (by omega)]; exact y3
      · rw [gm, gs_ne (by omega)]; exact y7
      · rw [gm, gs_ne (by omega)]; exact y9
      · rw [gm, gs_eq]
      · rw [w2 t (by omega), kop t ht, nar_b]
      · obtain ⟨d1, d2⟩ := hD t ht r hr
        refine ⟨d1, fun i l hz => ?_⟩
        obtain ⟨z1, z2, z3⟩ := d2 i l hz
        refine ⟨z1, ?_, ?_⟩
        · rw [w3 _ _ (by omega) (by omega), q2 _ _ (by omega), g168 i z1]; exact z2
        · rw [w3 _ _ (by omega) (by omega), q1 i z1, z3, nar_b]
      · rw [gm, gs_ne (by omega)]; exact y8
      · rw [g3 _ (by omega)]; exact t0
      · rw [g3 _ (by omega)]; exact t1
      · rw [g3 _ (by omega)]; exact t2
      · rw [g3 _ (by omega)]; exact t3
      · rw [w3 _ _ (by omega) (by omega)]; exact f17 x k q
end CP
end
section
/-! what a state's cells say: grown runs, the mill; states are copied -/
abbrev tuC (c : Cu) : Bool := cS c 5 == 1
abbrev bkC (c : Cu) : Bool := cS c 4 == 1
abbrev frC (c : Cu) : Bool := cS c 3 == 1
def gF (c : Cu) : Gr := gst (cF c) (cN c) (cS c 0) (tuC c) (cN c)
def nrC (c : Cu) : Nat := nrG (gF c)
def glC (c : Cu) : Nat → Nat := glG (cN c) (gF c)
def roC (c : Cu) : Nat → Nat := gR (gF c)
def bgC (c : Cu) : Nat → Nat := bgG (cN c) (gF c)
def olC (c : Cu) : Nat → Nat := fun p => (gO (gF c)).getD p 0
def miC (c : Cu) : Mi := mil (cS c 2) (cS c 1) (bkC c) (frC c) (tuC c) (glC c) (nrC c) (cI c)
noncomputable def KC (c : Cu) : Nat := kst (cS c 2) (cS c 1) (nrC c)
def lgs (l : Nat → Nat → Int32) : Sg := (l, fun _ _ => 0)
def rgs (r : Nat → Int32) : Sg := (fun _ k => r k, fun _ _ => 0)
theorem gi_lgs {l : Nat → Nat → Int32} {x k : Nat} : gi (lgs l) x k = l x k := rfl
theorem gi_rgs {r : Nat → Int32} {x k : Nat} : gi (rgs r) x k = r k := rfl
/-- of each that grew the run that has its records now -/
def HOl (T : Nat) (h : Nat → Int32) (A : Mi) : Prop := ∀ t r j, t < T → r ∈ mT A t → j ∈ r.1 → h j = idI r.1
def CG' (l : Nat → Nat → Int32) (c : Cu) : Prop := l 5 2 = nI (nrC c) ∧ l 5 3 = bI (tuC c) ∧ (∀ x, x < cN c → l 6 x = nI (roC c x)) ∧ ∀ r, r < nrC c → l 7 r = nI (glC c r)
def CM' (l : Nat → Nat → Int32) (c : Cu) : Prop := cI c ≤ KC c ∧ (cT c = 3 ↔ cI c = KC c) ∧ RMl (lgs l) 9 (cS c 2) (cS c 1) (bkC c) (glC c) (nrC c) (miC c) ∧ HOl (cS c 1) (l 31) (miC c)
def MG' (r : Nat → Int32) (c : Cu) : Prop := r 14 = nI (nrC c) ∧ (∀ j, j ≤ nrC c → r (926 + j) = nI (bgC c j)) ∧ (∀ p, p < cN c → r (626 + p) = nI (olC c p)) ∧ ∀ x, x < cN c → r (326 + x) = nI (roC c x)
def MM' (r : Nat → Int32) (c : Cu) : Prop := (cN c ≤ 300 ∧ cS c 1 ≤ 6) ∧ cI c ≤ KC c ∧ (cT c = 3 ↔ cI c = KC c) ∧ RMm (rgs r) (cF c) (cN c) (roC c) (glC c) (cS c 2) (cS c 1) (bkC c) (miC c)
theorem rml_tr {σ σ' : Sg} {m m' w T nr : Nat} {bk : Bool} {gl : Nat → Nat} {A : Mi} (hT : T ≤ 6) (h : RMl σ m w T bk gl nr A) (hf : ∀ x k, x < 22 → gi σ' (m' + x) k = gi σ (m + x) k) : RMl σ' m' w T bk gl nr A := by
  obtain ⟨L, H, ⟨⟨b0, b1, b2, b3, b7⟩, ⟨k9, k11, kop⟩, htp, hkc⟩, hl0, hD, h8, t0, t1, t2, t3⟩ := h
  have f0 : ∀ k, gi σ' m' k = gi σ m k := fun k => hf 0 k (by omega)
  refine ⟨L, H, ⟨⟨by rw [f0]; exact b0, by rw [f0]; exact b1, by rw [f0]; exact b2, by rw [f0]; exact b3, by rw [f0]; exact b7⟩, ⟨by rw [f0]; exact k9, by rw [f0]; exact k11, fun t ht => by rw [hf 2 _ (by omega)]; exact kop t ht⟩, fun t ht => ?_, hkc⟩, hl0, fun t ht r hr => ?_, by rw [f0]; exact h8, by rw [hf 3 _ (by omega)]; exact t0, by rw [hf 3 _ (by omega)]; exact t1, by rw [hf 3 _ (by omega)]; exact t2, by rw [hf 3 _ (by omega)]; exact t3⟩
  · obtain ⟨p1, p2, p3, p4, p5, p6⟩ := htp t ht
    have e1 : ∀ k, gi σ' (m' + 10 + 2 * t) k = gi σ (m + 10 + 2 * t) k := fun k => by have := hf (10 + 2 * t) k (by omega); rw [show m' + (10 + 2 * t) = m' + 10 + 2 * t by omega, show m + (10 + 2 * t) = m + 10 + 2 * t by omega] at this; exact this
    have e2 : ∀ k, gi σ' (m' + 10 + 2 * t + 1) k = gi σ (m + 10 + 2 * t + 1) k := fun k => by have := hf (11 + 2 * t) k (by omega); rw [show m' + (11 + 2 * t) = m' + 10 + 2 * t + 1 by omega, show m + (11 + 2 * t) = m + 10 + 2 * t + 1 by omega] at this; exact this
    exact ⟨by rw [e1]; exact p1, by rw [e1]; exact p2, p3, p4, p5, fun k hk => by rw [e2]; exact p6 k hk⟩
  · obtain ⟨d1, d2⟩ := hD t ht r hr
    refine ⟨d1, fun i l hz => ?_⟩
    obtain ⟨z1, z2, z3⟩ := d2 i l hz
    exact ⟨z1, by rw [hf 8 _ (by omega)]; exact z2, by rw [hf 9 _ (by omega)]; exact z3⟩
theorem rml_lc {σ : Sg} {b w T nr : Nat} {bk : Bool} {gl : Nat → Nat} {A : Mi} (hT : T ≤ 6) : RMl (lgs (lc σ b)) 9 w T bk gl nr A ↔ RMl σ (b + 9) w T bk gl nr A := by
  constructor
  · intro h
    refine rml_tr hT h (fun x k hx => ?_)
    rw [gi_lgs, lc_at (by omega), show b + (9 + x) = b + 9 + x by omega]
  · intro h
    refine rml_tr hT h (fun x k hx => ?_)
    rw [gi_lgs, lc_at (by omega), show b + (9 + x) = b + 9 + x by omega]
theorem rmm_tr {σ σ' : Sg} {F : Nat → Nat} {n w T : Nat} {ro gl : Nat → Nat} {bk : Bool} {A : Mi} (hn : n ≤ 300) (hT : T ≤ 6) (h : RMm σ F n ro gl w T bk A) (hf : ∀ k, k < 7827 → k ≠ 8 → k ≠ 7 → gi σ' 396 k = gi σ 396 k) : RMm σ' F n ro gl w T bk A := by
  obtain ⟨hs, ⟨X, hm, hx, hd, hp⟩, hk, t9, t10, t11, t12⟩ := h
  refine ⟨sr_fr hs hn (fun k hk => hf k (by omega) (by omega) (by omega)), ⟨X, hm, xt_fr hx (fun k hk => hf k (by omega) (by omega) (by omega)), fun z hz => ?_, hp⟩, mk_fr hk (fun k hk => hf k (by omega) (by omega) (by omega)), by rw [hf _ (by omega) (by omega) (by omega)]; exact t9, by rw [hf _ (by omega) (by omega) (by omega)]; exact t10, by rw [hf _ (by omega) (by omega) (by omega)]; exact t11, by rw [hf _ (by omega) (by omega) (by omega)]; exact t12⟩
  have hz' := hd z hz
  have := hz'.1
  have := hz'.2.2.2.2.1
  exact dd_fr hz' (hf _ (by omega) (by omega) (by omega)) (hf _ (by omega) (by omega) (by omega)) (hf _ (by omega) (by omega) (by omega)) (fun i hi => hf _ (by omega) (by omega) (by omega))
theorem rmm_rw {σ : Sg} {F : Nat → Nat} {n w T : Nat} {ro gl : Nat → Nat} {bk : Bool} {A : Mi} (hn : n ≤ 300) (hT : T ≤ 6) : RMm (rgs (rw7 σ 396 0)) F n ro gl w T bk A ↔ RMm σ F n ro gl w T bk A := by
  constructor
  · intro h; exact rmm_tr hn hT h (fun k hk _ _ => by rw [gi_rgs, rw_at hk, Nat.zero_add])
  · intro h; exact rmm_tr hn hT h (fun k hk _ _ => by rw [gi_rgs, rw_at hk, Nat.zero_add])
/-- x isn't spoken of -/
theorem hmx' : ∀ r r' c, (∀ j, j ≠ 8 → r' j = r j) → (MG' r c → MG' r' c) ∧ (MM' r c → MM' r' c) := by
  intro r r' c hf
  refine ⟨fun h => ?_, fun h => ?_⟩
  · obtain ⟨h1, h2, h3, h4⟩ := h
    exact ⟨by rw [hf _ (by omega)]; exact h1, fun j hj => by rw [hf _ (by omega)]; exact h2 j hj, fun p hp => by rw [hf _ (by omega)]; exact h3 p hp, fun x hx => by rw [hf _ (by omega)]; exact h4 x hx⟩
  · obtain ⟨h0, h1, h2, h3⟩ := h
    exact ⟨h0, h1, h2, rmm_tr h0.1 h0.2 h3 (fun k _ h8 _ => by rw [gi_rgs, gi_rgs]; exact hf k h8)⟩
/-- growth is well -/
theorem gi_c {c : Cu} (hw : Wf c) : GI (cF c) (cN c) (cS c 0) (tuC c) (cN c) (gF c) := gi_all (hw.2.2.1 0 (by omega)).1 (Nat.le_refl _)
theorem nr_c {c : Cu} (hw : Wf c) (h0 : 0 < cN c) : 1 ≤ nrC c ∧ nrC c ≤ 150 := gf_nr h0 (gi_c hw) hw.1
theorem gok_c {c : Cu} (hw : Wf c) (h0 : 0 < cN c) (h1 : cS c 2 ≠ 1 ∨ 3 < cS c 1) : Gok (cS c 2) (cS c 1) (nrC c) := by
  obtain ⟨n1, n2⟩ := nr_c hw h0
  exact gok (hw.2.2.1 2 (by omega)).2 (hw.2.2.1 1 (by omega)).1 (hw.2.2.1 1 (by omega)).2 n1 n2 h1
theorem cpy_ok {E : En} : CPY E CG' CM' := by
  intro σ b b2 c hb hb2 hab hw hc
  obtain ⟨b0, rb0, rb1, rb3, rb4, rb5, rb6, lr, la4, lg, lm, la31, la32⟩ := id hb
  obtain ⟨d0, rd0, rd1, rd3, rd4, rd5, rd6, mr, ma4, mg, mm, ma31, ma32⟩ := id hb2
  obtain ⟨c1, c2, c3, c4, c5, c6, c7, c8⟩ := hc
  have hn := hw.1
  have hT := (hw.2.2.1 1 (by omega)).2
  simp only [lc_at (show (1 : Nat) < 33 by omega), lc_at (show (2 : Nat) < 33 by omega), lc_at (show (3 : Nat) < 33 by omega), lc_at (show (4 : Nat) < 33 by omega), lc_at (show (0 : Nat) < 33 by omega)] at c1 c2 c3 c4 c5 c6
  rw [Nat.add_zero] at c6
  unfold fX4_copyFrom
  rw [tk_ok b0, tk_ok d0, dr_ok rb0 lr.1, dr_ok rd0 mr.1]
  -- records
  obtain ⟨s1, e1, r2, r3, rk, rr, f1⟩ : ∃ s1, fX3_copyFrom E (b + 1) (b2 + 1) σ = some s1 ∧ gi s1 (b + 1) 2 = nI (cN c) ∧ gi s1 (b + 1) 3 = nI (inv (cF c) (cN c)) ∧ (∀ i, i < cN c → gi s1 (b + 2) i = gi σ (b2 + 2) i) ∧ (∀ i, i < cN c → gi s1 (b + 3) i = gi σ (b2 + 3) i) ∧ ∀ x k, x ≠ b + 1 → x ≠ b + 2 → x ≠ b + 3 → gi s1 x k = gi σ x k := by
    unfold fX3_copyFrom
    have e3 : gi (si σ (b + 1) 2 (gi σ (b2 + 1) 2)) (b2 + 1) 3 = nI (inv (cF c) (cN c)) := by rw [gs_ne (by omega)]; exact c4
    rw [tk_ok lr.1, tk_ok mr.1, ss_ok, ss_ok, e3, c1, dr_ok mr.2.1 mr.2.2.2.1.1, dr_ok lr.2.1 lr.2.2.2.1.1]
    have e2 : gi (si (si σ (b + 1) 2 (nI (cN c))) (b + 1) 3 (nI (inv (cF c) (cN c)))) (b + 1) 2 = nI (cN c) := by rw [gs_ne (by omega), gs_eq]
    rw [e2, i0, acp_n (by rw [mr.2.2.2.1.2]; omega) (by rw [lr.2.2.2.1.2]; omega) (by omega), dr_ok mr.2.2.1 mr.2.2.2.2.1, dr_ok lr.2.2.1 lr.2.2.2.2.1, gc_out (by omega), e2, acp_n (by rw [mr.2.2.2.2.2]; omega) (by rw [lr.2.2.2.2.2]; omega) (by omega)]
    refine ⟨_, rfl, ?_, ?_, fun i hi => ?_, fun i hi => ?_, fun x k h1 h2 h3 => ?_⟩
    · rw [gc_out (by omega), gc_out (by omega)]; exact e2
    · rw [gc_out (by omega), gc_out (by omega), gs_eq]
    · rw [gc_out (by omega), gc_in (by omega), gs_ne (by omega), gs_ne (by omega), show 0 + (i - 0) = i by omega]
    · rw [gc_in (by omega), gc_out (by omega), gs_ne (by omega), gs_ne (by omega), show 0 + (i - 0) = i by omega]
    · rw [gc_out (by omega), gc_out (by omega), gs_ne (by omega), gs_ne (by omega)]
  rw [e1, bv_ok, dr_ok rd1 ma4.1, dr_ok rb1 la4.1, i0, i6, acp_n (by rw [ma4.2]; omega) (by rw [la4.2]; omega) (by omega), ss_ok]
  have e6 : gi (sc s1 (b2 + 4) (b + 4) 0 0 6) b2 2 = nI (cT c) := by rw [gc_out (by omega), f1 _ _ (by omega) (by omega) (by omega)]; exact c6
  rw [e6]
  generalize hs2 : si (sc s1 (b2 + 4) (b + 4) 0 0 6) b 2 (nI (cT c)) = s2
  have f2 : ∀ x k, x ≠ b → x ≠ b + 4 → gi s2 x k = gi s1 x k := fun x k h1 h2 => by rw [← hs2, gs_ne (by omega), gc_out (by omega)]
  have g24 : ∀ j, j < 6 → gi s2 (b + 4) j = nI (cS c j) := fun j hj => by rw [← hs2, gs_ne (by omega), gc_in (by omega), f1 _ _ (by omega) (by omega) (by omega), show 0 + (j - 0) = j by omega]; exact c5 j hj
  have g22 : gi s2 b 2 = nI (cT c) := by rw [← hs2, gs_eq]
  have ht3 := hw.2.2.2.1
  have old : ∀ x k, (x < b ∨ b + 33 ≤ x) → gi s2 x k = gi σ x k := fun x k h => by rw [f2 _ _ (by omega) (by omega), f1 _ _ (by omega) (by omega) (by omega)]
  rw [g22]
  -- what grew
  obtain ⟨s3, e3, hg3, f3⟩ : ∃ s3, (if nI (cT c) < (1 : Int32) then (some ((), s2)) else (dr (rf E b 3) E 0 (fun x11 => dr (rf E b2 3) E 0 (fun x12 => bv (fX0_copyFrom E x11 x12 (gi s2 (b + 1) 2) s2) (fun s13 => some ((), s13)))))) = some ((), s3) ∧ (1 ≤ cT c → gi s3 (b + 5) 2 = nI (nrC c) ∧ gi s3 (b + 5) 3 = bI (tuC c) ∧ (∀ x, x < cN c → gi s3 (b + 6) x = nI (roC c x)) ∧ ∀ r, r < nrC c → gi s3 (b + 7) r = nI (glC c r)) ∧ ∀ x k, x ≠ b + 5 → x ≠ b + 6 → x ≠ b + 7 → gi s3 x k = gi s2 x k := by
    by_cases hs : cT c < 1
    · rw [i1, if_pos (nI_lt hs (by omega))]
      exact ⟨s2, rfl, fun h => by omega, fun _ _ _ _ _ => rfl⟩
    · obtain ⟨k1, k2, k3, k4⟩ := c7 (by omega)
      rw [lc_at (by omega)] at k1 k2
      have hnr := (nr_c hw (hw.2.2.2.2.1 (by omega))).2
      rw [i1, if_neg (nI_nlt (by omega) (by omega)), dr_ok rb3 lg.1, dr_ok rd3 mg.1]
      unfold fX0_copyFrom
      have q3 : gi (si s2 (b + 5) 2 (gi s2 (b2 + 5) 2)) (b2 + 5) 3 = bI (tuC c) := by rw [gs_ne (by omega), old _ _ (by omega)]; exact k2
      have q2 : gi s2 (b2 + 5) 2 = nI (nrC c) := by rw [old _ _ (by omega)]; exact k1
      have qn : gi s2 (b + 1) 2 = nI (cN c) := by rw [f2 _ _ (by omega) (by omega)]; exact r2
      rw [tk_ok lg.1, tk_ok mg.1, ss_ok, q3, kb_b, ss_ok, q2, dr_ok mg.2.1 mg.2.2.2.2.1.1, dr_ok lg.2.1 lg.2.2.2.2.1.1, qn, i0, acp_n (by rw [mg.2.2.2.2.1.2]; omega) (by rw [lg.2.2.2.2.1.2]; omega) (by omega), dr_ok mg.2.2.1 mg.2.2.2.2.2.1.1, dr_ok lg.2.2.1 lg.2.2.2.2.2.1.1]
      have q5 : gi (sc (si (si s2 (b + 5) 2 (nI (nrC c))) (b + 5) 3 (bI (tuC c))) (b2 + 5 + 1) (b + 5 + 1) 0 0 (cN c)) (b + 5) 2 = nI (nrC c) := by rw [gc_out (by omega), gs_ne (by omega), gs_eq]
      rw [q5, acp_n (by rw [mg.2.2.2.2.2.1.2]; omega) (by rw [lg.2.2.2.2.2.1.2]; omega) (by omega), bv_ok]
      refine ⟨_, rfl, fun _ => ⟨?_, ?_, fun x hx => ?_, fun r hr => ?_⟩, fun x k h1 h2 h3 => ?_⟩
      · rw [gc_out (by omega)]; exact q5
      · rw [gc_out (by omega), gc_out (by omega), gs_eq]
      · rw [gc_out (by omega), gc_in (by omega), gs_ne (by omega), gs_ne (by omega), old _ _ (by omega), show 0 + (x - 0) = x by omega]
        have := k3 x hx; rw [lc_at (by omega)] at this; exact this
      · rw [gc_in (by omega), gc_out (by omega), gs_ne (by omega), gs_ne (by omega), old _ _ (by omega), show 0 + (r - 0) = r by omega]
        have := k4 r hr; rw [lc_at (by omega)] at this; exact this
      · rw [gc_out (by omega), gc_out (by omega), gs_ne (by omega), gs_ne (by omega)]
  rw [e3, bd_ok, f3 b 2 (by omega) (by omega) (by omega), g22]
  have old3 : ∀ x k, (x < b ∨ b + 33 ≤ x) → gi s3 x k = gi σ x k := fun x k h => by rw [f3 _ _ (by omega) (by omega) (by omega), old _ _ h]
  -- the mill
  obtain ⟨s4, e4, hm4, f4⟩ : ∃ s4, (if nI (cT c) < (2 : Int32) then (some ((), s3)) else (dr (rf E b 4) E 1 (fun x17 => dr (rf E b2 4) E 1 (fun x18 => bv (fX1_copyFrom E x17 x18 s3) (fun s19 => dr (rf E b2 5) E 100 (fun x21 => dr (rf E b 5) E 100 (fun x22 => dr (rf E b 3) E 0 (fun x23 => acp E s19 x21 (nI 0) x22 (nI 0) (gi s19 x23 2) (fun s24 => some ((), s24)))))))))) = some ((), s4) ∧ (2 ≤ cT c → CM' (lc s4 b) c) ∧ ∀ x k, (x < b + 9 ∨ b + 32 ≤ x) → gi s4 x k = gi s3 x k := by
    by_cases hs : cT c < 2
    · rw [i2, if_pos (nI_lt hs (by omega))]
      exact ⟨s3, rfl, fun h => by omega, fun _ _ _ => rfl⟩
    · obtain ⟨k1, k2, k3, k4⟩ := c8 (by omega)
      have h0 := hw.2.2.2.2.1 (by omega)
      have hnr := (nr_c hw h0).2
      obtain ⟨y1, y2, y3, y4⟩ := hg3 (by omega)
      have hR : RMl s3 (b2 + 9) (cS c 2) (cS c 1) (bkC c) (glC c) (nrC c) (miC c) := rml_tr hT k3 (fun x k hx => by rw [gi_lgs, lc_at (by omega), old3 _ _ (by omega), show b2 + (9 + x) = b2 + 9 + x by omega])
      obtain ⟨s5, e5, r5, f5⟩ := c_cpMill lm mm (by omega) hT (by omega) (by omega) (by omega) (by omega) hR
      have h52 : gi s5 (b + 5) 2 = nI (nrC c) := by rw [f5 _ _ (by omega)]; exact y1
      rw [i2, if_neg (nI_nlt (by omega) (by omega)), dr_ok rb4 lm.1, dr_ok rd4 mm.1, e5, bv_ok, dr_ok rd5 ma31.1, dr_ok rb5 la31.1, dr_ok rb3 lg.1, h52, acp_n (by rw [ma31.2]; omega) (by rw [la31.2]; omega) (by omega)]
      refine ⟨_, rfl, fun _ => ⟨k1, k2, ?_, fun t r j ht hr hj => ?_⟩, fun x k h => ?_⟩
      · exact (rml_lc hT).mpr (rml_tr hT r5 (fun x k hx => gc_out (by omega)))
      · have hjn := oc_lt (mil_ai (gok_c hw h0 (hw.2.2.2.2.2 (by omega))) k1).1 ht hr hj
        have := k4 t r j ht hr hj
        rw [lc_at (by omega)] at this
        rw [lc_at (by omega), gc_in (by omega), f5 _ _ (by omega), old3 _ _ (by omega), show 0 + (j - 0) = j by omega]; exact this
      · rw [gc_out (by omega), f5 _ _ (by omega)]
  rw [e4, bd_ok]
  have lo : ∀ x k, x < 9 → gi s4 (b + x) k = gi s3 (b + x) k := fun x k hx => f4 _ _ (by omega)
  refine ⟨s4, rfl, ⟨?_, fun i hi => ?_, fun i hi => ?_, ?_, fun j hj => ?_, ?_, fun h => ?_, hm4⟩, fun x k h => ?_⟩
  · rw [lc_at (by omega), lo _ _ (by omega), f3 _ _ (by omega) (by omega) (by omega), f2 _ _ (by omega) (by omega)]; exact r2
  · rw [lc_at (by omega), lo _ _ (by omega), f3 _ _ (by omega) (by omega) (by omega), f2 _ _ (by omega) (by omega), rk i hi]; exact c2 i hi
  · rw [lc_at (by omega), lo _ _ (by omega), f3 _ _ (by omega) (by omega) (by omega), f2 _ _ (by omega) (by omega), rr i hi]; exact c3 i hi
  · rw [lc_at (by omega), lo _ _ (by omega), f3 _ _ (by omega) (by omega) (by omega), f2 _ _ (by omega) (by omega)]; exact r3
  · rw [lc_at (by omega), lo _ _ (by omega), f3 _ _ (by omega) (by omega) (by omega)]; exact g24 j hj
  · rw [lc_at (by omega), lo _ _ (by omega), f3 _ _ (by omega) (by omega) (by omega)]; exact g22
  · obtain ⟨y1, y2, y3, y4⟩ := hg3 h
    exact ⟨by rw [lc_at (by omega), lo _ _ (by omega)]; exact y1, by rw [lc_at (by omega), lo _ _ (by omega)]; exact y2, fun x hx => by rw [lc_at (by omega), lo _ _ (by omega)]; exact y3 x hx, fun r hr => by rw [lc_at (by omega), lo _ _ (by omega)]; exact y4 r hr⟩
  · rw [f4 _ _ (by omega), f3 _ _ (by omega) (by omega) (by omega), old _ _ h]
end
section
/-! a state's own acts in the class: runs are laid, merged once -/
section OP
variable {E : En} {σ : Sg} {w T nr b m N : Nat} {bk tu fr : Bool} {gl : Nat → Nat} {A : Mi}
theorem c_layRuns (hb : LSta E b) (hL : LMill E m N) (hd : b + 8 ≤ m ∨ m + 22 ≤ b) (h2 : gi σ (b + 5) 2 = nI nr) (h3 : gi σ (b + 5) 3 = bI tu) (hlen : ∀ r, r < nr → gi σ (b + 7) r = nI (gl r)) {f3 : Nat} (hf3 : gi σ (b + 4) 3 = nI f3) (hfl : f3 ≤ 1) (hfr : fr = (f3 == 1)) (h : LD σ m w T bk 0 gl tu) (hn : nr ≤ N) (hN : N ≤ 700) (hnr : nr ≤ 300) (hw : w ≤ 2) (hT : T ≤ 6) (hT3 : 3 ≤ T) (hc : Cap w T nr) :
    ∃ s, fX4_layRuns E b m σ = some s ∧ RMl s m w T bk gl nr (mi0 w T bk fr tu gl nr) ∧ gi s (m + 3) 4 = nI (dmN w T nr) ∧ gi s (m + 3) 5 = lvI w T nr ∧ ∀ x k, (x < m ∨ m + 22 ≤ x) → gi s x k = gi σ x k := by
  obtain ⟨b0, rb0, rb1, rb3, rb4, rb5, rb6, lr, la4, lg, lm, la31, la32⟩ := id hb
  unfold fX4_layRuns
  rw [tk_ok b0, tk_ok hL.1]
  refine bd_in nr (fun i a => a.1 = nI i ∧ LD a.2 m w T bk i gl tu ∧ ∀ x k, (x < m ∨ m + 22 ≤ x) → gi a.2 x k = gi σ x k) (fun a => LD a.2 m w T bk nr gl tu ∧ ∀ x k, (x < m ∨ m + 22 ≤ x) → gi a.2 x k = gi σ x k) (by show nr < 1000000; omega) ⟨rfl, h, fun _ _ _ => rfl⟩ ?_ ?_ ?_
  · rintro i ⟨v, s⟩ rec hi ⟨rfl, q1, q2⟩
    dsimp only at q1 q2 ⊢
    obtain ⟨s3, e3, g1, g2⟩ := c_load hL q1 (by omega) hN
    unfold bX4_layRuns_2
    rw [dr_ok rb3 lg.1, q2 _ _ (by omega), h2, if_neg (nI_ge hi (by omega)), dr_ok lg.2.2.1 lg.2.2.2.2.2.1.1, lg.2.2.2.2.2.1.2, ck_n (by omega) (by omega), nI_clamp (by omega), c_falls lg (tu := tu) (by rw [q2 _ _ (by omega)]; exact h3) (by omega), bd_ok, q2 _ _ (by omega), hlen i hi]
    rw [show fal tu i = (tu && (i % 2 == 1)) from rfl, e3, bv_ok, lt_ok, ad1]
    exact ⟨_, rfl, rfl, g1, fun x k hx => by dsimp only; rw [g2 x k hx]; exact q2 x k hx⟩
  · rintro ⟨v, s⟩ rec ⟨rfl, q1, q2⟩
    dsimp only at q1 q2 ⊢
    unfold bX4_layRuns_2
    rw [dr_ok rb3 lg.1, q2 _ _ (by omega), h2, if_pos (nI_le (Nat.le_refl _) (by omega))]
    exact ⟨_, rfl, q1, q2⟩
  · rintro v s ⟨q1, q2⟩
    dsimp only at q1 q2
    obtain ⟨s3, e3, r3, g4, g5, f3'⟩ := c_layOut (fr := fr) hL q1 hw hT hT3 hn hN hc
    rw [dr_ok rb1 la4.1, la4.2, i3, ck_n (by omega) (by omega), nI_clamp (by omega), q2 _ _ (by omega), hf3]
    have hsel : (if ¬ nI f3 = (1 : Int32) then (some ((0 : Int32), s)) else (some ((1 : Int32), s))) = some (bI fr, s) := by
      rw [hfr]
      rcases (show f3 = 0 ∨ f3 = 1 by omega) with rfl | rfl <;> rfl
    rw [hsel, bd_ok, e3, bv_ok]
    exact ⟨s3, rfl, r3, g4, g5, fun x k hx => by rw [f3' x k hx]; exact q2 x k hx⟩
theorem c_takenFrom (hL : LMill E m N) (hT : T ≤ 6) (h1 : gi σ m 1 = nI T) {v : Nat → Int32} (h4 : ∀ t, t < T → gi σ (m + 4) t = v t) {i : Nat} (hi : i < 2 ^ 31) : fX1_takenFrom E m (nI i) σ = some (optI (fstF (fun t => decide (v t = nI i)) T), σ) := by
  obtain ⟨l0, l4, l10, l12, l13, l17, l18, l5, l6, a1, a2, a3, a4, a5, a7, a8, a9, ltp⟩ := id hL
  have body : ∀ j rec, j < T → bX1_takenFrom_2 E m (nI i) rec (nI j) σ = if decide (v j = nI i) = true then some (.inr (nI j), σ) else rec (nI (j + 1)) σ := by
    intro j rec hj
    unfold bX1_takenFrom_2
    rw [h1, if_neg (nI_ge hj (by omega)), if_neg (nI_pos hi), dr_ok l13 a4.1, a4.2, ck_n (by omega) (by omega), nI_clamp (by omega), h4 j hj]
    by_cases hq : v j = nI i
    · rw [if_neg (fun z => z hq), decide_eq_true hq, if_pos rfl]
    · rw [if_pos hq, lt_ok, ad1, decide_eq_false hq, if_neg (by decide)]
  unfold fX1_takenFrom
  rw [tk_ok l0]
  cases hf : fstF (fun t => decide (v t = nI i)) T with
  | some e =>
    obtain ⟨q1, q2, q3⟩ := fstF_some hf
    refine bd_tr (Sum.inr (nI e), σ) e (fun i => (nI i, σ)) (by show e < 1000000; omega) (fun j rec hj => ?_) (fun rec => ?_) rfl
    · dsimp only; rw [body j _ (by omega), if_neg (by rw [q3 j hj]; decide)]
    · dsimp only; rw [body e _ q1, if_pos q2]
  | none =>
    have q3 := fstF_none hf
    refine bd_tr (Sum.inl (nI T), σ) T (fun i => (nI i, σ)) (by show T < 1000000; omega) (fun j rec hj => ?_) (fun rec => ?_) rfl
    · dsimp only; rw [body j _ (by omega), if_neg (by rw [q3 j hj]; decide)]
    · unfold bX1_takenFrom_2
      dsimp only
      rw [h1, if_pos (nI_le (Nat.le_refl _) (by omega))]
/-- where a run that grew is -/
theorem oc_ex {tp : Nat → List Rn} (h : Oc T nr tp) {j : Nat} (hj : j < nr) : ∃ t r, t < T ∧ r ∈ tp t ∧ j ∈ r.1 := by
  have h1 := h j
  rw [if_pos hj] at h1
  obtain ⟨t, ht, h2, _⟩ := sum_one h1
  have : ∀ l : List Rn, 0 < occL j l → ∃ r, r ∈ l ∧ j ∈ r.1 := by
    intro l
    induction l with
    | nil => intro h; simp [occL] at h
    | cons a l ih =>
      intro h
      unfold occL at h
      by_cases hc : 0 < a.1.count j
      · exact ⟨a, List.mem_cons_self, List.count_pos_iff.mp hc⟩
      · obtain ⟨r, h1, h2⟩ := ih (by omega)
        exact ⟨r, List.mem_cons_of_mem _ h1, h2⟩
  obtain ⟨r, q1, q2⟩ := this (tp t) (by omega)
  exact ⟨t, r, ht, q1, q2⟩
/-- one that is with one of a head is in that head -/
theorem dj_same {tp : Nat → List Rn} (h : Dj T tp) {t t' j : Nat} {r : Rn} (ht : t < T) (ht' : t' < T) (hl : 0 < (tp t).length) (hj : j ∈ (hdr (tp t)).1) (hr : r ∈ tp t') (hjr : j ∈ r.1) : r = hdr (tp t) ∧ t' = t := by
  by_cases he : t' = t
  · subst he
    refine ⟨?_, rfl⟩
    cases hq : tp t' with
    | nil => rw [hq] at hr; cases hr
    | cons a l =>
      rw [hq] at hr
      rcases List.mem_cons.mp hr with q | q
      · exact q
      · exact absurd hjr (dj_hd h ht ht' hl hj (r := r) (by rw [if_pos rfl, hq]; exact q))
  · exact absurd hjr (dj_hd h ht ht' hl hj (r := r) (by rw [if_neg he]; exact hr))
/-- by the number of a run that is taken it is known -/
theorem taken_iff {g : Nat → Bool} {tp : Nat → List Rn} (h : Oc T nr tp) (hnr : nr ≤ 700) (hg : ∀ t, t < T → g t = true → 0 < (tp t).length) {t' j : Nat} {r : Rn} (ht' : t' < T) (hr : r ∈ tp t') (hj : j ∈ r.1) : ∀ t, t < T → (tkI g tp t = idI r.1 ↔ g t = true ∧ t = t' ∧ r = hdr (tp t)) := by
  intro t ht
  obtain ⟨i0, l0, hz⟩ : ∃ i l, r.1 = i :: l := by
    cases hq : r.1 with
    | nil => rw [hq] at hj; cases hj
    | cons i l => exact ⟨i, l, rfl⟩
  have hi0 := oc_lt h ht' hr (j := i0) (by rw [hz]; simp)
  unfold tkI
  by_cases hgt : g t = true
  · rw [if_pos hgt, hz]
    constructor
    · intro q
      refine ⟨hgt, ?_⟩
      have hin : i0 ∈ (hdr (tp t)).1 := by
        cases hq : (hdr (tp t)).1 with
        | nil => rw [hq] at q; exact absurd q.symm (nI_nm1 (n := i0) (by omega))
        | cons i l =>
          rw [hq] at q
          have hi := oc_lt h ht (hdr_mem (hg t ht hgt)) (j := i) (by rw [hq]; simp)
          have := (nI_eq (by omega) (by omega)).mp q
          rw [this]; simp
      have := dj_same (oc_dj h) ht ht' (hg t ht hgt) hin hr (by rw [hz]; simp)
      exact ⟨this.2.symm, this.1⟩
    · rintro ⟨_, _, q⟩
      rw [← q, hz]
  · rw [if_neg hgt, hz]
    constructor
    · intro q; exact absurd q.symm (nI_nm2 (n := i0) (by omega))
    · rintro ⟨q, _⟩; exact absurd q hgt
theorem c_mergeOnce (hb : LSta E b) (h : RMl σ (b + 9) w T bk gl nr A) (hT : T ≤ 6) (hT3 : 3 ≤ T) (hw : w ≤ 2) (hnr : nr ≤ 300) (h2 : gi σ (b + 5) 2 = nI nr) (ha : AI T nr A) (hok : oks w T (T / 2) (mK A) = true) (ho : HOl T (gi σ (b + 31)) A) :
    ∃ s, fX4_mergeOnce E b σ = some s ∧ RMl s (b + 9) w T bk gl nr (stp w T bk gl A) ∧ HOl T (gi s (b + 31)) (stp w T bk gl A) ∧ gi s b 2 = (if lef T (mK (stp w T bk gl A)) = 1 then 3 else gi σ b 2) ∧ ∀ x k, (x < b + 9 ∨ b + 32 ≤ x) → ¬ (x = b ∧ k = 2) → gi s x k = gi σ x k := by
  obtain ⟨b0, rb0, rb1, rb3, rb4, rb5, rb6, lr, la4, lg, lm, la31, la32⟩ := id hb
  obtain ⟨s1, e1, r1, g16, g4, f1⟩ := c_adv lm h hT hT3 hw hnr (by omega) (oc_dj ha.1) hok
  obtain ⟨o1, o2, o3, o4, o5⟩ := oks_un hok
  have hgl : ∀ t, t < T → gvf w (T / 2) (mK A) t = true → 0 < (mT A t).length := fun t ht q => by rw [← ha.2.1 t ht]; exact (gv_fl q).2
  have hmT : gi s1 (b + 9) 1 = nI T := by obtain ⟨L, H, hms, _⟩ := r1; exact hms.1.2.1
  have h8 : gi s1 (b + 9) 8 = nI (lef T (mK (stp w T bk gl A))) := by obtain ⟨L, H, _, _, _, q, _⟩ := r1; exact q
  have hlef : lef T (mK (stp w T bk gl A)) ≤ 1536 := by obtain ⟨L, H, hms, _⟩ := r1; exact ms_lef hT hms
  have hlp : 0 < lef T (mK (stp w T bk gl A)) := by
    rw [stp_K]
    have h1 : kc (skn w T (T / 2) (mK A)).1 (kto (mK A)) ≤ lef T (skn w T (T / 2) (mK A)).1 := sumF_pos (f := kc (skn w T (T / 2) (mK A)).1) o2
    have h2 : kc (skn w T (T / 2) (mK A)).1 (kto (mK A)) = kc (mK A) (kto (mK A)) + 1 := by
      show (skn w T (T / 2) (mK A)).1.1.getD _ 0 = _
      rw [skn_1, skc_at o2, if_pos rfl]
    omega
  unfold fX4_mergeOnce
  rw [tk_ok b0, dr_ok rb4 lm.1, e1, bv_ok]
  generalize hgd : gvf w (T / 2) (mK A) = g at *
  generalize hcd : catF g (mT A) T = c at *
  refine bd_in nr (fun i a => a.1 = nI i ∧ (∀ j, j < nr → gi a.2 (b + 31) j = if j < i ∧ j ∈ c then idI c else gi σ (b + 31) j) ∧ ∀ x k, x ≠ b + 31 → gi a.2 x k = gi s1 x k) (fun a => (∀ j, j < nr → gi a.2 (b + 31) j = if j ∈ c then idI c else gi σ (b + 31) j) ∧ ∀ x k, x ≠ b + 31 → gi a.2 x k = gi s1 x k) (by show nr < 1000000; omega) ⟨rfl, fun j hj => ?_, fun _ _ _ => rfl⟩ ?_ ?_ ?_
  · dsimp only; rw [if_neg (by omega), f1 _ _ (by unfold esA; omega)]
  · rintro i ⟨v, s⟩ rec hi ⟨rfl, q1, q2⟩
    dsimp only at q1 q2 ⊢
    obtain ⟨t', r, ht', hr, hj⟩ := oc_ex ha.1 hi
    have hhold : gi s (b + 31) i = idI r.1 := by rw [q1 i hi, if_neg (by omega)]; exact ho t' r i ht' hr hj
    obtain ⟨i0, l0, hz⟩ : ∃ i l, r.1 = i :: l := by
      cases hq : r.1 with
      | nil => rw [hq] at hj; cases hj
      | cons i l => exact ⟨i, l, rfl⟩
    have hi0 := oc_lt ha.1 ht' hr (j := i0) (by rw [hz]; simp)
    have hti := taken_iff ha.1 (by omega) hgl ht' hr hj
    have htf := c_takenFrom (σ := s) lm hT (by rw [q2 _ _ (by omega)]; exact hmT) (v := tkI g (mT A)) (fun t ht => by rw [q2 _ _ (by omega)]; exact g4 t ht) (i := i0) (by omega)
    have hidr : idI r.1 = nI i0 := by rw [hz]; rfl
    rw [hidr] at hti
    unfold bX4_mergeOnce_9
    rw [dr_ok rb3 lg.1, q2 _ _ (by omega), f1 _ _ (by unfold esA; omega), h2, if_neg (nI_ge hi (by omega)), dr_ok rb5 la31.1, la31.2, ck_n (by omega) (by omega), nI_clamp (by omega), hhold, hidr, htf, bd_ok]
    have hic : i ∈ c ↔ ∃ e, fstF (fun t => decide (tkI g (mT A) t = nI i0)) T = some e := by
      rw [← hcd]
      constructor
      · intro hm'
        obtain ⟨t, q3, q4, q5⟩ := cat_memI.mp hm'
        have := dj_same (oc_dj ha.1) q3 ht' (hgl t q3 q4) q5 hr hj
        obtain ⟨e, he, _⟩ := fstF_ex (p := fun t => decide (tkI g (mT A) t = nI i0)) q3 (by rw [decide_eq_true_eq]; exact (hti t q3).mpr ⟨q4, this.2.symm, this.1⟩)
        exact ⟨e, he⟩
      · rintro ⟨e, he⟩
        obtain ⟨w1, w2, w3⟩ := fstF_some he
        rw [decide_eq_true_eq] at w2
        obtain ⟨w4, w5, w6⟩ := (hti e w1).mp w2
        exact cat_memI.mpr ⟨e, w1, w4, by rw [← w6]; exact hj⟩
    cases hfs : fstF (fun t => decide (tkI g (mT A) t = nI i0)) T with
    | none =>
      have hnc : i ∉ c := fun z => by obtain ⟨e, he⟩ := hic.mp z; rw [hfs] at he; cases he
      rw [if_pos (show optI none = -1 from rfl), bd_ok, lt_ok, ad1]
      refine ⟨_, rfl, rfl, fun j hj' => ?_, q2⟩
      dsimp only
      rw [q1 j hj']
      by_cases hji : j = i
      · subst hji; rw [if_neg (by omega), if_neg (fun z => hnc z.2)]
      · rw [ifc (p := j < i ∧ j ∈ c) (q := j < i + 1 ∧ j ∈ c) ⟨fun z => ⟨by omega, z.2⟩, fun z => ⟨by omega, z.2⟩⟩]
    | some e =>
      have hyc : i ∈ c := hic.mpr ⟨e, hfs⟩
      have he := (fstF_some hfs).1
      rw [if_neg (show ¬ optI (some e) = -1 from nI_nm1 (n := e) (by omega)), ck_n (by omega) (by omega), q2 _ _ (by omega), g16, ss_ok, bd_ok, lt_ok, ad1]
      refine ⟨_, rfl, rfl, fun j hj' => ?_, fun x k hx => by dsimp only; rw [gs_ne (by omega)]; exact q2 x k hx⟩
      dsimp only
      by_cases hji : j = i
      · subst hji; rw [gs_eq, if_pos ⟨by omega, hyc⟩]
      · rw [gs_ne (by omega), q1 j hj', ifc (p := j < i ∧ j ∈ c) (q := j < i + 1 ∧ j ∈ c) ⟨fun z => ⟨by omega, z.2⟩, fun z => ⟨by omega, z.2⟩⟩]
  · rintro ⟨v, s⟩ rec ⟨rfl, q1, q2⟩
    dsimp only at q1 q2 ⊢
    unfold bX4_mergeOnce_9
    rw [dr_ok rb3 lg.1, q2 _ _ (by omega), f1 _ _ (by unfold esA; omega), h2, if_pos (nI_le (Nat.le_refl _) (by omega))]
    refine ⟨_, rfl, fun j hj => ?_, q2⟩
    dsimp only
    rw [q1 j hj, ifc (p := j < nr ∧ j ∈ c) (q := j ∈ c) ⟨fun z => z.2, fun z => ⟨hj, z⟩⟩]
  · rintro v s2 ⟨q1, q2⟩
    dsimp only at q1 q2
    have hR2 : RMl s2 (b + 9) w T bk gl nr (stp w T bk gl A) := rml_tr hT r1 (fun x k hx => q2 _ _ (by omega))
    have hH2 : HOl T (gi s2 (b + 31)) (stp w T bk gl A) := by
      intro t r j ht hr hj
      -- runs behind the step, flags aside
      have hr0 : ∃ r0, r0 ∈ mT (stp0 w T bk gl A) t ∧ r0.1 = r.1 := by
        unfold stp tul at hr
        split at hr
        · have hr : r ∈ upr (mT (stp0 w T bk gl A) t) := hr
          unfold upr at hr
          obtain ⟨r0, h1, rfl⟩ := List.mem_map.mp hr
          exact ⟨r0, h1, rfl⟩
        · exact ⟨r, hr, rfl⟩
      obtain ⟨r0, hr0, he0⟩ := hr0
      have hai := ai_stp0 (bk := bk) (gl := gl) ha hok
      have hjn : j < nr := oc_lt hai.1 ht hr0 (by rw [he0]; exact hj)
      rw [q1 j hjn, ← he0]
      rw [← he0] at hj
      have hr0' : r0 ∈ tpn T (kto (mK A)) bk g (c, bk && (ldD g (mT A) T == some false)) (mT A) t := by rw [← hcd, ← hgd]; exact hr0
      unfold tpn at hr0'
      have old : ∀ r0, r0 ∈ mT A t → (g t = true → r0 ∈ (mT A t).tail) → j ∈ r0.1 → (if j ∈ c then idI c else gi σ (b + 31) j) = idI r0.1 := by
        intro r0 hm1 hm2 hj0
        have hnc : j ∉ c := fun z => by
          rw [← hcd] at z
          obtain ⟨u, u1, u2, u3⟩ := cat_memI.mp z
          refine dj_hd (oc_dj ha.1) u1 ht (hgl u u1 u2) u3 (r := r0) ?_ hj0
          by_cases hut : t = u
          · subst hut; rw [if_pos rfl]; exact hm2 u2
          · rw [if_neg hut]; exact hm1
        rw [if_neg hnc]
        exact ho t r0 j ht hm1 hj0
      by_cases hto : t = kto (mK A)
      · rw [if_pos hto] at hr0'
        rcases psh_mem hr0' with rfl | hm1
        · rw [if_pos hj]
        · exact old r0 hm1 (fun z => by rw [hto, ← hgd, gv_no o3] at z; cases z) hj
      · rw [if_neg hto] at hr0'
        by_cases hgt : t < T ∧ g t = true
        · rw [if_pos hgt] at hr0'; exact old r0 (List.mem_of_mem_tail hr0') (fun _ => hr0') hj
        · rw [if_neg hgt] at hr0'; exact old r0 hr0' (fun z => absurd ⟨ht, z⟩ hgt) hj
    rw [q2 _ _ (by omega), h8, i1]
    by_cases h1 : lef T (mK (stp w T bk gl A)) = 1
    · rw [if_neg (nI_nlt (by omega) (by omega)), ss_ok, bd_ok]
      refine ⟨_, rfl, rml_tr hT hR2 (fun x k hx => gs_ne (by omega)), fun t r j ht hr hj => by rw [gs_ne (by omega)]; exact hH2 t r j ht hr hj, by rw [gs_eq, if_pos h1], fun x k hx hk => ?_⟩
      rw [gs_ne (by omega), q2 _ _ (by omega), f1 _ _ (by unfold esA; omega)]
    · rw [if_pos (nI_lt (by omega) (by omega)), bd_ok]
      refine ⟨s2, rfl, hR2, hH2, by rw [if_neg h1, q2 _ _ (by omega), f1 _ _ (by unfold esA; omega)], fun x k hx hk => ?_⟩
      rw [q2 _ _ (by omega), f1 _ _ (by unfold esA; omega)]
end OP
end
section
/-! grow -/
theorem sm_lv {w T nr l L : Nat} (hl : l < L) (hL : L ≤ 40) (h1 : nr ≤ smp w (T - 1) l) (h2 : cntF (fun i => decide (smp w (T - 1) i ≤ 700)) L = L) : smp w (T - 1) (lvA w T nr) ≤ 700 := by
  obtain ⟨e, q1, q2⟩ := fstF_ex (p := fun l => decide (nr ≤ smp w (T - 1) l)) (n := 40) (j := l) (by omega) (by simpa using h1)
  have hlv : lvA w T nr = e := by unfold lvA lvl; rw [q1]; rfl
  rw [hlv]
  have := cntF_all h2 e (by omega)
  simpa using this
theorem sm_03 : cntF (fun i => decide (smp 0 2 i ≤ 700)) 12 = 12 := by decide +kernel
theorem sm_04 : cntF (fun i => decide (smp 0 3 i ≤ 700)) 9 = 9 := by decide +kernel
theorem sm_05 : cntF (fun i => decide (smp 0 4 i ≤ 700)) 8 = 8 := by decide +kernel
theorem sm_06 : cntF (fun i => decide (smp 0 5 i ≤ 700)) 8 = 8 := by decide +kernel
theorem sm_23 : cntF (fun i => decide (smp 2 2 i ≤ 700)) 12 = 12 := by decide +kernel
theorem sm_24 : cntF (fun i => decide (smp 2 3 i ≤ 700)) 7 = 7 := by decide +kernel
theorem sm_25 : cntF (fun i => decide (smp 2 4 i ≤ 700)) 6 = 6 := by decide +kernel
theorem sm_26 : cntF (fun i => decide (smp 2 5 i ≤ 700)) 6 = 6 := by decide +kernel
theorem sm_ok {w T nr : Nat} (hw : w ≤ 2) (hT3 : 3 ≤ T) (hT : T ≤ 6) (hn : nr ≤ 150) (h1 : w ≠ 1) : smp w (T - 1) (lvA w T nr) ≤ 700 := by
  rcases (show w = 0 ∨ w = 2 by omega) with rfl | rfl
  · rcases (show T = 3 ∨ T = 4 ∨ T = 5 ∨ T = 6 by omega) with rfl | rfl | rfl | rfl
    · exact sm_lv (l := 11) (by omega) (by omega) (Nat.le_trans hn lv_03.1) sm_03
    · exact sm_lv (l := 8) (by omega) (by omega) (Nat.le_trans hn lv_04.1) sm_04
    · exact sm_lv (l := 7) (by omega) (by omega) (Nat.le_trans hn lv_05.1) sm_05
    · exact sm_lv (l := 7) (by omega) (by omega) (Nat.le_trans hn lv_06.1) sm_06
  · rcases (show T = 3 ∨ T = 4 ∨ T = 5 ∨ T = 6 by omega) with rfl | rfl | rfl | rfl
    · exact sm_lv (l := 11) (by omega) (by omega) (Nat.le_trans hn lv_23.1) sm_23
    · exact sm_lv (l := 6) (by omega) (by omega) (Nat.le_trans hn lv_24.1) sm_24
    · exact sm_lv (l := 5) (by omega) (by omega) (Nat.le_trans hn lv_25.1) sm_25
    · exact sm_lv (l := 5) (by omega) (by omega) (Nat.le_trans hn lv_26.1) sm_26
section EX
variable {σ : Sg} {c : Cu} {x : Nat}
theorem cs_g (h : CS CG' CM' (lc σ 2) c) (h1 : 1 ≤ cT c) : gi σ 7 2 = nI (nrC c) ∧ gi σ 7 3 = bI (tuC c) ∧ (∀ x, x < cN c → gi σ 8 x = nI (roC c x)) ∧ ∀ r, r < nrC c → gi σ 9 r = nI (glC c r) := by
  obtain ⟨k1, k2, k3, k4⟩ := h.2.2.2.2.2.2.1 h1
  refine ⟨?_, ?_, fun x hx => ?_, fun r hr => ?_⟩
  · rw [lc_at (by omega)] at k1; exact k1
  · rw [lc_at (by omega)] at k2; exact k2
  · have := k3 x hx; rw [lc_at (by omega)] at this; exact this
  · have := k4 r hr; rw [lc_at (by omega)] at this; exact this
theorem cs_m (hw : Wf c) (h : CS CG' CM' (lc σ 2) c) (h2 : 2 ≤ cT c) : cI c ≤ KC c ∧ (cT c = 3 ↔ cI c = KC c) ∧ RMl σ 11 (cS c 2) (cS c 1) (bkC c) (glC c) (nrC c) (miC c) ∧ HOl (cS c 1) (gi σ 33) (miC c) := by
  obtain ⟨k1, k2, k3, k4⟩ := h.2.2.2.2.2.2.2 h2
  have hT := (hw.2.2.1 1 (by omega)).2
  refine ⟨k1, k2, (rml_lc hT).mp k3, fun t r j ht hr hj => ?_⟩
  have := k4 t r j ht hr hj
  rw [lc_at (by omega)] at this; exact this
theorem mk_cs (h1 : RR σ (cF c) (cN c)) (h2 : ∀ j, j < 6 → gi σ 6 j = nI (cS c j)) (h3 : gi σ 2 2 = nI (cT c)) (h4 : 1 ≤ cT c → gi σ 7 2 = nI (nrC c) ∧ gi σ 7 3 = bI (tuC c) ∧ (∀ x, x < cN c → gi σ 8 x = nI (roC c x)) ∧ ∀ r, r < nrC c → gi σ 9 r = nI (glC c r)) (hT : cS c 1 ≤ 6) (h5 : 2 ≤ cT c → cI c ≤ KC c ∧ (cT c = 3 ↔ cI c = KC c) ∧ RMl σ 11 (cS c 2) (cS c 1) (bkC c) (glC c) (nrC c) (miC c) ∧ HOl (cS c 1) (gi σ 33) (miC c)) : CS CG' CM' (lc σ 2) c := by
  obtain ⟨g1, g2, g3, g4⟩ := h1
  refine ⟨?_, fun i hi => ?_, fun i hi => ?_, ?_, fun j hj => ?_, ?_, fun h => ?_, fun h => ?_⟩
  · rw [lc_at (by omega)]; exact g1
  · rw [lc_at (by omega)]; exact g2 i hi
  · rw [lc_at (by omega)]; exact g3 i hi
  · rw [lc_at (by omega)]; exact g4
  · rw [lc_at (by omega)]; exact h2 j hj
  · rw [lc_at (by omega)]; exact h3
  · obtain ⟨k1, k2, k3, k4⟩ := h4 h
    exact ⟨by rw [lc_at (by omega)]; exact k1, by rw [lc_at (by omega)]; exact k2, fun x hx => by rw [lc_at (by omega)]; exact k3 x hx, fun r hr => by rw [lc_at (by omega)]; exact k4 r hr⟩
  · obtain ⟨k1, k2, k3, k4⟩ := h5 h
    exact ⟨k1, k2, (rml_lc hT).mpr k3, fun t r j ht hr hj => by rw [lc_at (by omega)]; exact k4 t r j ht hr hj⟩
theorem mr_mg (hw : Wf c) (h : MR MG' MM' (rw7 σ 396 0) c x) (h1 : 1 ≤ cT c) : gi σ 396 14 = nI (nrC c) ∧ (∀ j, j ≤ nrC c → gi σ 396 (926 + j) = nI (bgC c j)) ∧ (∀ p, p < cN c → gi σ 396 (626 + p) = nI (olC c p)) ∧ ∀ x, x < cN c → gi σ 396 (326 + x) = nI (roC c x) := by
  obtain ⟨k1, k2, k3, k4⟩ := h.2.2.2.2.2.1 h1
  have hn := hw.1
  have hr := (nr_c hw (hw.2.2.2.2.1 h1)).2
  refine ⟨?_, fun j hj => ?_, fun p hp => ?_, fun x hx => ?_⟩
  · rw [rw_at (by omega), Nat.zero_add] at k1; exact k1
  · have := k2 j hj; rw [rw_at (by omega), Nat.zero_add] at this; exact this
  · have := k3 p hp; rw [rw_at (by omega), Nat.zero_add] at this; exact this
  · have := k4 x hx; rw [rw_at (by omega), Nat.zero_add] at this; exact this
theorem mr_mm (hw : Wf c) (h : MR MG' MM' (rw7 σ 396 0) c x) (h2 : 2 ≤ cT c) : cI c ≤ KC c ∧ (cT c = 3 ↔ cI c = KC c) ∧ RMm σ (cF c) (cN c) (roC c) (glC c) (cS c 2) (cS c 1) (bkC c) (miC c) := by
  obtain ⟨k0, k1, k2, k3⟩ := h.2.2.2.2.2.2 h2
  exact ⟨k1, k2, (rmm_rw k0.1 k0.2).mp k3⟩
theorem mk_mr (hw : Wf c) (h0 : gi σ 396 0 = nI (cN c)) (h1 : ∀ i, i < cN c → gi σ 396 (26 + i) = nI (cF c i)) (h2 : ∀ j, j < 6 → gi σ 396 (1 + j) = nI (cS c j)) (h3 : gi σ 396 7 = nI (cT c)) (h8 : gi σ 396 8 = nI x) (h4 : 1 ≤ cT c → gi σ 396 14 = nI (nrC c) ∧ (∀ j, j ≤ nrC c → gi σ 396 (926 + j) = nI (bgC c j)) ∧ (∀ p, p < cN c → gi σ 396 (626 + p) = nI (olC c p)) ∧ ∀ x, x < cN c → gi σ 396 (326 + x) = nI (roC c x)) (h5 : 2 ≤ cT c → cI c ≤ KC c ∧ (cT c = 3 ↔ cI c = KC c) ∧ RMm σ (cF c) (cN c) (roC c) (glC c) (cS c 2) (cS c 1) (bkC c) (miC c)) : MR MG' MM' (rw7 σ 396 0) c x := by
  have hn := hw.1
  have hT := (hw.2.2.1 1 (by omega)).2
  refine ⟨?_, fun i hi => ?_, fun j hj => ?_, ?_, ?_, fun h => ?_, fun h => ?_⟩
  · rw [rw_at (by omega)]; exact h0
  · rw [rw_at (by omega), Nat.zero_add]; exact h1 i hi
  · rw [rw_at (by omega), Nat.zero_add]; exact h2 j hj
  · rw [rw_at (by omega)]; exact h3
  · rw [rw_at (by omega)]; exact h8
  · obtain ⟨k1, k2, k3, k4⟩ := h4 h
    have hr := (nr_c hw (hw.2.2.2.2.1 h)).2
    exact ⟨by rw [rw_at (by omega), Nat.zero_add]; exact k1, fun j hj => by rw [rw_at (by omega), Nat.zero_add]; exact k2 j hj, fun p hp => by rw [rw_at (by omega), Nat.zero_add]; exact k3 p hp, fun x hx => by rw [rw_at (by omega), Nat.zero_add]; exact k4 x hx⟩
  · obtain ⟨k1, k2, k3⟩ := h5 h
    exact ⟨⟨hn, hT⟩, k1, k2, (rmm_rw hn hT).mpr k3⟩
end EX
theorem gv_c {c : Cu} (hw : Wf c) (h0 : 0 < cN c) : GV (cF c) (cN c) (roC c) (glC c) (nrC c) := by
  have hg := gi_c hw
  refine ⟨hw.1, hw.2.1, fun j hj => ⟨?_, ?_⟩, fun x hx => gf_ro hg hx⟩
  · rw [← lst_cnt (f := fal (tuC c) j), List.countP_eq_length_filter]
    exact gf_len h0 hg hj
  · obtain ⟨b1, b2⟩ := gf_bg h0 hg hj
    show 0 < glG (cN c) (gF c) j
    unfold glG; omega
theorem bg_c {c : Cu} (hw : Wf c) (h0 : 0 < cN c) : bgC c 0 = 0 ∧ (∀ r, r < nrC c → bgC c r + glC c r = bgC c (r + 1) ∧ bgC c (r + 1) ≤ cN c) ∧ ∀ r, r < nrC c → ∀ i, i < glC c r → olC c (bgC c r + i) = (cnt (cF c) (cN c) (roC c) (rnj (tuC c) r)).getD i 0 := by
  have hg := gi_c hw
  refine ⟨?_, fun r hr => ?_, fun r hr i hi => ?_⟩
  · show bgG (cN c) (gF c) 0 = 0
    unfold bgG; rw [if_pos (Nat.zero_le _)]; exact hg.2.2.2.2.2.2.2.2.1
  · obtain ⟨b1, b2⟩ := gf_bg h0 hg hr
    exact ⟨by show bgG (cN c) (gF c) r + glG (cN c) (gF c) r = _; unfold glG; show _ = bgG (cN c) (gF c) (r + 1); omega, b2⟩
  · have := gf_at h0 hg hr hi
    show (gO (gF c)).getD _ 0 = _
    rw [show bgC c r = bgG (cN c) (gF c) r from rfl, this]
    congr 1
    unfold sgG cnt
    show _ = (lst (cF c) (cN c) (fal (tuC c) r)).filter (fun x => [r].contains (roC c x))
    congr 1
    funext x
    show (gR (gF c) x == r) = [r].contains (gR (gF c) x)
    simp
    rfl
section OG
variable {E : En}
theorem ok_grow (hR : LRun E) (hM : LMod E) (hM2 : LMo2 E) : Ok (JJ CG' CM' MG' MM') (fX6_grow E 0) (fX7_grow E 395) := by
  refine ok_of (fun a hw => ?_)
  have hwc := hw.2.2.1
  have hn := hwc.1
  obtain ⟨r0, r1, r3, r4, r5, r8, r9, r10, r11, r12, r13, l1, l2, lx⟩ := id hR
  obtain ⟨b0, rb0, rb1, rb3, rb4, rb5, rb6, lr, la4, lg, lm, la31, la32⟩ := id l2
  have m0 := hM.1
  have ht3 := hwc.2.2.2.1
  have hst : ∀ σ, RC CG' CM' σ a → gi σ 2 2 = nI (cT (aC a)) := fun σ hc => (cs_rr hc.2.2.2.1).2.2
  have hsz : ∀ σ, RC CG' CM' σ a → gi σ 3 2 = nI (cN (aC a)) := fun σ hc => (cs_rr hc.2.2.2.1).1.1
  by_cases h1 : 1 ≤ cT (aC a)
  · have h0 := hwc.2.2.2.2.1 h1
    refine ⟨-2, a, hw, spc_q (fun σ hc => ⟨σ, ?_, fun _ _ _ => rfl, fun _ _ _ => rfl⟩), spm_q (fun σ hc => ⟨σ, ?_, fun _ _ _ => rfl, fun _ _ _ => rfl⟩)⟩
    · unfold fX6_grow
      rw [tk_ok r0, dr_ok r3 l2.1, hst σ hc, i1, if_neg (nI_nlt h1 (by omega))]
    · obtain ⟨k1, k2, k3, k4, k5⟩ := mr_g hn hc.2.2.1
      unfold fX7_grow
      rw [tk_ok m0, m_many hM hM2, bd_ok, k1, if_pos (nI_ne0 h0 (by omega)), dr_ok hM.2.1 hM2.1.1, hM2.1.2, i7, ck_n (by omega) (by omega), nI_clamp (by omega), k4, if_neg (nI_nle (by omega) (by omega))]
  by_cases h0 : cN (aC a) = 0
  · refine ⟨-1, a, hw, spc_q (fun σ hc => ⟨σ, ?_, fun _ _ _ => rfl, fun _ _ _ => rfl⟩), spm_q (fun σ hc => ⟨σ, ?_, fun _ _ _ => rfl, fun _ _ _ => rfl⟩)⟩
    · unfold fX6_grow
      rw [tk_ok r0, dr_ok r3 l2.1, hst σ hc, i1, if_pos (nI_lt (by omega) (by omega)), dr_ok rb0 lr.1, hsz σ hc, h0, if_neg (by simp; rfl)]
    · obtain ⟨k1, k2, k3, k4, k5⟩ := mr_g hn hc.2.2.1
      unfold fX7_grow
      rw [tk_ok m0, m_many hM hM2, bd_ok, k1, h0, if_neg (by simp; rfl)]
  have h0' : 0 < cN (aC a) := by omega
  have hwc' : Wf (cF (aC a), cN (aC a), cS (aC a), 1, 0) := ⟨hwc.1, hwc.2.1, hwc.2.2.1, by show 1 ≤ 3; omega, fun _ => h0', fun h => absurd h (by show ¬ 2 ≤ 1; omega)⟩
  have hs0 := hwc.2.2.1 0 (by omega)
  have hs5 := hwc.2.2.1 5 (by omega)
  refine ⟨nI (nrC (aC a)), (aB a, aN a, (cF (aC a), cN (aC a), cS (aC a), 1, 0), aX a, (rem a).2.2.2.2), ?_, fun σ hc => ?_, fun σ hc => ?_⟩
  · obtain ⟨g1, g2, g3, g4, g5, g6, g7⟩ := rem_wf hw
    exact ⟨g1, g2, hwc', g4, g5, g6, g7⟩
  · obtain ⟨s, e1, e2, e3, e4⟩ := c_rem hR cpy_ok hw hc
    obtain ⟨k1, k2, k3⟩ : RR s (cF (aC a)) (cN (aC a)) ∧ (∀ j, j < 6 → gi s 6 j = nI (cS (aC a) j)) ∧ gi s 2 2 = nI (cT (aC a)) := cs_rr e2.2.2.2.1
    obtain ⟨s2, g1, g2, g3, g4, g5, g6⟩ := c_growFrom (σ := s) (a := 7) (d := 3) (n := cN (aC a)) (F := cF (aC a)) (R := cS (aC a) 0) (tu := tuC (aC a)) lg lr rfl h0' hn hs0.1 hs0.2 k1.1 k1.2.1 hwc.2.1
    have hsel : (if ¬ (gi s 6 5) = (1 : Int32) then (some ((0 : Int32), s)) else (some ((1 : Int32), s))) = some (bI (tuC (aC a)), s) := by
      rw [k2 5 (by omega)]
      have : cS (aC a) 5 ≤ 1 := hs5.2
      rcases (show cS (aC a) 5 = 0 ∨ cS (aC a) 5 = 1 by omega) with q | q
      · show _ = some (bI (cS (aC a) 5 == 1), s); rw [q]; rfl
      · show _ = some (bI (cS (aC a) 5 == 1), s); rw [q]; rfl
    have g1' : fX0_growFrom E (2 + 5) (2 + 1) (nI (cS (aC a) 0)) (bI (tuC (aC a))) s = some s2 := g1
    unfold fX6_grow fX4_growRuns
    rw [tk_ok r0, dr_ok r3 l2.1, hst σ hc, i1, if_pos (nI_lt (by omega) (by omega)), dr_ok rb0 lr.1, hsz σ hc, if_pos (nI_ne0 h0' (by omega)), e1, bv_ok, tk_ok b0, dr_ok rb3 lg.1, dr_ok rb0 lr.1, dr_ok rb1 la4.1, la4.2, i0, ck_n (by omega) (by omega), i5, ck_n (by omega) (by omega), nI_clamp (by omega), nI_clamp (by omega), show nI 1 = (1 : Int32) from rfl, show nI 0 = (0 : Int32) from rfl, hsel, bd_ok, k2 0 (by omega), g1', bv_ok, ss_ok, bv_ok, dr_ok rb3 lg.1]
    have hfr : ∀ x k, (x < 7 ∨ 11 ≤ x) → ¬ (x = 2 ∧ k = 2) → gi (si s2 2 2 1) x k = gi s x k := fun x k hx hk => by rw [gs_ne (by omega), g6 _ _ (by omega)]
    refine ⟨si s2 2 2 1, ?_, rc_act e2 (mk_cs ⟨?_, fun i hi => ?_, fun i hi => ?_, ?_⟩ (fun j hj => ?_) gs_eq (fun _ => ⟨?_, ?_, fun x hx => ?_, fun r hr => ?_⟩) (hwc.2.2.1 1 (by omega)).2 (fun h => absurd h (by show ¬ 2 ≤ 1; omega))) ?_ (fun x k q1 q2 q3 => hfr _ _ (by omega) (by omega)), fun x k q => ?_⟩
    · show some (gi (si s2 2 2 1) 7 2, _) = _
      rw [gs_ne (by omega), g2]; rfl
    · rw [hfr _ _ (by omega) (by omega)]; exact k1.1
    · rw [hfr _ _ (by omega) (by omega)]; exact k1.2.1 i hi
    · rw [hfr _ _ (by omega) (by omega)]; exact k1.2.2.1 i hi
    · rw [hfr _ _ (by omega) (by omega)]; exact k1.2.2.2
    · rw [hfr _ _ (by omega) (by omega)]; exact k2 j hj
    · rw [gs_ne (by omega)]; exact g2
    · rw [gs_ne (by omega)]; exact g3
    · rw [gs_ne (by omega)]; exact g4 x hx
    · rw [gs_ne (by omega)]; exact g5 r hr
    · rw [hfr _ _ (by omega) (by omega)]; exact e2.2.2.1
    · rw [hfr _ _ (by omega) (by omega)]; exact e4 x k q
  · obtain ⟨s, e1, e2, e3, e4⟩ := m_rem hM hM2 hw hc
    obtain ⟨k1, k2, k3, k4, k5⟩ := mr_g hn hc.2.2.1
    obtain ⟨s2, g1, g2, g3, g4, g5, g6⟩ := m_laysRuns (σ := s) (n := cN (aC a)) (F := cF (aC a)) (R := cS (aC a) 0) (tu := tuC (aC a)) (s5 := cS (aC a) 5) hM hM2 (by rw [e3]; exact k3 5 (by omega)) hs5.2 rfl h0' hn hs0.1 hs0.2 (by rw [e3]; exact k3 0 (by omega)) (by rw [e3]; exact k1) (fun i hi => by rw [e3]; exact k2 i hi) hwc.2.1
    unfold fX7_grow
    rw [tk_ok m0, m_many hM hM2, bd_ok, k1, if_pos (nI_ne0 h0' (by omega)), dr_ok hM.2.1 hM2.1.1, hM2.1.2, i7, ck_n (by omega) (by omega), nI_clamp (by omega), k4, show cT (aC a) = 0 by omega, if_pos (by decide), e1, bv_ok, g1, bv_ok, ck_n (by omega) (by omega), ss_ok, show (14 : Int32) = nI 14 from rfl, ck_n (by omega) (by omega), nI_clamp (by omega), gs_ne (by omega), g2]
    have hfr : ∀ k, k < 326 ∨ 1227 ≤ k → k ≠ 7 → k ≠ 14 → gi (si s2 396 7 1) 396 k = gi σ 396 k := fun k hk h7 h14 => by rw [gs_ne (by omega), g6 _ _ (by unfold esG; omega) (by omega), e3]
    refine ⟨_, rfl, rm_act e2 (mk_mr hwc' ?_ (fun i hi => ?_) (fun j hj => ?_) gs_eq ?_ (fun _ => ⟨?_, fun j hj => ?_, fun p hp => ?_, fun x hx => ?_⟩) (fun h => absurd h (by show ¬ 2 ≤ 1; omega))) (fun x k q => ?_), fun x k q => ?_⟩
    · rw [hfr _ (by omega) (by omega) (by omega)]; exact k1
    · have hi : i < cN (aC a) := hi
      rw [hfr _ (by omega) (by omega) (by omega)]; exact k2 i hi
    · rw [hfr _ (by omega) (by omega) (by omega)]; exact k3 j hj
    · rw [hfr _ (by omega) (by omega) (by omega)]; exact k5
    · rw [gs_ne (by omega)]; exact g2
    · rw [gs_ne (by omega)]; exact g5 j hj
    · rw [gs_ne (by omega)]; exact g4 p hp
    · rw [gs_ne (by omega)]; exact g3 x hx
    · rw [gs_ne (by omega), g6 _ _ (by unfold esG; omega) (by omega)]
    · rw [gs_ne (by omega), g6 _ _ (by unfold esG; omega) (by omega)]; exact e4 x k q
end OG
end
section
/-! spread; steps -/
section MLx
variable {w T nr : Nat} {bk fr tu : Bool} {gl : Nat → Nat}
theorem tul_n {A : Mi} : mSt (tul gl T A) = mSt A ∧ mPh (tul gl T A) = mPh A ∧ mMo (tul gl T A) = mMo A := by unfold tul; split <;> exact ⟨rfl, rfl, rfl⟩
theorem mil_st : ∀ n, mSt (mil w T bk fr tu gl nr n) = n
  | 0 => by show mSt (mi0 w T bk fr tu gl nr) = 0; unfold mi0; rw [tul_n.1]
  | n + 1 => by
    show mSt (stp w T bk gl (mil w T bk fr tu gl nr n)) = n + 1
    unfold stp
    rw [tul_n.1]
    show mSt (mil w T bk fr tu gl nr n) + 1 = n + 1
    rw [mil_st n]
theorem mil_ph : ∀ n, mPh (mil w T bk fr tu gl nr n) ≤ n
  | 0 => by show mPh (mi0 w T bk fr tu gl nr) ≤ 0; unfold mi0; rw [tul_n.2.1]; exact Nat.le_refl _
  | n + 1 => by
    show mPh (stp w T bk gl (mil w T bk fr tu gl nr n)) ≤ n + 1
    unfold stp
    rw [tul_n.2.1]
    show mPh (mil w T bk fr tu gl nr n) + (if _ then 1 else 0) ≤ n + 1
    have := mil_ph n
    split <;> omega
theorem kst_0 (h : Gok w T nr) : lef T (skA w T nr) = 1 ↔ 0 = kst w T nr := by
  obtain ⟨h1, h2, h3⟩ := h.2.2.2.2.2.2
  constructor
  · intro q
    by_cases hz : kst w T nr = 0
    · exact hz.symm
    · exact absurd q (h3 0 (by omega)).1
  · intro q
    rw [← q] at h2; exact h2
theorem kst_s (h : Gok w T nr) {n : Nat} (hn : n < kst w T nr) : lef T (mK (mil w T bk fr tu gl nr (n + 1))) = 1 ↔ n + 1 = kst w T nr := by
  obtain ⟨h1, h2, h3⟩ := h.2.2.2.2.2.2
  rw [mil_K h]
  constructor
  · intro q
    by_cases hz : n + 1 = kst w T nr
    · exact hz
    · exact absurd q (h3 (n + 1) (by omega)).1
  · intro q; rw [q]; exact h2
end MLx
def canS (c : Cu) : Prop := 1 ≤ cT c ∧ (cS c 2 ≠ 1 ∨ 3 < cS c 1)
noncomputable def nxC (c : Cu) : Cu := (cF c, cN c, cS c, if cI c + 1 = KC c then 3 else 2, cI c + 1)
section SPR
variable {E : En} {σ : Sg} {c : Cu} {x : Nat}
theorem c_canPlan (hR : LRun E) (hw : Wf c) (h6 : ∀ j, j < 6 → gi σ 6 j = nI (cS c j)) (h2 : gi σ 2 2 = nI (cT c)) [Decidable (canS c)] : fX6_canPlan E 0 σ = some (bI (decide (canS c)), σ) := by
  obtain ⟨r0, r1, r3, r4, r5, r8, r9, r10, r11, r12, r13, l1, l2, lx⟩ := id hR
  obtain ⟨b0, rb0, rb1, rb3, rb4, rb5, rb6, lr, la4, lg, lm, la31, la32⟩ := id l2
  have ht3 := hw.2.2.2.1
  have hs1 : cS c 1 ≤ 6 := (hw.2.2.1 1 (by omega)).2
  have hs2 : cS c 2 ≤ 2 := (hw.2.2.1 2 (by omega)).2
  unfold fX6_canPlan fX6_canSpread
  rw [tk_ok r0, dr_ok r3 l2.1, h2, i1]
  by_cases h1 : cT c < 1
  · rw [if_pos (nI_lt h1 (by omega)), bd_ok, kb_0, decide_eq_false (fun q => by have := q.1; omega)]; rfl
  · rw [if_neg (nI_nlt (by omega) (by omega)), dr_ok rb1 la4.1, la4.2, i2, ck_n (by omega) (by omega), ck_n (by omega) (by omega), nI_clamp (by omega), nI_clamp (by omega)]
    rw [h6 2 (by omega), h6 1 (by omega)]
    by_cases hq : cS c 2 = 1
    · rw [hq, if_neg (by simp)]
      by_cases hq2 : cS c 1 ≤ 3
      · rw [i3, if_pos (nI_le hq2 (by omega)), bd_ok, kb_0, bd_ok, if_pos rfl, bd_ok, kb_0, decide_eq_false (fun q => by have := q.2; omega)]; rfl
      · rw [i3, if_neg (nI_ge (by omega) (by omega)), bd_ok, kb_n1, bd_ok, if_neg (by decide), bd_ok, kb_n1, decide_eq_true (show canS c from ⟨by omega, Or.inr (by omega)⟩)]; rfl
    · rw [if_pos (fun q => hq ((nI_eq (by omega) (by omega)).mp q)), bd_ok, kb_n1, bd_ok, if_neg (by decide), bd_ok, kb_n1, decide_eq_true (show canS c from ⟨by omega, Or.inl hq⟩)]; rfl
theorem m_canSp (hM : LMod E) (hM2 : LMo2 E) (hw : Wf c) (h6 : ∀ j, j < 6 → gi σ 396 (1 + j) = nI (cS c j)) (h7 : gi σ 396 7 = nI (cT c)) [Decidable (canS c)] : fX7_canSpread E 395 σ = some (bI (decide (canS c)), σ) := by
  have ht3 := hw.2.2.2.1
  have hs1 : cS c 1 ≤ 6 := (hw.2.2.1 1 (by omega)).2
  have hs2 : cS c 2 ≤ 2 := (hw.2.2.1 2 (by omega)).2
  have e2 := h6 1 (by omega)
  have e3 := h6 2 (by omega)
  unfold fX7_canSpread
  rw [tk_ok hM.1, dr_ok hM.2.1 hM2.1.1, hM2.1.2, i7, ck_n (by omega) (by omega), nI_clamp (by omega), h7]
  by_cases h1 : cT c < 1
  · rw [show cT c = 0 by omega, if_pos (by decide), bd_ok, kb_0, decide_eq_false (fun q => by have := q.1; omega)]; rfl
  · rw [if_neg (nI_nle (by omega) (by omega)), m_way hM hM2, bd_ok, e3, i1]
    by_cases hq : cS c 2 = 1
    · rw [hq, if_neg (by simp), m_tapes hM hM2, bd_ok, e2]
      by_cases hq2 : cS c 1 ≤ 3
      · rw [i3, if_pos (nI_le hq2 (by omega)), bd_ok, kb_0, decide_eq_false (fun q => by have := q.2; omega)]; rfl
      · rw [i3, if_neg (nI_ge (by omega) (by omega)), bd_ok, kb_n1, decide_eq_true (show canS c from ⟨by omega, Or.inr (by omega)⟩)]; rfl
    · rw [if_pos (fun q => hq ((nI_eq (by omega) (by omega)).mp q)), bd_ok, kb_n1, decide_eq_true (show canS c from ⟨by omega, Or.inl hq⟩)]; rfl
/-- the settings are numbers between bounds -/
theorem st_1 (hw : Wf c) {j : Nat} (hj : j = 3 ∨ j = 4 ∨ j = 5) : cS c j ≤ 1 := by
  rcases hj with rfl | rfl | rfl
  · exact (hw.2.2.1 3 (by omega)).2
  · exact (hw.2.2.1 4 (by omega)).2
  · exact (hw.2.2.1 5 (by omega)).2
theorem sel_b {v : Nat} (hv : v ≤ 1) {s : Sg} : (if ¬ nI v = (1 : Int32) then (some ((0 : Int32), s)) else (some ((1 : Int32), s))) = some (bI (v == 1), s) := by
  rcases (show v = 0 ∨ v = 1 by omega) with rfl | rfl <;> rfl
theorem n_b {v : Nat} (hv : v ≤ 1) : nI v = nI (if (v == 1) = true then 1 else 0) := by
  rcases (show v = 0 ∨ v = 1 by omega) with rfl | rfl <;> rfl
theorem sr_c (hw : Wf c) (k1 : gi σ 396 0 = nI (cN c)) (k2 : ∀ i, i < cN c → gi σ 396 (26 + i) = nI (cF c i)) (k3 : ∀ j, j < 6 → gi σ 396 (1 + j) = nI (cS c j)) : SR σ (cF c) (cN c) (cS c 2) (cS c 1) (bkC c) := ⟨k1, k3 1 (by omega), k3 2 (by omega), by rw [← n_b (st_1 hw (by omega))]; exact k3 4 (by omega), k2⟩
theorem go_c (hw : Wf c) (h0 : 0 < cN c) (k3 : ∀ j, j < 6 → gi σ 396 (1 + j) = nI (cS c j)) (hg : gi σ 396 14 = nI (nrC c) ∧ (∀ j, j ≤ nrC c → gi σ 396 (926 + j) = nI (bgC c j)) ∧ (∀ p, p < cN c → gi σ 396 (626 + p) = nI (olC c p)) ∧ ∀ x, x < cN c → gi σ 396 (326 + x) = nI (roC c x)) : GOm σ (cF c) (cN c) (roC c) (glC c) (bgC c) (olC c) (tuC c) (nrC c) := by
  obtain ⟨b1, b2, b3⟩ := bg_c hw h0
  exact ⟨hg.1, ⟨cS c 5, k3 5 (by omega), st_1 hw (by omega), rfl⟩, hg.2.1, hg.2.2.1, b1, b2, b3⟩
/-- runs are spread in the class -/
theorem c_spreadR (hR : LRun E) (hw : Wf c) (h1 : cT c = 1) (hcs : cS c 2 ≠ 1 ∨ 3 < cS c 1) (h : CS CG' CM' (lc σ 2) c) : ∃ s, fX4_spreadRuns E 2 σ = some s ∧ CS CG' CM' (lc s 2) (cF c, cN c, cS c, if 0 = KC c then 3 else 2, 0) ∧ gi s 14 4 = nI (dmN (cS c 2) (cS c 1) (nrC c)) ∧ ∀ x k, (x < 2 ∨ 35 ≤ x) → gi s x k = gi σ x k := by
  obtain ⟨r0, r1, r3, r4, r5, r8, r9, r10, r11, r12, r13, l1, l2, lx⟩ := id hR
  obtain ⟨b0, rb0, rb1, rb3, rb4, rb5, rb6, lr, la4, lg, lm, la31, la32⟩ := id l2
  obtain ⟨k1, k2, k3⟩ := cs_rr h
  obtain ⟨g1, g2, g3, g4⟩ := cs_g h (by omega)
  have h0 := hw.2.2.2.2.1 (by omega)
  have hgo := gok_c hw h0 hcs
  obtain ⟨hw2, hT3, hT, hn1, _, hcap, _⟩ := id hgo
  have hnr := (nr_c hw h0).2
  obtain ⟨s1, e1, d1, f1⟩ := c_begin (σ := σ) (w := cS c 2) (T := cS c 1) (bk := bkC c) (gl := glC c) (tu := tuC c) lm hT3 hT
  obtain ⟨s2, e2, r2, t4, t5, f2⟩ := c_layRuns (σ := s1) (fr := frC c) (f3 := cS c 3) l2 lm (by omega) (by rw [f1 _ _ (by omega)]; exact g1) (by rw [f1 _ _ (by omega)]; exact g2) (fun r hr => by rw [f1 _ _ (by omega)]; exact g4 r hr) (by rw [f1 _ _ (by omega)]; exact k2 3 (by omega)) (st_1 hw (by omega)) rfl d1 (by omega) (by omega) (by omega) hw2 hT hT3 hcap
  unfold fX4_spreadRuns
  rw [tk_ok b0, dr_ok rb4 lm.1, dr_ok rb1 la4.1, la4.2, i2, ck_n (by omega) (by omega), i1, ck_n (by omega) (by omega), i4, ck_n (by omega) (by omega), nI_clamp (by omega), nI_clamp (by omega), nI_clamp (by omega), k2 4 (by omega), k2 2 (by omega), k2 1 (by omega), show nI 1 = (1 : Int32) from rfl, sel_b (st_1 hw (by omega)), bd_ok, e1, bv_ok, e2, bv_ok]
  have f2' : ∀ x k, (x < 11 ∨ 33 ≤ x) → gi s2 x k = gi σ x k := fun x k hx => by rw [f2 _ _ (by omega), f1 _ _ (by omega)]
  refine bd_in (nrC c) (fun i a => a.1 = nI i ∧ (∀ j, j < i → gi a.2 33 j = nI j) ∧ ∀ x k, x ≠ 33 → gi a.2 x k = gi s2 x k) (fun a => (∀ j, j < nrC c → gi a.2 33 j = nI j) ∧ ∀ x k, x ≠ 33 → gi a.2 x k = gi s2 x k) (by show nrC c < 1000000; omega) ⟨rfl, fun j hj => absurd hj (Nat.not_lt_zero j), fun _ _ _ => rfl⟩ ?_ ?_ ?_
  · rintro i ⟨v, s⟩ rec hi ⟨rfl, q1, q2⟩
    dsimp only at q1 q2 ⊢
    unfold bX4_spreadRuns_44
    rw [dr_ok rb3 lg.1, q2 _ _ (by omega), f2' _ _ (by omega), g1, if_neg (nI_ge hi (by omega)), dr_ok rb5 la31.1, la31.2, ck_n (by omega) (by omega), nI_clamp (by omega), ss_ok, lt_ok, ad1]
    refine ⟨_, rfl, rfl, fun j hj => ?_, fun x k hx => by dsimp only; rw [gs_ne (by omega)]; exact q2 x k hx⟩
    dsimp only
    by_cases hji : j = i
    · subst hji; rw [gs_eq]
    · rw [gs_ne (by omega)]; exact q1 j (by omega)
  · rintro ⟨v, s⟩ rec ⟨rfl, q1, q2⟩
    dsimp only at q1 q2 ⊢
    unfold bX4_spreadRuns_44
    rw [dr_ok rb3 lg.1, q2 _ _ (by omega), f2' _ _ (by omega), g1, if_pos (nI_le (Nat.le_refl _) (by omega))]
    exact ⟨_, rfl, q1, q2⟩
  · rintro v s3 ⟨q1, q2⟩
    dsimp only at q1 q2
    have h8 : gi s3 (2 + 9) 8 = nI (lef (cS c 1) (skA (cS c 2) (cS c 1) (nrC c))) := by
      rw [q2 _ _ (by omega)]
      obtain ⟨L, H, _, _, _, q, _⟩ := r2
      rw [mi0_K hT3 hcap] at q; exact q
    have hlb : lef (cS c 1) (skA (cS c 2) (cS c 1) (nrC c)) ≤ 1536 := by
      obtain ⟨L, H, hms, _⟩ := r2
      have := ms_lef hT hms
      rw [mi0_K hT3 hcap] at this; exact this
    have hlp : 0 < lef (cS c 1) (skA (cS c 2) (cS c 1) (nrC c)) := by
      by_cases hk : kst (cS c 2) (cS c 1) (nrC c) = 0
      · rw [(kst_0 hgo).mpr hk.symm]; omega
      · have := mil_lef (bk := bkC c) (fr := frC c) (tu := tuC c) (gl := glC c) hgo (n := 0) (by omega)
        rw [mil_K hgo] at this
        show 0 < lef (cS c 1) (ski (cS c 2) (cS c 1) (skA (cS c 2) (cS c 1) (nrC c)) 0)
        omega
    have hsel : (if (gi s3 (2 + 9) 8) ≤ (1 : Int32) then (some ((3 : Int32), s3)) else (some ((2 : Int32), s3))) = some (nI (if 0 = KC c then 3 else 2), s3) := by
      rw [h8, i1]
      by_cases hq : lef (cS c 1) (skA (cS c 2) (cS c 1) (nrC c)) = 1
      · rw [hq, if_pos (by decide), if_pos (show 0 = KC c from (kst_0 hgo).mp hq)]; rfl
      · rw [if_neg (nI_ge (by omega) (by omega)), if_neg (fun (z : 0 = KC c) => hq ((kst_0 hgo).mpr z))]; rfl
    rw [show nI 2 = (2 : Int32) from rfl, hsel, bd_ok, ss_ok]
    have f4 : ∀ x k, x ≠ 33 → ¬ (x = 2 ∧ k = 2) → gi (si s3 2 2 (nI (if 0 = KC c then 3 else 2))) x k = gi s2 x k := fun x k hx hk => by rw [gs_ne (by omega), q2 _ _ hx]
    refine ⟨_, rfl, mk_cs ⟨?_, fun i hi => ?_, fun i hi => ?_, ?_⟩ (fun j hj => ?_) gs_eq (fun _ => ⟨?_, ?_, fun x hx => ?_, fun r hr => ?_⟩) hT (fun _ => ⟨Nat.zero_le _, ?_, ?_, fun t r j ht hr hj => ?_⟩), ?_, fun x k hx => ?_⟩
    · rw [f4 _ _ (by omega) (by omega), f2' _ _ (by omega)]; exact k1.1
    · rw [f4 _ _ (by omega) (by omega), f2' _ _ (by omega)]; exact k1.2.1 i hi
    · rw [f4 _ _ (by omega) (by omega), f2' _ _ (by omega)]; exact k1.2.2.1 i hi
    · rw [f4 _ _ (by omega) (by omega), f2' _ _ (by omega)]; exact k1.2.2.2
    · rw [f4 _ _ (by omega) (by omega), f2' _ _ (by omega)]; exact k2 j hj
    · rw [f4 _ _ (by omega) (by omega), f2' _ _ (by omega)]; exact g1
    · rw [f4 _ _ (by omega) (by omega), f2' _ _ (by omega)]; exact g2
    · rw [f4 _ _ (by omega) (by omega), f2' _ _ (by omega)]; exact g3 x hx
    · rw [f4 _ _ (by omega) (by omega), f2' _ _ (by omega)]; exact g4 r hr
    · show (if 0 = KC c then 3 else 2) = 3 ↔ 0 = KC c
      split
      · next q => exact ⟨fun _ => q, fun _ => rfl⟩
      · next q => exact ⟨fun z => by omega, fun z => absurd z q⟩
    · exact rml_tr hT r2 (fun x k hx => f4 _ _ (by omega) (by omega))
    · have hr : r ∈ mT (mi0 (cS c 2) (cS c 1) (bkC c) (frC c) (tuC c) (glC c) (nrC c)) t := hr
      have hjn := oc_lt (ai_mi0 hT3 hcap).1 ht hr hj
      have hr1 : r.1 = [j] := by
        unfold mi0 tul at hr
        have : ∃ r0, r0 ∈ tp0 (cS c 2) (cS c 1) (bkC c) (frC c) (tuC c) (nrC c) t ∧ r0.1 = r.1 := by
          split at hr
          · have hr : r ∈ upr (tp0 (cS c 2) (cS c 1) (bkC c) (frC c) (tuC c) (nrC c) t) := hr
            unfold upr at hr
            obtain ⟨r0, h1, rfl⟩ := List.mem_map.mp hr
            exact ⟨r0, h1, rfl⟩
          · exact ⟨r, hr, rfl⟩
        obtain ⟨r0, hr0, he⟩ := this
        rw [← he] at hj ⊢
        rcases tp0_mem hr0 with rfl | ⟨j', rfl⟩
        · cases hj
        · have hj : j ∈ [j'] := hj
          rw [List.mem_singleton.mp hj]; rfl
      rw [gs_ne (by omega), q1 j hjn, hr1]; rfl
    · rw [f4 _ _ (by omega) (by omega)]; exact t4
    · rw [f4 _ _ (by omega) (by omega), f2' _ _ (by omega)]
theorem ok_spread (hR : LRun E) (hM : LMod E) (hM2 : LMo2 E) : Ok (JJ CG' CM' MG' MM') (fX6_spread E 0) (fX7_spread E 395) := by
  refine ok_of (fun a hw => ?_)
  have hwc := hw.2.2.1
  have hn := hwc.1
  obtain ⟨r0, r1, r3, r4, r5, r8, r9, r10, r11, r12, r13, l1, l2, lx⟩ := id hR
  obtain ⟨b0, rb0, rb1, rb3, rb4, rb5, rb6, lr, la4, lg, lm, la31, la32⟩ := id l2
  have m0 := hM.1
  have ht3 := hwc.2.2.2.1
  have hdec : Decidable (canS (aC a)) := Classical.propDecidable _
  by_cases h2 : 2 ≤ cT (aC a)
  · have hcs : canS (aC a) := ⟨by omega, hwc.2.2.2.2.2 h2⟩
    refine ⟨-2, a, hw, spc_q (fun σ hc => ⟨σ, ?_, fun _ _ _ => rfl, fun _ _ _ => rfl⟩), spm_q (fun σ hc => ⟨σ, ?_, fun _ _ _ => rfl, fun _ _ _ => rfl⟩)⟩
    · unfold fX6_spread
      rw [tk_ok r0, dr_ok r3 l2.1, (cs_rr hc.2.2.2.1).2.2, i2, if_neg (nI_nlt h2 (by omega))]
    · obtain ⟨k1, k2, k3, k4, k5⟩ := mr_g hn hc.2.2.1
      unfold fX7_spread
      rw [tk_ok m0, m_canSp hM hM2 hwc k3 k4, bd_ok, decide_eq_true hcs, if_pos (by decide), dr_ok hM.2.1 hM2.1.1, hM2.1.2, i7, ck_n (by omega) (by omega), nI_clamp (by omega), k4, i1, if_neg (nI_ge (by omega) (by omega))]
  by_cases hcs : canS (aC a)
  · have h1 : cT (aC a) = 1 := by have := hcs.1; omega
    have h0 := hwc.2.2.2.2.1 (by omega)
    have hgo := gok_c hwc h0 hcs.2
    have hnr := (nr_c hwc h0).2
    have hwc' : Wf (cF (aC a), cN (aC a), cS (aC a), if 0 = KC (aC a) then 3 else 2, 0) := ⟨hwc.1, hwc.2.1, hwc.2.2.1, by show (if 0 = KC (aC a) then 3 else 2) ≤ 3; split <;> omega, fun _ => h0, fun _ => hcs.2⟩
    refine ⟨nI (dmN (cS (aC a) 2) (cS (aC a) 1) (nrC (aC a))), (aB a, aN a, (cF (aC a), cN (aC a), cS (aC a), if 0 = KC (aC a) then 3 else 2, 0), aX a, (rem a).2.2.2.2), ?_, fun σ hc => ?_, fun σ hc => ?_⟩
    · obtain ⟨g1, g2, g3, g4, g5, g6, g7⟩ := rem_wf hw
      exact ⟨g1, g2, hwc', g4, g5, g6, g7⟩
    · obtain ⟨s, e1, e2, e3, e4⟩ := c_rem hR cpy_ok hw hc
      obtain ⟨s2, g1, g2, g3, g4⟩ := c_spreadR (σ := s) (c := aC a) hR hwc h1 hcs.2 e2.2.2.2.1
      obtain ⟨k1, k2, k3⟩ := cs_rr hc.2.2.2.1
      unfold fX6_spread
      rw [tk_ok r0, dr_ok r3 l2.1, k3, i2, if_pos (nI_lt (by omega) (by omega)), c_canPlan hR hwc k2 k3, bd_ok, decide_eq_true hcs, if_pos (by decide), e1, bv_ok, g1, bv_ok, dr_ok rb4 lm.1, dr_ok lm.2.2.2.1 lm.2.2.2.2.2.2.2.2.2.2.2.1.1, lm.2.2.2.2.2.2.2.2.2.2.2.1.2, i4, ck_n (by omega) (by omega), nI_clamp (by omega)]
      refine ⟨s2, ?_, rc_act e2 g2 (by rw [g4 _ _ (by omega)]; exact e2.2.2.1) (fun x k q1 q2 q3 => g4 _ _ (by omega)), fun x k q => by rw [g4 _ _ (by omega)]; exact e4 x k q⟩
      show some (gi s2 14 4, s2) = _
      rw [g3]
    · obtain ⟨s, e1, e2, e3, e4⟩ := m_rem hM hM2 hw hc
      obtain ⟨k1, k2, k3, k4, k5⟩ := mr_g hn hc.2.2.1
      have kg := mr_mg hwc hc.2.2.1 (by omega)
      have k3' : ∀ j, j < 6 → gi s 396 (1 + j) = nI (cS (aC a) j) := fun j hj => by rw [e3]; exact k3 j hj
      obtain ⟨s2, g1, g2, g3, g4, g5, g6⟩ := m_spreads (σ := s) (fr := frC (aC a)) hM hM2 (gv_c hwc h0) hgo (by omega) (fun q => sm_ok hgo.1 hgo.2.1 hgo.2.2.1 hnr q) (sr_c hwc (by rw [e3]; exact k1) (fun i hi => by rw [e3]; exact k2 i hi) k3') (by rw [← n_b (st_1 hwc (by omega))]; exact k3' 3 (by omega)) (go_c hwc h0 k3' ⟨by rw [e3]; exact kg.1, fun j hj => by rw [e3]; exact kg.2.1 j hj, fun p hp => by rw [e3]; exact kg.2.2.1 p hp, fun x hx => by rw [e3]; exact kg.2.2.2 x hx⟩)
      unfold fX7_spread
      rw [tk_ok m0, m_canSp hM hM2 hwc k3 k4, bd_ok, decide_eq_true hcs, if_pos (by decide), dr_ok hM.2.1 hM2.1.1, hM2.1.2, i7, ck_n (by omega) (by omega), nI_clamp (by omega), k4, i1, if_pos (nI_le (by omega) (by omega)), e1, bv_ok, g1, bv_ok, show (18 : Int32) = nI 18 from rfl, ck_n (by omega) (by omega), nI_clamp (by omega), g4]
      have hfr : ∀ k, k < 7 ∨ k = 8 ∨ k = 14 ∨ (26 ≤ k ∧ k < 1227) → gi s2 396 k = gi σ 396 k := fun k hk => by rw [g6 _ _ (by unfold esY; omega), e3]
      refine ⟨_, rfl, rm_act e2 (mk_mr hwc' ?_ (fun i hi => ?_) (fun j hj => ?_) ?_ ?_ (fun _ => ⟨?_, fun j hj => ?_, fun p hp => ?_, fun x hx => ?_⟩) (fun _ => ⟨Nat.zero_le _, ?_, g2⟩)) (fun x k q => g6 _ _ (by unfold esY; omega)), fun x k q => by rw [g6 _ _ (by unfold esY; omega)]; exact e4 x k q⟩
      · rw [hfr _ (by omega)]; exact k1
      · have hi : i < cN (aC a) := hi
        rw [hfr _ (by omega)]; exact k2 i hi
      · rw [hfr _ (by omega)]; exact k3 j hj
      · rw [g3]
        show _ = nI (if 0 = KC (aC a) then 3 else 2)
        by_cases hq : lef (cS (aC a) 1) (skA (cS (aC a) 2) (cS (aC a) 1) (nrC (aC a))) = 1
        · rw [if_pos hq, if_pos (show 0 = KC (aC a) from (kst_0 hgo).mp hq)]; rfl
        · rw [if_neg hq, if_neg (fun (z : 0 = KC (aC a)) => hq ((kst_0 hgo).mpr z))]; rfl
      · rw [hfr _ (by omega)]; exact k5
      · rw [hfr _ (by omega)]; exact kg.1
      · have hj : j ≤ nrC (aC a) := hj
        rw [hfr _ (by omega)]; exact kg.2.1 j hj
      · have hp : p < cN (aC a) := hp
        rw [hfr _ (by omega)]; exact kg.2.2.1 p hp
      · have hx : x < cN (aC a) := hx
        rw [hfr _ (by omega)]; exact kg.2.2.2 x hx
      · show (if 0 = KC (aC a) then 3 else 2) = 3 ↔ 0 = KC (aC a)
        split
        · next q => exact ⟨fun _ => q, fun _ => rfl⟩
        · next q => exact ⟨fun z => by omega, fun z => absurd z q⟩
  · refine ⟨-1, a, hw, spc_q (fun σ hc => ⟨σ, ?_, fun _ _ _ => rfl, fun _ _ _ => rfl⟩), spm_q (fun σ hc => ⟨σ, ?_, fun _ _ _ => rfl, fun _ _ _ => rfl⟩)⟩
    · obtain ⟨k1, k2, k3⟩ := cs_rr hc.2.2.2.1
      unfold fX6_spread
      rw [tk_ok r0, dr_ok r3 l2.1, k3, i2, if_pos (nI_lt (by omega) (by omega)), c_canPlan hR hwc k2 k3, bd_ok, decide_eq_false hcs, if_neg (by simp; rfl)]
    · obtain ⟨k1, k2, k3, k4, k5⟩ := mr_g hn hc.2.2.1
      unfold fX7_spread
      rw [tk_ok m0, m_canSp hM hM2 hwc k3 k4, bd_ok, decide_eq_false hcs, if_neg (by simp; rfl)]
end SPR
end
