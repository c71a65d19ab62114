abbrev Gl : Type := Nat × (Nat → ClassId) × (Nat → Nat → Nat) × (Nat → ClassId) × (Nat → Nat)
abbrev KT : Type := Program × Launch × Env × Room × State × MethodId × Array Value × List Frame × Method × Code
def nf (c : Nat) : Nat := match c with
  | 0 => 6 | 1 => 19 | 2 => 3 | 3 => 4 | 4 => 7 | 5 => 3 | 6 => 14 | 7 => 30 | _ => 0
def isr (t : FieldType) : Bool := match t with
  | .object _ => true | .array _ => true | _ => false
def tyc (c : Nat) : Nat → FieldType := match c with
  | 0 => tyX0 | 1 => tyX1 | 2 => tyX2 | 3 => tyX3 | 4 => tyX4 | 5 => tyX5 | 6 => tyX6 | _ => tyX7
def fv (b : Nat) (E : En) (σ : Sg) (c a k : Nat) : Value := if isr (tyc c k) = true then va_rf ((rf E a k).map (fun x => b + x)) else .int (gi σ a k)
def fvs (b : Nat) (E : En) (σ : Sg) (c a : Nat) : List Value := (List.range (nf c)).map (fv b E σ c a)
def ars (b : Nat) (E : En) (σ : Sg) (c a : Nat) : (Nat → Int32) ⊕ (Nat → Int64) ⊕ (Nat → UInt32) ⊕ (Nat → UInt64) ⊕ (Nat → Option Nat) :=
  if c < 103 then .inl (σ.1 a) else if c = 103 then .inr (.inl (σ.2 a)) else .inr (.inr (.inr (.inr (fun k => (rf E a k).map (fun x => b + x)))))
def el (b : Nat) (cA : Nat → ClassId) (E : En) (σ : Sg) (a : Nat) : va_E :=
  if (E.2.1 a).1 < 100 then .inr ((E.2.1 a).1, fvs b E σ (E.2.1 a).1 a) else .inl (cA ((E.2.1 a).1 - 100), (E.2.1 a).2, ars b E σ (E.2.1 a).1 a)
def wsOf (G : Gl) (E : En) (σ : Sg) : va_W := (List.range E.1).map (fun a => (G.1 + a, el G.1 G.2.2.2.1 E σ a))
def tyL (cA : Nat → ClassId) : List (ClassId × FieldType) := [(cA 0, .int), (cA 1, .boolean), (cA 2, .byte), (cA 3, .long), (cA 4, .object "RunTapes$Tape"), (cA 5, .object "RunTapes$State")]
abbrev GD (G : Gl) : va_G := (G.2.1, G.2.2.1)
abbrev GA (G : Gl) : Nat → Prop := fun q => G.1 ≤ q
/-- the three rows of numbers that stand before the law begins -/
def stn (k : Nat) : String := match k with
  | 0 => "AT_FIRST" | 1 => "LOWEST" | _ => "HIGHEST"
def Stt (G : Gl) (U : State) (H : Heap) : Prop := ∀ k, k < 3 → va_Z "RunTapes" (stn k) "[I" (.ref (G.2.2.2.2 k)) (GA G) U H ∧ va_T .int (G.2.2.2.2 k) 6 (fun j => .int (stv k j)) (GA G) U H
def wk : Cond → Bool
  | .fieldLinkNest _ _ _ _ _ _ => true
  | .methodLinkNest _ _ _ _ => true
  | w => goodWord w
/-- the words of the tables, at any arguments -/
def TbAll (U : State) : Prop := ∀ w ∈ lw_tbl, wk w = true → ∀ a : Array Value, w.before a U = true
def RepS (G : Gl) (E : En) (σ : Sg) (U : State) : Prop := G.1 ≤ U.heap.size ∧ va_P (GD G) vwCl (wsOf G E σ) U.heap ∧ va_K (GD G) vwCl (tyL G.2.2.2.1) U ∧ TbAll U ∧ Stt G U U.heap
def QC (G : Gl) (E : En) (rv : Option Value) (σ : Sg) : Array Value → State → Outcome → State → Prop := fun _ st o t => o = .returned rv ∧ RepS G E σ t ∧ va_F (GA G) st t
abbrev kP (κ : KT) : Program := κ.1
abbrev kL (κ : KT) : Launch := κ.2.1
abbrev kE (κ : KT) : Env := κ.2.2.1
abbrev kR (κ : KT) : Room := κ.2.2.2.1
abbrev kS (κ : KT) : State := κ.2.2.2.2.1
abbrev kM (κ : KT) : MethodId := κ.2.2.2.2.2.1
abbrev kA (κ : KT) : Array Value := κ.2.2.2.2.2.2.1
abbrev kB (κ : KT) : List Frame := κ.2.2.2.2.2.2.2.1
abbrev kT (κ : KT) : Method := κ.2.2.2.2.2.2.2.2.1
abbrev kC (κ : KT) : Code := κ.2.2.2.2.2.2.2.2.2
def V (κ : KT) (G : Gl) (Q : State → Prop) (E : En) (σ : Sg) (ks : Bool × Nat × Nat) (pc : Nat) (lv : List (Nat × Value)) (st : List Value) : Prop :=
  ∀ (H : Heap) (locs : List Loc) (ls : Array Slot), (ks.1 = true → H.size = G.1 + E.1) → va_P (GD G) vwCl (wsOf G E σ) H → va_S (GA G) (kS κ).heap H locs → lv_has ls (kC κ).maxLocals lv → W (kP κ) (kL κ) (kE κ) (kR κ) (kS κ) (kM κ) (kA κ) (kB κ) (kT κ) (kC κ) H locs ks.2.1 ks.2.2 Q (F0 (kM κ) pc ls st)
def Cx (κ : KT) (G : Gl) (cc : ByteArray) (own : String) (nL : Nat) : Prop :=
  (kP κ).tables.exec = Jvm.exec ∧ (kC κ).code = cc ∧ (kC κ).maxLocals = nL ∧ (kS κ).vm.findClass own = some (kM κ).cls ∧ (kT κ).locks = false ∧ va_K (GD G) vwCl (tyL G.2.2.2.1) (kS κ) ∧ TbAll (kS κ) ∧ Stt G (kS κ) (kS κ).heap ∧ G.1 ≤ (kS κ).heap.size
def dk (cc : ByteArray) (pc n : Nat) (ins : Instr) (len : Nat) : Prop := decode cc pc = .ok (ins, len) ∧ n = pc + len
def bk (cc : ByteArray) (pc n t : Nat) (ins : Instr) (off : Int) : Prop := decode cc pc = .ok (ins, 3) ∧ n = pc + 3 ∧ (pc : Int) + off = (t : Int)
/-- a class of the table -/
def CI (ci : Nat) (Cn : String) (T : u_T) (N : Nat) : Prop := vwCl[ci]? = some (Cn, T, N) ∧ (∀ w ∈ u_ws Cn T N, w ∈ lw_tbl.filter wk) ∧ (∀ k, k < N → parseFieldDescriptor (T k).2.2.1 = some (tyc ci k)) ∧ (∀ a, a < N → ∀ b, b < N → a ≠ b → (T a).2.1 ≠ (T b).2.1) ∧ nf ci = N ∧ ci < 100 ∧ ∀ k, k < N → (T k).1 = Cn
/-- a field at a place of a pool -/
def FL (own : String) (idx ci k : Nat) (fin : Bool) : Prop := ∃ (Cn : String) (T : u_T) (N : Nat), CI ci Cn T N ∧ k < N ∧ (T k).2.2.2 = fin ∧ (Cond.fieldLink own idx (T k).1 (T k).2.1 (T k).2.2.1 ∈ lw_tbl ∨ Cond.fieldLinkNest own idx (T k).1 (T k).2.1 (T k).2.2.1 "RunTapes" ∈ lw_tbl)
/-- a method of an object at a place of a pool -/
def MBo (y : MethodName) (bytes : ByteArray) (maxL : Nat) (ret : Option FieldType) (n : Nat) : Prop := Cond.initialized y.cls ∈ lw_tbl ∧ Cond.code y bytes maxL ret ∈ lw_tbl ∧ (y.cls ≠ "java/lang/invoke/MethodHandle" ∧ y.cls ≠ "java/lang/invoke/VarHandle") ∧ (parseMethodDescriptor y.desc).map (fun d => d.parameters.length) = some n
def MV (own : String) (idx ci : Nat) (y : MethodName) (bytes : ByteArray) (maxL : Nat) (ret : Option FieldType) (n : Nat) : Prop := MBo y bytes maxL ret n ∧ (∃ (T : u_T) (N : Nat), CI ci y.cls T N) ∧ Cond.instanceMethod y ∈ lw_tbl ∧ Cond.selects y.cls y y ∈ lw_tbl ∧ (Cond.methodLink own idx y ∈ lw_tbl ∨ Cond.methodLinkNest own idx y "RunTapes" ∈ lw_tbl)
def MSo (own : String) (idx : Nat) (y : MethodName) (bytes : ByteArray) (maxL : Nat) (ret : Option FieldType) (n : Nat) : Prop := MBo y bytes maxL ret n ∧ Cond.static y ∈ lw_tbl ∧ Cond.methodLink own idx y ∈ lw_tbl
def CT (l : Launch) (y : MethodName) (cc : ByteArray) (maxL : Nat) (ret : Option FieldType) (rm : Room) (av : List Value) (G : Gl) (E : En) (σ : Sg) (rv : Option Value) (σ' : Sg) : Prop :=
  Met l y [Cond.code y cc maxL ret] rm (va_Pc av (RepS G E σ)) (QC G E rv σ') 0 0 (GA G)
-- pure pieces
theorem R_tk {β : Type} {x c : Nat} {k : Option β} {o : β} {W : Prop} (h : x = c → k = some o → W) : tk x c k = some o → W := by
  unfold tk; split
  · next e => exact h e
  · intro q; cases q
theorem R_dr {β : Type} {r : Option Nat} {E : En} {c : Nat} {f : Nat → Option β} {o : β} {W : Prop} (h : ∀ x, r = some x → cd E x = c → f x = some o → W) : dr r E c f = some o → W := by
  unfold dr; split
  · next x => exact R_tk (h x rfl)
  · intro q; cases q
theorem R_ck {β : Type} {i : Int32} {n : Nat} {k : Option β} {o : β} {W : Prop} (h : vp_in i n → k = some o → W) : ck i n k = some o → W := by
  unfold ck; split
  · next e =>
    refine h (fun q => ?_)
    rcases q with q | q
    · exact absurd e.1 (Int32.not_le.mpr q)
    · omega
  · intro q; cases q
theorem R_kb {β : Type} {v : Int32} {k : Option β} {o : β} {W : Prop} (h : v = 0 ∨ v = 1 → k = some o → W) : kb v k = some o → W := by
  unfold kb; split
  · next e => exact h e
  · intro q; cases q
theorem R_nz {β : Type} {y : Int32} {k : Option β} {o : β} {W : Prop} (h : ¬ y = 0 → k = some o → W) : nz y k = some o → W := by
  unfold nz; split
  · intro q; cases q
  · next e => exact h e
theorem R_nzl {β : Type} {y : Int64} {k : Option β} {o : β} {W : Prop} (h : ¬ y = 0 → k = some o → W) : nzl y k = some o → W := by
  unfold nzl; split
  · intro q; cases q
  · next e => exact h e
theorem R_bd {α β : Type} {X : Option (α × Sg)} {f : α → Sg → Option β} {o : β} {W : Prop} (h : ∀ v σ, X = some (v, σ) → f v σ = some o → W) : bd X f = some o → W := by
  unfold bd; split
  · next r => exact h r.1 r.2 rfl
  · intro q; cases q
theorem R_bv {β : Type} {X : Option Sg} {f : Sg → Option β} {o : β} {W : Prop} (h : ∀ σ, X = some σ → f σ = some o → W) : bv X f = some o → W := by
  unfold bv; split
  · next r => exact h r rfl
  · intro q; cases q
theorem R_acp {β : Type} {E : En} {σ : Sg} {a b : Nat} {sp dp n : Int32} {k : Sg → Option β} {o : β} {W : Prop} (h : ((0 ≤ sp ∧ 0 ≤ dp ∧ 0 ≤ n) ∧ sp.toNatClampNeg + n.toNatClampNeg ≤ ln E a ∧ dp.toNatClampNeg + n.toNatClampNeg ≤ ln E b) → k (sc σ a b sp.toNatClampNeg dp.toNatClampNeg n.toNatClampNeg) = some o → W) : acp E σ a sp b dp n k = some o → W := by
  unfold acp; split
  · next e => exact h e
  · intro q; cases q
theorem R_if {β : Type} {c : Prop} [Decidable c] {A B : Option β} {o : β} {W : Prop} (t : c → A = some o → W) (f : ¬ c → B = some o → W) : (if c then A else B) = some o → W := by
  split
  · next e => exact t e
  · next e => exact f e
theorem R_bdK {α β : Type} {X : Option (α × Sg)} {f : α → Sg → Option β} {o : β} {W : Prop} (VJ : α → Sg → Prop) (K : ∀ v σ, f v σ = some o → VJ v σ) (h : ∀ v σ, VJ v σ → X = some (v, σ) → W) : bd X f = some o → W :=
  R_bd (fun v σ e q => h v σ (K v σ q) e)
theorem R_end {α : Type} {v0 v : α} {σ0 σ : Sg} (VJ : α → Sg → Prop) (K : VJ v σ) : some (v0, σ0) = some (v, σ) → VJ v0 σ0 := by
  intro h; cases h; exact K
theorem R_loop {α γ β : Type} {F : (α → Option (γ × Sg)) → α → Option (γ × Sg)} {n : Nat} {f : γ → Sg → Option β} {o : β} (VH : α → Prop) (VX : γ → Sg → Prop) (a : α) (K : ∀ v σ, f v σ = some o → VX v σ)
    (step : ∀ rec : α → Option (γ × Sg), (∀ a b σ, VX b σ → rec a = some (b, σ) → VH a) → ∀ a b σ, VX b σ → F rec a = some (b, σ) → VH a) : bd (fx F n a) f = some o → VH a := by
  have key : ∀ (n : Nat) (a : α) (b : γ) (σ : Sg), VX b σ → fx F n a = some (b, σ) → VH a := by
    intro n
    induction n with
    | zero => intro a b σ _ h; cases h
    | succ n ih => intro a b σ hb h; exact step (fx F n) ih a b σ hb h
  exact R_bd (fun v σ e q => key n a v σ (K v σ q) e)
