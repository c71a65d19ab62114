section RX
variable {κ : KT} {G : Gl} {Q : State → Prop} {E : En} {σ : Sg} {ks : Bool × Nat × Nat} {u : Nat × Nat} {cc : ByteArray} {own : String} {nL pc n : Nat} {lv : List (Nat × Value)} {st : List Value} {P : Prop} {β : Type} {o : β}
abbrev QQ (κ : KT) (G : Gl) (E : En) (rv : Option Value) (s : Sg) : State → Prop := MQ (kB κ) (QC G E rv s) (kA κ) (kS κ) 0 0 (GA G)
theorem R_lt {α : Type} {x : α} {f : α → Option β} {W : α → Prop} (h : ∀ v, f v = some o → W v) : lt x f = some o → W x := h x
theorem R_inr {α γ : Type} {v : α} {b : γ} {s sb : Sg} {W : Prop} {VX : γ → Sg → Prop} {i : α → γ} (K : VX b sb) (h : VX (i v) s → W) : some (i v, s) = some (b, sb) → W := by
  intro q; cases q; exact h K
theorem R_sml {α γ : Type} {a : α} {f : α → Option β} {g : γ → Option β} {W : Prop} (k : f a = some o → W) : sm (.inl a) f g = some o → W := k
theorem nb {v : Int32} (h : v = 0 ∨ v = 1) : narrow .boolean (.int v) = .int v := by rcases h with rfl | rfl <;> rfl
theorem fb {v : Int32} (h : v = 0 ∨ v = 1) : fits .boolean (.int v) = true := by rcases h with rfl | rfl <;> rfl
theorem S_puti {idx ci f : Nat} {a : Nat} {v : Int32} {g : Sg → Option β} (C : Cx κ G cc own nL) (F : FL own idx ci f false) (hf : isr (tyc ci f) = false) (ha : cd E a = ci) (hn : narrow (tyc ci f) (.int v) = .int v) (hft : fits (tyc ci f) (.int v) = true) (d : dk cc pc n (.putfield idx) 3) (k : ∀ s, g s = some o → V κ G Q E s (false, u) n lv st) : ss (si σ a f v) g = some o → V κ G Q E σ (false, u) pc lv (.int v :: .ref (G.1 + a) :: st) :=
  R_puti C F hf ha hn hft d (k _)
theorem S_iast {a : Nat} {i : Int32} {v : Int32} {g : Sg → Option β} (C : Cx κ G cc own nL) (ha : cd E a = 100) (hi : vp_in i (ln E a)) (d : dk cc pc n .iastore 1) (k : ∀ s, g s = some o → V κ G Q E s (false, u) n lv st) : ss (si σ a i.toNatClampNeg v) g = some o → V κ G Q E σ (false, u) pc lv (.int v :: .int i :: .ref (G.1 + a) :: st) :=
  R_iast C ha hi d (k _)
theorem S_zast {a : Nat} {i : Int32} {v : Int32} {g : Sg → Option β} (C : Cx κ G cc own nL) (ha : cd E a = 101) (hi : vp_in i (ln E a)) (d : dk cc pc n .bastore 1) (k : ∀ s, g s = some o → V κ G Q E s (false, u) n lv st) : ss (si σ a i.toNatClampNeg (vp_nar .boolean v)) g = some o → V κ G Q E σ (false, u) pc lv (.int v :: .int i :: .ref (G.1 + a) :: st) :=
  R_zast C ha hi d (k _)
theorem S_bast {a : Nat} {i : Int32} {v : Int32} {g : Sg → Option β} (C : Cx κ G cc own nL) (ha : cd E a = 102) (hi : vp_in i (ln E a)) (d : dk cc pc n .bastore 1) (k : ∀ s, g s = some o → V κ G Q E s (false, u) n lv st) : ss (si σ a i.toNatClampNeg (vp_nar .byte v)) g = some o → V κ G Q E σ (false, u) pc lv (.int v :: .int i :: .ref (G.1 + a) :: st) :=
  R_bast C ha hi d (k _)
theorem S_last {a : Nat} {i : Int32} {v : Int64} {g : Sg → Option β} (C : Cx κ G cc own nL) (ha : cd E a = 103) (hi : vp_in i (ln E a)) (d : dk cc pc n .lastore 1) (k : ∀ s, g s = some o → V κ G Q E s (false, u) n lv st) : ss (sl σ a i.toNatClampNeg v) g = some o → V κ G Q E σ (false, u) pc lv (.long v :: .int i :: .ref (G.1 + a) :: st) :=
  R_last C ha hi d (k _)
theorem S_acopy {idx a b : Nat} {sp dp m0 : Int32} {g : Sg → Option β} (C : Cx κ G cc own nL) (hw : Cond.methodLink own idx arraycopyName ∈ lw_tbl) (ha : cd E a = 100) (hb2 : cd E b = 100) (hR : 1 ≤ (kR κ).frames ∧ (st.map fun v => v.category).sum + (nativeFrameWords "java/lang/System" "arraycopy" 5 + 11) ≤ (kR κ).locals) (d : dk cc pc n (.invokestatic idx) 3) (k : ∀ s, g s = some o → V κ G Q E s (false, u) n lv st) : acp E σ a sp b dp m0 g = some o → V κ G Q E σ (false, u) pc lv (.int m0 :: .int dp :: .ref (G.1 + b) :: .int sp :: .ref (G.1 + a) :: st) :=
  R_acp (fun h => R_acopy C hw ha hb2 h hR d (k _))
theorem S_istore_n (C : Cx κ G cc own nL) {j : Fin 4} {i : Nat} {x : Int32} (d : dk cc pc n (.istore_n j) 1) (hi : (j : Nat) = i) {g : Int32 → Option β} (lv2 : Int32 → List (Nat × Value)) (hn : i < nL) (hv : ∀ x, (i, Value.int x) :: lv.filter (fun q => !(q.1 == i) && !(q.1 + 1 == i && q.2.category == 2)) = lv2 x) (k : ∀ x, g x = some o → V κ G Q E σ ks n (lv2 x) st) : lt x g = some o → V κ G Q E σ ks pc lv (.int x :: st) :=
  R_istore_n C d hi hn (hv x) (k x)
theorem S_istore (C : Cx κ G cc own nL) {i : Nat} {x : Int32} (d : dk cc pc n (.istore i) 2) {g : Int32 → Option β} (lv2 : Int32 → List (Nat × Value)) (hn : i < nL) (hv : ∀ x, (i, Value.int x) :: lv.filter (fun q => !(q.1 == i) && !(q.1 + 1 == i && q.2.category == 2)) = lv2 x) (k : ∀ x, g x = some o → V κ G Q E σ ks n (lv2 x) st) : lt x g = some o → V κ G Q E σ ks pc lv (.int x :: st) :=
  R_istore C d hn (hv x) (k x)
theorem S_lstore_n (C : Cx κ G cc own nL) {j : Fin 4} {i : Nat} {x : Int64} (d : dk cc pc n (.lstore_n j) 1) (hi : (j : Nat) = i) {g : Int64 → Option β} (lv2 : Int64 → List (Nat × Value)) (hn : i + 1 < nL) (hv : ∀ x, (i, Value.long x) :: lv.filter (fun q => !(q.1 == i) && (!(q.1 == i + 1) && !(q.1 + 1 == i && q.2.category == 2))) = lv2 x) (k : ∀ x, g x = some o → V κ G Q E σ ks n (lv2 x) st) : lt x g = some o → V κ G Q E σ ks pc lv (.long x :: st) :=
  R_lstore_n C d hi hn (hv x) (k x)
theorem S_lstore (C : Cx κ G cc own nL) {i : Nat} {x : Int64} (d : dk cc pc n (.lstore i) 2) {g : Int64 → Option β} (lv2 : Int64 → List (Nat × Value)) (hn : i + 1 < nL) (hv : ∀ x, (i, Value.long x) :: lv.filter (fun q => !(q.1 == i) && (!(q.1 == i + 1) && !(q.1 + 1 == i && q.2.category == 2))) = lv2 x) (k : ∀ x, g x = some o → V κ G Q E σ ks n (lv2 x) st) : lt x g = some o → V κ G Q E σ ks pc lv (.long x :: st) :=
  R_lstore C d hn (hv x) (k x)
theorem S_iinc {i : Nat} {j : Int} {x v : Int32} {g : Int32 → Option β} (lv2 : Int32 → List (Nat × Value)) (z : Nat) (C : Cx κ G cc own nL) (d : dk cc pc n (.iinc i j) 3) (hk : lv[z]? = some (i, .int x)) (hj : Int32.ofInt j = v) (hn : i < nL) (hv : ∀ x, (i, Value.int x) :: lv.filter (fun q => !(q.1 == i) && !(q.1 + 1 == i && q.2.category == 2)) = lv2 x) (k : ∀ x, g x = some o → V κ G Q E σ ks n (lv2 x) st) : lt (x + v) g = some o → V κ G Q E σ ks pc lv st :=
  R_iinc C z d hk hj hn (hv (x + v)) (k (x + v))
theorem R_callVi {idx ci a n0 maxL : Nat} {y : MethodName} {bytes : ByteArray} {ret : Option FieldType} {rm : Room} {r : Int32} {σ1 : Sg} (As rest : List Value) (C : Cx κ G cc own nL) (M : MV own idx ci y bytes maxL ret n0) (hM : CT (kL κ) y bytes maxL ret rm (.ref (G.1 + a) :: As) G E σ (some (.int r)) σ1) (hrm : rm.cells = 0 ∧ rm.slots = 0 ∧ rm.frames + 1 ≤ (kR κ).frames ∧ 8 + (maxL + 11) + rm.locals ≤ (kR κ).locals ∧ u.1 ≤ (kR κ).cells ∧ u.2 ≤ (kR κ).slots) (ha : cd E a = ci) (hn0 : As.length = n0) (hst : st = As.reverse ++ .ref (G.1 + a) :: rest) (hW : (rest.map fun v => v.category).sum ≤ 8) (d : dk cc pc n (.invokevirtual idx) 3) (k : P → V κ G Q E σ1 (false, u) n lv (.int r :: rest)) : P → V κ G Q E σ (false, u) pc lv st :=
  R_callV As rest C M hM hrm ha hn0 hst hW d k
theorem R_callSi {idx n0 maxL : Nat} {y : MethodName} {bytes : ByteArray} {ret : Option FieldType} {rm : Room} {r : Int32} {σ1 : Sg} (As rest : List Value) (C : Cx κ G cc own nL) (M : MSo own idx y bytes maxL ret n0) (hM : CT (kL κ) y bytes maxL ret rm As G E σ (some (.int r)) σ1) (hrm : rm.cells = 0 ∧ rm.slots = 0 ∧ rm.frames + 1 ≤ (kR κ).frames ∧ 8 + (maxL + 11) + rm.locals ≤ (kR κ).locals ∧ u.1 ≤ (kR κ).cells ∧ u.2 ≤ (kR κ).slots) (hn0 : As.length = n0) (hst : st = As.reverse ++ rest) (hW : (rest.map fun v => v.category).sum ≤ 8) (d : dk cc pc n (.invokestatic idx) 3) (k : P → V κ G Q E σ1 (false, u) n lv (.int r :: rest)) : P → V κ G Q E σ (false, u) pc lv st :=
  R_callS As rest C M hM hrm hn0 hst hW d k
theorem R_callVl {idx ci a n0 maxL : Nat} {y : MethodName} {bytes : ByteArray} {ret : Option FieldType} {rm : Room} {r : Int64} {σ1 : Sg} (As rest : List Value) (C : Cx κ G cc own nL) (M : MV own idx ci y bytes maxL ret n0) (hM : CT (kL κ) y bytes maxL ret rm (.ref (G.1 + a) :: As) G E σ (some (.long r)) σ1) (hrm : rm.cells = 0 ∧ rm.slots = 0 ∧ rm.frames + 1 ≤ (kR κ).frames ∧ 8 + (maxL + 11) + rm.locals ≤ (kR κ).locals ∧ u.1 ≤ (kR κ).cells ∧ u.2 ≤ (kR κ).slots) (ha : cd E a = ci) (hn0 : As.length = n0) (hst : st = As.reverse ++ .ref (G.1 + a) :: rest) (hW : (rest.map fun v => v.category).sum ≤ 8) (d : dk cc pc n (.invokevirtual idx) 3) (k : P → V κ G Q E σ1 (false, u) n lv (.long r :: rest)) : P → V κ G Q E σ (false, u) pc lv st :=
  R_callV As rest C M hM hrm ha hn0 hst hW d k
theorem R_callSl {idx n0 maxL : Nat} {y : MethodName} {bytes : ByteArray} {ret : Option FieldType} {rm : Room} {r : Int64} {σ1 : Sg} (As rest : List Value) (C : Cx κ G cc own nL) (M : MSo own idx y bytes maxL ret n0) (hM : CT (kL κ) y bytes maxL ret rm As G E σ (some (.long r)) σ1) (hrm : rm.cells = 0 ∧ rm.slots = 0 ∧ rm.frames + 1 ≤ (kR κ).frames ∧ 8 + (maxL + 11) + rm.locals ≤ (kR κ).locals ∧ u.1 ≤ (kR κ).cells ∧ u.2 ≤ (kR κ).slots) (hn0 : As.length = n0) (hst : st = As.reverse ++ rest) (hW : (rest.map fun v => v.category).sum ≤ 8) (d : dk cc pc n (.invokestatic idx) 3) (k : P → V κ G Q E σ1 (false, u) n lv (.long r :: rest)) : P → V κ G Q E σ (false, u) pc lv st :=
  R_callS As rest C M hM hrm hn0 hst hW d k
theorem R_callVv {idx ci a n0 maxL : Nat} {y : MethodName} {bytes : ByteArray} {ret : Option FieldType} {rm : Room}  {σ1 : Sg} (As rest : List Value) (C : Cx κ G cc own nL) (M : MV own idx ci y bytes maxL ret n0) (hM : CT (kL κ) y bytes maxL ret rm (.ref (G.1 + a) :: As) G E σ none σ1) (hrm : rm.cells = 0 ∧ rm.slots = 0 ∧ rm.frames + 1 ≤ (kR κ).frames ∧ 8 + (maxL + 11) + rm.locals ≤ (kR κ).locals ∧ u.1 ≤ (kR κ).cells ∧ u.2 ≤ (kR κ).slots) (ha : cd E a = ci) (hn0 : As.length = n0) (hst : st = As.reverse ++ .ref (G.1 + a) :: rest) (hW : (rest.map fun v => v.category).sum ≤ 8) (d : dk cc pc n (.invokevirtual idx) 3) (k : P → V κ G Q E σ1 (false, u) n lv rest) : P → V κ G Q E σ (false, u) pc lv st :=
  R_callV As rest C M hM hrm ha hn0 hst hW d k
theorem R_callSv {idx n0 maxL : Nat} {y : MethodName} {bytes : ByteArray} {ret : Option FieldType} {rm : Room}  {σ1 : Sg} (As rest : List Value) (C : Cx κ G cc own nL) (M : MSo own idx y bytes maxL ret n0) (hM : CT (kL κ) y bytes maxL ret rm As G E σ none σ1) (hrm : rm.cells = 0 ∧ rm.slots = 0 ∧ rm.frames + 1 ≤ (kR κ).frames ∧ 8 + (maxL + 11) + rm.locals ≤ (kR κ).locals ∧ u.1 ≤ (kR κ).cells ∧ u.2 ≤ (kR κ).slots) (hn0 : As.length = n0) (hst : st = As.reverse ++ rest) (hW : (rest.map fun v => v.category).sum ≤ 8) (d : dk cc pc n (.invokestatic idx) 3) (k : P → V κ G Q E σ1 (false, u) n lv rest) : P → V κ G Q E σ (false, u) pc lv st :=
  R_callS As rest C M hM hrm hn0 hst hW d k
theorem R_gets {idx : Nat} (t : Nat) (ht : t < 3) (C : Cx κ G cc own nL) (hw : Cond.fieldLink own idx "RunTapes" (stn t) "[I" ∈ lw_tbl) (d : dk cc pc n (.getstatic idx) 3) (k : P → V κ G Q E σ ks n lv (.ref (G.2.2.2.2 t) :: st)) : P → V κ G Q E σ ks pc lv st := by
  obtain ⟨p, l, e, R, s, m, args, below, meth, c⟩ := κ
  obtain ⟨hx, hb, hml, hown, hlk, hK, hT, hZ, hG⟩ := C
  obtain ⟨d, rfl⟩ := d
  intro q H locs ls hz hP hS hl
  exact va_gets hx hb (hZ t ht).1 hS hown (hT _ hw rfl _) (fun _ h => h) d (k q H locs ls hz hP hS hl)
theorem R_tld {i : Int32} (t : Nat) (ht : t < 3) (C : Cx κ G cc own nL) (hi : vp_in i 6) (d : dk cc pc n .iaload 1) (k : P → V κ G Q E σ ks n lv (.int (stv t i.toNatClampNeg) :: st)) : P → V κ G Q E σ ks pc lv (.int i :: .ref (G.2.2.2.2 t) :: st) := by
  obtain ⟨p, l, e, R, s, m, args, below, meth, c⟩ := κ
  obtain ⟨hx, hb, hml, hown, hlk, hK, hT, hZ, hG⟩ := C
  obtain ⟨d, rfl⟩ := d
  intro q H locs ls hz hP hS hl
  exact va_ti hx hb (hZ t ht).2 hS hi rfl d (k q H locs ls hz hP hS hl)
theorem R_tsOut {dflt lo hi : Int} {offs : Array Int} {len : Nat} {x : Int32} {t : Nat} (C : Cx κ G cc own nL) (d : dk cc pc n (.tableswitch dflt lo hi offs) len) (h : x.toInt < lo ∨ hi < x.toInt) (ht : (pc : Int) + dflt = (t : Int)) (k : P → V κ G Q E σ ks t lv st) : P → V κ G Q E σ ks pc lv (.int x :: st) := by
  obtain ⟨p, l, e, R, s, m, args, below, meth, c⟩ := κ
  obtain ⟨hx, hb, hml, hown, hlk, hK, hT, hZ, hG⟩ := C
  obtain ⟨d, rfl⟩ := d
  intro q H locs ls hz hP hS hl
  exact lv_tableOut hx hb d h ht (k q H locs ls hz hP hS hl)
theorem R_tsIn {dflt lo hi off : Int} {offs : Array Int} {len : Nat} {x v : Int32} {t : Nat} (C : Cx κ G cc own nL) (d : dk cc pc n (.tableswitch dflt lo hi offs) len) (hx0 : x = v) (h : ¬ v.toInt < lo ∧ ¬ hi < v.toInt ∧ offs[(v.toInt - lo).toNat]? = some off ∧ (pc : Int) + off = (t : Int)) (k : P → V κ G Q E σ ks t lv st) : P → V κ G Q E σ ks pc lv (.int x :: st) := by
  subst hx0
  obtain ⟨p, l, e, R, s, m, args, below, meth, c⟩ := κ
  obtain ⟨hx, hb, hml, hown, hlk, hK, hT, hZ, hG⟩ := C
  obtain ⟨d, rfl⟩ := d
  intro q H locs ls hz hP hS hl
  exact lv_tableIn hx hb d h.1 h.2.1 h.2.2.1 h.2.2.2 (k q H locs ls hz hP hS hl)
theorem R_lks {dflt off : Int} {ps : Array (Int × Int)} {len : Nat} {x : Int32} {t : Nat} (C : Cx κ G cc own nL) (d : dk cc pc n (.lookupswitch dflt ps) len) (hp : (ps.toList.zip (ps.toList.drop 1)).all (fun (a, next) => a.1 < next.1) = true) (ho : Op.lookupswitch.offset ps.toList dflt x.toInt = off) (ht : (pc : Int) + off = (t : Int)) (k : P → V κ G Q E σ ks t lv st) : P → V κ G Q E σ ks pc lv (.int x :: st) := by
  obtain ⟨p, l, e, R, s, m, args, below, meth, c⟩ := κ
  obtain ⟨hx, hb, hml, hown, hlk, hK, hT, hZ, hG⟩ := C
  obtain ⟨d, rfl⟩ := d
  intro q H locs ls hz hP hS hl
  exact lv_lookup hx hb d hp ho ht (k q H locs ls hz hP hS hl)
end RX
