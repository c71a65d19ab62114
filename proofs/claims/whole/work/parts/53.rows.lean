section RW
variable {κ : KT} {G : Gl} {Q : State → Prop} {E : En} {σ : Sg} {ks : Bool × Nat × Nat} {u : Nat × Nat} {cc : ByteArray} {own : String} {nL pc n : Nat} {lv : List (Nat × Value)} {st : List Value} {P : Prop}
theorem tb_warm {s U : State} (h : TbAll s) (hW : s.WarmedH U.vm) : TbAll U := by
  intro w hw h1 a
  have h2 := h w hw h1 #[]
  cases w with
  | fieldLinkNest => exact va_Nw.use rfl (va_Nw.warmF hW h2)
  | methodLinkNest => exact va_Nw.use rfl (va_Nw.warmM hW h2)
  | _ => exact word_at hW (good_of_word h1) h2
theorem tb_hts {s : State} (h : TbAll s) (a : Array Value) : ∀ w ∈ lw_tbl.filter wk, w.before a s = true := fun w hw => h w (List.mem_filter.mp hw).1 (List.mem_filter.mp hw).2 a
theorem ws_at {a : Nat} (h : a < E.1) : (wsOf G E σ)[a]? = some (G.1 + a, el G.1 G.2.2.2.1 E σ a) := by
  simp [wsOf, h]
theorem cd_lt {a c : Nat} (h : cd E a = c) (hc : c < 999) : a < E.1 ∧ (E.2.1 a).1 = c := by
  unfold cd at h
  split at h
  · next q => exact ⟨q, h⟩
  · omega
theorem ws_D : va_D (GA G) (wsOf G E σ) := by
  refine ⟨fun i j p q hi hj e => ?_, fun k q h => ?_⟩
  · simp only [wsOf, List.getElem?_map, Option.map_eq_some_iff] at hi hj
    obtain ⟨a, ha, rfl⟩ := hi
    obtain ⟨b, hb, rfl⟩ := hj
    simp only [List.getElem?_range, List.getElem?_eq_some_iff, List.length_range, List.getElem_range] at ha hb
    obtain ⟨_, rfl⟩ := ha
    obtain ⟨_, rfl⟩ := hb
    simp only [] at e
    omega
  · simp only [wsOf, List.getElem?_map, Option.map_eq_some_iff] at h
    obtain ⟨a, _, rfl⟩ := h
    show G.1 ≤ G.1 + a
    omega
theorem el_o {a c : Nat} (h : cd E a = c) (hc : c < 100) : (wsOf G E σ)[a]? = some (G.1 + a, .inr (c, fvs G.1 E σ c a)) := by
  obtain ⟨h1, h2⟩ := cd_lt h (by omega)
  rw [ws_at h1]
  unfold el
  rw [if_pos (by rw [h2]; exact hc), h2]
theorem el_a {a c : Nat} (h : cd E a = c) (hc : 100 ≤ c) (hc2 : c < 999) : (wsOf G E σ)[a]? = some (G.1 + a, .inl (G.2.2.2.1 (c - 100), ln E a, ars G.1 E σ c a)) := by
  obtain ⟨h1, h2⟩ := cd_lt h hc2
  rw [ws_at h1]
  unfold el ln
  rw [if_neg (by rw [h2]; omega), h2]
theorem fvs_at {c a k : Nat} (hk : k < nf c) : (fvs G.1 E σ c a)[k]? = some (fv G.1 E σ c a k) := by
  simp [fvs, hk]
theorem fvs_len {c a : Nat} : (fvs G.1 E σ c a).length = nf c := by simp [fvs]
/-- two worlds that differ in one cell -/
theorem ws_set {σ' : Sg} {a : Nat} {e : va_E} (ha : a < E.1) (he : el G.1 G.2.2.2.1 E σ' a = e) (ho : ∀ x, x ≠ a → el G.1 G.2.2.2.1 E σ' x = el G.1 G.2.2.2.1 E σ x) : (wsOf G E σ).set a (G.1 + a, e) = wsOf G E σ' := by
  apply List.ext_getElem?
  intro i
  by_cases hi : i = a
  · subst hi
    rw [ws_at ha, List.getElem?_set_self (by simp [wsOf]; exact ha), he]
  · rw [List.getElem?_set_ne (fun q => hi q.symm)]
    simp only [wsOf, List.getElem?_map]
    cases hr : (List.range E.1)[i]? with
    | none => rfl
    | some x =>
      have hx : x = i := by
        rw [List.getElem?_eq_some_iff] at hr
        obtain ⟨_, e⟩ := hr
        rw [List.getElem_range] at e
        exact e.symm
      subst hx
      simp only [Option.map_some]
      rw [ho _ hi]
theorem si_same {a k : Nat} {v : Int32} : (si σ a k v).1 a = upd (σ.1 a) k v := by simp [si]
theorem si_off {a k x : Nat} {v : Int32} (h : x ≠ a) : (si σ a k v).1 x = σ.1 x := by simp [si, h]
theorem si_l {a k : Nat} {v : Int32} : (si σ a k v).2 = σ.2 := rfl
theorem el_off {σ' : Sg} {a x : Nat} (h1 : σ'.1 x = σ.1 x) (h2 : σ'.2 x = σ.2 x) : el G.1 G.2.2.2.1 E σ' x = el G.1 G.2.2.2.1 E σ x := by
  unfold el
  have e1 : fvs G.1 E σ' (E.2.1 x).1 x = fvs G.1 E σ (E.2.1 x).1 x := by
    unfold fvs
    apply List.map_congr_left
    intro k _
    unfold fv gi
    rw [h1]
  have e2 : ars G.1 E σ' (E.2.1 x).1 x = ars G.1 E σ (E.2.1 x).1 x := by
    unfold ars
    rw [h1, h2]
  rw [e1, e2]
theorem ws_put {a k c : Nat} {v : Int32} (h : cd E a = c) (hc : c < 100) (hk : isr (tyc c k) = false) : (wsOf G E σ).set a (G.1 + a, .inr (c, (fvs G.1 E σ c a).set k (.int v))) = wsOf G E (si σ a k v) := by
  obtain ⟨h1, h2⟩ := cd_lt h (by omega)
  refine ws_set h1 ?_ (fun x hx => el_off (a := a) (si_off hx) rfl)
  unfold el
  rw [if_pos (by rw [h2]; exact hc), h2]
  congr 2
  apply List.ext_getElem?
  intro j
  by_cases hj : j = k
  · subst hj
    by_cases hl : j < nf c
    · rw [List.getElem?_set_self (by rw [fvs_len]; exact hl), fvs_at hl]
      simp [fv, hk, gi, si, upd]
    · have e1 : (fvs G.1 E (si σ a j v) c a)[j]? = none := by simp [fvs]; omega
      have e2 : ((fvs G.1 E σ c a).set j (Value.int v))[j]? = none := by simp [fvs]; omega
      rw [e1, e2]
  · rw [List.getElem?_set_ne (fun q => hj q.symm)]
    by_cases hl : j < nf c
    · rw [fvs_at hl, fvs_at hl]
      simp [fv, gi, si, upd, hj]
    · have e1 : (fvs G.1 E (si σ a k v) c a)[j]? = none := by simp [fvs]; omega
      have e2 : (fvs G.1 E σ c a)[j]? = none := by simp [fvs]; omega
      rw [e1, e2]
theorem ws_arr {σ' : Sg} {a c : Nat} (h : cd E a = c) (hc : 100 ≤ c) (hc2 : c < 999) (ho : ∀ x, x ≠ a → σ'.1 x = σ.1 x ∧ σ'.2 x = σ.2 x) : (wsOf G E σ).set a (G.1 + a, .inl (G.2.2.2.1 (c - 100), ln E a, ars G.1 E σ' c a)) = wsOf G E σ' := by
  obtain ⟨h1, h2⟩ := cd_lt h hc2
  refine ws_set h1 ?_ (fun x hx => el_off (a := a) (ho x hx).1 (ho x hx).2)
  unfold el ln
  rw [if_neg (by rw [h2]; omega), h2]

theorem R_iadd (C : Cx κ G cc own nL) {x y : Int32} (d : dk cc pc n .iadd 1)  (k : P → V κ G Q E σ ks n lv (.int (x + y) :: st)) : P → V κ G Q E σ ks pc lv (.int y :: .int x :: st) := by
  obtain ⟨p, l, e, R, s, m, args, below, meth, c⟩ := κ
  obtain ⟨hx, hb, hml, hown, hlk, hK, hT, hZ, hG⟩ := C
  obtain ⟨d, rfl⟩ := d
  intro q H locs ls hz hP hS hl
  exact lv_iadd hx hb d  (k q H locs ls hz hP hS hl)
theorem R_isub (C : Cx κ G cc own nL) {x y : Int32} (d : dk cc pc n .isub 1)  (k : P → V κ G Q E σ ks n lv (.int (x - y) :: st)) : P → V κ G Q E σ ks pc lv (.int y :: .int x :: st) := by
  obtain ⟨p, l, e, R, s, m, args, below, meth, c⟩ := κ
  obtain ⟨hx, hb, hml, hown, hlk, hK, hT, hZ, hG⟩ := C
  obtain ⟨d, rfl⟩ := d
  intro q H locs ls hz hP hS hl
  exact lv_isub hx hb d  (k q H locs ls hz hP hS hl)
theorem R_imul (C : Cx κ G cc own nL) {x y : Int32} (d : dk cc pc n .imul 1)  (k : P → V κ G Q E σ ks n lv (.int (x * y) :: st)) : P → V κ G Q E σ ks pc lv (.int y :: .int x :: st) := by
  obtain ⟨p, l, e, R, s, m, args, below, meth, c⟩ := κ
  obtain ⟨hx, hb, hml, hown, hlk, hK, hT, hZ, hG⟩ := C
  obtain ⟨d, rfl⟩ := d
  intro q H locs ls hz hP hS hl
  exact lv_imul hx hb d  (k q H locs ls hz hP hS hl)
theorem R_iand (C : Cx κ G cc own nL) {x y : Int32} (d : dk cc pc n .iand 1)  (k : P → V κ G Q E σ ks n lv (.int (x &&& y) :: st)) : P → V κ G Q E σ ks pc lv (.int y :: .int x :: st) := by
  obtain ⟨p, l, e, R, s, m, args, below, meth, c⟩ := κ
  obtain ⟨hx, hb, hml, hown, hlk, hK, hT, hZ, hG⟩ := C
  obtain ⟨d, rfl⟩ := d
  intro q H locs ls hz hP hS hl
  exact lv_iand hx hb d  (k q H locs ls hz hP hS hl)
theorem R_ior (C : Cx κ G cc own nL) {x y : Int32} (d : dk cc pc n .ior 1)  (k : P → V κ G Q E σ ks n lv (.int (x ||| y) :: st)) : P → V κ G Q E σ ks pc lv (.int y :: .int x :: st) := by
  obtain ⟨p, l, e, R, s, m, args, below, meth, c⟩ := κ
  obtain ⟨hx, hb, hml, hown, hlk, hK, hT, hZ, hG⟩ := C
  obtain ⟨d, rfl⟩ := d
  intro q H locs ls hz hP hS hl
  exact lv_ior hx hb d  (k q H locs ls hz hP hS hl)
theorem R_idiv (C : Cx κ G cc own nL) {x y : Int32} (d : dk cc pc n .idiv 1) (hne : ¬ y = 0) (k : P → V κ G Q E σ ks n lv (.int (x / y) :: st)) : P → V κ G Q E σ ks pc lv (.int y :: .int x :: st) := by
  obtain ⟨p, l, e, R, s, m, args, below, meth, c⟩ := κ
  obtain ⟨hx, hb, hml, hown, hlk, hK, hT, hZ, hG⟩ := C
  obtain ⟨d, rfl⟩ := d
  intro q H locs ls hz hP hS hl
  exact lv_idiv hx hb d hne (k q H locs ls hz hP hS hl)
theorem R_irem (C : Cx κ G cc own nL) {x y : Int32} (d : dk cc pc n .irem 1) (hne : ¬ y = 0) (k : P → V κ G Q E σ ks n lv (.int (im x y) :: st)) : P → V κ G Q E σ ks pc lv (.int y :: .int x :: st) := by
  obtain ⟨p, l, e, R, s, m, args, below, meth, c⟩ := κ
  obtain ⟨hx, hb, hml, hown, hlk, hK, hT, hZ, hG⟩ := C
  obtain ⟨d, rfl⟩ := d
  intro q H locs ls hz hP hS hl
  exact lv_irem hx hb d hne (k q H locs ls hz hP hS hl)
theorem R_ishl (C : Cx κ G cc own nL) {x y : Int32} (d : dk cc pc n .ishl 1)  (k : P → V κ G Q E σ ks n lv (.int (x <<< (y &&& 31)) :: st)) : P → V κ G Q E σ ks pc lv (.int y :: .int x :: st) := by
  obtain ⟨p, l, e, R, s, m, args, below, meth, c⟩ := κ
  obtain ⟨hx, hb, hml, hown, hlk, hK, hT, hZ, hG⟩ := C
  obtain ⟨d, rfl⟩ := d
  intro q H locs ls hz hP hS hl
  exact lv_ishl hx hb d  (k q H locs ls hz hP hS hl)
theorem R_ishr (C : Cx κ G cc own nL) {x y : Int32} (d : dk cc pc n .ishr 1)  (k : P → V κ G Q E σ ks n lv (.int (x >>> (y &&& 31)) :: st)) : P → V κ G Q E σ ks pc lv (.int y :: .int x :: st) := by
  obtain ⟨p, l, e, R, s, m, args, below, meth, c⟩ := κ
  obtain ⟨hx, hb, hml, hown, hlk, hK, hT, hZ, hG⟩ := C
  obtain ⟨d, rfl⟩ := d
  intro q H locs ls hz hP hS hl
  exact lv_ishr hx hb d  (k q H locs ls hz hP hS hl)
theorem R_ladd (C : Cx κ G cc own nL) {x y : Int64} (d : dk cc pc n .ladd 1)  (k : P → V κ G Q E σ ks n lv (.long (x + y) :: st)) : P → V κ G Q E σ ks pc lv (.long y :: .long x :: st) := by
  obtain ⟨p, l, e, R, s, m, args, below, meth, c⟩ := κ
  obtain ⟨hx, hb, hml, hown, hlk, hK, hT, hZ, hG⟩ := C
  obtain ⟨d, rfl⟩ := d
  intro q H locs ls hz hP hS hl
  exact lv_ladd hx hb d  (k q H locs ls hz hP hS hl)
theorem R_lmul (C : Cx κ G cc own nL) {x y : Int64} (d : dk cc pc n .lmul 1)  (k : P → V κ G Q E σ ks n lv (.long (x * y) :: st)) : P → V κ G Q E σ ks pc lv (.long y :: .long x :: st) := by
  obtain ⟨p, l, e, R, s, m, args, below, meth, c⟩ := κ
  obtain ⟨hx, hb, hml, hown, hlk, hK, hT, hZ, hG⟩ := C
  obtain ⟨d, rfl⟩ := d
  intro q H locs ls hz hP hS hl
  exact lv_lmul hx hb d  (k q H locs ls hz hP hS hl)
theorem R_land (C : Cx κ G cc own nL) {x y : Int64} (d : dk cc pc n .land 1)  (k : P → V κ G Q E σ ks n lv (.long (x &&& y) :: st)) : P → V κ G Q E σ ks pc lv (.long y :: .long x :: st) := by
  obtain ⟨p, l, e, R, s, m, args, below, meth, c⟩ := κ
  obtain ⟨hx, hb, hml, hown, hlk, hK, hT, hZ, hG⟩ := C
  obtain ⟨d, rfl⟩ := d
  intro q H locs ls hz hP hS hl
  exact lv_land hx hb d  (k q H locs ls hz hP hS hl)
theorem R_lrem (C : Cx κ G cc own nL) {x y : Int64} (d : dk cc pc n .lrem 1) (hne : ¬ y = 0) (k : P → V κ G Q E σ ks n lv (.long (iml x y) :: st)) : P → V κ G Q E σ ks pc lv (.long y :: .long x :: st) := by
  obtain ⟨p, l, e, R, s, m, args, below, meth, c⟩ := κ
  obtain ⟨hx, hb, hml, hown, hlk, hK, hT, hZ, hG⟩ := C
  obtain ⟨d, rfl⟩ := d
  intro q H locs ls hz hP hS hl
  exact lv_lrem hx hb d hne (k q H locs ls hz hP hS hl)
theorem R_iushr (C : Cx κ G cc own nL) {x y : Int32} (d : dk cc pc n .iushr 1) (k : P → V κ G Q E σ ks n lv (.int (iu x y) :: st)) : P → V κ G Q E σ ks pc lv (.int y :: .int x :: st) := by
  obtain ⟨p, l, e, R, s, m, args, below, meth, c⟩ := κ
  obtain ⟨hx, hb, hml, hown, hlk, hK, hT, hZ, hG⟩ := C
  obtain ⟨d, rfl⟩ := d
  intro q H locs ls hz hP hS hl
  exact lv_iushr hx hb d rfl (k q H locs ls hz hP hS hl)
theorem R_i2l (C : Cx κ G cc own nL) {x : Int32} (d : dk cc pc n .i2l 1) (k : P → V κ G Q E σ ks n lv (.long x.toInt64 :: st)) : P → V κ G Q E σ ks pc lv (.int x :: st) := by
  obtain ⟨p, l, e, R, s, m, args, below, meth, c⟩ := κ
  obtain ⟨hx, hb, hml, hown, hlk, hK, hT, hZ, hG⟩ := C
  obtain ⟨d, rfl⟩ := d
  intro q H locs ls hz hP hS hl
  exact lv_i2l hx hb d rfl (k q H locs ls hz hP hS hl)
theorem R_l2i (C : Cx κ G cc own nL) {x : Int64} (d : dk cc pc n .l2i 1) (k : P → V κ G Q E σ ks n lv (.int x.toInt32 :: st)) : P → V κ G Q E σ ks pc lv (.long x :: st) := by
  obtain ⟨p, l, e, R, s, m, args, below, meth, c⟩ := κ
  obtain ⟨hx, hb, hml, hown, hlk, hK, hT, hZ, hG⟩ := C
  obtain ⟨d, rfl⟩ := d
  intro q H locs ls hz hP hS hl
  exact lv_l2i hx hb d rfl (k q H locs ls hz hP hS hl)
theorem R_i2b (C : Cx κ G cc own nL) {x : Int32} (d : dk cc pc n .i2b 1) (k : P → V κ G Q E σ ks n lv (.int x.toInt8.toInt32 :: st)) : P → V κ G Q E σ ks pc lv (.int x :: st) := by
  obtain ⟨p, l, e, R, s, m, args, below, meth, c⟩ := κ
  obtain ⟨hx, hb, hml, hown, hlk, hK, hT, hZ, hG⟩ := C
  obtain ⟨d, rfl⟩ := d
  intro q H locs ls hz hP hS hl
  exact lv_i2b hx hb d rfl (k q H locs ls hz hP hS hl)
theorem R_lcmp (C : Cx κ G cc own nL) {x y : Int64} (d : dk cc pc n .lcmp 1) (k : P → V κ G Q E σ ks n lv (.int (lg_cmp x y) :: st)) : P → V κ G Q E σ ks pc lv (.long y :: .long x :: st) := by
  obtain ⟨p, l, e, R, s, m, args, below, meth, c⟩ := κ
  obtain ⟨hx, hb, hml, hown, hlk, hK, hT, hZ, hG⟩ := C
  obtain ⟨d, rfl⟩ := d
  intro q H locs ls hz hP hS hl
  exact W.lcmp hx hb d (k q H locs ls hz hP hS hl)
theorem R_iconst (C : Cx κ G cc own nL) {i : Int} (v : Int32) (d : dk cc pc n (.iconst i) 1) (hv : Int32.ofInt i = v) (k : P → V κ G Q E σ ks n lv (.int v :: st)) : P → V κ G Q E σ ks pc lv st := by
  obtain ⟨p, l, e, R, s, m, args, below, meth, c⟩ := κ
  obtain ⟨hx, hb, hml, hown, hlk, hK, hT, hZ, hG⟩ := C
  obtain ⟨d, rfl⟩ := d
  intro q H locs ls hz hP hS hl
  exact lv_iconst hx hb d hv (k q H locs ls hz hP hS hl)
theorem R_bipush (C : Cx κ G cc own nL) {i : Int} (v : Int32) (d : dk cc pc n (.bipush i) 2) (hv : (Int8.ofInt i).toInt32 = v) (k : P → V κ G Q E σ ks n lv (.int v :: st)) : P → V κ G Q E σ ks pc lv st := by
  obtain ⟨p, l, e, R, s, m, args, below, meth, c⟩ := κ
  obtain ⟨hx, hb, hml, hown, hlk, hK, hT, hZ, hG⟩ := C
  obtain ⟨d, rfl⟩ := d
  intro q H locs ls hz hP hS hl
  exact lv_bipush hx hb d hv (k q H locs ls hz hP hS hl)
theorem R_sipush (C : Cx κ G cc own nL) {i : Int} (v : Int32) (d : dk cc pc n (.sipush i) 3) (hv : (Int16.ofInt i).toInt32 = v) (k : P → V κ G Q E σ ks n lv (.int v :: st)) : P → V κ G Q E σ ks pc lv st := by
  obtain ⟨p, l, e, R, s, m, args, below, meth, c⟩ := κ
  obtain ⟨hx, hb, hml, hown, hlk, hK, hT, hZ, hG⟩ := C
  obtain ⟨d, rfl⟩ := d
  intro q H locs ls hz hP hS hl
  exact lv_sipush hx hb d hv (k q H locs ls hz hP hS hl)
theorem R_lconst (C : Cx κ G cc own nL) {i : Fin 2} (v : Int64) (d : dk cc pc n (.lconst i) 1) (hv : Int64.ofNat (i : Nat) = v) (k : P → V κ G Q E σ ks n lv (.long v :: st)) : P → V κ G Q E σ ks pc lv st := by
  obtain ⟨p, l, e, R, s, m, args, below, meth, c⟩ := κ
  obtain ⟨hx, hb, hml, hown, hlk, hK, hT, hZ, hG⟩ := C
  obtain ⟨d, rfl⟩ := d
  intro q H locs ls hz hP hS hl
  exact lv_lconst hx hb d hv (k q H locs ls hz hP hS hl)
theorem R_ldc (C : Cx κ G cc own nL) {i : Nat} {v : Int32} (hw : Cond.constant own i v ∈ lw_tbl) (d : dk cc pc n (.ldc i) 2) (k : P → V κ G Q E σ ks n lv (.int v :: st)) : P → V κ G Q E σ ks pc lv st := by
  obtain ⟨p, l, e, R, s, m, args, below, meth, c⟩ := κ
  obtain ⟨hx, hb, hml, hown, hlk, hK, hT, hZ, hG⟩ := C
  obtain ⟨d, rfl⟩ := d
  intro q H locs ls hz hP hS hl
  exact lv_ldc hx hb hown (hT _ hw rfl _) d (k q H locs ls hz hP hS hl)
theorem R_ldcw (C : Cx κ G cc own nL) {i : Nat} {v : Int32} (hw : Cond.constant own i v ∈ lw_tbl) (d : dk cc pc n (.ldc_w i) 3) (k : P → V κ G Q E σ ks n lv (.int v :: st)) : P → V κ G Q E σ ks pc lv st := by
  obtain ⟨p, l, e, R, s, m, args, below, meth, c⟩ := κ
  obtain ⟨hx, hb, hml, hown, hlk, hK, hT, hZ, hG⟩ := C
  obtain ⟨d, rfl⟩ := d
  intro q H locs ls hz hP hS hl
  exact lv_ldcw hx hb hown (hT _ hw rfl _) d (k q H locs ls hz hP hS hl)
theorem R_ldc2 (C : Cx κ G cc own nL) {i : Nat} {v : Int64} (hw : Cond.constantLong own i v ∈ lw_tbl) (d : dk cc pc n (.ldc2_w i) 3) (k : P → V κ G Q E σ ks n lv (.long v :: st)) : P → V κ G Q E σ ks pc lv st := by
  obtain ⟨p, l, e, R, s, m, args, below, meth, c⟩ := κ
  obtain ⟨hx, hb, hml, hown, hlk, hK, hT, hZ, hG⟩ := C
  obtain ⟨d, rfl⟩ := d
  intro q H locs ls hz hP hS hl
  exact lv_ldc2 hx hb hown (hT _ hw rfl _) d (k q H locs ls hz hP hS hl)
theorem R_iload_n (C : Cx κ G cc own nL) {j : Fin 4} {x : Int32} (z : Nat) (hk : lv[z]? = some ((j : Nat), .int x)) (d : dk cc pc n (.iload_n j) 1) (k : P → V κ G Q E σ ks n lv (.int x :: st)) : P → V κ G Q E σ ks pc lv st := by
  obtain ⟨p, l, e, R, s, m, args, below, meth, c⟩ := κ
  obtain ⟨hx, hb, hml, hown, hlk, hK, hT, hZ, hG⟩ := C
  obtain ⟨d, rfl⟩ := d
  intro q H locs ls hz hP hS hl
  exact lv_iload_n hx hb d rfl (lv_at hl z hk) (k q H locs ls hz hP hS hl)
theorem R_iload (C : Cx κ G cc own nL) {i : Nat} {x : Int32} (z : Nat) (hk : lv[z]? = some (i, .int x)) (d : dk cc pc n (.iload i) 2) (k : P → V κ G Q E σ ks n lv (.int x :: st)) : P → V κ G Q E σ ks pc lv st := by
  obtain ⟨p, l, e, R, s, m, args, below, meth, c⟩ := κ
  obtain ⟨hx, hb, hml, hown, hlk, hK, hT, hZ, hG⟩ := C
  obtain ⟨d, rfl⟩ := d
  intro q H locs ls hz hP hS hl
  exact lv_iload hx hb d (lv_at hl z hk) (k q H locs ls hz hP hS hl)
theorem R_lload_n (C : Cx κ G cc own nL) {j : Fin 4} {x : Int64} (z : Nat) (hk : lv[z]? = some ((j : Nat), .long x)) (d : dk cc pc n (.lload_n j) 1) (k : P → V κ G Q E σ ks n lv (.long x :: st)) : P → V κ G Q E σ ks pc lv st := by
  obtain ⟨p, l, e, R, s, m, args, below, meth, c⟩ := κ
  obtain ⟨hx, hb, hml, hown, hlk, hK, hT, hZ, hG⟩ := C
  obtain ⟨d, rfl⟩ := d
  intro q H locs ls hz hP hS hl
  exact lv_lload_n hx hb d rfl (lv_at hl z hk) (k q H locs ls hz hP hS hl)
theorem R_lload (C : Cx κ G cc own nL) {i : Nat} {x : Int64} (z : Nat) (hk : lv[z]? = some (i, .long x)) (d : dk cc pc n (.lload i) 2) (k : P → V κ G Q E σ ks n lv (.long x :: st)) : P → V κ G Q E σ ks pc lv st := by
  obtain ⟨p, l, e, R, s, m, args, below, meth, c⟩ := κ
  obtain ⟨hx, hb, hml, hown, hlk, hK, hT, hZ, hG⟩ := C
  obtain ⟨d, rfl⟩ := d
  intro q H locs ls hz hP hS hl
  exact lv_lload hx hb d (lv_at hl z hk) (k q H locs ls hz hP hS hl)
theorem R_aload_n (C : Cx κ G cc own nL) {j : Fin 4} {x : Nat} (z : Nat) (hk : lv[z]? = some ((j : Nat), .ref x)) (d : dk cc pc n (.aload_n j) 1) (k : P → V κ G Q E σ ks n lv (.ref x :: st)) : P → V κ G Q E σ ks pc lv st := by
  obtain ⟨p, l, e, R, s, m, args, below, meth, c⟩ := κ
  obtain ⟨hx, hb, hml, hown, hlk, hK, hT, hZ, hG⟩ := C
  obtain ⟨d, rfl⟩ := d
  intro q H locs ls hz hP hS hl
  exact lv_aload_n hx hb d rfl (lv_at hl z hk) (k q H locs ls hz hP hS hl)
theorem R_aload (C : Cx κ G cc own nL) {i : Nat} {x : Nat} (z : Nat) (hk : lv[z]? = some (i, .ref x)) (d : dk cc pc n (.aload i) 2) (k : P → V κ G Q E σ ks n lv (.ref x :: st)) : P → V κ G Q E σ ks pc lv st := by
  obtain ⟨p, l, e, R, s, m, args, below, meth, c⟩ := κ
  obtain ⟨hx, hb, hml, hown, hlk, hK, hT, hZ, hG⟩ := C
  obtain ⟨d, rfl⟩ := d
  intro q H locs ls hz hP hS hl
  exact lv_aload hx hb d (lv_at hl z hk) (k q H locs ls hz hP hS hl)
theorem R_istore_n (C : Cx κ G cc own nL) {j : Fin 4} {i : Nat} {x : Int32} {lv2 : List (Nat × Value)} (d : dk cc pc n (.istore_n j) 1) (hi : (j : Nat) = i) (hn : i < nL) (hv : (i, Value.int x) :: lv.filter (fun q => !(q.1 == i) && !(q.1 + 1 == i && q.2.category == 2)) = lv2) (k : P → V κ G Q E σ ks n lv2 st) : P → V κ G Q E σ ks pc lv (.int x :: st) := by
  obtain ⟨p, l, e, R, s, m, args, below, meth, c⟩ := κ
  obtain ⟨hx, hb, hml, hown, hlk, hK, hT, hZ, hG⟩ := C
  obtain ⟨d, rfl⟩ := d
  intro q H locs ls hz hP hS hl
  exact lv_istore_n hx hb d hi hl (by rw [hml]; exact hn) hv (fun ls2 hl2 => k q H locs ls2 hz hP hS hl2)
theorem R_istore (C : Cx κ G cc own nL) {i : Nat} {x : Int32} {lv2 : List (Nat × Value)} (d : dk cc pc n (.istore i) 2) (hn : i < nL) (hv : (i, Value.int x) :: lv.filter (fun q => !(q.1 == i) && !(q.1 + 1 == i && q.2.category == 2)) = lv2) (k : P → V κ G Q E σ ks n lv2 st) : P → V κ G Q E σ ks pc lv (.int x :: st) := by
  obtain ⟨p, l, e, R, s, m, args, below, meth, c⟩ := κ
  obtain ⟨hx, hb, hml, hown, hlk, hK, hT, hZ, hG⟩ := C
  obtain ⟨d, rfl⟩ := d
  intro q H locs ls hz hP hS hl
  exact lv_istore hx hb d hl (by rw [hml]; exact hn) hv (fun ls2 hl2 => k q H locs ls2 hz hP hS hl2)
theorem R_lstore_n (C : Cx κ G cc own nL) {j : Fin 4} {i : Nat} {x : Int64} {lv2 : List (Nat × Value)} (d : dk cc pc n (.lstore_n j) 1) (hi : (j : Nat) = i) (hn : i + 1 < nL) (hv : (i, Value.long x) :: lv.filter (fun q => !(q.1 == i) && (!(q.1 == i + 1) && !(q.1 + 1 == i && q.2.category == 2))) = lv2) (k : P → V κ G Q E σ ks n lv2 st) : P → V κ G Q E σ ks pc lv (.long x :: st) := by
  obtain ⟨p, l, e, R, s, m, args, below, meth, c⟩ := κ
  obtain ⟨hx, hb, hml, hown, hlk, hK, hT, hZ, hG⟩ := C
  obtain ⟨d, rfl⟩ := d
  intro q H locs ls hz hP hS hl
  exact lv_lstore_n hx hb d hi hl (by rw [hml]; exact hn) hv (fun ls2 hl2 => k q H locs ls2 hz hP hS hl2)
theorem R_lstore (C : Cx κ G cc own nL) {i : Nat} {x : Int64} {lv2 : List (Nat × Value)} (d : dk cc pc n (.lstore i) 2) (hn : i + 1 < nL) (hv : (i, Value.long x) :: lv.filter (fun q => !(q.1 == i) && (!(q.1 == i + 1) && !(q.1 + 1 == i && q.2.category == 2))) = lv2) (k : P → V κ G Q E σ ks n lv2 st) : P → V κ G Q E σ ks pc lv (.long x :: st) := by
  obtain ⟨p, l, e, R, s, m, args, below, meth, c⟩ := κ
  obtain ⟨hx, hb, hml, hown, hlk, hK, hT, hZ, hG⟩ := C
  obtain ⟨d, rfl⟩ := d
  intro q H locs ls hz hP hS hl
  exact lv_lstore hx hb d hl (by rw [hml]; exact hn) hv (fun ls2 hl2 => k q H locs ls2 hz hP hS hl2)
theorem R_astore_n (C : Cx κ G cc own nL) {j : Fin 4} {i : Nat} {x : Nat} {lv2 : List (Nat × Value)} (d : dk cc pc n (.astore_n j) 1) (hi : (j : Nat) = i) (hn : i < nL) (hv : (i, Value.ref x) :: lv.filter (fun q => !(q.1 == i) && !(q.1 + 1 == i && q.2.category == 2)) = lv2) (k : P → V κ G Q E σ ks n lv2 st) : P → V κ G Q E σ ks pc lv (.ref x :: st) := by
  obtain ⟨p, l, e, R, s, m, args, below, meth, c⟩ := κ
  obtain ⟨hx, hb, hml, hown, hlk, hK, hT, hZ, hG⟩ := C
  obtain ⟨d, rfl⟩ := d
  intro q H locs ls hz hP hS hl
  exact lv_astore_n hx hb d hi hl (by rw [hml]; exact hn) hv (fun ls2 hl2 => k q H locs ls2 hz hP hS hl2)
theorem R_astore (C : Cx κ G cc own nL) {i : Nat} {x : Nat} {lv2 : List (Nat × Value)} (d : dk cc pc n (.astore i) 2) (hn : i < nL) (hv : (i, Value.ref x) :: lv.filter (fun q => !(q.1 == i) && !(q.1 + 1 == i && q.2.category == 2)) = lv2) (k : P → V κ G Q E σ ks n lv2 st) : P → V κ G Q E σ ks pc lv (.ref x :: st) := by
  obtain ⟨p, l, e, R, s, m, args, below, meth, c⟩ := κ
  obtain ⟨hx, hb, hml, hown, hlk, hK, hT, hZ, hG⟩ := C
  obtain ⟨d, rfl⟩ := d
  intro q H locs ls hz hP hS hl
  exact lv_astore hx hb d hl (by rw [hml]; exact hn) hv (fun ls2 hl2 => k q H locs ls2 hz hP hS hl2)
theorem R_iinc (C : Cx κ G cc own nL) {i : Nat} {j : Int} {x v : Int32} {lv2 : List (Nat × Value)} (z : Nat) (d : dk cc pc n (.iinc i j) 3) (hk : lv[z]? = some (i, .int x)) (hj : Int32.ofInt j = v) (hn : i < nL) (hv : (i, Value.int (x + v)) :: lv.filter (fun q => !(q.1 == i) && !(q.1 + 1 == i && q.2.category == 2)) = lv2) (k : P → V κ G Q E σ ks n lv2 st) : P → V κ G Q E σ ks pc lv st := by
  obtain ⟨p, l, e, R, s, m, args, below, meth, c⟩ := κ
  obtain ⟨hx, hb, hml, hown, hlk, hK, hT, hZ, hG⟩ := C
  obtain ⟨d, rfl⟩ := d
  intro q H locs ls hz hP hS hl
  exact lv_iinc hx hb d hl hk (by rw [hj]) (by rw [hml]; exact hn) hv (fun ls2 hl2 => k q H locs ls2 hz hP hS hl2)
theorem R_dup (C : Cx κ G cc own nL) {v : Value} (d : dk cc pc n .dup 1) (hc : v.category = 1) (k : P → V κ G Q E σ ks n lv (v :: v :: st)) : P → V κ G Q E σ ks pc lv (v :: st) := by
  obtain ⟨p, l, e, R, s, m, args, below, meth, c⟩ := κ
  obtain ⟨hx, hb, hml, hown, hlk, hK, hT, hZ, hG⟩ := C
  obtain ⟨d, rfl⟩ := d
  intro q H locs ls hz hP hS hl
  exact lv_dup hx hb d hc (k q H locs ls hz hP hS hl)
theorem R_pop (C : Cx κ G cc own nL) {v : Value} (d : dk cc pc n .pop 1) (hc : v.category = 1) (k : P → V κ G Q E σ ks n lv st) : P → V κ G Q E σ ks pc lv (v :: st) := by
  obtain ⟨p, l, e, R, s, m, args, below, meth, c⟩ := κ
  obtain ⟨hx, hb, hml, hown, hlk, hK, hT, hZ, hG⟩ := C
  obtain ⟨d, rfl⟩ := d
  intro q H locs ls hz hP hS hl
  exact lv_pop hx hb d hc (k q H locs ls hz hP hS hl)
theorem R_dup2 (C : Cx κ G cc own nL) {v u : Value} (d : dk cc pc n .dup2 1) (hc : v.category = 1) (hc2 : u.category = 1) (k : P → V κ G Q E σ ks n lv (v :: u :: v :: u :: st)) : P → V κ G Q E σ ks pc lv (v :: u :: st) := by
  obtain ⟨p, l, e, R, s, m, args, below, meth, c⟩ := κ
  obtain ⟨hx, hb, hml, hown, hlk, hK, hT, hZ, hG⟩ := C
  obtain ⟨d, rfl⟩ := d
  intro q H locs ls hz hP hS hl
  exact lv_dup2_11 hx hb d hc hc2 (k q H locs ls hz hP hS hl)
theorem R_loc {lv2 : List (Nat × Value)} (z : List Nat) (h : lv_pick lv z = lv2) (k : P → V κ G Q E σ ks pc lv2 st) : P → V κ G Q E σ ks pc lv st := by
  intro q H locs ls hz hP hS hl
  exact k q H locs ls hz hP hS (lv_sub hl z h)
theorem R_goto {t : Nat} {off : Int} (C : Cx κ G cc own nL) (d : bk cc pc n t (.goto off) off) (k : P → V κ G Q E σ ks t lv st) : P → V κ G Q E σ ks pc lv st := by
  obtain ⟨p, l, e, R, s, m, args, below, meth, c⟩ := κ
  obtain ⟨hx, hb, hml, hown, hlk, hK, hT, hZ, hG⟩ := C
  obtain ⟨d, rfl, ht⟩ := d
  intro q H locs ls hz hP hS hl
  exact lv_goto hx hb d ht (k q H locs ls hz hP hS hl)
theorem R_if_eq {t : Nat} {off : Int} {x : Int32} (C : Cx κ G cc own nL) (d : bk cc pc n t (.ifCond .eq off) off) (kt : x = 0 → P → V κ G Q E σ ks t lv st) (kf : ¬ x = 0 → P → V κ G Q E σ ks n lv st) : P → V κ G Q E σ ks pc lv (.int x :: st) := by
  obtain ⟨p, l, e, R, s, m, args, below, meth, c⟩ := κ
  obtain ⟨hx, hb, hml, hown, hlk, hK, hT, hZ, hG⟩ := C
  obtain ⟨d, rfl, ht⟩ := d
  intro q H locs ls hz hP hS hl
  exact lv_if_eq hx hb d ht (fun z => kt z q H locs ls hz hP hS hl) (fun z => kf z q H locs ls hz hP hS hl)
theorem B_if_eq {t : Nat} {off : Int} {x : Int32} {β : Type} {A B : Option β} {o : β} (C : Cx κ G cc own nL) (d : bk cc pc n t (.ifCond .eq off) off) (kt : A = some o → V κ G Q E σ ks t lv st) (kf : B = some o → V κ G Q E σ ks n lv st) : (if x = 0 then A else B) = some o → V κ G Q E σ ks pc lv (.int x :: st) :=
  R_if_eq C d (fun z h => kt (by rw [if_pos z] at h; exact h)) (fun z h => kf (by rw [if_neg (by simpa using z)] at h; exact h))
theorem R_icmp_eq {t : Nat} {off : Int} {x y : Int32} (C : Cx κ G cc own nL) (d : bk cc pc n t (.if_icmp .eq off) off) (kt : x = y → P → V κ G Q E σ ks t lv st) (kf : ¬ x = y → P → V κ G Q E σ ks n lv st) : P → V κ G Q E σ ks pc lv (.int y :: .int x :: st) := by
  obtain ⟨p, l, e, R, s, m, args, below, meth, c⟩ := κ
  obtain ⟨hx, hb, hml, hown, hlk, hK, hT, hZ, hG⟩ := C
  obtain ⟨d, rfl, ht⟩ := d
  intro q H locs ls hz hP hS hl
  exact lv_icmp_eq hx hb d ht (fun z => kt z q H locs ls hz hP hS hl) (fun z => kf z q H locs ls hz hP hS hl)
theorem B_icmp_eq {t : Nat} {off : Int} {x y : Int32} {β : Type} {A B : Option β} {o : β} (C : Cx κ G cc own nL) (d : bk cc pc n t (.if_icmp .eq off) off) (kt : A = some o → V κ G Q E σ ks t lv st) (kf : B = some o → V κ G Q E σ ks n lv st) : (if x = y then A else B) = some o → V κ G Q E σ ks pc lv (.int y :: .int x :: st) :=
  R_icmp_eq C d (fun z h => kt (by rw [if_pos z] at h; exact h)) (fun z h => kf (by rw [if_neg (by simpa using z)] at h; exact h))
theorem R_if_ne {t : Nat} {off : Int} {x : Int32} (C : Cx κ G cc own nL) (d : bk cc pc n t (.ifCond .ne off) off) (kt : ¬ x = 0 → P → V κ G Q E σ ks t lv st) (kf : x = 0 → P → V κ G Q E σ ks n lv st) : P → V κ G Q E σ ks pc lv (.int x :: st) := by
  obtain ⟨p, l, e, R, s, m, args, below, meth, c⟩ := κ
  obtain ⟨hx, hb, hml, hown, hlk, hK, hT, hZ, hG⟩ := C
  obtain ⟨d, rfl, ht⟩ := d
  intro q H locs ls hz hP hS hl
  exact lv_if_ne hx hb d ht (fun z => kt z q H locs ls hz hP hS hl) (fun z => kf z q H locs ls hz hP hS hl)
theorem B_if_ne {t : Nat} {off : Int} {x : Int32} {β : Type} {A B : Option β} {o : β} (C : Cx κ G cc own nL) (d : bk cc pc n t (.ifCond .ne off) off) (kt : A = some o → V κ G Q E σ ks t lv st) (kf : B = some o → V κ G Q E σ ks n lv st) : (if ¬ x = 0 then A else B) = some o → V κ G Q E σ ks pc lv (.int x :: st) :=
  R_if_ne C d (fun z h => kt (by rw [if_pos z] at h; exact h)) (fun z h => kf (by rw [if_neg (by simpa using z)] at h; exact h))
theorem R_icmp_ne {t : Nat} {off : Int} {x y : Int32} (C : Cx κ G cc own nL) (d : bk cc pc n t (.if_icmp .ne off) off) (kt : ¬ x = y → P → V κ G Q E σ ks t lv st) (kf : x = y → P → V κ G Q E σ ks n lv st) : P → V κ G Q E σ ks pc lv (.int y :: .int x :: st) := by
  obtain ⟨p, l, e, R, s, m, args, below, meth, c⟩ := κ
  obtain ⟨hx, hb, hml, hown, hlk, hK, hT, hZ, hG⟩ := C
  obtain ⟨d, rfl, ht⟩ := d
  intro q H locs ls hz hP hS hl
  exact lv_icmp_ne hx hb d ht (fun z => kt z q H locs ls hz hP hS hl) (fun z => kf z q H locs ls hz hP hS hl)
theorem B_icmp_ne {t : Nat} {off : Int} {x y : Int32} {β : Type} {A B : Option β} {o : β} (C : Cx κ G cc own nL) (d : bk cc pc n t (.if_icmp .ne off) off) (kt : A = some o → V κ G Q E σ ks t lv st) (kf : B = some o → V κ G Q E σ ks n lv st) : (if ¬ x = y then A else B) = some o → V κ G Q E σ ks pc lv (.int y :: .int x :: st) :=
  R_icmp_ne C d (fun z h => kt (by rw [if_pos z] at h; exact h)) (fun z h => kf (by rw [if_neg (by simpa using z)] at h; exact h))
theorem R_if_lt {t : Nat} {off : Int} {x : Int32} (C : Cx κ G cc own nL) (d : bk cc pc n t (.ifCond .lt off) off) (kt : x < 0 → P → V κ G Q E σ ks t lv st) (kf : ¬ x < 0 → P → V κ G Q E σ ks n lv st) : P → V κ G Q E σ ks pc lv (.int x :: st) := by
  obtain ⟨p, l, e, R, s, m, args, below, meth, c⟩ := κ
  obtain ⟨hx, hb, hml, hown, hlk, hK, hT, hZ, hG⟩ := C
  obtain ⟨d, rfl, ht⟩ := d
  intro q H locs ls hz hP hS hl
  exact lv_if_lt hx hb d ht (fun z => kt z q H locs ls hz hP hS hl) (fun z => kf z q H locs ls hz hP hS hl)
theorem B_if_lt {t : Nat} {off : Int} {x : Int32} {β : Type} {A B : Option β} {o : β} (C : Cx κ G cc own nL) (d : bk cc pc n t (.ifCond .lt off) off) (kt : A = some o → V κ G Q E σ ks t lv st) (kf : B = some o → V κ G Q E σ ks n lv st) : (if x < 0 then A else B) = some o → V κ G Q E σ ks pc lv (.int x :: st) :=
  R_if_lt C d (fun z h => kt (by rw [if_pos z] at h; exact h)) (fun z h => kf (by rw [if_neg (by simpa using z)] at h; exact h))
theorem R_icmp_lt {t : Nat} {off : Int} {x y : Int32} (C : Cx κ G cc own nL) (d : bk cc pc n t (.if_icmp .lt off) off) (kt : x < y → P → V κ G Q E σ ks t lv st) (kf : ¬ x < y → P → V κ G Q E σ ks n lv st) : P → V κ G Q E σ ks pc lv (.int y :: .int x :: st) := by
  obtain ⟨p, l, e, R, s, m, args, below, meth, c⟩ := κ
  obtain ⟨hx, hb, hml, hown, hlk, hK, hT, hZ, hG⟩ := C
  obtain ⟨d, rfl, ht⟩ := d
  intro q H locs ls hz hP hS hl
  exact lv_icmp_lt hx hb d ht (fun z => kt z q H locs ls hz hP hS hl) (fun z => kf z q H locs ls hz hP hS hl)
theorem B_icmp_lt {t : Nat} {off : Int} {x y : Int32} {β : Type} {A B : Option β} {o : β} (C : Cx κ G cc own nL) (d : bk cc pc n t (.if_icmp .lt off) off) (kt : A = some o → V κ G Q E σ ks t lv st) (kf : B = some o → V κ G Q E σ ks n lv st) : (if x < y then A else B) = some o → V κ G Q E σ ks pc lv (.int y :: .int x :: st) :=
  R_icmp_lt C d (fun z h => kt (by rw [if_pos z] at h; exact h)) (fun z h => kf (by rw [if_neg (by simpa using z)] at h; exact h))
theorem R_if_ge {t : Nat} {off : Int} {x : Int32} (C : Cx κ G cc own nL) (d : bk cc pc n t (.ifCond .ge off) off) (kt : 0 ≤ x → P → V κ G Q E σ ks t lv st) (kf : ¬ 0 ≤ x → P → V κ G Q E σ ks n lv st) : P → V κ G Q E σ ks pc lv (.int x :: st) := by
  obtain ⟨p, l, e, R, s, m, args, below, meth, c⟩ := κ
  obtain ⟨hx, hb, hml, hown, hlk, hK, hT, hZ, hG⟩ := C
  obtain ⟨d, rfl, ht⟩ := d
  intro q H locs ls hz hP hS hl
  exact lv_if_ge hx hb d ht (fun z => kt z q H locs ls hz hP hS hl) (fun z => kf z q H locs ls hz hP hS hl)
theorem B_if_ge {t : Nat} {off : Int} {x : Int32} {β : Type} {A B : Option β} {o : β} (C : Cx κ G cc own nL) (d : bk cc pc n t (.ifCond .ge off) off) (kt : A = some o → V κ G Q E σ ks t lv st) (kf : B = some o → V κ G Q E σ ks n lv st) : (if 0 ≤ x then A else B) = some o → V κ G Q E σ ks pc lv (.int x :: st) :=
  R_if_ge C d (fun z h => kt (by rw [if_pos z] at h; exact h)) (fun z h => kf (by rw [if_neg (by simpa using z)] at h; exact h))
theorem R_icmp_ge {t : Nat} {off : Int} {x y : Int32} (C : Cx κ G cc own nL) (d : bk cc pc n t (.if_icmp .ge off) off) (kt : y ≤ x → P → V κ G Q E σ ks t lv st) (kf : ¬ y ≤ x → P → V κ G Q E σ ks n lv st) : P → V κ G Q E σ ks pc lv (.int y :: .int x :: st) := by
  obtain ⟨p, l, e, R, s, m, args, below, meth, c⟩ := κ
  obtain ⟨hx, hb, hml, hown, hlk, hK, hT, hZ, hG⟩ := C
  obtain ⟨d, rfl, ht⟩ := d
  intro q H locs ls hz hP hS hl
  exact lv_icmp_ge hx hb d ht (fun z => kt z q H locs ls hz hP hS hl) (fun z => kf z q H locs ls hz hP hS hl)
theorem B_icmp_ge {t : Nat} {off : Int} {x y : Int32} {β : Type} {A B : Option β} {o : β} (C : Cx κ G cc own nL) (d : bk cc pc n t (.if_icmp .ge off) off) (kt : A = some o → V κ G Q E σ ks t lv st) (kf : B = some o → V κ G Q E σ ks n lv st) : (if y ≤ x then A else B) = some o → V κ G Q E σ ks pc lv (.int y :: .int x :: st) :=
  R_icmp_ge C d (fun z h => kt (by rw [if_pos z] at h; exact h)) (fun z h => kf (by rw [if_neg (by simpa using z)] at h; exact h))
theorem R_if_gt {t : Nat} {off : Int} {x : Int32} (C : Cx κ G cc own nL) (d : bk cc pc n t (.ifCond .gt off) off) (kt : 0 < x → P → V κ G Q E σ ks t lv st) (kf : ¬ 0 < x → P → V κ G Q E σ ks n lv st) : P → V κ G Q E σ ks pc lv (.int x :: st) := by
  obtain ⟨p, l, e, R, s, m, args, below, meth, c⟩ := κ
  obtain ⟨hx, hb, hml, hown, hlk, hK, hT, hZ, hG⟩ := C
  obtain ⟨d, rfl, ht⟩ := d
  intro q H locs ls hz hP hS hl
  exact lv_if_gt hx hb d ht (fun z => kt z q H locs ls hz hP hS hl) (fun z => kf z q H locs ls hz hP hS hl)
theorem B_if_gt {t : Nat} {off : Int} {x : Int32} {β : Type} {A B : Option β} {o : β} (C : Cx κ G cc own nL) (d : bk cc pc n t (.ifCond .gt off) off) (kt : A = some o → V κ G Q E σ ks t lv st) (kf : B = some o → V κ G Q E σ ks n lv st) : (if 0 < x then A else B) = some o → V κ G Q E σ ks pc lv (.int x :: st) :=
  R_if_gt C d (fun z h => kt (by rw [if_pos z] at h; exact h)) (fun z h => kf (by rw [if_neg (by simpa using z)] at h; exact h))
theorem R_icmp_gt {t : Nat} {off : Int} {x y : Int32} (C : Cx κ G cc own nL) (d : bk cc pc n t (.if_icmp .gt off) off) (kt : y < x → P → V κ G Q E σ ks t lv st) (kf : ¬ y < x → P → V κ G Q E σ ks n lv st) : P → V κ G Q E σ ks pc lv (.int y :: .int x :: st) := by
  obtain ⟨p, l, e, R, s, m, args, below, meth, c⟩ := κ
  obtain ⟨hx, hb, hml, hown, hlk, hK, hT, hZ, hG⟩ := C
  obtain ⟨d, rfl, ht⟩ := d
  intro q H locs ls hz hP hS hl
  exact lv_icmp_gt hx hb d ht (fun z => kt z q H locs ls hz hP hS hl) (fun z => kf z q H locs ls hz hP hS hl)
theorem B_icmp_gt {t : Nat} {off : Int} {x y : Int32} {β : Type} {A B : Option β} {o : β} (C : Cx κ G cc own nL) (d : bk cc pc n t (.if_icmp .gt off) off) (kt : A = some o → V κ G Q E σ ks t lv st) (kf : B = some o → V κ G Q E σ ks n lv st) : (if y < x then A else B) = some o → V κ G Q E σ ks pc lv (.int y :: .int x :: st) :=
  R_icmp_gt C d (fun z h => kt (by rw [if_pos z] at h; exact h)) (fun z h => kf (by rw [if_neg (by simpa using z)] at h; exact h))
theorem R_if_le {t : Nat} {off : Int} {x : Int32} (C : Cx κ G cc own nL) (d : bk cc pc n t (.ifCond .le off) off) (kt : x ≤ 0 → P → V κ G Q E σ ks t lv st) (kf : ¬ x ≤ 0 → P → V κ G Q E σ ks n lv st) : P → V κ G Q E σ ks pc lv (.int x :: st) := by
  obtain ⟨p, l, e, R, s, m, args, below, meth, c⟩ := κ
  obtain ⟨hx, hb, hml, hown, hlk, hK, hT, hZ, hG⟩ := C
  obtain ⟨d, rfl, ht⟩ := d
  intro q H locs ls hz hP hS hl
  exact lv_if_le hx hb d ht (fun z => kt z q H locs ls hz hP hS hl) (fun z => kf z q H locs ls hz hP hS hl)
theorem B_if_le {t : Nat} {off : Int} {x : Int32} {β : Type} {A B : Option β} {o : β} (C : Cx κ G cc own nL) (d : bk cc pc n t (.ifCond .le off) off) (kt : A = some o → V κ G Q E σ ks t lv st) (kf : B = some o → V κ G Q E σ ks n lv st) : (if x ≤ 0 then A else B) = some o → V κ G Q E σ ks pc lv (.int x :: st) :=
  R_if_le C d (fun z h => kt (by rw [if_pos z] at h; exact h)) (fun z h => kf (by rw [if_neg (by simpa using z)] at h; exact h))
theorem R_icmp_le {t : Nat} {off : Int} {x y : Int32} (C : Cx κ G cc own nL) (d : bk cc pc n t (.if_icmp .le off) off) (kt : x ≤ y → P → V κ G Q E σ ks t lv st) (kf : ¬ x ≤ y → P → V κ G Q E σ ks n lv st) : P → V κ G Q E σ ks pc lv (.int y :: .int x :: st) := by
  obtain ⟨p, l, e, R, s, m, args, below, meth, c⟩ := κ
  obtain ⟨hx, hb, hml, hown, hlk, hK, hT, hZ, hG⟩ := C
  obtain ⟨d, rfl, ht⟩ := d
  intro q H locs ls hz hP hS hl
  exact lv_icmp_le hx hb d ht (fun z => kt z q H locs ls hz hP hS hl) (fun z => kf z q H locs ls hz hP hS hl)
theorem B_icmp_le {t : Nat} {off : Int} {x y : Int32} {β : Type} {A B : Option β} {o : β} (C : Cx κ G cc own nL) (d : bk cc pc n t (.if_icmp .le off) off) (kt : A = some o → V κ G Q E σ ks t lv st) (kf : B = some o → V κ G Q E σ ks n lv st) : (if x ≤ y then A else B) = some o → V κ G Q E σ ks pc lv (.int y :: .int x :: st) :=
  R_icmp_le C d (fun z h => kt (by rw [if_pos z] at h; exact h)) (fun z h => kf (by rw [if_neg (by simpa using z)] at h; exact h))
theorem R_geti {idx ci f : Nat} {fin : Bool} {a : Nat} (C : Cx κ G cc own nL) (F : FL own idx ci f fin) (hf : isr (tyc ci f) = false) (ha : cd E a = ci) (d : dk cc pc n (.getfield idx) 3) (k : P → V κ G Q E σ ks n lv (.int (gi σ a f) :: st)) : P → V κ G Q E σ ks pc lv (.ref (G.1 + a) :: st) := by
  obtain ⟨p, l, e, R, s, m, args, below, meth, c⟩ := κ
  obtain ⟨hx, hb, hml, hown, hlk, hK, hT, hZ, hG⟩ := C
  obtain ⟨d, rfl⟩ := d
  obtain ⟨Cn, T, N, ⟨I1, I2, I3, I4, I5, I6, I7⟩, hk, hfi, hw⟩ := F
  intro q H locs ls hz hP hS hl
  have he := el_o (G := G) (σ := σ) ha I6
  have hv : (fvs G.1 E σ ci a)[f]? = some (.int (gi σ a f)) := by rw [fvs_at (by rw [I5]; exact hk)]; simp [fv, hf]
  rcases hw with hw | hw
  · exact va_get hx hb (tb_hts hT _) I2 hown hK hP a he I1 f hk (hT _ hw rfl _) (fun _ h => h) hv d (k q H locs ls hz hP hS hl)
  · exact va_getN hx hb (tb_hts hT _) I2 hown hK hP a he I1 f hk (hT _ hw rfl _) (fun _ h => h) hv d (k q H locs ls hz hP hS hl)
theorem R_getr {idx ci f : Nat} {fin : Bool} {a x : Nat} (C : Cx κ G cc own nL) (F : FL own idx ci f fin) (hf : isr (tyc ci f) = true) (ha : cd E a = ci) (hr : rf E a f = some x) (d : dk cc pc n (.getfield idx) 3) (k : P → V κ G Q E σ ks n lv (.ref (G.1 + x) :: st)) : P → V κ G Q E σ ks pc lv (.ref (G.1 + a) :: st) := by
  obtain ⟨p, l, e, R, s, m, args, below, meth, c⟩ := κ
  obtain ⟨hx, hb, hml, hown, hlk, hK, hT, hZ, hG⟩ := C
  obtain ⟨d, rfl⟩ := d
  obtain ⟨Cn, T, N, ⟨I1, I2, I3, I4, I5, I6, I7⟩, hk, hfi, hw⟩ := F
  intro q H locs ls hz hP hS hl
  have he := el_o (G := G) (σ := σ) ha I6
  have hv : (fvs G.1 E σ ci a)[f]? = some (.ref (G.1 + x)) := by rw [fvs_at (by rw [I5]; exact hk)]; simp [fv, hf, hr, va_rf]
  rcases hw with hw | hw
  · exact va_get hx hb (tb_hts hT _) I2 hown hK hP a he I1 f hk (hT _ hw rfl _) (fun _ h => h) hv d (k q H locs ls hz hP hS hl)
  · exact va_getN hx hb (tb_hts hT _) I2 hown hK hP a he I1 f hk (hT _ hw rfl _) (fun _ h => h) hv d (k q H locs ls hz hP hS hl)
theorem R_puti {idx ci f : Nat} {a : Nat} {v : Int32} (C : Cx κ G cc own nL) (F : FL own idx ci f false) (hf : isr (tyc ci f) = false) (ha : cd E a = ci) (hn : narrow (tyc ci f) (.int v) = .int v) (hft : fits (tyc ci f) (.int v) = true) (d : dk cc pc n (.putfield idx) 3) (k : P → V κ G Q E (si σ a f v) (false, u) n lv st) : P → V κ G Q E σ (false, u) pc lv (.int v :: .ref (G.1 + a) :: st) := by
  obtain ⟨p, l, e, R, s, m, args, below, meth, c⟩ := κ
  obtain ⟨hx, hb, hml, hown, hlk, hK, hT, hZ, hG⟩ := C
  obtain ⟨d, rfl⟩ := d
  obtain ⟨Cn, T, N, ⟨I1, I2, I3, I4, I5, I6, I7⟩, hk, hfi, hw⟩ := F
  intro q H locs ls hz hP hS hl
  have he := el_o (G := G) (σ := σ) ha I6
  have hd := I3 f hk
  rcases hw with hw | hw
  · refine va_put hx hb (tb_hts hT _) I2 (tyc ci) I3 I4 hown hK hP ws_D hS a he I1 f hk (hT _ hw rfl _) (fun _ h => h) hfi hd hn hft (by rw [fvs_len, I5]; exact hk) d (fun H1 locs1 hP1 hD1 hS1 => ?_)
    rw [ws_put ha I6 hf] at hP1
    exact k q H1 locs1 ls (fun h => by cases h) hP1 hS1 hl
  · refine va_putN hx hb (tb_hts hT _) I2 (tyc ci) I3 I4 hown hK hP ws_D hS a he I1 f hk (hT _ hw rfl _) (fun _ h => h) hfi hd hn hft (by rw [fvs_len, I5]; exact hk) d (fun H1 locs1 hP1 hD1 hS1 => ?_)
    rw [ws_put ha I6 hf] at hP1
    exact k q H1 locs1 ls (fun h => by cases h) hP1 hS1 hl
theorem R_iald {a : Nat} {i : Int32} (C : Cx κ G cc own nL) (ha : cd E a = 100) (hi : vp_in i (ln E a)) (d : dk cc pc n .iaload 1) (k : P → V κ G Q E σ ks n lv (.int (gi σ a i.toNatClampNeg) :: st)) : P → V κ G Q E σ ks pc lv (.int i :: .ref (G.1 + a) :: st) := by
  obtain ⟨p, l, e, R, s, m, args, below, meth, c⟩ := κ
  obtain ⟨hx, hb, hml, hown, hlk, hK, hT, hZ, hG⟩ := C
  obtain ⟨d, rfl⟩ := d
  intro q H locs ls hz hP hS hl
  exact va_iald hx hb hK hP a 0 (el_a (G := G) (σ := σ) ha (by omega) (by omega)) rfl hi d (k q H locs ls hz hP hS hl)
theorem R_zald {a : Nat} {i : Int32} (C : Cx κ G cc own nL) (ha : cd E a = 101) (hi : vp_in i (ln E a)) (d : dk cc pc n .baload 1) (k : P → V κ G Q E σ ks n lv (.int (gi σ a i.toNatClampNeg) :: st)) : P → V κ G Q E σ ks pc lv (.int i :: .ref (G.1 + a) :: st) := by
  obtain ⟨p, l, e, R, s, m, args, below, meth, c⟩ := κ
  obtain ⟨hx, hb, hml, hown, hlk, hK, hT, hZ, hG⟩ := C
  obtain ⟨d, rfl⟩ := d
  intro q H locs ls hz hP hS hl
  exact va_zald hx hb hK hP a 1 (el_a (G := G) (σ := σ) ha (by omega) (by omega)) rfl hi d (k q H locs ls hz hP hS hl)
theorem R_bald {a : Nat} {i : Int32} (C : Cx κ G cc own nL) (ha : cd E a = 102) (hi : vp_in i (ln E a)) (d : dk cc pc n .baload 1) (k : P → V κ G Q E σ ks n lv (.int (gi σ a i.toNatClampNeg) :: st)) : P → V κ G Q E σ ks pc lv (.int i :: .ref (G.1 + a) :: st) := by
  obtain ⟨p, l, e, R, s, m, args, below, meth, c⟩ := κ
  obtain ⟨hx, hb, hml, hown, hlk, hK, hT, hZ, hG⟩ := C
  obtain ⟨d, rfl⟩ := d
  intro q H locs ls hz hP hS hl
  exact va_bald hx hb hK hP a 2 (el_a (G := G) (σ := σ) ha (by omega) (by omega)) rfl hi d (k q H locs ls hz hP hS hl)
theorem R_lald {a : Nat} {i : Int32} (C : Cx κ G cc own nL) (ha : cd E a = 103) (hi : vp_in i (ln E a)) (d : dk cc pc n .laload 1) (k : P → V κ G Q E σ ks n lv (.long (gl σ a i.toNatClampNeg) :: st)) : P → V κ G Q E σ ks pc lv (.int i :: .ref (G.1 + a) :: st) := by
  obtain ⟨p, l, e, R, s, m, args, below, meth, c⟩ := κ
  obtain ⟨hx, hb, hml, hown, hlk, hK, hT, hZ, hG⟩ := C
  obtain ⟨d, rfl⟩ := d
  intro q H locs ls hz hP hS hl
  exact va_lald hx hb hK hP a 3 (el_a (G := G) (σ := σ) ha (by omega) (by omega)) rfl hi d (k q H locs ls hz hP hS hl)
theorem R_aald4 {a x : Nat} {i : Int32} (C : Cx κ G cc own nL) (ha : cd E a = 104) (hi : vp_in i (ln E a)) (hr : rf E a i.toNatClampNeg = some x) (d : dk cc pc n .aaload 1) (k : P → V κ G Q E σ ks n lv (.ref (G.1 + x) :: st)) : P → V κ G Q E σ ks pc lv (.int i :: .ref (G.1 + a) :: st) := by
  obtain ⟨p, l, e, R, s, m, args, below, meth, c⟩ := κ
  obtain ⟨hx, hb, hml, hown, hlk, hK, hT, hZ, hG⟩ := C
  obtain ⟨d, rfl⟩ := d
  intro q H locs ls hz hP hS hl
  refine va_aldq hx hb hK hP a 4 (el_a (G := G) (σ := σ) ha (by omega) (by omega)) rfl hi d ?_
  simp only [hr, Option.map_some, va_rf]
  exact k q H locs ls hz hP hS hl
theorem R_aald5 {a x : Nat} {i : Int32} (C : Cx κ G cc own nL) (ha : cd E a = 105) (hi : vp_in i (ln E a)) (hr : rf E a i.toNatClampNeg = some x) (d : dk cc pc n .aaload 1) (k : P → V κ G Q E σ ks n lv (.ref (G.1 + x) :: st)) : P → V κ G Q E σ ks pc lv (.int i :: .ref (G.1 + a) :: st) := by
  obtain ⟨p, l, e, R, s, m, args, below, meth, c⟩ := κ
  obtain ⟨hx, hb, hml, hown, hlk, hK, hT, hZ, hG⟩ := C
  obtain ⟨d, rfl⟩ := d
  intro q H locs ls hz hP hS hl
  refine va_aldq hx hb hK hP a 5 (el_a (G := G) (σ := σ) ha (by omega) (by omega)) rfl hi d ?_
  simp only [hr, Option.map_some, va_rf]
  exact k q H locs ls hz hP hS hl
theorem R_iast {a : Nat} {i : Int32} {v : Int32} (C : Cx κ G cc own nL) (ha : cd E a = 100) (hi : vp_in i (ln E a)) (d : dk cc pc n .iastore 1) (k : P → V κ G Q E (si σ a i.toNatClampNeg v) (false, u) n lv st) : P → V κ G Q E σ (false, u) pc lv (.int v :: .int i :: .ref (G.1 + a) :: st) := by
  obtain ⟨p, l, e, R, s, m, args, below, meth, c⟩ := κ
  obtain ⟨hx, hb, hml, hown, hlk, hK, hT, hZ, hG⟩ := C
  obtain ⟨d, rfl⟩ := d
  intro q H locs ls hz hP hS hl
  refine va_iast hx hb hK hP ws_D hS a 0 (el_a (G := G) (σ := σ) ha (by omega) (by omega)) rfl hi d (fun H1 locs1 hP1 hD1 hS1 => ?_)
  have e := ws_arr (G := G) (σ := σ) (σ' := si σ a i.toNatClampNeg v) ha (by omega) (by omega) (fun x hx => by simp [si, hx])
  have e2 : ars G.1 E (si σ a i.toNatClampNeg v) 100 a = .inl (upd (σ.1 a) i.toNatClampNeg v) := by simp [ars, si]
  rw [e2] at e
  rw [e] at hP1
  exact k q H1 locs1 ls (fun h => by cases h) hP1 hS1 hl
theorem R_zast {a : Nat} {i : Int32} {v : Int32} (C : Cx κ G cc own nL) (ha : cd E a = 101) (hi : vp_in i (ln E a)) (d : dk cc pc n .bastore 1) (k : P → V κ G Q E (si σ a i.toNatClampNeg (vp_nar .boolean v)) (false, u) n lv st) : P → V κ G Q E σ (false, u) pc lv (.int v :: .int i :: .ref (G.1 + a) :: st) := by
  obtain ⟨p, l, e, R, s, m, args, below, meth, c⟩ := κ
  obtain ⟨hx, hb, hml, hown, hlk, hK, hT, hZ, hG⟩ := C
  obtain ⟨d, rfl⟩ := d
  intro q H locs ls hz hP hS hl
  refine va_zast hx hb hK hP ws_D hS a 1 (el_a (G := G) (σ := σ) ha (by omega) (by omega)) rfl hi d (fun H1 locs1 hP1 hD1 hS1 => ?_)
  have e := ws_arr (G := G) (σ := σ) (σ' := si σ a i.toNatClampNeg (vp_nar .boolean v)) ha (by omega) (by omega) (fun x hx => by simp [si, hx])
  have e2 : ars G.1 E (si σ a i.toNatClampNeg (vp_nar .boolean v)) 101 a = .inl (upd (σ.1 a) i.toNatClampNeg (vp_nar .boolean v)) := by simp [ars, si]
  rw [e2] at e
  rw [e] at hP1
  exact k q H1 locs1 ls (fun h => by cases h) hP1 hS1 hl
theorem R_bast {a : Nat} {i : Int32} {v : Int32} (C : Cx κ G cc own nL) (ha : cd E a = 102) (hi : vp_in i (ln E a)) (d : dk cc pc n .bastore 1) (k : P → V κ G Q E (si σ a i.toNatClampNeg (vp_nar .byte v)) (false, u) n lv st) : P → V κ G Q E σ (false, u) pc lv (.int v :: .int i :: .ref (G.1 + a) :: st) := by
  obtain ⟨p, l, e, R, s, m, args, below, meth, c⟩ := κ
  obtain ⟨hx, hb, hml, hown, hlk, hK, hT, hZ, hG⟩ := C
  obtain ⟨d, rfl⟩ := d
  intro q H locs ls hz hP hS hl
  refine va_bast hx hb hK hP ws_D hS a 2 (el_a (G := G) (σ := σ) ha (by omega) (by omega)) rfl hi d (fun H1 locs1 hP1 hD1 hS1 => ?_)
  have e := ws_arr (G := G) (σ := σ) (σ' := si σ a i.toNatClampNeg (vp_nar .byte v)) ha (by omega) (by omega) (fun x hx => by simp [si, hx])
  have e2 : ars G.1 E (si σ a i.toNatClampNeg (vp_nar .byte v)) 102 a = .inl (upd (σ.1 a) i.toNatClampNeg (vp_nar .byte v)) := by simp [ars, si]
  rw [e2] at e
  rw [e] at hP1
  exact k q H1 locs1 ls (fun h => by cases h) hP1 hS1 hl
theorem R_last {a : Nat} {i : Int32} {v : Int64} (C : Cx κ G cc own nL) (ha : cd E a = 103) (hi : vp_in i (ln E a)) (d : dk cc pc n .lastore 1) (k : P → V κ G Q E (sl σ a i.toNatClampNeg v) (false, u) n lv st) : P → V κ G Q E σ (false, u) pc lv (.long v :: .int i :: .ref (G.1 + a) :: st) := by
  obtain ⟨p, l, e, R, s, m, args, below, meth, c⟩ := κ
  obtain ⟨hx, hb, hml, hown, hlk, hK, hT, hZ, hG⟩ := C
  obtain ⟨d, rfl⟩ := d
  intro q H locs ls hz hP hS hl
  refine va_last hx hb hK hP ws_D hS a 3 (el_a (G := G) (σ := σ) ha (by omega) (by omega)) rfl hi d (fun H1 locs1 hP1 hD1 hS1 => ?_)
  have e := ws_arr (G := G) (σ := σ) (σ' := sl σ a i.toNatClampNeg v) ha (by omega) (by omega) (fun x hx => by simp [sl, hx])
  have e2 : ars G.1 E (sl σ a i.toNatClampNeg v) 103 a = .inr (.inl (vp_updL (σ.2 a) i.toNatClampNeg v)) := by simp [ars, sl]
  rw [e2] at e
  rw [e] at hP1
  exact k q H1 locs1 ls (fun h => by cases h) hP1 hS1 hl
theorem R_alen {a c2 : Nat} (C : Cx κ G cc own nL) (ha : cd E a = c2) (hc : 100 ≤ c2) (hc2 : c2 < 106) (d : dk cc pc n .arraylength 1) (k : P → V κ G Q E σ ks n lv (.int (nI (ln E a)) :: st)) : P → V κ G Q E σ ks pc lv (.ref (G.1 + a) :: st) := by
  obtain ⟨p, l, e, R, s, m, args, below, meth, c⟩ := κ
  obtain ⟨hx, hb, hml, hown, hlk, hK, hT, hZ, hG⟩ := C
  obtain ⟨d, rfl⟩ := d
  intro q H locs ls hz hP hS hl
  have hh := el_a (G := G) (σ := σ) ha (by omega) (by omega)
  have ht : ∃ (t0 : Nat) (ty : FieldType), (tyL G.2.2.2.1)[t0]? = some (G.2.2.2.1 (c2 - 100), ty) := by
    rcases (show c2 = 100 ∨ c2 = 101 ∨ c2 = 102 ∨ c2 = 103 ∨ c2 = 104 ∨ c2 = 105 by omega) with rfl | rfl | rfl | rfl | rfl | rfl
    · exact ⟨0, _, rfl⟩
    · exact ⟨1, _, rfl⟩
    · exact ⟨2, _, rfl⟩
    · exact ⟨3, _, rfl⟩
    · exact ⟨4, _, rfl⟩
    · exact ⟨5, _, rfl⟩
  obtain ⟨t0, ty, ht⟩ := ht
  exact va_alen hx hb hK hP a t0 hh ht rfl d (k q H locs ls hz hP hS hl)
theorem R_acopy {idx a b : Nat} {sp dp m0 : Int32} (C : Cx κ G cc own nL) (hw : Cond.methodLink own idx arraycopyName ∈ lw_tbl) (ha : cd E a = 100) (hb2 : cd E b = 100) (hh : (0 ≤ sp ∧ 0 ≤ dp ∧ 0 ≤ m0) ∧ sp.toNatClampNeg + m0.toNatClampNeg ≤ ln E a ∧ dp.toNatClampNeg + m0.toNatClampNeg ≤ ln E b) (hR : 1 ≤ (kR κ).frames ∧ (st.map fun v => v.category).sum + (nativeFrameWords "java/lang/System" "arraycopy" 5 + 11) ≤ (kR κ).locals) (d : dk cc pc n (.invokestatic idx) 3) (k : P → V κ G Q E (sc σ a b sp.toNatClampNeg dp.toNatClampNeg m0.toNatClampNeg) (false, u) n lv st) : P → V κ G Q E σ (false, u) pc lv (.int m0 :: .int dp :: .ref (G.1 + b) :: .int sp :: .ref (G.1 + a) :: st) := by
  obtain ⟨p, l, e, R, s, m, args, below, meth, c⟩ := κ
  obtain ⟨hx, hb, hml, hown, hlk, hK, hT, hZ, hG⟩ := C
  obtain ⟨d, rfl⟩ := d
  obtain ⟨⟨h1, h2, h3⟩, h4, h5⟩ := hh
  intro q H locs ls hz hP hS hl
  refine va_copyi hx hb hl.1.symm hown (hT _ hw rfl _) (hT _ (by decide +kernel) rfl _) (hT _ (by decide +kernel) rfl _) (hT _ (by decide +kernel) rfl _) hK hP ws_D hS a b 0 0 (el_a (G := G) (σ := σ) ha (by omega) (by omega)) (el_a (G := G) (σ := σ) hb2 (by omega) (by omega)) rfl rfl rfl (Int32.not_lt.mpr h1) (Int32.not_lt.mpr h2) (Int32.not_lt.mpr h3) h4 h5 (fun _ _ => rfl) hR.1 hR.2 d (fun H1 locs1 hP1 hD1 hS1 => ?_)
  have e := ws_arr (G := G) (σ := σ) (σ' := sc σ a b sp.toNatClampNeg dp.toNatClampNeg m0.toNatClampNeg) hb2 (by omega) (by omega) (fun x hx => by simp [sc, hx])
  have e2 : ars G.1 E (sc σ a b sp.toNatClampNeg dp.toNatClampNeg m0.toNatClampNeg) 100 b = .inl (va_cpy (σ.1 a) (σ.1 b) sp.toNatClampNeg dp.toNatClampNeg m0.toNatClampNeg) := by simp [ars, sc]
  rw [e2] at e
  rw [e] at hP1
  exact k q H1 locs1 ls (fun h => by cases h) hP1 hS1 hl
theorem R_mmax {idx : Nat} {x y : Int32} (C : Cx κ G cc own nL) (hw : Cond.methodLink own idx Lib.Math.max.name ∈ lw_tbl) (hR : 1 ≤ (kR κ).frames ∧ (st.map fun v => v.category).sum + 13 ≤ (kR κ).locals ∧ ks.2.1 ≤ (kR κ).cells ∧ ks.2.2 ≤ (kR κ).slots) (d : dk cc pc n (.invokestatic idx) 3) (k : P → V κ G Q E σ ks n lv (.int (imax x y) :: st)) : P → V κ G Q E σ ks pc lv (.int y :: .int x :: st) := by
  obtain ⟨p, l, e, R, s, m, args, below, meth, c⟩ := κ
  obtain ⟨hx, hb, hml, hown, hlk, hK, hT, hZ, hG⟩ := C
  obtain ⟨d, rfl⟩ := d
  intro q H locs ls hz hP hS hl
  exact va_mmax hx hb hl.1.symm hown (hT _ hw rfl _) (hT _ (by decide +kernel) rfl _) (hT _ (by decide +kernel) rfl _) (hT _ (by decide +kernel) rfl _) hR.1 hR.2.1 hR.2.2.1 hR.2.2.2 d (k q H locs ls hz hP hS hl)
theorem R_mmin {idx : Nat} {x y : Int32} (C : Cx κ G cc own nL) (hw : Cond.methodLink own idx Lib.Math.min.name ∈ lw_tbl) (hR : 1 ≤ (kR κ).frames ∧ (st.map fun v => v.category).sum + 13 ≤ (kR κ).locals ∧ ks.2.1 ≤ (kR κ).cells ∧ ks.2.2 ≤ (kR κ).slots) (d : dk cc pc n (.invokestatic idx) 3) (k : P → V κ G Q E σ ks n lv (.int (imin x y) :: st)) : P → V κ G Q E σ ks pc lv (.int y :: .int x :: st) := by
  obtain ⟨p, l, e, R, s, m, args, below, meth, c⟩ := κ
  obtain ⟨hx, hb, hml, hown, hlk, hK, hT, hZ, hG⟩ := C
  obtain ⟨d, rfl⟩ := d
  intro q H locs ls hz hP hS hl
  exact va_mmin hx hb hl.1.symm hown (hT _ hw rfl _) (hT _ (by decide +kernel) rfl _) (hT _ (by decide +kernel) rfl _) (hT _ (by decide +kernel) rfl _) hR.1 hR.2.1 hR.2.2.1 hR.2.2.2 d (k q H locs ls hz hP hS hl)
theorem stt_moved {s U : State} {H : Heap} {locs : List Loc} (h : Stt G s s.heap) (hvm : s.vm.Alike U.vm) (hS : va_S (GA G) s.heap H locs) : Stt G U H := fun j hj => ⟨((h j hj).1.moved hvm).kept hS.2.1, ((h j hj).2.moved hvm).kept hS.2.1⟩
theorem rep_of {s U : State} {H : Heap} {locs : List Loc} (hG : G.1 ≤ s.heap.size) (hK : va_K (GD G) vwCl (tyL G.2.2.2.1) s) (hT : TbAll s) (hZ : Stt G s s.heap) (hP : va_P (GD G) vwCl (wsOf G E σ) H) (hS : va_S (GA G) s.heap H locs) (hU : U.heap = H) (hW : s.WarmedH U.vm) : RepS G E σ U :=
  ⟨by rw [hU]; exact Nat.le_trans hG hS.1, by rw [hU]; exact hP, va_K.moved hW.alike hK, tb_warm hT hW, by rw [hU]; exact stt_moved hZ hW.alike hS⟩
theorem R_iret {σ1 : Sg} {r r1 : Int32} (C : Cx κ G cc own nL) (hr : (kT κ).sig.returnType = some .int) (d : dk cc pc n .ireturn 1) : some (r, σ) = some (r1, σ1) → V κ G (MQ (kB κ) (QC G E (some (.int r1)) σ1) (kA κ) (kS κ) ks.2.1 ks.2.2 (GA G)) E σ ks pc lv [.int r] := by
  obtain ⟨p, l, e, R, s, m, args, below, meth, c⟩ := κ
  obtain ⟨hx, hb, hml, hown, hlk, hK, hT, hZ, hG⟩ := C
  obtain ⟨d, -⟩ := d
  intro q
  cases q
  intro H locs ls hz hP hS hl
  exact W.iret hx hb hr (fun t ht hW => ⟨rfl, rep_of hG hK hT hZ hP hS ht hW, hS.F ht⟩) hS.2.2 d hlk
theorem R_zret {σ1 : Sg} {r r1 : Int32} (C : Cx κ G cc own nL) (hr : (kT κ).sig.returnType = some .boolean) (hb0 : r = 0 ∨ r = 1) (d : dk cc pc n .ireturn 1) : some (r, σ) = some (r1, σ1) → V κ G (MQ (kB κ) (QC G E (some (.int r1)) σ1) (kA κ) (kS κ) ks.2.1 ks.2.2 (GA G)) E σ ks pc lv [.int r] := by
  obtain ⟨p, l, e, R, s, m, args, below, meth, c⟩ := κ
  obtain ⟨hx, hb, hml, hown, hlk, hK, hT, hZ, hG⟩ := C
  obtain ⟨d, -⟩ := d
  intro q
  cases q
  intro H locs ls hz hP hS hl
  exact W.zret hx hb hr (by rcases hb0 with rfl | rfl <;> rfl) (fun t ht hW => ⟨rfl, rep_of hG hK hT hZ hP hS ht hW, hS.F ht⟩) hS.2.2 d hlk
theorem R_lret {σ1 : Sg} {r r1 : Int64} (C : Cx κ G cc own nL) (hr : (kT κ).sig.returnType = some .long) (d : dk cc pc n .lreturn 1) : some (r, σ) = some (r1, σ1) → V κ G (MQ (kB κ) (QC G E (some (.long r1)) σ1) (kA κ) (kS κ) ks.2.1 ks.2.2 (GA G)) E σ ks pc lv [.long r] := by
  obtain ⟨p, l, e, R, s, m, args, below, meth, c⟩ := κ
  obtain ⟨hx, hb, hml, hown, hlk, hK, hT, hZ, hG⟩ := C
  obtain ⟨d, -⟩ := d
  intro q
  cases q
  intro H locs ls hz hP hS hl
  exact W.lret hx hb hr (fun t ht hW => ⟨rfl, rep_of hG hK hT hZ hP hS ht hW, hS.F ht⟩) hS.2.2 d hlk
theorem R_vret {σ1 : Sg} (C : Cx κ G cc own nL) (hr : (kT κ).sig.returnType = none) (d : dk cc pc n .return_ 1) : some σ = some σ1 → V κ G (MQ (kB κ) (QC G E none σ1) (kA κ) (kS κ) ks.2.1 ks.2.2 (GA G)) E σ ks pc lv [] := by
  obtain ⟨p, l, e, R, s, m, args, below, meth, c⟩ := κ
  obtain ⟨hx, hb, hml, hown, hlk, hK, hT, hZ, hG⟩ := C
  obtain ⟨d, -⟩ := d
  intro q
  cases q
  intro H locs ls hz hP hS hl
  exact W.vret hx hb hr (fun t ht hW => ⟨rfl, rep_of hG hK hT hZ hP hS ht hW, hS.F ht⟩) hS.2.2 d hlk
theorem rep_blind {av : List Value} : FrameBlind (va_Pc av (RepS G E σ)) := by
  intro a U g mk h
  obtain ⟨h1, h0, h2, h3, h4, h5⟩ := h
  exact ⟨h1, h0, h2, va_K.moved (u := U) (U := U.calling g mk a) (Vm.Alike.refl U.vm) h3, tb_warm (s := U) (U := U.calling g mk a) h4 (State.WarmedH.refl U), fun j hj => ⟨(h5 j hj).1.moved (Vm.Alike.refl U.vm), (h5 j hj).2.moved (Vm.Alike.refl U.vm)⟩⟩
theorem V_run {rv : Option Value} {σ1 : Sg} {rest : List Value} (hG : G.1 ≤ (kS κ).heap.size) (hx : (kP κ).tables.exec = Jvm.exec)
    (run : ∀ (H : Heap) (locs : List Loc) (ls : Array Slot), va_P (GD G) vwCl (wsOf G E σ) H → va_S (GA G) (kS κ).heap H locs → ls.size = (kC κ).maxLocals → ∃ a0 : Array Value, va_Run (kP κ) (kL κ) (kE κ) (kR κ) (kS κ) (kM κ) (kA κ) (kB κ) (kT κ) (kC κ) H locs u.1 u.2 0 0 (F0 (kM κ) pc ls st) rest (QC G E rv σ1 a0) (GA G))
    (hn : n = pc + 3) (k : V κ G Q E σ1 (false, u) n lv (rv.toList ++ rest)) : V κ G Q E σ (false, u) pc lv st := by
  subst hn
  intro H locs ls hz hP hS hl T hT X
  obtain ⟨a0, hrun⟩ := run H locs ls hP hS hl.1
  obtain ⟨v, st0, t, T1, L, h0, X1, hL, e1, e2, ⟨hv, hrep, hF⟩, go⟩ := hrun T hT X
  cases hv
  have hP1 : va_P (GD G) vwCl (wsOf G E σ1) T1.heap := by rw [e1]; exact hrep.2.1
  have hS1 : va_S (GA G) (kS κ).heap T1.heap (locs ++ L) := by
    refine ⟨?_, fun q h1 h2 => ?_, fun q hq => ?_⟩
    · rw [e1]; exact Nat.le_trans hS.1 (by rw [← h0]; exact hF.1)
    · rw [e1, hF.2 q (by rw [h0]; exact Nat.lt_of_lt_of_le h1 hS.1) h2, h0]; exact hS.2.1 q h1 h2
    · rcases List.mem_append.mp hq with h | h
      · exact hS.2.2 q h
      · exact hL q h
  obtain ⟨t2, a1, b1⟩ := k T1.heap (locs ++ L) ls (fun h => by cases h) hP1 hS1 hl T1 rfl X1
  exact ⟨t2, go t2 a1, b1⟩
theorem mb_ws {y : MethodName} {bytes : ByteArray} {maxL n0 : Nat} {ret : Option FieldType} {s : State} (hT : TbAll s) (M : MBo y bytes maxL ret n0) : ∀ w ∈ [Cond.code y bytes maxL ret], ∀ (a' : Array Value) (U : State), s.WarmedH U.vm → w.before a' U = true := by
  intro w hw a' U hW
  have e : w = Cond.code y bytes maxL ret := by simpa using hw
  subst e
  exact tb_warm hT hW _ M.2.1 rfl a'
theorem R_callV {idx ci a n0 maxL : Nat} {y : MethodName} {bytes : ByteArray} {ret : Option FieldType} {rm : Room} {rv : Option Value} {σ1 : Sg} (As rest : List Value) (C : Cx κ G cc own nL) (M : MV own idx ci y bytes maxL ret n0) (hM : CT (kL κ) y bytes maxL ret rm (.ref (G.1 + a) :: As) G E σ rv σ1) (hrm : rm.cells = 0 ∧ rm.slots = 0 ∧ rm.frames + 1 ≤ (kR κ).frames ∧ 8 + (maxL + 11) + rm.locals ≤ (kR κ).locals ∧ u.1 ≤ (kR κ).cells ∧ u.2 ≤ (kR κ).slots) (ha : cd E a = ci) (hn0 : As.length = n0) (hst : st = As.reverse ++ .ref (G.1 + a) :: rest) (hW : (rest.map fun v => v.category).sum ≤ 8) (d : dk cc pc n (.invokevirtual idx) 3) (k : P → V κ G Q E σ1 (false, u) n lv (rv.toList ++ rest)) : P → V κ G Q E σ (false, u) pc lv st := by
  obtain ⟨p, l, e, R, s, m, args, below, meth, c⟩ := κ
  obtain ⟨hx, hb, hml, hown, hlk, hK, hT, hZ, hG⟩ := C
  obtain ⟨d, rfl⟩ := d
  obtain ⟨M0, ⟨T, N, I1, I2, I3, I4, I5, I6, I7⟩, hins, hsel, hlink⟩ := M
  obtain ⟨r1, r2, r3, r4, r5, r6⟩ := hrm
  intro q
  refine V_run hG hx (fun H locs ls hP hS hsz => ⟨(Value.ref (G.1 + a) :: As).toArray, ?_⟩) rfl (k q)
  have he := el_o (G := G) (σ := σ) ha I6
  have hPre : PreV s H y.cls (G.1 + a) (va_Pc (.ref (G.1 + a) :: As) (RepS G E σ)) As := ⟨rep_blind, va_recv hK hP I1 he, fun U hU hW => ⟨rfl, rep_of hG hK hT hZ hP hS hU hW⟩⟩
  have hlen : ∀ sig, parseMethodDescriptor y.desc = some sig → n0 = sig.parameters.length := fun sig h => by
    have h2 := M0.2.2.2
    rw [h] at h2
    exact (Option.some.inj h2).symm
  rcases hlink with hlink | hlink
  · exact va_runV (Ts := lw_tbl.filter wk) (own := own) ⟨hx, hb, hml, hown, tb_hts hT _⟩ hM ⟨⟨r1, r2, r3, r4, mb_ws hT M0, List.mem_cons_self, hT _ M0.2.1 rfl _, hT _ M0.1 rfl _, M0.2.2.1, hlen, hT _ hlink rfl _⟩, hT _ hins rfl _, hT _ hsel rfl _⟩ hPre rfl hn0 (hsz.trans hml) hst (lv_room hW) d ⟨r5, r6⟩
  · exact va_runVN (Ts := lw_tbl.filter wk) (own := own) ⟨hx, hb, hml, hown, tb_hts hT _⟩ hM ⟨⟨⟨r1, r2, r3, r4, mb_ws hT M0, List.mem_cons_self⟩, hT _ M0.2.1 rfl _, hT _ M0.1 rfl _, M0.2.2.1, hlen, hT _ hlink rfl _⟩, hT _ hins rfl _, hT _ hsel rfl _⟩ hPre rfl hn0 (hsz.trans hml) hst (lv_room hW) d ⟨r5, r6⟩
theorem R_callS {idx n0 maxL : Nat} {y : MethodName} {bytes : ByteArray} {ret : Option FieldType} {rm : Room} {rv : Option Value} {σ1 : Sg} (As rest : List Value) (C : Cx κ G cc own nL) (M : MSo own idx y bytes maxL ret n0) (hM : CT (kL κ) y bytes maxL ret rm As G E σ rv σ1) (hrm : rm.cells = 0 ∧ rm.slots = 0 ∧ rm.frames + 1 ≤ (kR κ).frames ∧ 8 + (maxL + 11) + rm.locals ≤ (kR κ).locals ∧ u.1 ≤ (kR κ).cells ∧ u.2 ≤ (kR κ).slots) (hn0 : As.length = n0) (hst : st = As.reverse ++ rest) (hW : (rest.map fun v => v.category).sum ≤ 8) (d : dk cc pc n (.invokestatic idx) 3) (k : P → V κ G Q E σ1 (false, u) n lv (rv.toList ++ rest)) : P → V κ G Q E σ (false, u) pc lv st := by
  obtain ⟨p, l, e, R, s, m, args, below, meth, c⟩ := κ
  obtain ⟨hx, hb, hml, hown, hlk, hK, hT, hZ, hG⟩ := C
  obtain ⟨d, rfl⟩ := d
  obtain ⟨M0, hsta, hlink⟩ := M
  obtain ⟨r1, r2, r3, r4, r5, r6⟩ := hrm
  intro q
  refine V_run hG hx (fun H locs ls hP hS hsz => ⟨As.toArray, ?_⟩) rfl (k q)
  have hPre : PreS s H (va_Pc As (RepS G E σ)) As := ⟨rep_blind, fun U hU hW => ⟨rfl, rep_of hG hK hT hZ hP hS hU hW⟩⟩
  have hlen : ∀ sig, parseMethodDescriptor y.desc = some sig → n0 = sig.parameters.length := fun sig h => by
    have h2 := M0.2.2.2
    rw [h] at h2
    exact (Option.some.inj h2).symm
  exact va_runS (Ts := lw_tbl.filter wk) (own := own) ⟨hx, hb, hml, hown, tb_hts hT _⟩ hM ⟨⟨r1, r2, r3, r4, mb_ws hT M0, List.mem_cons_self, hT _ M0.2.1 rfl _, hT _ M0.1 rfl _, M0.2.2.1, hlen, hT _ hlink rfl _⟩, hT _ hsta rfl _⟩ hPre rfl hn0 (hsz.trans hml) hst (lv_room hW) d ⟨r5, r6⟩
theorem CT_of {l : Launch} {y : MethodName} {maxL : Nat} {ret : Option FieldType} {rm : Room} {av : List Value} {rv : Option Value} {σ1 : Sg} (hy : plainName y.cls = true) (hl : (lg_sl av).length ≤ maxL) {lv0 : List (Nat × Value)} (hlv : lv_args 0 av = lv0)
    (body : ∀ κ : KT, kL κ = l → kR κ = rm → (kT κ).sig.returnType = ret → Cx κ G cc y.cls maxL → V κ G (MQ (kB κ) (QC G E rv σ1) (kA κ) (kS κ) 0 0 (GA G)) E σ (false, 0, 0) 0 lv0 []) : CT l y cc maxL ret rm av G E σ rv σ1 := by
  refine Met.ofW (cc := cc) (maxL := maxL) (ret := ret) hy rfl ?_
  intro p e s m args below meth c s₁ B hml hv
  obtain ⟨rfl, hle, hP, hK, hT, hZ⟩ := hv
  have hll := lv_entry av (n := maxL) hl
  rw [lg_entry_eq]
  have h := body (p, l, e, (headSpec [Cond.code y cc maxL ret] rm).room, s, m, av.toArray, below, meth, c) rfl rfl B.returns ⟨B.exec, B.bytes, hml, findClass_of_methodNamed B.named, B.notSynchronized, hK, hT, hZ, hle⟩
  rw [← hlv] at h
  exact h s.heap [] _ (fun h => by cases h) hP va_S.rf (by rw [hml]; exact hll)
end RW
