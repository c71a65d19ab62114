/-! rows for what makes cells: only constructors do -/
theorem R_bc {β : Type} {X : Option (En × Sg)} {f : En → Sg → Option β} {o : β} {W : Prop} (h : ∀ e s, X = some (e, s) → f e s = some o → W) : bc X f = some o → W := by
  unfold bc; split
  · next r => exact h r.1 r.2 rfl
  · intro q; cases q
def Sx (G : Gl) (U : State) (H : Heap) : Prop := va_AO "RunTapes$Tape" U ∧ va_AO "RunTapes$State" U ∧ va_Nw (.castable "[I" "java/lang/Cloneable") U ∧ ∃ cell : Cell, H[G.2.2.2.2 0]? = some cell ∧ cell.cls = G.2.2.2.1 0 ∧ cell.slots = (vp_cell (G.2.2.2.1 0) (6, .inl (stv 0))).slots ∧ cell.vm.isStatics = false ∧ cell.vm ≠ .unknown ∧ ¬ GA G (G.2.2.2.2 0)
def RepC (G : Gl) (E : En) (σ : Sg) (U : State) : Prop := RepS G E σ U ∧ U.heap.size = G.1 + E.1 ∧ Sx G U U.heap
def QI (G : Gl) (E : En) (σ : Sg) : Array Value → State → Outcome → State → Prop := fun _ st o t => o = .returned none ∧ RepC G E σ t ∧ va_F (GA G) st t
def CTI (l : Launch) (y : MethodName) (cc : ByteArray) (maxL : Nat) (rm : Room) (av : List Value) (G : Gl) (E : En) (σ : Sg) (E' : En) (σ' : Sg) (mc ms : Nat) : Prop :=
  Met l y [Cond.code y cc maxL none] rm (va_Pc av (RepC G E σ)) (QI G E' σ') mc ms (GA G)
def Cn (κ : KT) (G : Gl) : Prop := Sx G (kS κ) (kS κ).heap
theorem aw_100 : Cond.arrayClass .int ∈ lw_tbl := (in1 (List.mem_of_getElem? (i := 50) rfl))
theorem aw_101 : Cond.arrayClass .boolean ∈ lw_tbl := (in1 (List.mem_of_getElem? (i := 118) rfl))
theorem aw_102 : Cond.arrayClass .byte ∈ lw_tbl := (in4 (List.mem_of_getElem? (i := 150) rfl))
theorem aw_103 : Cond.arrayClass .long ∈ lw_tbl := (in2 (List.mem_of_getElem? (i := 41) rfl))
section RC
variable {κ : KT} {G : Gl} {Q : State → Prop} {E : En} {σ : Sg} {ks : Bool × Nat × Nat} {c0 s0 : Nat} {cc : ByteArray} {own : String} {nL pc n : Nat} {lv : List (Nat × Value)} {st : List Value} {P : Prop} {β : Type} {o : β}
theorem sx_moved {s U : State} {H : Heap} {locs : List Loc} (h : Sx G s s.heap) (hW : s.WarmedH U.vm) (hS : va_S (GA G) s.heap H locs) : Sx G U H := by
  obtain ⟨h1, h2, h3, cell, h4, h5, h6, h7, h8, h9⟩ := h
  exact ⟨h1.moved hW.alike, h2.moved hW.alike, va_Nw.warmC hW h3, cell, by rw [hS.2.1 _ (Array.getElem?_eq_some_iff.mp h4).1 h9]; exact h4, h5, h6, h7, h8, h9⟩
theorem el_old {E E' : En} {σ σ' : Sg} {a : Nat} (h1 : E'.2.1 a = E.2.1 a) (h2 : ∀ k, E'.2.2 a k = E.2.2 a k) (h3 : σ'.1 a = σ.1 a) (h4 : σ'.2 a = σ.2 a) : el G.1 G.2.2.2.1 E' σ' a = el G.1 G.2.2.2.1 E σ a := by
  unfold el
  rw [h1]
  have e1 : fvs G.1 E' σ' (E.2.1 a).1 a = fvs G.1 E σ (E.2.1 a).1 a := by
    unfold fvs
    apply List.map_congr_left
    intro k _
    unfold fv gi rf
    rw [h2, h3]
  have e2 : ars G.1 E' σ' (E.2.1 a).1 a = ars G.1 E σ (E.2.1 a).1 a := by
    unfold ars rf
    simp only [h2, h3, h4]
  rw [e1, e2]
theorem ws_new {E' : En} {σ' : Sg} (hn : E'.1 = E.1 + 1) (h1 : ∀ a, a ≠ E.1 → E'.2.1 a = E.2.1 a) (h2 : ∀ a, a ≠ E.1 → ∀ k, E'.2.2 a k = E.2.2 a k) (h3 : ∀ a, a ≠ E.1 → σ'.1 a = σ.1 a) (h4 : ∀ a, a ≠ E.1 → σ'.2 a = σ.2 a) : wsOf G E' σ' = wsOf G E σ ++ [(G.1 + E.1, el G.1 G.2.2.2.1 E' σ' E.1)] := by
  unfold wsOf
  rw [hn, List.range_succ, List.map_append]
  congr 1
  apply List.map_congr_left
  intro a ha
  have hne : a ≠ E.1 := Nat.ne_of_lt (List.mem_range.mp ha)
  rw [el_old (h1 a hne) (h2 a hne) (h3 a hne) (h4 a hne)]
/-- a cell more -/
theorem V_more {E' : En} {σ' : Sg} {H H1 : Heap} {locs : List Loc} {s : State} (hn : E'.1 = E.1 + 1) (h1 : ∀ a, a ≠ E.1 → E'.2.1 a = E.2.1 a) (h2 : ∀ a, a ≠ E.1 → ∀ k, E'.2.2 a k = E.2.2 a k) (h3 : ∀ a, a ≠ E.1 → σ'.1 a = σ.1 a) (h4 : ∀ a, a ≠ E.1 → σ'.2 a = σ.2 a)
    (hsz : H.size = G.1 + E.1) (hP : va_P (GD G) vwCl (wsOf G E σ) H) (hS : va_S (GA G) s.heap H locs) (z1 : H1.size = H.size + 1) (o1 : ∀ q, q < H.size → H1[q]? = H[q]?) (he : va_at (GD G) vwCl (G.1 + E.1, el G.1 G.2.2.2.1 E' σ' E.1) H1) : va_P (GD G) vwCl (wsOf G E' σ') H1 ∧ va_S (GA G) s.heap H1 locs ∧ H1.size = G.1 + E'.1 := by
  refine ⟨?_, ⟨Nat.le_trans hS.1 (by omega), fun x a1 a2 => (o1 x (Nat.lt_of_lt_of_le a1 hS.1)).trans (hS.2.1 x a1 a2), hS.2.2⟩, by rw [z1, hsz, hn]; omega⟩
  rw [ws_new (G := G) hn h1 h2 h3 h4]
  have hk : ∀ (k : Nat) (x : Nat × va_E), (wsOf G E σ)[k]? = some x → H1[x.1]? = H[x.1]? := fun k x hx => o1 x.1 ((hP k x hx).lt)
  refine (hP.kept hk).app (fun k x hx => ?_)
  have hz : k < 1 := (List.getElem?_eq_some_iff.mp hx).1
  rw [show k = 0 by omega] at hx
  cases hx
  exact he
theorem nw_1 {c l a : Nat} (h : a ≠ E.1) : (nwE E c l).2.1 a = E.2.1 a := by simp [nwE, h]
theorem nw_2 {c l a k : Nat} (h : a ≠ E.1) : (nwE E c l).2.2 a k = E.2.2 a k := by simp [nwE, h]
theorem zs_1 {a b : Nat} (h : b ≠ a) : (zs σ a).1 b = σ.1 b := by simp [zs, h]
theorem zs_2 {a b : Nat} (h : b ≠ a) : (zs σ a).2 b = σ.2 b := by simp [zs, h]
theorem N_new {idx ci N : Nat} {Cn0 : String} {T : u_T} {f : En → Sg → Option β} (C : Cx κ G cc own nL) (I : CI ci Cn0 T N) (hw1 : Cond.classLink own idx Cn0 ∈ lw_tbl) (hw2 : Cond.instantiable Cn0 N ∈ lw_tbl) (hw3 : Cond.initialized Cn0 ∈ lw_tbl) (hR : c0 + 1 ≤ (kR κ).cells ∧ s0 + N ≤ (kR κ).slots) (hdv : ∀ j, j < N → defaultValue (tyc ci j) = if isr (tyc ci j) = true then .null else .int 0) (d : dk cc pc n (.new idx) 3)
    (k : ∀ e s, f e s = some o → V κ G Q e s (true, c0 + 1, s0 + N) n lv (.ref (G.1 + E.1) :: st)) : nwc E σ ci N f = some o → V κ G Q E σ (true, c0, s0) pc lv st := by
  obtain ⟨p, l, e, R, s, m, args, below, meth, c⟩ := κ
  obtain ⟨hx, hb, hml, hown, hlk, hK, hT, hZ, hG⟩ := C
  obtain ⟨d, rfl⟩ := d
  obtain ⟨I1, I2, I3, I4, I5, I6, I7⟩ := I
  intro q H locs ls hz hP hS hl
  have hsz : H.size = G.1 + E.1 := hz rfl
  have hKn := hK.1 ci _ I1
  refine W.newcK hx hb hown (hT _ hw1 rfl _) (hT _ hw2 rfl _) (hT _ hw3 rfl _) rfl d hR.1 hR.2 hKn.2.1 hsz fun H1 kC hkC e1 z1 o1 => ?_
  have hel : el G.1 G.2.2.2.1 (nwE E ci N) (zs σ E.1) E.1 = .inr (ci, fvs G.1 (nwE E ci N) (zs σ E.1) ci E.1) := by
    unfold el
    have : ((nwE E ci N).2.1 E.1).1 = ci := by simp [nwE]
    rw [this, if_pos I6]
  have hfs : ∀ j, j < N → defaultValue (tyc ci j) = vp_V (fvs G.1 (nwE E ci N) (zs σ E.1) ci E.1) j := by
    intro j hj
    rw [hdv j hj]
    unfold vp_V
    rw [List.getD_eq_getElem?_getD, fvs_at (by rw [I5]; exact hj)]
    unfold fv
    split
    · simp [rf, nwE, va_rf]
    · simp [gi, zs]
  obtain ⟨a1, a2, a3⟩ := V_more (G := G) (E := E) (σ := σ) (E' := nwE E ci N) (σ' := zs σ E.1) rfl (fun a h => nw_1 h) (fun a h k => nw_2 h) (fun a h => zs_1 h) (fun a h => zs_2 h) hsz hP hS (by rw [z1, hsz]) (fun q hq => o1 q (by rw [← hsz]; exact hq)) (by rw [hel]; exact ⟨_, I1, (u_born (tyc ci) (tb_hts hT args) I2 hKn hkC e1 I3).to hfs⟩)
  exact k _ _ q H1 locs ls (fun _ => a3) a1 a2 hl
theorem N_nai {x : Int32} (N : Nat) {f : En → Sg → Option β} (C : Cx κ G cc own nL) (hx0 : x.toNatClampNeg = N) (hx1 : ¬ x < 0) (hby : N * componentBytes (newarray.typeOf .int) ≤ 536870912) (hR : c0 + 1 ≤ (kR κ).cells ∧ s0 + N ≤ (kR κ).slots) (d : dk cc pc n (.newarray .int) 2)
    (k : ∀ e s, f e s = some o → V κ G Q e s (true, c0 + 1, s0 + N) n lv (.ref (G.1 + E.1) :: st)) : nwc E σ 100 N f = some o → V κ G Q E σ (true, c0, s0) pc lv (.int x :: st) := by
  obtain ⟨p, l, e, R, s, m, args, below, meth, c⟩ := κ
  obtain ⟨hx, hb, hml, hown, hlk, hK, hT, hZ, hG⟩ := C
  obtain ⟨d, rfl⟩ := d
  intro q H locs ls hz hP hS hl
  have hsz : H.size = G.1 + E.1 := hz rfl
  refine va_newaK (atype := .int) hx hb (hT _ aw_100 rfl _) rfl d rfl hx1 hx0 hby hR.1 hR.2 hsz fun H1 cA e1 z1 o1 hAr hfc => ?_
  have hcA : cA = G.2.2.2.1 0 := Option.some.inj (hfc.symm.trans (hK.2 0 (G.2.2.2.1 0, .int) rfl).2)
  subst hcA
  have hel : el G.1 G.2.2.2.1 (nwE E 100 N) (zs σ E.1) E.1 = .inl (G.2.2.2.1 0, N, .inl ((zs σ E.1).1 E.1)) := by
    unfold el ars
    simp [nwE]
  obtain ⟨a1, a2, a3⟩ := V_more (G := G) (E := E) (σ := σ) (E' := nwE E 100 N) (σ' := zs σ E.1) rfl (fun a h => nw_1 h) (fun a h k => nw_2 h) (fun a h => zs_1 h) (fun a h => zs_2 h) hsz hP hS (by rw [z1, hsz]) (fun q hq => o1 q (by rw [← hsz]; exact hq)) (by rw [hel]; show H1[_]? = _; rw [e1]; simp [zs]; rfl)
  exact k _ _ q H1 locs ls (fun _ => a3) a1 a2 hl
theorem N_naz {x : Int32} (N : Nat) {f : En → Sg → Option β} (C : Cx κ G cc own nL) (hx0 : x.toNatClampNeg = N) (hx1 : ¬ x < 0) (hby : N * componentBytes (newarray.typeOf .boolean) ≤ 536870912) (hR : c0 + 1 ≤ (kR κ).cells ∧ s0 + N ≤ (kR κ).slots) (d : dk cc pc n (.newarray .boolean) 2)
    (k : ∀ e s, f e s = some o → V κ G Q e s (true, c0 + 1, s0 + N) n lv (.ref (G.1 + E.1) :: st)) : nwc E σ 101 N f = some o → V κ G Q E σ (true, c0, s0) pc lv (.int x :: st) := by
  obtain ⟨p, l, e, R, s, m, args, below, meth, c⟩ := κ
  obtain ⟨hx, hb, hml, hown, hlk, hK, hT, hZ, hG⟩ := C
  obtain ⟨d, rfl⟩ := d
  intro q H locs ls hz hP hS hl
  have hsz : H.size = G.1 + E.1 := hz rfl
  refine va_newaK (atype := .boolean) hx hb (hT _ aw_101 rfl _) rfl d rfl hx1 hx0 hby hR.1 hR.2 hsz fun H1 cA e1 z1 o1 hAr hfc => ?_
  have hcA : cA = G.2.2.2.1 1 := Option.some.inj (hfc.symm.trans (hK.2 1 (G.2.2.2.1 1, .boolean) rfl).2)
  subst hcA
  have hel : el G.1 G.2.2.2.1 (nwE E 101 N) (zs σ E.1) E.1 = .inl (G.2.2.2.1 1, N, .inl ((zs σ E.1).1 E.1)) := by
    unfold el ars
    simp [nwE]
  obtain ⟨a1, a2, a3⟩ := V_more (G := G) (E := E) (σ := σ) (E' := nwE E 101 N) (σ' := zs σ E.1) rfl (fun a h => nw_1 h) (fun a h k => nw_2 h) (fun a h => zs_1 h) (fun a h => zs_2 h) hsz hP hS (by rw [z1, hsz]) (fun q hq => o1 q (by rw [← hsz]; exact hq)) (by rw [hel]; show H1[_]? = _; rw [e1]; simp [zs]; rfl)
  exact k _ _ q H1 locs ls (fun _ => a3) a1 a2 hl
theorem N_nab {x : Int32} (N : Nat) {f : En → Sg → Option β} (C : Cx κ G cc own nL) (hx0 : x.toNatClampNeg = N) (hx1 : ¬ x < 0) (hby : N * componentBytes (newarray.typeOf .byte) ≤ 536870912) (hR : c0 + 1 ≤ (kR κ).cells ∧ s0 + N ≤ (kR κ).slots) (d : dk cc pc n (.newarray .byte) 2)
    (k : ∀ e s, f e s = some o → V κ G Q e s (true, c0 + 1, s0 + N) n lv (.ref (G.1 + E.1) :: st)) : nwc E σ 102 N f = some o → V κ G Q E σ (true, c0, s0) pc lv (.int x :: st) := by
  obtain ⟨p, l, e, R, s, m, args, below, meth, c⟩ := κ
  obtain ⟨hx, hb, hml, hown, hlk, hK, hT, hZ, hG⟩ := C
  obtain ⟨d, rfl⟩ := d
  intro q H locs ls hz hP hS hl
  have hsz : H.size = G.1 + E.1 := hz rfl
  refine va_newaK (atype := .byte) hx hb (hT _ aw_102 rfl _) rfl d rfl hx1 hx0 hby hR.1 hR.2 hsz fun H1 cA e1 z1 o1 hAr hfc => ?_
  have hcA : cA = G.2.2.2.1 2 := Option.some.inj (hfc.symm.trans (hK.2 2 (G.2.2.2.1 2, .byte) rfl).2)
  subst hcA
  have hel : el G.1 G.2.2.2.1 (nwE E 102 N) (zs σ E.1) E.1 = .inl (G.2.2.2.1 2, N, .inl ((zs σ E.1).1 E.1)) := by
    unfold el ars
    simp [nwE]
  obtain ⟨a1, a2, a3⟩ := V_more (G := G) (E := E) (σ := σ) (E' := nwE E 102 N) (σ' := zs σ E.1) rfl (fun a h => nw_1 h) (fun a h k => nw_2 h) (fun a h => zs_1 h) (fun a h => zs_2 h) hsz hP hS (by rw [z1, hsz]) (fun q hq => o1 q (by rw [← hsz]; exact hq)) (by rw [hel]; show H1[_]? = _; rw [e1]; simp [zs]; rfl)
  exact k _ _ q H1 locs ls (fun _ => a3) a1 a2 hl
theorem N_nal {x : Int32} (N : Nat) {f : En → Sg → Option β} (C : Cx κ G cc own nL) (hx0 : x.toNatClampNeg = N) (hx1 : ¬ x < 0) (hby : N * componentBytes (newarray.typeOf .long) ≤ 536870912) (hR : c0 + 1 ≤ (kR κ).cells ∧ s0 + N ≤ (kR κ).slots) (d : dk cc pc n (.newarray .long) 2)
    (k : ∀ e s, f e s = some o → V κ G Q e s (true, c0 + 1, s0 + N) n lv (.ref (G.1 + E.1) :: st)) : nwc E σ 103 N f = some o → V κ G Q E σ (true, c0, s0) pc lv (.int x :: st) := by
  obtain ⟨p, l, e, R, s, m, args, below, meth, c⟩ := κ
  obtain ⟨hx, hb, hml, hown, hlk, hK, hT, hZ, hG⟩ := C
  obtain ⟨d, rfl⟩ := d
  intro q H locs ls hz hP hS hl
  have hsz : H.size = G.1 + E.1 := hz rfl
  refine va_newaK (atype := .long) hx hb (hT _ aw_103 rfl _) rfl d rfl hx1 hx0 hby hR.1 hR.2 hsz fun H1 cA e1 z1 o1 hAr hfc => ?_
  have hcA : cA = G.2.2.2.1 3 := Option.some.inj (hfc.symm.trans (hK.2 3 (G.2.2.2.1 3, .long) rfl).2)
  subst hcA
  have hel : el G.1 G.2.2.2.1 (nwE E 103 N) (zs σ E.1) E.1 = .inl (G.2.2.2.1 3, N, .inr (.inl ((zs σ E.1).2 E.1))) := by
    unfold el ars
    simp [nwE]
  obtain ⟨a1, a2, a3⟩ := V_more (G := G) (E := E) (σ := σ) (E' := nwE E 103 N) (σ' := zs σ E.1) rfl (fun a h => nw_1 h) (fun a h k => nw_2 h) (fun a h => zs_1 h) (fun a h => zs_2 h) hsz hP hS (by rw [z1, hsz]) (fun q hq => o1 q (by rw [← hsz]; exact hq)) (by rw [hel]; show H1[_]? = _; rw [e1]; simp [zs]; rfl)
  exact k _ _ q H1 locs ls (fun _ => a3) a1 a2 hl
theorem N_na4 {x : Int32} {idx : Nat} (N : Nat) {f : En → Sg → Option β} (C : Cx κ G cc own nL) (D : Cn κ G) (hw : Cond.classLink own idx "RunTapes$Tape" ∈ lw_tbl) (hx0 : x.toNatClampNeg = N) (hx1 : ¬ x < 0) (hby : N * 4 ≤ 536870912) (hR : c0 + 1 ≤ (kR κ).cells ∧ s0 + N ≤ (kR κ).slots) (d : dk cc pc n (.anewarray idx) 3)
    (k : ∀ e s, f e s = some o → V κ G Q e s (true, c0 + 1, s0 + N) n lv (.ref (G.1 + E.1) :: st)) : nwc E σ 104 N f = some o → V κ G Q E σ (true, c0, s0) pc lv (.int x :: st) := by
  obtain ⟨p, l, e, R, s, m, args, below, meth, c⟩ := κ
  obtain ⟨hx, hb, hml, hown, hlk, hK, hT, hZ, hG⟩ := C
  obtain ⟨d, rfl⟩ := d
  intro q H locs ls hz hP hS hl
  have hsz : H.size = G.1 + E.1 := hz rfl
  subst hx0
  refine W.anew hx hb hown (hT _ hw rfl _) (va_AO.use D.1) rfl d rfl hx1 hby hR.1 hR.2 fun cA kA comp f1 f2 f3 f4 => ?_
  generalize hH1 : H.push ({ cls := cA, slots := Array.replicate x.toNatClampNeg .null, vm := .none } : Cell) = H1
  have z1 : H1.size = H.size + 1 := by rw [← hH1, Array.size_push]
  have e1 : H1[H.size]? = some (arrV cA x.toNatClampNeg (fun _ => .null)) := by rw [← hH1, Array.getElem?_push_size, ← arrV_new]
  have o1 : ∀ q : Nat, q < H.size → H1[q]? = H[q]? := fun q hq => by rw [← hH1, Array.getElem?_push, if_neg (Nat.ne_of_lt hq)]
  have hcA : cA = G.2.2.2.1 4 := by
    obtain ⟨_, _, _, _, _, h4⟩ := (hK.2 4 (G.2.2.2.1 4, .object "RunTapes$Tape") rfl).2
    exact Option.some.inj (f1.symm.trans h4)
  subst hcA
  have hel : el G.1 G.2.2.2.1 (nwE E 104 x.toNatClampNeg) (zs σ E.1) E.1 = .inl (G.2.2.2.1 4, x.toNatClampNeg, .inr (.inr (.inr (.inr (fun _ => none))))) := by
    unfold el ars
    simp [nwE, rf]
  obtain ⟨a1, a2, a3⟩ := V_more (G := G) (E := E) (σ := σ) (E' := nwE E 104 x.toNatClampNeg) (σ' := zs σ E.1) rfl (fun a h => nw_1 h) (fun a h k => nw_2 h) (fun a h => zs_1 h) (fun a h => zs_2 h) hsz hP hS z1 o1 (by rw [hel]; show H1[_]? = _; rw [← hsz, e1]; rfl)
  have hg := k _ _ q H1 locs ls (fun _ => a3) a1 a2 hl
  rw [← hsz] at hg
  exact hg
theorem N_na5 {x : Int32} {idx : Nat} (N : Nat) {f : En → Sg → Option β} (C : Cx κ G cc own nL) (D : Cn κ G) (hw : Cond.classLink own idx "RunTapes$State" ∈ lw_tbl) (hx0 : x.toNatClampNeg = N) (hx1 : ¬ x < 0) (hby : N * 4 ≤ 536870912) (hR : c0 + 1 ≤ (kR κ).cells ∧ s0 + N ≤ (kR κ).slots) (d : dk cc pc n (.anewarray idx) 3)
    (k : ∀ e s, f e s = some o → V κ G Q e s (true, c0 + 1, s0 + N) n lv (.ref (G.1 + E.1) :: st)) : nwc E σ 105 N f = some o → V κ G Q E σ (true, c0, s0) pc lv (.int x :: st) := by
  obtain ⟨p, l, e, R, s, m, args, below, meth, c⟩ := κ
  obtain ⟨hx, hb, hml, hown, hlk, hK, hT, hZ, hG⟩ := C
  obtain ⟨d, rfl⟩ := d
  intro q H locs ls hz hP hS hl
  have hsz : H.size = G.1 + E.1 := hz rfl
  subst hx0
  refine W.anew hx hb hown (hT _ hw rfl _) (va_AO.use D.2.1) rfl d rfl hx1 hby hR.1 hR.2 fun cA kA comp f1 f2 f3 f4 => ?_
  generalize hH1 : H.push ({ cls := cA, slots := Array.replicate x.toNatClampNeg .null, vm := .none } : Cell) = H1
  have z1 : H1.size = H.size + 1 := by rw [← hH1, Array.size_push]
  have e1 : H1[H.size]? = some (arrV cA x.toNatClampNeg (fun _ => .null)) := by rw [← hH1, Array.getElem?_push_size, ← arrV_new]
  have o1 : ∀ q : Nat, q < H.size → H1[q]? = H[q]? := fun q hq => by rw [← hH1, Array.getElem?_push, if_neg (Nat.ne_of_lt hq)]
  have hcA : cA = G.2.2.2.1 5 := by
    obtain ⟨_, _, _, _, _, h4⟩ := (hK.2 5 (G.2.2.2.1 5, .object "RunTapes$State") rfl).2
    exact Option.some.inj (f1.symm.trans h4)
  subst hcA
  have hel : el G.1 G.2.2.2.1 (nwE E 105 x.toNatClampNeg) (zs σ E.1) E.1 = .inl (G.2.2.2.1 5, x.toNatClampNeg, .inr (.inr (.inr (.inr (fun _ => none))))) := by
    unfold el ars
    simp [nwE, rf]
  obtain ⟨a1, a2, a3⟩ := V_more (G := G) (E := E) (σ := σ) (E' := nwE E 105 x.toNatClampNeg) (σ' := zs σ E.1) rfl (fun a h => nw_1 h) (fun a h k => nw_2 h) (fun a h => zs_1 h) (fun a h => zs_2 h) hsz hP hS z1 o1 (by rw [hel]; show H1[_]? = _; rw [← hsz, e1]; rfl)
  have hg := k _ _ q H1 locs ls (fun _ => a3) a1 a2 hl
  rw [← hsz] at hg
  exact hg
theorem ws_putr {a k c x : Nat} (h : cd E a = c) (hc : c < 100) (hk : isr (tyc c k) = true) : (wsOf G E σ).set a (G.1 + a, .inr (c, (fvs G.1 E σ c a).set k (.ref (G.1 + x)))) = wsOf G (srE E a k x) σ := by
  obtain ⟨h1, h2⟩ := cd_lt h (by omega)
  have hz : wsOf G (srE E a k x) σ = (List.range E.1).map (fun b => (G.1 + b, el G.1 G.2.2.2.1 (srE E a k x) σ b)) := rfl
  apply List.ext_getElem?
  intro i
  by_cases hi : i = a
  · subst hi
    rw [List.getElem?_set_self (by simp [wsOf]; exact h1), hz]
    simp only [List.getElem?_map, List.getElem?_range h1, Option.map_some]
    congr 2
    unfold el
    have e0 : (srE E i k x).2.1 i = E.2.1 i := rfl
    rw [e0, if_pos (by rw [h2]; exact hc), h2]
    congr 2
    apply List.ext_getElem?
    intro j
    by_cases hl : j < nf c
    · rw [fvs_at (E := srE E i k x) hl]
      by_cases hj : j = k
      · subst hj
        rw [List.getElem?_set_self (by rw [fvs_len]; exact hl)]
        simp [fv, hk, rf, srE, va_rf]
      · rw [List.getElem?_set_ne (fun q => hj q.symm), fvs_at hl]
        simp [fv, gi, rf, srE, hj]
    · have q1 : (fvs G.1 (srE E i k x) σ c i)[j]? = none := by simp [fvs]; omega
      have q2 : ((fvs G.1 E σ c i).set k (Value.ref (G.1 + x)))[j]? = none := by simp [fvs]; omega
      rw [q1, q2]
  · rw [List.getElem?_set_ne (fun q => hi q.symm), hz]
    simp only [wsOf, List.getElem?_map]
    cases hr : (List.range E.1)[i]? with
    | none => rfl
    | some y =>
      have hy : y = i := by
        rw [List.getElem?_eq_some_iff] at hr
        obtain ⟨_, e⟩ := hr
        rw [List.getElem_range] at e
        exact e.symm
      subst hy
      simp only [Option.map_some]
      rw [el_old (E := E) (E' := srE E a k x) (σ := σ) (σ' := σ) rfl (fun j => by simp [srE, hi]) rfl rfl]
theorem N_putr {idx ci f : Nat} {a x : Nat} {g : En → Option β} (C : Cx κ G cc own nL) (hin2 : (kT κ).name = "<init>") (hlnk : ∃ T N, CI ci own T N ∧ f < N ∧ (T f).2.2.2 = true ∧ Cond.fieldLink own idx (T f).1 (T f).2.1 (T f).2.2.1 ∈ lw_tbl) (hf : isr (tyc ci f) = true) (ha : cd E a = ci) (hn : narrow (tyc ci f) (.ref (G.1 + x)) = .ref (G.1 + x)) (hft : fits (tyc ci f) (.ref (G.1 + x)) = true) (d : dk cc pc n (.putfield idx) 3) (k : ∀ e, g e = some o → V κ G Q e σ (true, c0, s0) n lv st) : src E a f x g = some o → V κ G Q E σ (true, c0, s0) pc lv (.ref (G.1 + x) :: .ref (G.1 + a) :: st) := by
  obtain ⟨p, l, e, R, s, m, args, below, meth, c⟩ := κ
  obtain ⟨hx, hb, hml, hown, hlk, hK, hT, hZ, hG⟩ := C
  obtain ⟨d, rfl⟩ := d
  obtain ⟨T, N, ⟨I1, I2, I3, I4, I5, I6, I7⟩, hk, hfi, hw⟩ := hlnk
  intro q H locs ls hz hP hS hl
  have he := el_o (G := G) (σ := σ) ha I6
  have hts := tb_hts hT args
  have hap := va_apart (own := own) hts I2 (tyc ci) I3 I4 hK I1
  obtain ⟨r, h1, cell, q1, q2, q3, q4⟩ := hP a _ he
  have hr : r = (own, T, N) := Option.some.inj (h1.symm.trans I1)
  subst hr
  obtain ⟨hS0, hfc, kC, hkC, hkind⟩ := hK.1 ci _ I1
  obtain ⟨cf, kf, fi, fd, hi, hsl⟩ := hS0 f hk
  have hlay := hts _ (I2 _ (u_in_lay hk))
  unfold u_lay at hlay
  rw [if_pos hfi] at hlay
  have hst := (u_facts hfc hkC (u_lays hts I2 hk) hi).1
  have hcf : m.cls = cf := by
    obtain ⟨_, _, c', _, _, _, -, -, hf', -, -, -, hown2, -⟩ := Cond.laysFinal_spec hlay
    have e1 : c' = cf := by have := hi.symm.trans hf'; simp at this; exact this.1.symm
    rw [I7 f hk] at hown2
    rw [← e1]; exact Option.some.inj (hown.symm.trans hown2)
  have h6 := u_fits hfc hkC hkind (Or.inr hlay) hi (I3 f hk) hn hft
  refine W.putFinK hx hb hown (hT _ hw rfl _) hi hst hcf hin2 (by rw [q2]; exact h6) q1 q3 (by rw [hsl]; exact k2_hasslot (q4 f hk)) rfl rfl d fun H' e1 e2 e3 => ?_
  rw [hsl] at e1 ⊢
  have hP1 := hP.set ws_D he (e := .inr (ci, (fvs G.1 E σ ci a).set f (.ref (G.1 + x)))) ⟨_, I1, t_OB.to (V := updV (vp_V (fvs G.1 E σ ci a)) f (.ref (G.1 + x))) ⟨_, e1, q2, q3, t_set q4 hap hk _⟩ (fun j _ => vp_updV_set (by rw [fvs_len, I5]; exact hk) _ j)⟩ e3
  rw [ws_putr ha I6 hf] at hP1
  exact k _ q H' _ ls (fun _ => by rw [e2]; exact hz rfl) hP1 (hS.put e2 e3 (ws_D.2 a _ he)) hl
theorem N_puti {idx ci f : Nat} {a : Nat} {v : Int32} {g : Sg → Option β} (C : Cx κ G cc own nL) (hlnk : ∃ T N, CI ci own T N ∧ f < N ∧ (T f).2.2.2 = false ∧ Cond.fieldLink own idx (T f).1 (T f).2.1 (T f).2.2.1 ∈ lw_tbl) (hf : isr (tyc ci f) = false) (ha : cd E a = ci) (hn : narrow (tyc ci f) (.int v) = .int v) (hft : fits (tyc ci f) (.int v) = true) (d : dk cc pc n (.putfield idx) 3) (k : ∀ s, g s = some o → V κ G Q E s (true, c0, s0) n lv st) : ss (si σ a f v) g = some o → V κ G Q E σ (true, c0, s0) pc lv (.int v :: .ref (G.1 + a) :: st) := by
  obtain ⟨p, l, e, R, s, m, args, below, meth, c⟩ := κ
  obtain ⟨hx, hb, hml, hown, hlk, hK, hT, hZ, hG⟩ := C
  obtain ⟨d, rfl⟩ := d
  obtain ⟨T, N, ⟨I1, I2, I3, I4, I5, I6, I7⟩, hk, hfi, hw⟩ := hlnk
  intro q H locs ls hz hP hS hl
  have he := el_o (G := G) (σ := σ) ha I6
  have hts := tb_hts hT args
  have hap := va_apart (own := own) hts I2 (tyc ci) I3 I4 hK I1
  obtain ⟨r, h1, cell, q1, q2, q3, q4⟩ := hP a _ he
  have hr : r = (own, T, N) := Option.some.inj (h1.symm.trans I1)
  subst hr
  obtain ⟨hS0, hfc, kC, hkC, hkind⟩ := hK.1 ci _ I1
  obtain ⟨cf, kf, fi, fd, hi, hsl⟩ := hS0 f hk
  have hlay := hts _ (I2 _ (u_in_lay hk))
  unfold u_lay at hlay
  rw [if_neg (by rw [hfi]; decide)] at hlay
  have hst := (u_facts hfc hkC (u_lays hts I2 hk) hi).1
  have h6 := u_store hfc hkC hkind hlay hi (I3 f hk) hn hft
  refine W.putK hx hb (f := fd) ⟨hown, hT _ hw rfl _, ⟨_, _, _, hi⟩, hst⟩ (by rw [q2]; exact h6) q1 q3 (by rw [hsl]; exact k2_hasslot (q4 f hk)) rfl rfl d fun H' e1 e2 e3 => ?_
  rw [hsl] at e1 ⊢
  have hP1 := hP.set ws_D he (e := .inr (ci, (fvs G.1 E σ ci a).set f (.int v))) ⟨_, I1, t_OB.to (V := updV (vp_V (fvs G.1 E σ ci a)) f (.int v)) ⟨_, e1, q2, q3, t_set q4 hap hk _⟩ (fun j _ => vp_updV_set (by rw [fvs_len, I5]; exact hk) _ j)⟩ e3
  rw [ws_put ha I6 hf] at hP1
  exact k _ q H' _ ls (fun _ => by rw [e2]; exact hz rfl) hP1 (hS.put e2 e3 (ws_D.2 a _ he)) hl
theorem N_iast {a : Nat} {i v : Int32} {g : Sg → Option β} (C : Cx κ G cc own nL) (ha : cd E a = 100) (hi : vp_in i (ln E a)) (d : dk cc pc n .iastore 1) (k : ∀ s, g s = some o → V κ G Q E s (true, c0, s0) n lv st) : ss (si σ a i.toNatClampNeg v) g = some o → V κ G Q E σ (true, c0, s0) pc lv (.int v :: .int i :: .ref (G.1 + a) :: st) := by
  obtain ⟨p, l, e, R, s, m, args, below, meth, c⟩ := κ
  obtain ⟨hx, hb, hml, hown, hlk, hK, hT, hZ, hG⟩ := C
  obtain ⟨d, rfl⟩ := d
  intro q H locs ls hz hP hS hl
  have ha0 := el_a (G := G) (σ := σ) ha (by omega) (by omega)
  refine W.iast hx hb (hP a _ ha0) ((hK.2 0 (G.2.2.2.1 0, .int) rfl).1 (ln E a) (fun j => .int (σ.1 a j))) (fun q => by cases q) (by show ¬ (i < 0 ∨ (arrV _ _ _).slots.size ≤ _); rw [arrV_size]; exact hi) rfl rfl d fun H1 e z oq => ?_
  have hP1 := hP.set ws_D ha0 (e := .inl (G.2.2.2.1 (100 - 100), ln E a, .inl (upd (σ.1 a) i.toNatClampNeg v))) (H1 := H1) (by
    show H1[_]? = some (vp_cell _ _)
    rw [e]
    show some ((vp_cell _ (_, .inl _)).setSlot _ _) = _
    rw [vp_cell_i, vp_cell_i, arrV_store]
    congr 2
    funext q
    by_cases hq : q = i.toNatClampNeg
    · subst hq
      simp [updV, upd]
    · simp [updV, upd, hq]) oq
  have e1 := ws_arr (G := G) (σ := σ) (σ' := si σ a i.toNatClampNeg v) ha (by omega) (by omega) (fun x hx => by simp [si, hx])
  have e2 : ars G.1 E (si σ a i.toNatClampNeg v) 100 a = .inl (upd (σ.1 a) i.toNatClampNeg v) := by simp [ars, si]
  rw [e2] at e1
  rw [e1] at hP1
  exact k _ q H1 _ ls (fun _ => by rw [z]; exact hz rfl) hP1 (hS.put z oq (ws_D.2 a _ ha0)) hl
theorem ws_aput {a k c x : Nat} (h : cd E a = c) (hc : 104 ≤ c) (hc2 : c < 999) : (wsOf G E σ).set a (G.1 + a, .inl (G.2.2.2.1 (c - 100), ln E a, .inr (.inr (.inr (.inr (va_up (fun k => (rf E a k).map (fun x => G.1 + x)) k (some (G.1 + x)))))))) = wsOf G (srE E a k x) σ := by
  obtain ⟨h1, h2⟩ := cd_lt h hc2
  have hz : wsOf G (srE E a k x) σ = (List.range E.1).map (fun b => (G.1 + b, el G.1 G.2.2.2.1 (srE E a k x) σ b)) := rfl
  apply List.ext_getElem?
  intro i
  by_cases hi : i = a
  · subst hi
    rw [List.getElem?_set_self (by simp [wsOf]; exact h1), hz]
    simp only [List.getElem?_map, List.getElem?_range h1, Option.map_some]
    congr 2
    unfold el
    have e0 : (srE E i k x).2.1 i = E.2.1 i := rfl
    rw [e0, if_neg (by rw [h2]; omega), h2]
    congr 2
    unfold ars ln
    rw [if_neg (by omega), if_neg (by omega)]
    congr 5
    funext j
    by_cases hj : j = k
    · subst hj
      simp [va_up, rf, srE]
    · simp [va_up, rf, srE, hj]
  · rw [List.getElem?_set_ne (fun q => hi q.symm), hz]
    simp only [wsOf, List.getElem?_map]
    cases hr : (List.range E.1)[i]? with
    | none => rfl
    | some y =>
      have hy : y = i := by
        rw [List.getElem?_eq_some_iff] at hr
        obtain ⟨_, e⟩ := hr
        rw [List.getElem_range] at e
        exact e.symm
      subst hy
      simp only [Option.map_some]
      rw [el_old (E := E) (E' := srE E a k x) (σ := σ) (σ' := σ) rfl (fun j => by simp [srE, hi]) rfl rfl]
theorem N_aast4 {a x : Nat} {v : Int32} {g : En → Option β} (C : Cx κ G cc own nL) (ha : cd E a = 104) (hi : vp_in v (ln E a)) (hxx : cd E x = 5) (d : dk cc pc n .aastore 1) (k : ∀ e, g e = some o → V κ G Q e σ (true, c0, s0) n lv st) : src E a v.toNatClampNeg x g = some o → V κ G Q E σ (true, c0, s0) pc lv (.ref (G.1 + x) :: .int v :: .ref (G.1 + a) :: st) := by
  obtain ⟨p, l, e, R, s, m, args, below, meth, c⟩ := κ
  obtain ⟨hx, hb, hml, hown, hlk, hK, hT, hZ, hG⟩ := C
  obtain ⟨d, rfl⟩ := d
  intro q H locs ls hz hP hS hl
  have ha0 := el_a (G := G) (σ := σ) ha (by omega) (by omega)
  have hv0 := el_o (G := G) (σ := σ) hxx (by omega)
  have hlt : v.toNatClampNeg < ln E a := Nat.not_le.mp fun q => hi (Or.inr q)
  have h0 : ¬ v < 0 := fun q => hi (Or.inl q)
  obtain ⟨r', hr', cellV, g1, g2, g3, -⟩ := hP x _ hv0
  have hcls := (hK.1 5 (RX5, TX5, 3) rfl).2
  obtain ⟨kA, comp, k1, k2, k3, -⟩ := (hK.2 4 (G.2.2.2.1 4, .object "RunTapes$Tape") rfl).2
  have hcomp : comp = (GD G).1 5 := Option.some.inj (k3.symm.trans hcls.1)
  subst hcomp
  obtain ⟨kC, hkC, -⟩ := hcls.2
  refine W.aast hx hb (hP a _ ha0) (fun q h => by cases h) (fun h => by cases h) k1 k2 rfl hkC ⟨h0, by show _ < (arrV _ _ _).slots.size; rw [arrV_size]; exact hlt⟩ g1 (fun q h => by rw [g3] at h; cases h) (by rw [g2]; exact hkC) (by rw [g2]; exact va_assign hcls) rfl rfl d fun H1 e z oq => ?_
  have hP1 := hP.set ws_D ha0 (e := .inl (G.2.2.2.1 (104 - 100), ln E a, .inr (.inr (.inr (.inr (va_up (fun k => (rf E a k).map (fun x => G.1 + x)) v.toNatClampNeg (some (G.1 + x)))))))) (H1 := H1) (by
    show H1[_]? = some (vp_cell _ _)
    rw [e]
    show some ((vp_cell _ (_, .inr (.inr (.inr (.inr _))))).setSlot _ _) = _
    rw [vp_cell_q, vp_cell_q, arrV_store]
    congr 2
    funext q
    by_cases hq : q = v.toNatClampNeg
    · subst hq
      simp [updV, va_up, va_rf]
    · simp [updV, va_up, hq]) oq
  rw [ws_aput ha (by omega) (by omega)] at hP1
  exact k _ q H1 _ ls (fun _ => by rw [z]; exact hz rfl) hP1 (hS.put z oq (ws_D.2 a _ ha0)) hl
theorem N_aast5 {a x : Nat} {v : Int32} {g : En → Option β} (C : Cx κ G cc own nL) (ha : cd E a = 105) (hi : vp_in v (ln E a)) (hxx : cd E x = 4) (d : dk cc pc n .aastore 1) (k : ∀ e, g e = some o → V κ G Q e σ (true, c0, s0) n lv st) : src E a v.toNatClampNeg x g = some o → V κ G Q E σ (true, c0, s0) pc lv (.ref (G.1 + x) :: .int v :: .ref (G.1 + a) :: st) := by
  obtain ⟨p, l, e, R, s, m, args, below, meth, c⟩ := κ
  obtain ⟨hx, hb, hml, hown, hlk, hK, hT, hZ, hG⟩ := C
  obtain ⟨d, rfl⟩ := d
  intro q H locs ls hz hP hS hl
  have ha0 := el_a (G := G) (σ := σ) ha (by omega) (by omega)
  have hv0 := el_o (G := G) (σ := σ) hxx (by omega)
  have hlt : v.toNatClampNeg < ln E a := Nat.not_le.mp fun q => hi (Or.inr q)
  have h0 : ¬ v < 0 := fun q => hi (Or.inl q)
  obtain ⟨r', hr', cellV, g1, g2, g3, -⟩ := hP x _ hv0
  have hcls := (hK.1 4 (RX4, TX4, 7) rfl).2
  obtain ⟨kA, comp, k1, k2, k3, -⟩ := (hK.2 5 (G.2.2.2.1 5, .object "RunTapes$State") rfl).2
  have hcomp : comp = (GD G).1 4 := Option.some.inj (k3.symm.trans hcls.1)
  subst hcomp
  obtain ⟨kC, hkC, -⟩ := hcls.2
  refine W.aast hx hb (hP a _ ha0) (fun q h => by cases h) (fun h => by cases h) k1 k2 rfl hkC ⟨h0, by show _ < (arrV _ _ _).slots.size; rw [arrV_size]; exact hlt⟩ g1 (fun q h => by rw [g3] at h; cases h) (by rw [g2]; exact hkC) (by rw [g2]; exact va_assign hcls) rfl rfl d fun H1 e z oq => ?_
  have hP1 := hP.set ws_D ha0 (e := .inl (G.2.2.2.1 (105 - 100), ln E a, .inr (.inr (.inr (.inr (va_up (fun k => (rf E a k).map (fun x => G.1 + x)) v.toNatClampNeg (some (G.1 + x)))))))) (H1 := H1) (by
    show H1[_]? = some (vp_cell _ _)
    rw [e]
    show some ((vp_cell _ (_, .inr (.inr (.inr (.inr _))))).setSlot _ _) = _
    rw [vp_cell_q, vp_cell_q, arrV_store]
    congr 2
    funext q
    by_cases hq : q = v.toNatClampNeg
    · subst hq
      simp [updV, va_up, va_rf]
    · simp [updV, va_up, hq]) oq
  rw [ws_aput ha (by omega) (by omega)] at hP1
  exact k _ q H1 _ ls (fun _ => by rw [z]; exact hz rfl) hP1 (hS.put z oq (ws_D.2 a _ ha0)) hl
end RC
