theorem cw_1 : Cond.sameMethod "[I" "java/lang/Object" "clone" "()Ljava/lang/Object;" ∈ lw_tbl := (in1 (List.mem_of_getElem? (i := 54) rfl))
theorem cw_2 : Cond.native ⟨"java/lang/Object", "clone", "()Ljava/lang/Object;"⟩ ∈ lw_tbl := (in1 (List.mem_of_getElem? (i := 55) rfl))
theorem cw_3 : Cond.instanceMethod ⟨"java/lang/Object", "clone", "()Ljava/lang/Object;"⟩ ∈ lw_tbl := (in1 (List.mem_of_getElem? (i := 56) rfl))
theorem cw_4 : Cond.selects "[I" ⟨"[I", "clone", "()Ljava/lang/Object;"⟩ ⟨"java/lang/Object", "clone", "()Ljava/lang/Object;"⟩ ∈ lw_tbl := (in1 (List.mem_of_getElem? (i := 57) rfl))
theorem ow_1 : Cond.instanceMethod objectInit ∈ lw_tbl := (in1 (List.mem_of_getElem? (i := 17) rfl))
theorem ow_2 : Cond.code objectInit ⟨#[0xb1]⟩ 1 none ∈ lw_tbl := (in1 (List.mem_of_getElem? (i := 18) rfl))
section RD
variable {κ : KT} {G : Gl} {Q : State → Prop} {E : En} {σ : Sg} {ks : Bool × Nat × Nat} {c0 s0 : Nat} {cc : ByteArray} {own : String} {nL pc n : Nat} {lv : List (Nat × Value)} {st : List Value} {P : Prop} {β : Type} {o : β}
theorem N_obj {idx a : Nat} (C : Cx κ G cc own nL) (hw : Cond.methodLink own idx objectInit ∈ lw_tbl) (hR : 1 ≤ (kR κ).frames ∧ (st.map fun v => v.category).sum + 12 ≤ (kR κ).locals) (d : dk cc pc n (.invokespecial idx) 3) (k : P → V κ G Q E σ ks n lv st) : P → V κ G Q E σ ks pc lv (.ref (G.1 + a) :: st) := by
  obtain ⟨p, l, e, R, s, m, args, below, meth, c⟩ := κ
  obtain ⟨hx, hb, hml, hown, hlk, hK, hT, hZ, hG⟩ := C
  obtain ⟨d, rfl⟩ := d
  intro q H locs ls hz hP hS hl
  exact W.objInit hx hb hown (hT _ hw rfl _) (hT _ ow_1 rfl _) (hT _ ow_2 rfl _) rfl hl.1 rfl d hR.1 (by show 2 * 0 + _ + 12 ≤ _; have := hR.2; omega) (k q H locs ls hz hP hS hl)
theorem N_clone {idx : Nat} {f : En → Sg → Option β} (C : Cx κ G cc own nL) (D : Cn κ G) (hw : Cond.methodLink own idx ⟨"[I", "clone", "()Ljava/lang/Object;"⟩ ∈ lw_tbl) (hR : 1 ≤ (kR κ).frames ∧ (st.map fun v => v.category).sum + 14 ≤ (kR κ).locals ∧ c0 + 1 ≤ (kR κ).cells ∧ s0 + 6 ≤ (kR κ).slots) (d : dk cc pc n (.invokevirtual idx) 3)
    (k : ∀ e s, f e s = some o → V κ G Q e s (true, c0 + 1, s0 + 6) n lv (.ref (G.1 + E.1) :: st)) : ncl E σ f = some o → V κ G Q E σ (true, c0, s0) pc lv (.ref (G.2.2.2.2 0) :: st) := by
  obtain ⟨p, l, e, R, s, m, args, below, meth, c⟩ := κ
  obtain ⟨hx, hb, hml, hown, hlk, hK, hT, hZ, hG⟩ := C
  obtain ⟨d, rfl⟩ := d
  obtain ⟨-, -, hca, cell, d1, d2, d3, d4, d5, d6⟩ := D
  intro q H locs ls hz hP hS hl T hTT X
  have hsz : H.size = G.1 + E.1 := hz rfl
  have hcell : H[G.2.2.2.2 0]? = some cell := by rw [hS.2.1 _ (Array.getElem?_eq_some_iff.mp d1).1 d6]; exact d1
  obtain ⟨c1, t1, f1, f2, f3⟩ := Cond.castable_spec (va_Nw.use (A := args) rfl hca)
  have hfi := (hK.2 0 (G.2.2.2.1 0, .int) rfl).2
  have hfi : s.vm.findClass "[I" = some (G.2.2.2.1 0) := hfi
  cases hfi.symm.trans f1
  obtain ⟨-, kA, hkA, comp, hkind⟩ := State.isArrayOf_alike X.warmed.alike ((hK.2 0 (G.2.2.2.1 0, .int) rfl).1 0 (fun _ => .null))
  obtain ⟨-, kS, hkS, compS, hkindS⟩ := (hK.2 0 (G.2.2.2.1 0, .int) rfl).1 0 (fun _ => .null)
  have hss : cell.slots.size = 6 := by rw [d3]; exact arrV_size _ _ _
  obtain ⟨vm', X', stp⟩ := X.cloneArray hx hown (hT _ hw rfl _) (hT _ cw_1 rfl _) (hT _ cw_2 rfl _) (hT _ cw_3 rfl _) (hT _ cw_4 rfl _) (a := G.2.2.2.2 0) (cell := cell) (by rw [hTT]; exact hcell) (fun k h => by rw [h] at d4; cases d4) d5 (by rw [d2]; exact hfi) f2 (by rw [d2]; exact f3)
    (fun i v hv => by
      rw [d2]
      have hk' : T.vm.classes[G.2.2.2.1 0]? = some kA := hkA
      have hv' : (arrV (G.2.2.2.1 0) 6 (fun j => .int (stv 0 j))).slots[i]? = some v := by rw [d3] at hv; exact hv
      have hi6 : i < 6 := by
        have := (Array.getElem?_eq_some_iff.mp hv').1
        rw [arrV_size] at this
        exact this
      rw [arrV_read _ _ hi6] at hv'
      cases hv'
      simp [State.fitsSlot, State.slotType?, hk', hkind, fits])
    (g := F0 m pc ls (.ref (G.2.2.2.2 0) :: st)) rfl hl.1 rfl (by rw [hb]; exact d) hR.1 (by show 2 * 0 + _ + 14 ≤ _; have := hR.2.1; omega) hR.2.2.1 (by rw [hss]; exact hR.2.2.2) (hloader := by rw [d2]; exact Vm.clonesLoader_of_array hkS hkindS)
  have hce : ({ cls := cell.cls, slots := cell.slots } : Cell) = vp_cell (G.2.2.2.1 0) (6, .inl (stv 0)) := by rw [d2, d3]; rfl
  rw [hce, hss] at X'
  rw [hce] at stp
  generalize hH1 : H.push (vp_cell (G.2.2.2.1 0) (6, .inl (stv 0))) = H1
  have z1 : H1.size = H.size + 1 := by rw [← hH1, Array.size_push]
  have e1 : H1[H.size]? = some (vp_cell (G.2.2.2.1 0) (6, .inl (stv 0))) := by rw [← hH1, Array.getElem?_push_size]
  have o1 : ∀ q : Nat, q < H.size → H1[q]? = H[q]? := fun q hq => by rw [← hH1, Array.getElem?_push, if_neg (Nat.ne_of_lt hq)]
  have hel : el G.1 G.2.2.2.1 (nwE E 100 6) (cl0 σ E.1) E.1 = .inl (G.2.2.2.1 0, 6, .inl (stv 0)) := by
    unfold el ars
    simp [nwE, cl0]
  obtain ⟨a1, a2, a3⟩ := V_more (G := G) (E := E) (σ := σ) (E' := nwE E 100 6) (σ' := cl0 σ E.1) rfl (fun a h => nw_1 h) (fun a h k => nw_2 h) (fun a h => by simp [cl0, h]) (fun a h => by simp [cl0, h]) hsz hP hS z1 o1 (by rw [hel]; show H1[_]? = _; rw [← hsz]; exact e1)
  have hg := k _ _ q H1 locs ls (fun _ => a3) a1 a2 hl
  rw [← hsz, ← hTT] at hg
  obtain ⟨t, b1, b2⟩ := hg _ (by rw [← hH1, ← hTT]; rfl) X'
  exact ⟨t, stp t b1, b2⟩
theorem repC_of {s U : State} {H : Heap} {locs : List Loc} (hG : G.1 ≤ s.heap.size) (hK : va_K (GD G) vwCl (tyL G.2.2.2.1) s) (hT : TbAll s) (hZ : Stt G s s.heap) (D : Sx G s s.heap) (hsz : H.size = G.1 + E.1) (hP : va_P (GD G) vwCl (wsOf G E σ) H) (hS : va_S (GA G) s.heap H locs) (hU : U.heap = H) (hW : s.WarmedH U.vm) : RepC G E σ U :=
  ⟨rep_of hG hK hT hZ hP hS hU hW, by rw [hU]; exact hsz, by rw [hU]; exact sx_moved D hW hS⟩
theorem N_vret {E1 : En} {σ1 : Sg} (C : Cx κ G cc own nL) (D : Cn κ G) (hr : (kT κ).sig.returnType = none) (d : dk cc pc n .return_ 1) : some (E, σ) = some (E1, σ1) → V κ G (MQ (kB κ) (QI G E1 σ1) (kA κ) (kS κ) c0 s0 (GA G)) E σ (true, c0, s0) pc lv [] := by
  obtain ⟨p, l, e, R, s, m, args, below, meth, c⟩ := κ
  obtain ⟨hx, hb, hml, hown, hlk, hK, hT, hZ, hG⟩ := C
  obtain ⟨d, -⟩ := d
  intro q
  cases q
  intro H locs ls hz hP hS hl
  exact W.vret hx hb hr (fun t ht hW => ⟨rfl, repC_of hG hK hT hZ D (hz rfl) hP hS ht hW, hS.F ht⟩) hS.2.2 d hlk
theorem repC_blind {av : List Value} : FrameBlind (va_Pc av (RepC G E σ)) := by
  intro a U g mk h
  obtain ⟨h1, h2, h3, h4⟩ := h
  refine ⟨h1, (rep_blind (av := av) a U g mk ⟨h1, h2⟩).2, h3, ?_⟩
  obtain ⟨d1, d2, d3, d4⟩ := h4
  exact ⟨d1.moved (u := U) (U := U.calling g mk a) (Vm.Alike.refl U.vm), d2.moved (u := U) (U := U.calling g mk a) (Vm.Alike.refl U.vm), va_Nw.same (u := U) (U := U.calling g mk a) rfl rfl d3, d4⟩
def MI (own : String) (idx : Nat) (y : MethodName) (bytes : ByteArray) (maxL n : Nat) : Prop := MBo y bytes maxL none n ∧ Cond.instanceMethod y ∈ lw_tbl ∧ y.name = "<init>" ∧ (Cond.methodLink own idx y ∈ lw_tbl ∨ Cond.methodLinkNest own idx y "RunTapes" ∈ lw_tbl)
theorem N_call {idx a n0 maxL mc ms : Nat} {y : MethodName} {bytes : ByteArray} {rm : Room} {E1 : En} {σ1 : Sg} (As rest : List Value) (C : Cx κ G cc own nL) (D : Cn κ G) (M : MI own idx y bytes maxL n0) (hM : CTI (kL κ) y bytes maxL rm (.ref (G.1 + a) :: As) G E σ E1 σ1 mc ms) (hrm : rm.cells = mc ∧ rm.slots = ms ∧ rm.frames + 1 ≤ (kR κ).frames ∧ 8 + (maxL + 11) + rm.locals ≤ (kR κ).locals ∧ c0 + mc ≤ (kR κ).cells ∧ s0 + ms ≤ (kR κ).slots) (hn0 : As.length = n0) (hst : st = As.reverse ++ .ref (G.1 + a) :: rest) (hW : (rest.map fun v => v.category).sum ≤ 8) (d : dk cc pc n (.invokespecial idx) 3) (k : P → V κ G Q E1 σ1 (true, c0 + mc, s0 + ms) n lv rest) : P → V κ G Q E σ (true, c0, s0) pc lv st := by
  obtain ⟨p, l, e, R, s, m, args, below, meth, c⟩ := κ
  obtain ⟨hx, hb, hml, hown, hlk, hK, hT, hZ, hG⟩ := C
  obtain ⟨d, rfl⟩ := d
  obtain ⟨M0, hins, hnm, hlink⟩ := M
  obtain ⟨r1, r2, r3, r4, r5, r6⟩ := hrm
  intro q H locs ls hz hP hS hl T hTT X
  have hsz : H.size = G.1 + E.1 := hz rfl
  have hPre : PreS s H (va_Pc (.ref (G.1 + a) :: As) (RepC G E σ)) (.ref (G.1 + a) :: As) := ⟨repC_blind, fun U hU hW => ⟨rfl, repC_of hG hK hT hZ D hsz hP hS hU hW⟩⟩
  have hlen : ∀ sig, parseMethodDescriptor y.desc = some sig → n0 = sig.parameters.length := fun sig h => by
    have h2 := M0.2.2.2
    rw [h] at h2
    exact (Option.some.inj h2).symm
  have hrun : va_Run p l e R s m args below meth c H locs c0 s0 mc ms (F0 m pc ls st) rest (QI G E1 σ1 (Value.ref (G.1 + a) :: As).toArray) (GA G) := by
    rcases hlink with hlink | hlink
    · exact va_runI (Ts := lw_tbl.filter wk) (own := own) ⟨hx, hb, hml, hown, tb_hts hT _⟩ hM ⟨⟨r1, r2, r3, r4, mb_ws hT M0, List.mem_cons_self, hT _ M0.2.1 rfl _, hT _ M0.1 rfl _, M0.2.2.1, hlen, hT _ hlink rfl _⟩, hnm, hT _ hins rfl _⟩ hPre rfl hn0 (hl.1.trans hml) hst (lv_room hW) d ⟨r5, r6⟩
    · exact va_runIN (Ts := lw_tbl.filter wk) (own := own) ⟨hx, hb, hml, hown, tb_hts hT _⟩ hM ⟨⟨⟨r1, r2, r3, r4, mb_ws hT M0, List.mem_cons_self⟩, hT _ M0.2.1 rfl _, hT _ M0.1 rfl _, M0.2.2.1, hlen, hT _ hlink rfl _⟩, hnm, hT _ hins rfl _⟩ hPre rfl hn0 (hl.1.trans hml) hst (lv_room hW) d ⟨r5, r6⟩
  obtain ⟨v, st0, t, T1, L, h0, X1, hL, e1, e2, ⟨hv, hrep, hF⟩, go⟩ := hrun T hTT X
  cases hv
  have hP1 : va_P (GD G) vwCl (wsOf G E1 σ1) T1.heap := by rw [e1]; exact hrep.1.2.1
  have hS1 : va_S (GA G) s.heap T1.heap (locs ++ L) := by
    refine ⟨?_, fun q h1 h2 => ?_, fun q hq => ?_⟩
    · rw [e1]; exact Nat.le_trans hS.1 (by rw [← h0]; exact hF.1)
    · rw [e1, hF.2 q (by rw [h0]; exact Nat.lt_of_lt_of_le h1 hS.1) h2, h0]; exact hS.2.1 q h1 h2
    · rcases List.mem_append.mp hq with h | h
      · exact hS.2.2 q h
      · exact hL q h
  obtain ⟨t2, a1, b1⟩ := k q T1.heap (locs ++ L) ls (fun _ => by rw [e1]; exact hrep.2.1) hP1 hS1 hl T1 rfl X1
  exact ⟨t2, go t2 a1, b1⟩
theorem CTI_of {l : Launch} {y : MethodName} {maxL : Nat} {rm : Room} {av : List Value} {E1 : En} {σ1 : Sg} {mc ms : Nat} (hy : plainName y.cls = true) (hl : (lg_sl av).length ≤ maxL) {lv0 : List (Nat × Value)} (hlv : lv_args 0 av = lv0) (hnm : y.name = "<init>")
    (body : ∀ κ : KT, kL κ = l → kR κ = rm → (kT κ).sig.returnType = none → (kT κ).name = "<init>" → Cn κ G → Cx κ G cc y.cls maxL → V κ G (MQ (kB κ) (QI G E1 σ1) (kA κ) (kS κ) mc ms (GA G)) E σ (true, 0, 0) 0 lv0 []) : CTI l y cc maxL rm av G E σ E1 σ1 mc ms := by
  refine Met.ofW (cc := cc) (maxL := maxL) (ret := none) hy rfl ?_
  intro p e s m args below meth c s₁ B hml hv
  obtain ⟨rfl, ⟨hle, hP, hK, hT, hZ⟩, hsz, hD⟩ := hv
  have hll := lv_entry av (n := maxL) hl
  rw [lg_entry_eq]
  have hin : meth.name = "<init>" := ((name_of_methodNamed B.named B.method).1).trans hnm
  have h := body (p, l, e, (headSpec [Cond.code y cc maxL none] rm).room, s, m, av.toArray, below, meth, c) rfl rfl B.returns hin hD ⟨B.exec, B.bytes, hml, findClass_of_methodNamed B.named, B.notSynchronized, hK, hT, hZ, hle⟩
  rw [← hlv] at h
  exact h s.heap [] _ (fun _ => hsz) hP va_S.rf (by rw [hml]; exact hll)
theorem N_iinc {i : Nat} {j : Int} {x v : Int32} (w : Int32) {lv2 : List (Nat × Value)} (z : Nat) (C : Cx κ G cc own nL) (d : dk cc pc n (.iinc i j) 3) (hk : lv[z]? = some (i, .int x)) (hj : Int32.ofInt j = v) (hw : x + v = w) (hn : i < nL) (hv : (i, Value.int w) :: lv.filter (fun q => !(q.1 == i) && !(q.1 + 1 == i && q.2.category == 2)) = lv2) (k : P → V κ G Q E σ ks n lv2 st) : P → V κ G Q E σ ks pc lv st := by
  subst hw
  exact R_iinc C z d hk hj hn hv k
theorem N_max {idx : Nat} {x y : Int32} (v : Int32) (hv : imax x y = v) (C : Cx κ G cc own nL) (hw : Cond.methodLink own idx Lib.Math.max.name ∈ lw_tbl) (hR : 1 ≤ (kR κ).frames ∧ (st.map fun v => v.category).sum + 13 ≤ (kR κ).locals ∧ ks.2.1 ≤ (kR κ).cells ∧ ks.2.2 ≤ (kR κ).slots) (d : dk cc pc n (.invokestatic idx) 3) (k : P → V κ G Q E σ ks n lv (.int v :: st)) : P → V κ G Q E σ ks pc lv (.int y :: .int x :: st) := by
  subst hv
  exact R_mmax C hw hR d k
theorem N_gets {idx : Nat} (C : Cx κ G cc own nL) (hw : Cond.fieldLinkNest own idx "RunTapes" "AT_FIRST" "[I" "RunTapes" ∈ lw_tbl) (d : dk cc pc n (.getstatic idx) 3) (k : P → V κ G Q E σ ks n lv (.ref (G.2.2.2.2 0) :: st)) : P → V κ G Q E σ ks pc lv st := by
  obtain ⟨p, l, e, R, s, m, args, below, meth, c⟩ := κ
  obtain ⟨hx, hb, hml, hown, hlk, hK, hT, hZ, hG⟩ := C
  obtain ⟨d, rfl⟩ := d
  intro q H locs ls hz hP hS hl
  exact va_getsN hx hb (hZ 0 (by omega)).1 hS hown (hT _ hw rfl _) (fun _ h => h) d (k q H locs ls hz hP hS hl)
theorem N_cast {idx a : Nat} (C : Cx κ G cc own nL) (ha : cd E a = 100) (hw : Cond.classLink own idx "[I" ∈ lw_tbl) (d : dk cc pc n (.checkcast idx) 3) (k : P → V κ G Q E σ ks n lv (.ref (G.1 + a) :: st)) : P → V κ G Q E σ ks pc lv (.ref (G.1 + a) :: st) := by
  obtain ⟨p, l, e, R, s, m, args, below, meth, c⟩ := κ
  obtain ⟨hx, hb, hml, hown, hlk, hK, hT, hZ, hG⟩ := C
  obtain ⟨d, rfl⟩ := d
  intro q H locs ls hz hP hS hl
  have hfi : s.vm.findClass "[I" = some (G.2.2.2.1 0) := (hK.2 0 (G.2.2.2.1 0, .int) rfl).2
  exact va_castA hx hb hown (hT _ hw rfl _) hP a (el_a (G := G) (σ := σ) ha (by omega) (by omega)) hfi d (k q H locs ls hz hP hS hl)
end RD
