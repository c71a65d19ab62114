theorem tb_of {s : State} {args : Array Value} (h : ∀ w ∈ lw_tbl, w.before args s = true) : TbAll s := by
  intro w hw h1 a
  have h2 := h w hw
  cases w with
  | fieldLinkNest => exact va_Nw.use rfl (va_Nw.of (A := args) rfl h2)
  | methodLinkNest => exact va_Nw.use rfl (va_Nw.of (A := args) rfl h2)
  | _ => exact word_at (State.WarmedH.refl s) (good_of_word h1) h2
set_option maxHeartbeats 4000000 in
set_option maxRecDepth 100000 in
theorem whole_start {p : Program} {e : Env} {s : State} {m : MethodId} {below : List Frame} {meth : Method} {c : Code} (l : Launch) (hflags : l.flags = flags0) {b L : Nat} {xs : Nat → Int32} (hL : L ≤ 3072) (C0 : lw_At p s m meth c b L xs) : W p l e room_1 s m #[Value.ref b] below meth c s.heap [] 0 0 (lw_Z below #[Value.ref b] s) (entryFrame m ([Value.ref b] : List Value).toArray 4) := by
  obtain ⟨hx, hb, hr, hml, hown, hts, hX, hbl, hlocks, hgv⟩ := id C0
  have hs := flat_of_before _ hgv
  have hT : TbAll s := tb_of hts
  have hf := tb_hts hT #[Value.ref b]
  have hA0 : ∀ a : Nat, a < s.heap.size → ¬ (fun q => s.heap.size ≤ q) a := fun a h => Nat.not_le.mpr h
  obtain ⟨t0, z0, y0, x0⟩ := st_0 (A := fun q => s.heap.size ≤ q) hs (hts _ (in1 (List.mem_of_getElem? (i := 52) rfl))) (hts _ izL6) hA0
  obtain ⟨t1, z1, y1, x1⟩ := sto_1 (A := fun q => s.heap.size ≤ q) hs (hts _ (in2 (List.mem_of_getElem? (i := 129) rfl))) (hts _ izL6) hA0
  obtain ⟨t2, z2, y2, x2⟩ := st_2 (A := fun q => s.heap.size ≤ q) hs (hts _ (in2 (List.mem_of_getElem? (i := 131) rfl))) (hts _ izL6) hA0
  obtain ⟨c0, i0, k0⟩ := u_known (C := RX0) (T := TX0) (N := 6) (n := 6) hf iw0 (hts (.instantiable RX0 6) (in1 (List.mem_of_getElem? (i := 61) rfl)))
  obtain ⟨c1, i1, k1⟩ := u_known (C := RX1) (T := TX1) (N := 19) (n := 19) hf iw1 (hts (.instantiable RX1 19) (in1 (List.mem_of_getElem? (i := 92) rfl)))
  obtain ⟨c2, i2, k2⟩ := u_known (C := RX2) (T := TX2) (N := 3) (n := 3) hf iw2 (hts (.instantiable RX2 3) (in1 (List.mem_of_getElem? (i := 100) rfl)))
  obtain ⟨c3, i3, k3⟩ := u_known (C := RX3) (T := TX3) (N := 4) (n := 4) hf iw3 (hts (.instantiable RX3 4) (in1 (List.mem_of_getElem? (i := 26) rfl)))
  obtain ⟨c4, i4, k4⟩ := u_known (C := RX4) (T := TX4) (N := 7) (n := 7) hf iw4 (hts (.instantiable RX4 7) (in1 (List.mem_of_getElem? (i := 20) rfl)))
  obtain ⟨c5, i5, k5⟩ := u_known (C := RX5) (T := TX5) (N := 3) (n := 3) hf iw5 (hts (.instantiable RX5 3) (in1 (List.mem_of_getElem? (i := 122) rfl)))
  obtain ⟨c6, i6, k6⟩ := u_known (C := RX6) (T := TX6) (N := 14) (n := 14) hf iw6 (hts (.instantiable RX6 14) (in1 (List.mem_of_getElem? (i := 12) rfl)))
  obtain ⟨c7, i7, k7⟩ := u_known (C := RX7) (T := TX7) (N := 30) (n := 30) hf iw7 (hts (.instantiable RX7 30) (in4 (List.mem_of_getElem? (i := 53) rfl)))
  obtain ⟨a0, ak0, ac0, af0, ag0, ah0⟩ := Cond.arrayClass_spec (hts (.arrayClass .int) aw_100)
  obtain ⟨a1, ak1, ac1, af1, ag1, ah1⟩ := Cond.arrayClass_spec (hts (.arrayClass .boolean) aw_101)
  obtain ⟨a2, ak2, ac2, af2, ag2, ah2⟩ := Cond.arrayClass_spec (hts (.arrayClass .byte) aw_102)
  obtain ⟨a3, ak3, ac3, af3, ag3, ah3⟩ := Cond.arrayClass_spec (hts (.arrayClass .long) aw_103)
  have ao4 := hts (.arrayOver (.object "RunTapes$Tape")) (in1 (List.mem_of_getElem? (i := 98) rfl))
  obtain ⟨ac4, a4, ak4, ai4, aj4, ag4, ah4, af4⟩ := Cond.arrayOver_spec ao4
  have ao5 := hts (.arrayOver (.object "RunTapes$State")) (in1 (List.mem_of_getElem? (i := 233) rfl))
  obtain ⟨ac5, a5, ak5, ai5, aj5, ag5, ah5, af5⟩ := Cond.arrayOver_spec ao5
  have hcast : va_Nw (.castable "[I" "java/lang/Cloneable") s := va_Nw.of (A := #[Value.ref b]) rfl (hts _ (in1 (List.mem_of_getElem? (i := 58) rfl)))
  let G : Gl := (s.heap.size, (fun k => match k with | 0 => c0 | 1 => c1 | 2 => c2 | 3 => c3 | 4 => c4 | 5 => c5 | 6 => c6 | _ => c7), (fun k => match k with | 0 => i0 | 1 => i1 | 2 => i2 | 3 => i3 | 4 => i4 | 5 => i5 | 6 => i6 | _ => i7), (fun k => match k with | 0 => a0 | 1 => a1 | 2 => a2 | 3 => a3 | 4 => a4 | _ => a5), (fun k => match k with | 0 => t0 | 1 => t1 | _ => t2))
  have hK : va_K (GD G) vwCl (tyL G.2.2.2.1) s := by
    refine ⟨fun k q hq => ?_, fun k q hq => ?_⟩
    · match k, hq with
      | 0, hq => cases hq; exact k0
      | 1, hq => cases hq; exact k1
      | 2, hq => cases hq; exact k2
      | 3, hq => cases hq; exact k3
      | 4, hq => cases hq; exact k4
      | 5, hq => cases hq; exact k5
      | 6, hq => cases hq; exact k6
      | 7, hq => cases hq; exact k7
      | k + 8, hq => simp [vwCl] at hq
    · match k, hq with
      | 0, hq => cases hq; exact ⟨fun n z => ⟨fun k h => (by cases h), ak0, ag0, ac0, ah0⟩, af0⟩
      | 1, hq => cases hq; exact ⟨fun n z => ⟨fun k h => (by cases h), ak1, ag1, ac1, ah1⟩, af1⟩
      | 2, hq => cases hq; exact ⟨fun n z => ⟨fun k h => (by cases h), ak2, ag2, ac2, ah2⟩, af2⟩
      | 3, hq => cases hq; exact ⟨fun n z => ⟨fun k h => (by cases h), ak3, ag3, ac3, ah3⟩, af3⟩
      | 4, hq => cases hq; exact ⟨fun n z => ⟨fun k h => (by cases h), ak4, ag4, ac4, ah4⟩, ak4, ac4, ag4, ah4, ai4, af4⟩
      | 5, hq => cases hq; exact ⟨fun n z => ⟨fun k h => (by cases h), ak5, ag5, ac5, ah5⟩, ak5, ac5, ag5, ah5, ai5, af5⟩
      | k + 6, hq => simp [tyL] at hq
  have hZ : Stt G s s.heap := by
    intro k hk
    match k, hk with
    | 0, _ => exact ⟨z0, y0⟩
    | 1, _ => exact ⟨z1, y1⟩
    | 2, _ => exact ⟨z2, y2⟩
  have hD : Sx G s s.heap := by
    obtain ⟨cell, cI, w1, w2, w3, w4, w5, w6, w7⟩ := x0
    have hcI : cI = a0 := Option.some.inj (w2.symm.trans af0)
    subst hcI
    refine ⟨va_AO.of ao4, va_AO.of ao5, hcast, cell, w1, w3, ?_, w4, w5, hA0 _ (Array.getElem?_eq_some_iff.mp w1).1⟩
    apply Array.ext_getElem?
    intro j
    by_cases hj : j < 6
    · rw [w7 j hj]
      show _ = (arrV _ 6 (fun j => .int (stv 0 j))).slots[j]?
      rw [arrV_read _ _ hj]
    · have q1 : cell.slots[j]? = none := by rw [Array.getElem?_eq_none_iff]; omega
      have q2 : (vp_cell (G.2.2.2.1 0) (6, .inl (stv 0))).slots[j]? = none := by
        rw [Array.getElem?_eq_none_iff]
        show (arrV _ 6 (fun j => .int (stv 0 j))).slots.size ≤ j
        rw [arrV_size]
        omega
      rw [q1, q2]
  obtain ⟨σ', hp⟩ := pure_ok L xs hL
  have C : Cx (p, l, e, room_1, s, m, #[Value.ref b], below, meth, c) G cL_law RL 4 := ⟨hx, hb, hml, hown, hlocks, hK, hT, hZ, Nat.le_refl _⟩
  have hgo := kL_all (κ := (p, l, e, room_1, s, m, #[Value.ref b], below, meth, c)) (G := G) (b := b) C hD hr rfl rfl (Nat.le_refl _) ⟨hX, hbl, hA0 _ hbl⟩ hp
  have hll := lv_entry ([.ref b]) (n := 4) (Nat.le_of_ble_eq_true rfl)
  rw [lg_entry_eq]
  exact hgo s.heap [] _ (fun _ => rfl) (fun k q h => by simp [wsOf, E0] at h) va_S.rf (by show lv_has _ c.maxLocals _; rw [hml]; exact hll)
set_option maxHeartbeats 4000000 in
theorem lw_walk (l : Launch) (hflags : l.flags = flags0) (b : Addr) (xs : List Int32) : MetFree l x (headSpec (Jvm.Cond.code x code maxLocals ret :: tables_1) room_1) (lw_P b xs) (fun _ _ _ _ _ => True) lw_Q := by
  refine MetFree.of_bodyS (code := code) (maxLocals := maxLocals) (ret := ret) (by decide) ?_ ?_
  · intro args s m h hn
    obtain ⟨meth, c, h1, h2, h3, h4, h5, h6, -, -⟩ := Cond.code_spec hn (atoms_spec (ws := Jvm.Cond.code x code maxLocals ret :: tables_1) h _ List.mem_cons_self)
    exact ⟨meth, c, h1, h2, h3, h4, h5, h6⟩
  · intro p e s m args below meth c s₁ B hml0 hP _
    obtain ⟨rfl, hx, hbd, hgv⟩ := hP
    obtain ⟨scr, harrAt, hlist, hof, hsmall⟩ := hx
    obtain ⟨hcb, hkn, -, -⟩ := State.arrayAt?_spec harrAt
    have hown : s.vm.findClass R_law0 = some m.cls := findClass_of_methodNamed B.named
    have hts0 : ∀ c ∈ (Jvm.Cond.code x code maxLocals ret :: tables_1), c.before #[Value.ref b] s = true := atoms_spec (ws := Jvm.Cond.code x code maxLocals ret :: tables_1) B.pre
    have hts : ∀ w ∈ lw_tbl, w.before #[Value.ref b] s = true := k2_hts_sels lw_privs (fun w hw => hts0 w (List.mem_cons_of_mem _ hw)) lw_privs_ok
    have hml : c.maxLocals = 4 := B.maxLocals_eq (hts0 _ List.mem_cons_self)
    have X₀ : Stand p l e room_1 s m #[Value.ref b] below meth c s₁ [] 0 0 := Stand.of_body B
    have hh0 : s₁.heap = s.heap := by rw [B.state]; rfl
    have hsz : scr.slots.size = xs.length := by rw [← Array.length_toList, hlist, List.length_map]
    have hval : ∀ j : Nat, j < xs.length → scr.slots[j]? = some (.int (xs.getD j 0)) := fun j hj => by
      rw [← Array.getElem?_toList, hlist]
      simp [hj]
    have hbl : b < s.heap.size := (Array.getElem?_eq_some_iff.mp hcb).1
    have hX : va_X b xs.length (fun j => xs.getD j 0) s s.heap := ⟨scr, hcb, hof, hkn, hsz, hval⟩
    have K : W p l e room_1 s m #[Value.ref b] below meth c s₁.heap [] 0 0 (lw_Z below #[Value.ref b] s) (entryFrame m ([Value.ref b] : List Value).toArray 4) := by
      rw [hh0]
      exact whole_start l hflags hbd ⟨B.exec, B.bytes, B.returns, hml, hown, hts, hX, hbl, B.notSynchronized, hgv⟩
    obtain ⟨t, a1, o, b1, b2, b3⟩ := K s₁ rfl X₀
    exact ⟨t, o, a1, b1, b2, b3⟩
theorem lw_pre_spec {args : Array Value} {s : State} (h : (Jvm.Cond.and given_1 narrow_1).before args s = true) (hr : rest_1_c.before args s = true) : ∃ (b : Addr) (xs : List Int32), lw_P b xs args s := by
  have hs := flat_of_before _ h
  have hq := flat_of_before _ hr
  have hc : (Cond.count 1).before args s = true := hs _ (by decide +kernel)
  have harr : (Cond.arrayOf (.arg 0) .int).before args s = true := hs _ (by decide +kernel)
  have hle : (Cond.le (.length (.arg 0)) (.int 3072)).before args s = true := hs _ (by decide +kernel)
  have hlen : (Cond.isInt (.length (.arg 0))).before args s = true := hq _ (by decide +kernel)
  have hall : (Cond.all (.arg 0) (.isInt (.elem (.arg 0) (.index 0)))).before args s = true := hq _ (by decide +kernel)
  obtain ⟨b, xs, hb, hx⟩ := State.ints_of_pre rfl harr hlen hall
  have hsm : xs.length < 2 ^ 31 := hx.choose_spec.2.2.2
  have hev : (Term.length (.arg 0)).eval args s none [] s = some (.int xs.length.toInt32) := hx.length_eval hb
  have hv := Cond.le_ints hev (show (Term.int 3072).eval args s none [] s = some (.int 3072) from rfl)
  have hd : xs.length.toInt32 ≤ 3072 := by
    simpa [Cond.before, Cond.holds, hv] using hle
  have hN : xs.length ≤ 3072 := (Int32.ofNat_le_ofNat hsm (by decide)).mp (show Int32.ofNat xs.length ≤ Int32.ofNat 3072 from hd)
  exact ⟨b, xs, Cond.one_arg hc (show args[0]? = some (.ref b) from hb), hx, hN, h⟩
theorem lw_comes (l : Launch) (hflags : l.flags = flags0) : Comes l x (Jvm.Cond.code x code maxLocals ret :: tables_1) room_1 (fun tb e args s => Calls_1 tb e args s ∧ rest_1 tb e args s ∧ Pre_1 tb e args s)
    (fun _ _ args s o t => lw_Q args s o t) := by
  intro p e ha hc hk s m args below hf hfit hheap happ hpre
  obtain ⟨b, xs, hP⟩ := lw_pre_spec hpre.2.2 hpre.2.1
  obtain ⟨k, o, h1, h2, h3, hQ⟩ := lw_walk l hflags b xs p e ha hc hk s m args below hf ((Spec.applies_iff_loose hf).mp happ).1 hP trivial
  exact ⟨k, o, h1, h2, h3, hQ⟩
theorem lw_frame {s t : State} {o : Outcome} {args : Array Value} (h : Framed s o t [] 600000 7302250) :
    Framed s o t (fieldLocs frame_1_writes args s ++ arrayLocs frame_1_arrays args s ++ staticLocs frame_1_statics s) 600000 7302250 := h
theorem lw_limb (L : Cond) (hL : ∀ (args : Array Value) (s t : State), L.after args s (.returned (some (.int 1))) t = true) :
    ArmFor flags0 classFile x code maxLocals ret World_1 tables_1 room_1 Calls_1 rest_1 Pre_1
      (fun tb e a s o t => postC L tb e a s o t ∧ Framed s o t (fieldLocs frame_1_writes a s ++ arrayLocs frame_1_arrays a s ++ staticLocs frame_1_statics s) 600000 7302250) := by
  intro l hflags _ _ p e ha hc hk s m args below hf hfit hheap happ hpre
  obtain ⟨k, o, h1, h2, h3, rfl, hF⟩ := lw_comes l hflags p e ha hc hk s m args below hf hfit hheap happ hpre
  exact ⟨k, _, h1, h2, h3, hL args s _, lw_frame hF⟩
theorem i_vc : Claimed_1_1 ∧ Claimed_1_2 := ⟨lw_limb limb_1_1 (fun args s t => by simp [limb_1_1, Cond.after, Cond.holds, Cond.value]), lw_limb limb_1_2 (fun args s t => Cond.after_iff.mpr (by
  first | (rw [show limb_1_2 = Cond.eq .result (.int 1) from rfl, Cond.eq_ints (x := 1) (y := 1) rfl rfl]; simp; done) | (simp [limb_1_2, Cond.value, Term.eval]; done)))⟩
