/-! what the reference's step takes -/
def gT (w T : Nat) (s : Sk) (t : Nat) : Bool := decide (t < T) && gvf w (T / 2) s t
/-- the runs that are taken -/
def hdO (g : Nat → Bool) (X : Nat → List Dn) (t : Nat) : Option Dn := if g t then some ((X t).getD 0 d0) else none
def rsg (bk : Bool) : Option Bool → Bool
  | none => true
  | some d => !bk || d
theorem ldF_6 {w T : Nat} {s : Sk} {tp : Nat → List Rn} (hT : T ≤ 6) : ldF (gT w T s) tp 6 = ldF (gvf w (T / 2) s) tp T := by
  unfold ldF
  rw [fstF_ext hT (fun t h1 h2 => by unfold gT; rw [decide_eq_false (by omega)]; rfl)]
  exact fstF_congr (fun t ht => by unfold gT; rw [decide_eq_true ht, Bool.true_and])
theorem catF_6 {w T : Nat} {s : Sk} {tp : Nat → List Rn} (hT : T ≤ 6) : catF (gT w T s) tp 6 = catF (gvf w (T / 2) s) tp T := by
  have h1 : ∀ m, m ≤ T → catF (gT w T s) tp m = catF (gvf w (T / 2) s) tp m := by
    intro m
    induction m with
    | zero => intro _; rfl
    | succ m ih => intro hm; show catF _ tp m ++ _ = catF _ tp m ++ _; rw [ih (by omega)]; unfold gT; rw [decide_eq_true (show m < T by omega), Bool.true_and]
  have h2 : ∀ m, T ≤ m → catF (gT w T s) tp m = catF (gT w T s) tp T := by
    intro m
    induction m with
    | zero => intro h; rw [show T = 0 by omega]
    | succ m ih =>
      intro h
      by_cases hq : T = m + 1
      · rw [hq]
      · show catF _ tp m ++ _ = _
        rw [ih (by omega)]; unfold gT; rw [decide_eq_false (show ¬ m < T by omega), Bool.false_and]; simp
  rw [h2 6 hT, h1 T (Nat.le_refl _)]
theorem sumF_6 {w T : Nat} {s : Sk} {tp : Nat → List Rn} {gl : Nat → Nat} {d : Bool} (hT : T ≤ 6) : sumF (tuF gl (gT w T s) tp d) 6 = sumF (tuF gl (gvf w (T / 2) s) tp d) T := by
  have h1 : sumF (tuF gl (gT w T s) tp d) T = sumF (tuF gl (gvf w (T / 2) s) tp d) T := sumF_congr (fun t ht => by unfold tuF gT; rw [decide_eq_true ht, Bool.true_and])
  have h2 : ∀ m, T ≤ m → sumF (tuF gl (gT w T s) tp d) m = sumF (tuF gl (gT w T s) tp d) T := by
    intro m
    induction m with
    | zero => intro h; rw [show T = 0 by omega]
    | succ m ih =>
      intro h
      by_cases hq : T = m + 1
      · rw [hq]
      · show sumF _ m + _ = _
        rw [ih (by omega)]; unfold tuF gT; rw [decide_eq_false (show ¬ m < T by omega), Bool.false_and]; simp
  rw [h2 6 hT, h1]
section TK
variable {E : En} {σ : Sg} {F : Nat → Nat} {n nr w T : Nat} {ro gl : Nat → Nat} {bk : Bool} {A : Mi} {X : Nat → List Dn}
theorem hd_run (hm : Xm X (mT A)) (ha : AI T nr A) {t : Nat} (hg : gT w T (mK A) t = true) : t < T ∧ ∃ l, X t = (X t).getD 0 d0 :: l ∧ ((X t).getD 0 d0).2.2 = hdr (mT A t) ∧ 0 < (mT A t).length := by
  unfold gT at hg
  simp only [Bool.and_eq_true, decide_eq_true_eq] at hg
  have h1 := (gv_fl hg.2).2
  rw [ha.2.1 t hg.1] at h1
  refine ⟨hg.1, ?_⟩
  cases hq : X t with
  | nil => have := xm_len hm t; rw [hq] at this; simp at this; omega
  | cons z l => exact ⟨l, rfl, by rw [← hm t, hq]; rfl, h1⟩
theorem m_laysTaken (hM : LMod E) (hM2 : LMo2 E) (hg : GV F n ro gl nr) (hT : T ≤ 6) (hT3 : 3 ≤ T) (hw : w ≤ 2) (ha : AI T nr A) (hok : oks w T (T / 2) (mK A) = true) (hs : SR σ F n w T bk) (hm : Xm X (mT A)) (hx : RX σ F n ro gl X) (hk : MKm σ w T (mK A)) :
    ∃ s, fX7_laysTaken E 395 σ = some (bI (rsg bk (ldD (gvf w (T / 2) (mK A)) (mT A) T)), s) ∧ (∀ t, t < 6 → gi s 407 t = tkO (hdO (gT w T (mK A)) X t)) ∧ ∀ x k, x ≠ 407 → gi s x k = gi σ x k := by
  obtain ⟨m0, m1, m2, m3, m4, m5, m6, m7, m8, m9, m10, m11, m12, m13, mz⟩ := id hM
  obtain ⟨n1, n2, n3, n4, n5, n6, n7, n8, n9, n10, n11, n12, n13, nz⟩ := id hM2
  obtain ⟨hn, hF, hgl⟩ := hg
  obtain ⟨o1, o2, o3, o4, o5⟩ := oks_un hok
  obtain ⟨hx1, hx2, hx3⟩ := hx
  have hc := xm_ct hT hx1 hm ha
  unfold fX7_laysTaken
  rw [tk_ok m0]
  generalize hgd : gT w T (mK A) = g
  have hgr : ∀ t, g t = true → t < T ∧ ∃ l, X t = (X t).getD 0 d0 :: l ∧ ((X t).getD 0 d0).2.2 = hdr (mT A t) ∧ 0 < (mT A t).length := fun t q => hd_run hm ha (by rw [hgd]; exact q)
  have eld : ldD (gvf w (T / 2) (mK A)) (mT A) T = ldD g (mT A) 6 := by unfold ldD; rw [← hgd, ldF_6 hT]
  rw [eld]
  obtain ⟨⟨⟨u, v, y⟩, s⟩, e, q1, q2, q3⟩ := for_in (F := fun (rec : (Int32 × Int32 × Int32) × Sg → Option ((Int32 × Int32 × Int32) × Sg)) (a : (Int32 × Int32 × Int32) × Sg) => bX7_laysTaken_6 E 395 (fun u0 u1 u2 t => rec ((u0, u1, u2), t)) a.1.1 a.1.2.1 a.1.2.2 a.2) 6
    (fun i b => b.1 = (bI (rsg bk (ldD g (mT A) i)), bI (ldF g (mT A) i).isNone, nI i) ∧ (∀ t, t < i → gi b.2 407 t = tkO (hdO g X t)) ∧ ∀ x k, x ≠ 407 → gi b.2 x k = gi σ x k)
    (fun b => b.1.1 = bI (rsg bk (ldD g (mT A) 6)) ∧ (∀ t, t < 6 → gi b.2 407 t = tkO (hdO g X t)) ∧ ∀ x k, x ≠ 407 → gi b.2 x k = gi σ x k) (N := FU) (by show 6 < 1000000; omega)
    (by
      rintro i ⟨⟨u, v, y⟩, s⟩ rec hi ⟨q1, q2, q3⟩
      dsimp only at q1 q2 q3 ⊢
      injection q1 with q1 q1'
      injection q1' with q1' q1''
      subst q1; subst q1'; subst q1''
      have hgi : fX7_doesGive E 395 (nI i) s = some (bI (g i), s) := by
        rw [← hgd]
        exact m_gives hM hM2 (mk_fr hk (fun k _ => q3 _ _ (by omega))) (ct_fr hc hT (fun k _ _ => q3 _ _ (by omega))) hT hT3 hw o2 o3 o5 hi
      have hl1 : ldF g (mT A) (i + 1) = match ldF g (mT A) i with | some x => some x | none => if (g i && !(hdr (mT A i)).1.isEmpty) = true then some i else none := rfl
      have fin : ∀ (s' : Sg) (u v : Int32), (∀ t, t < i + 1 → gi s' 407 t = tkO (hdO g X t)) → (∀ x k, x ≠ 407 → gi s' x k = gi σ x k) → (u, v) = (bI (rsg bk (ldD g (mT A) (i + 1))), bI (ldF g (mT A) (i + 1)).isNone) → ∃ a', rec ((u, v, nI i + 1), s') = rec a' ∧ (a'.1 = (bI (rsg bk (ldD g (mT A) (i + 1))), bI (ldF g (mT A) (i + 1)).isNone, nI (i + 1)) ∧ (∀ t, t < i + 1 → gi a'.2 407 t = tkO (hdO g X t)) ∧ ∀ x k, x ≠ 407 → gi a'.2 x k = gi σ x k) := by
        intro s' u v h1 h2 h3
        injection h3 with h3 h4
        subst h3; subst h4
        exact ⟨_, rfl, by dsimp only; rw [ad1], h1, h2⟩
      unfold bX7_laysTaken_6
      rw [i6, if_neg (nI_ge hi (by omega)), dr_ok m12 n12.1, hgi, bd_ok, n12.2]
      cases hgi' : g i with
      | false =>
        have ho : hdO g X i = none := by unfold hdO; rw [hgi']; rfl
        have hl2 : ldF g (mT A) (i + 1) = ldF g (mT A) i := by
          rw [hl1, hgi']
          cases ldF g (mT A) i <;> rfl
        rw [if_pos (by rfl), bd_ok, ck_n (by omega) (by omega), nI_clamp (by omega), ss_ok, ck_n (by omega) (by omega), gs_eq, if_pos rfl, bd_ok, lt_ok]
        refine fin _ _ _ (fun t ht => ?_) (fun x k hx => by rw [gs_ne (by omega)]; exact q3 x k hx) (by unfold ldD; rw [hl2])
        by_cases hti : t = i
        · subst hti; rw [gs_eq, ho]; rfl
        · rw [gs_ne (by omega)]; exact q2 t (by omega)
      | true =>
        obtain ⟨hiT, l, hXi, hrn, hpos⟩ := hgr i hgi'
        generalize hz : (X i).getD 0 d0 = z at *
        have ho : hdO g X i = some z := by unfold hdO; rw [hgi', hz]; rfl
        have hzin : z ∈ catX X 6 := catX_mem.mpr ⟨i, hi, by rw [hXi]; simp⟩
        obtain ⟨z1, z2, z3, z4, z5, z6⟩ := hx2 z hzin
        have hrt := (hx1 i hi).2.2 0 (by rw [hXi]; simp)
        rw [hz] at hrt
        have hzr : z.2.2 ∈ mT A i := by rw [hrn]; exact hdr_mem hpos
        have hzl : ∀ j, j ∈ z.2.2.1 → j < nr := fun j hj => oc_lt ha.1 hiT hzr hj
        have hsz : zz gl z = 0 ↔ z.2.2.1 = [] := szl_zero hgl hzl
        have hszn : zz gl z < 2 ^ 31 := by omega
        rw [if_neg (by decide), i0, m_runAt hM hM2 hi (by omega), bd_ok, bd_ok, q3 _ _ (by omega), hrt, ck_n (by omega) (by omega), nI_clamp (by omega), ss_ok, ck_n (by omega) (by omega), gs_eq, if_neg (nI_nm1 (by omega)), dr_ok m1 n1.1, n1.2, ck_n (by omega) (by omega), show (1927 : Int32) = nI 1927 from rfl, nI_add, ck_n (by omega) (by omega), nI_clamp (by omega), gs_ne (by omega), q3 _ _ (by omega), z3]
        have h407 : ∀ t, t < i + 1 → gi (si s 407 i (nI z.1)) 407 t = tkO (hdO g X t) := fun t ht => by
          by_cases hti : t = i
          · subst hti; rw [gs_eq, ho]; rfl
          · rw [gs_ne (by omega)]; exact q2 t (by omega)
        have hfr : ∀ x k, x ≠ 407 → gi (si s 407 i (nI z.1)) x k = gi σ x k := fun x k hx => by rw [gs_ne (by omega)]; exact q3 x k hx
        by_cases h0 : zz gl z = 0
        · have hl2 : ldF g (mT A) (i + 1) = ldF g (mT A) i := by
            rw [hl1, ← hrn, hsz.mp h0]
            cases ldF g (mT A) i <;> simp
          rw [h0, if_pos (show nI 0 ≤ nI 0 by decide), bd_ok, lt_ok]
          exact fin _ _ _ h407 hfr (by unfold ldD; rw [hl2])
        · rw [if_neg (show ¬ nI (zz gl z) ≤ nI 0 from nI_nle (by omega) hszn)]
          have hne : (hdr (mT A i)).1.isEmpty = false := by
            rw [← hrn]
            cases hq : z.2.2.1 with
            | nil => exact absurd (hsz.mpr hq) h0
            | cons _ _ => rfl
          cases hlf : ldF g (mT A) i with
          | some t' =>
            have hl2 : ldF g (mT A) (i + 1) = ldF g (mT A) i := by rw [hl1, hlf]
            rw [hlf] at hl2
            rw [if_pos (by rfl), bd_ok, lt_ok]
            exact fin _ _ _ h407 hfr (by unfold ldD; rw [hl2, hlf])
          | none =>
            have hl2 : ldF g (mT A) (i + 1) = some i := by rw [hl1, hlf, hgi', hne]; rfl
            rw [if_neg (by decide), m_isBack hM hM2 (bk := bk) (by rw [hfr _ _ (by omega)]; exact hs.2.2.2.1), bd_ok]
            have hdd : ldD g (mT A) (i + 1) = some z.2.2.2 := by unfold ldD; rw [hl2, hrn]; rfl
            cases hbk : bk with
            | false =>
              rw [if_pos (by rfl), bd_ok, bd_ok, lt_ok]
              rw [hbk] at fin
              exact fin _ _ _ h407 hfr (by rw [hdd, hl2]; rfl)
            | true =>
              rw [hbk] at fin
              rw [if_neg (by decide), ck_n (by omega) (by omega), gs_eq, show (2627 : Int32) = nI 2627 from rfl, nI_add, ck_n (by omega) (by omega), nI_clamp (by omega), hfr _ _ (by omega), z4]
              have hw29 : (if ¬ bI z.2.2.2 = (1 : Int32) then (some ((nI 0), si s 407 i (nI z.1))) else (some ((1 : Int32), si s 407 i (nI z.1)))) = some (bI z.2.2.2, si s 407 i (nI z.1)) := by
                cases z.2.2.2 <;> rfl
              rw [hw29, bd_ok, bd_ok, lt_ok]
              exact fin _ _ _ h407 hfr (by rw [hdd, hl2]; rfl))
    (by
      rintro ⟨⟨u, v, y⟩, s⟩ rec ⟨q1, q2, q3⟩
      dsimp only at q1 q2 q3 ⊢
      injection q1 with q1 q1'
      injection q1' with q1' q1''
      subst q1; subst q1'; subst q1''
      unfold bX7_laysTaken_6
      rw [i6, if_pos (nI_le (Nat.le_refl _) (by omega))]
      exact ⟨_, rfl, rfl, q2, q3⟩)
    (a := (((1 : Int32), (1 : Int32), (0 : Int32)), σ)) ⟨rfl, fun t ht => absurd ht (Nat.not_lt_zero t), fun _ _ _ => rfl⟩
  dsimp only at q1 q2 q3
  subst q1
  rw [e, bd_ok, kb_b]
  exact ⟨s, rfl, q2, q3⟩
/-- what is left on the tapes -/
def lft (g : Nat → Bool) (X : Nat → List Dn) (t : Nat) : List Dn := if g t then (X t).tail else X t
theorem m_takeAll (hM : LMod E) (hM2 : LMo2 E) (hg : GV F n ro gl nr) (hT : T ≤ 6) (ha : AI T nr A) (hs : SR σ F n w T bk) (hm : Xm X (mT A)) (hx : RX σ F n ro gl X) (h407 : ∀ t, t < 6 → gi σ 407 t = tkO (hdO (gT w T (mK A)) X t)) {tu : Nat} (h12 : gi σ 396 12 = nI tu) {ld : Option Bool} (hld : ld = none → ∀ t, t < 6 → gT w T (mK A) t = true → (hdr (mT A t)).1 = []) :
    ∃ b, fx (fun rec a => bX7_steps_12 E 395 (bI (rsg bk ld)) (fun u0 u1 u2 t => rec ((u0, u1, u2), t)) a.1.1 a.1.2.1 a.1.2.2 a.2) FU (((0 : Int32), (-1 : Int32), (0 : Int32)), σ) = some b ∧ (b.1.1 = nI (szl gl (catF (gT w T (mK A)) (mT A) 6)) ∧ (∀ e, fstF (gT w T (mK A)) 6 = some e → b.1.2.1 = nI ((X e).getD 0 d0).1) ∧ gi b.2 396 12 = nI (tu + sumF (tuF gl (gT w T (mK A)) (mT A) (bk && (ld == some true))) 6) ∧ XT b.2 (lft (gT w T (mK A)) X) ∧ ∀ x k, ¬ (x = 396 ∧ (k = 12 ∨ (20 ≤ k ∧ k < 26) ∨ (3327 ≤ k ∧ k < 7527))) → gi b.2 x k = gi σ x k) := by
  obtain ⟨m0, m1, m2, m3, m4, m5, m6, m7, m8, m9, m10, m11, m12, m13, mz⟩ := id hM
  obtain ⟨n1, n2, n3, n4, n5, n6, n7, n8, n9, n10, n11, n12, n13, nz⟩ := id hM2
  obtain ⟨hn, hF, hgl⟩ := hg
  obtain ⟨hx1, hx2, hx3⟩ := hx
  generalize hgd : gT w T (mK A) = g at *
  have hgr : ∀ t, g t = true → t < T ∧ ∃ l, X t = (X t).getD 0 d0 :: l ∧ ((X t).getD 0 d0).2.2 = hdr (mT A t) ∧ 0 < (mT A t).length := fun t q => hd_run hm ha (by rw [hgd]; exact q)
  refine for_in 6 (fun i b => b.1.1 = nI (szl gl (catF g (mT A) i)) ∧ b.1.2.1 = (match fstF g i with | none => -1 | some e => nI ((X e).getD 0 d0).1) ∧ b.1.2.2 = nI i ∧ gi b.2 396 12 = nI (tu + sumF (tuF gl g (mT A) (bk && (ld == some true))) i) ∧ XT b.2 (fun t => if t < i then lft g X t else X t) ∧ ∀ x k, ¬ (x = 396 ∧ (k = 12 ∨ (20 ≤ k ∧ k < 26) ∨ (3327 ≤ k ∧ k < 7527))) → gi b.2 x k = gi σ x k) _ (by show 6 < 1000000; omega) ?_ ?_ ⟨rfl, rfl, rfl, h12, fun t ht => ?_, fun _ _ _ => rfl⟩
  · rintro i ⟨⟨u, v, y⟩, s⟩ rec hi ⟨q1, q2, q3, q4, q5, q6⟩
    dsimp only at q1 q2 q3 q4 q5 q6 ⊢
    subst q1; subst q2; subst q3
    have hf1 : fstF g (i + 1) = match fstF g i with | some x => some x | none => if g i then some i else none := rfl
    unfold bX7_steps_12
    rw [i6, if_neg (nI_ge hi (by omega)), dr_ok m12 n12.1, n12.2, ck_n (by omega) (by omega), nI_clamp (by omega), q6 407 i (by omega), h407 i hi]
    cases hgi' : g i with
    | false =>
      have ho : hdO g X i = none := by unfold hdO; rw [hgi']; rfl
      rw [ho, show tkO none = -1 from rfl, if_pos rfl, bd_ok, lt_ok, ad1]
      refine ⟨_, rfl, ?_, ?_, rfl, ?_, fun t ht => ?_, q6⟩
      · dsimp only; show _ = nI (szl gl (catF g (mT A) i ++ (if g i then _ else []))); rw [hgi']; simp
      · dsimp only; rw [hf1, hgi']; cases fstF g i <;> rfl
      · dsimp only; rw [q4]; show _ = nI (tu + (sumF _ i + tuF gl g (mT A) _ i)); unfold tuF; rw [hgi']; rfl
      · have := q5 t ht
        dsimp only at this ⊢
        by_cases hti : t = i
        · subst hti
          rw [if_neg (by omega)] at this
          rw [if_pos (by omega)]; unfold lft; rw [hgi', if_neg (by decide)]; exact this
        · rw [ifc (p := t < i + 1) (q := t < i) ⟨fun q => by omega, fun q => by omega⟩]; exact this
    | true =>
      obtain ⟨hiT, l, hXi, hrn, hpos⟩ := hgr i hgi'
      generalize hz : (X i).getD 0 d0 = z at *
      have ho : hdO g X i = some z := by unfold hdO; rw [hgi', hz]; rfl
      have hzin : z ∈ catX X 6 := catX_mem.mpr ⟨i, hi, by rw [hXi]; simp⟩
      obtain ⟨z1, z2, z3, z4, z5, z6⟩ := hx2 z hzin
      have hzr : z.2.2 ∈ mT A i := by rw [hrn]; exact hdr_mem hpos
      have hsz : zz gl z = 0 ↔ z.2.2.1 = [] := szl_zero hgl (fun j hj => oc_lt ha.1 hiT hzr hj)
      obtain ⟨s2, e2, x2, f2⟩ := m_takes (t := i) hM hM2 q5 hi (z := z) (l := l) (by rw [if_neg (by omega)]; exact hXi)
      have f2' : ∀ x k, ¬ (x = 396 ∧ ((20 ≤ k ∧ k < 26) ∨ (3327 ≤ k ∧ k < 7527))) → gi s2 x k = gi s x k := fun x k q => f2 x k (by omega)
      have h27 : gi s2 407 i = nI z.1 := by rw [f2' _ _ (by omega), q6 _ _ (by omega), h407 i hi, ho]; rfl
      have g19 : gi s2 396 (1927 + z.1) = nI (zz gl z) := by rw [f2' _ _ (by omega), q6 _ _ (by omega)]; exact z3
      have g26 : gi s2 396 (2627 + z.1) = bI z.2.2.2 := by rw [f2' _ _ (by omega), q6 _ _ (by omega)]; exact z4
      have g12 : gi s2 396 12 = nI (tu + sumF (tuF gl g (mT A) (bk && (ld == some true))) i) := by rw [f2' _ _ (by omega)]; exact q4
      rw [ho, show tkO (some z) = nI z.1 from rfl, if_neg (nI_nm1 (by omega)), e2, bd_ok, dr_ok m1 n1.1, n1.2, h27, ck_n (by omega) (by omega), show (1927 : Int32) = nI 1927 from rfl, nI_add, ck_n (by omega) (by omega), nI_clamp (by omega), g19, lt_ok, nI_add]
      have hinto : (if ¬ (match fstF g i with | none => (-1 : Int32) | some e => nI ((X e).getD 0 d0).1) = (-1 : Int32) then (some ((match fstF g i with | none => (-1 : Int32) | some e => nI ((X e).getD 0 d0).1), s2)) else (ck (nI i) 6 (some (nI z.1, s2)))) = some ((match fstF g (i + 1) with | none => (-1 : Int32) | some e => nI ((X e).getD 0 d0).1), s2) := by
        rw [hf1]
        cases hfs : fstF g i with
        | some e =>
          obtain ⟨w1, w2, w3⟩ := fstF_some hfs
          obtain ⟨_, l', hXe, _, _⟩ := hgr e w2
          have := (hx2 _ (catX_mem.mpr ⟨e, by omega, by rw [hXe]; simp⟩ : (X e).getD 0 d0 ∈ catX X 6)).1
          dsimp only
          rw [if_pos (nI_nm1 (by omega))]
        | none =>
          dsimp only
          rw [if_neg (by simp), ck_n (by omega) (by omega), hgi', if_pos rfl]
          show some (nI z.1, s2) = some (nI ((X i).getD 0 d0).1, s2)
          rw [hz]
      rw [hinto, bd_ok, ck_n (j := i) (by omega) (by omega), h27, nI_add, ck_n (j := 1927 + z.1) (by omega) (by omega), nI_clamp (n := 1927 + z.1) (by omega), g19]
      -- whether it must be turned
      have hoth : (if nI (zz gl z) ≤ 0 then (some ((0 : Int32), s2)) else (ck (nI i) 6 (ck ((2627 : Int32) + nI z.1) 7827 (bd (fX7_isBack E 395 s2) (fun r34 s32 => bd (if r34 = 0 then (some ((1 : Int32), s32)) else (bd (if ¬ bI (rsg bk ld) = 0 then (some ((0 : Int32), s32)) else (some ((1 : Int32), s32))) (fun w37 s38 => bd (fX7_truth E w37 s38) (fun r41 s39 => some (r41, s39))))) (fun w35 s36 => if ¬ (gi s2 396 ((2627 : Int32) + nI z.1).toNatClampNeg) = w35 then (some ((0 : Int32), s36)) else (some ((1 : Int32), s36)))))))) = some (bI (decide (tuF gl g (mT A) (bk && (ld == some true)) i ≠ 0)), s2) := by
        have htu : tuF gl g (mT A) (bk && (ld == some true)) i = if z.2.2.2 = (bk && (ld == some true)) then 0 else zz gl z := by unfold tuF; rw [hgi', if_pos rfl, ← hrn]; rfl
        rw [htu]
        by_cases h0 : zz gl z = 0
        · rw [h0, if_pos (by decide), ite_self]; rfl
        · rw [if_neg (nI_nle (by omega) (by omega)), ck_n (by omega) (by omega), show (2627 : Int32) = nI 2627 from rfl, nI_add, ck_n (by omega) (by omega), nI_clamp (by omega), g26, m_isBack hM hM2 (bk := bk) (by rw [f2' _ _ (by omega), q6 _ _ (by omega)]; exact hs.2.2.2.1), bd_ok]
          have hldn : ld ≠ none := fun q => by
            have := hld q i hi hgi'
            rw [← hrn] at this
            exact h0 (hsz.mpr this)
          obtain ⟨dl, hdl⟩ := Option.ne_none_iff_exists'.mp hldn
          subst hdl
          cases bk <;> cases dl <;> cases z.2.2.2 <;> simp [rsg, bI, bd, m_truth, h0] <;> rfl
      rw [hoth, bd_ok, show (12 : Int32) = nI 12 from rfl, ck_n (by omega) (by omega)]
      have hadd : (if bI (decide (tuF gl g (mT A) (bk && (ld == some true)) i ≠ 0)) = 0 then (some ((0 : Int32), s2)) else (ck (nI i) 6 (ck (nI (1927 + z.1)) 7827 (some (nI (zz gl z), s2))))) = some (nI (tuF gl g (mT A) (bk && (ld == some true)) i), s2) := by
        have htu : tuF gl g (mT A) (bk && (ld == some true)) i = if z.2.2.2 = (bk && (ld == some true)) then 0 else zz gl z := by unfold tuF; rw [hgi', if_pos rfl, ← hrn]; rfl
        by_cases h0 : tuF gl g (mT A) (bk && (ld == some true)) i = 0
        · rw [h0, if_pos (by rfl)]; rfl
        · rw [decide_eq_true h0, if_neg (by decide), ck_n (by omega) (by omega), ck_n (by omega) (by omega)]
          rw [htu] at h0 ⊢
          split at h0
          · exact absurd rfl h0
          · next hq => rw [if_neg hq]
      rw [h27, nI_add, nI_clamp (n := 1927 + z.1) (by omega), g19, hadd, bd_ok, ck_n (by omega) (by omega), nI_clamp (by omega), g12, nI_add, ss_ok, bd_ok, lt_ok, ad1]
      refine ⟨_, rfl, ?_, rfl, rfl, ?_, ?_, fun x k q => ?_⟩
      · dsimp only
        show _ = nI (szl gl (catF g (mT A) i ++ (if g i then (hdr (mT A i)).1 else [])))
        rw [hgi', if_pos rfl, szl_app, ← hrn]; rfl
      · dsimp only; rw [gs_eq, Nat.add_assoc]; rfl
      · dsimp only
        refine xt_fr (σ := s2) ?_ (fun k _ => gs_ne (by omega))
        intro t ht
        have := x2 t ht
        unfold upX at this
        dsimp only
        by_cases hti : t = i
        · subst hti
          rw [if_pos rfl] at this
          rw [if_pos (by omega)]; unfold lft; rw [hgi', if_pos rfl, hXi]; exact this
        · rw [if_neg hti] at this
          rw [ifc (p := t < i + 1) (q := t < i) ⟨fun q => by omega, fun q => by omega⟩]; exact this
      · dsimp only; rw [gs_ne (by omega), f2' _ _ (by omega)]; exact q6 x k q
  · rintro ⟨⟨u, v, y⟩, s⟩ rec ⟨q1, q2, q3, q4, q5, q6⟩
    dsimp only at q1 q2 q3 q4 q5 q6 ⊢
    subst q3
    unfold bX7_steps_12
    rw [i6, if_pos (nI_le (Nat.le_refl _) (by omega))]
    refine ⟨_, rfl, q1, fun e he => by dsimp only; rw [q2, he], q4, fun t ht => ?_, q6⟩
    have := q5 t ht
    dsimp only at this
    rw [if_pos ht] at this
    exact this
  · dsimp only
    rw [if_neg (by omega)]
    exact hx1 t ht
end TK
