/-! the reference's mill -/
/-- the records of a run, as they stand -/
def cnt (F : Nat → Nat) (n : Nat) (ro : Nat → Nat) (q : Rn) : List Nat := (lst F n q.2).filter (fun x => q.1.contains (ro x))
theorem cnt_mem {F : Nat → Nat} {n : Nat} {ro : Nat → Nat} {q : Rn} {x : Nat} : x ∈ cnt F n ro q ↔ x < n ∧ ro x ∈ q.1 := by
  unfold cnt
  simp [List.mem_filter, lst_mem]
theorem cnt_srt {F : Nat → Nat} {n : Nat} {ro : Nat → Nat} {q : Rn} : (cnt F n ro q).Pairwise (bet F q.2) := lst_srt.filter _
theorem lst_cnt {F : Nat → Nat} {n : Nat} {f : Bool} {p : Nat → Bool} : (lst F n f).countP p = (rs F n).countP p := by
  unfold lst; cases f
  · rfl
  · simp [List.countP_reverse]
/-- how many records each that grew has -/
def Gln (F : Nat → Nat) (n : Nat) (ro gl : Nat → Nat) (nr : Nat) : Prop := (∀ j, j < nr → (rs F n).countP (fun x => ro x == j) = gl j ∧ 0 < gl j) ∧ ∀ x, x < n → ro x < nr
theorem cp_or {l : List Nat} {p q : Nat → Bool} (h : ∀ x, ¬ (p x = true ∧ q x = true)) : l.countP (fun x => p x || q x) = l.countP p + l.countP q := by
  induction l with
  | nil => rfl
  | cons a l ih =>
    simp only [List.countP_cons]
    rw [ih]
    have := h a
    cases hp : p a <;> cases hq : q a <;> simp [hp, hq] at this ⊢ <;> omega
theorem cnt_len {F : Nat → Nat} {n : Nat} {ro gl : Nat → Nat} {nr : Nat} (hg : Gln F n ro gl nr) {q : Rn} (hnd : q.1.Nodup) (hlt : ∀ j, j ∈ q.1 → j < nr) : (cnt F n ro q).length = szl gl q.1 := by
  unfold cnt
  rw [← List.countP_eq_length_filter, lst_cnt]
  have : ∀ l : List Nat, l.Nodup → (∀ j, j ∈ l → j < nr) → (rs F n).countP (fun x => l.contains (ro x)) = szl gl l := by
    intro l
    induction l with
    | nil => intro _ _; simp [szl]
    | cons a l ih =>
      intro h1 h2
      obtain ⟨h3, h4⟩ := List.nodup_cons.mp h1
      have e : (fun x => (a :: l).contains (ro x)) = fun x => (ro x == a) || l.contains (ro x) := by funext x; rw [List.contains_cons]
      rw [e, cp_or (p := fun x => ro x == a) (q := fun x => l.contains (ro x)), (hg.1 a (h2 a List.mem_cons_self)).1, ih h4 (fun j hj => h2 j (List.mem_cons_of_mem _ hj))]
      · rfl
      · rintro x ⟨q1, q2⟩
        simp only [beq_iff_eq] at q1
        simp only [List.contains_iff_mem] at q2
        rw [q1] at q2
        exact h3 q2
  exact this q.1 hnd hlt
theorem szl_zero {F : Nat → Nat} {n : Nat} {ro gl : Nat → Nat} {nr : Nat} (hg : Gln F n ro gl nr) {l : List Nat} (hlt : ∀ j, j ∈ l → j < nr) : szl gl l = 0 ↔ l = [] := by
  cases l with
  | nil => simp [szl]
  | cons a l => have := (hg.1 a (hlt a List.mem_cons_self)).2; simp only [szl]; constructor <;> intro h; · omega
                · cases h
def DD (σ : Sg) (F : Nat → Nat) (n : Nat) (ro gl : Nat → Nat) (z : Dn) : Prop := z.1 < 700 ∧ gi σ 396 (1227 + z.1) = nI z.2.1 ∧ gi σ 396 (1927 + z.1) = nI (zz gl z) ∧ gi σ 396 (2627 + z.1) = bI z.2.2.2 ∧ z.2.1 + zz gl z ≤ n ∧ ∀ i, i < zz gl z → gi σ 396 (7527 + z.2.1 + i) = nI ((cnt F n ro z.2.2).getD i 0)
/-- settings and records in the reference's row -/
def SR (σ : Sg) (F : Nat → Nat) (n w T : Nat) (bk : Bool) : Prop := gi σ 396 0 = nI n ∧ gi σ 396 2 = nI T ∧ gi σ 396 3 = nI w ∧ gi σ 396 5 = nI (if bk then 1 else 0) ∧ ∀ i, i < n → gi σ 396 (26 + i) = nI (F i)
def Xm (X : Nat → List Dn) (tp : Nat → List Rn) : Prop := ∀ t, (X t).map (fun z => z.2.2) = tp t
/-- runs on the tapes, with their places -/
def RX (σ : Sg) (F : Nat → Nat) (n : Nat) (ro gl : Nat → Nat) (X : Nat → List Dn) : Prop := XT σ X ∧ (∀ z, z ∈ catX X 6 → DD σ F n ro gl z) ∧ (catX X 6).Pairwise (apt gl)
def RMm (σ : Sg) (F : Nat → Nat) (n : Nat) (ro gl : Nat → Nat) (w T : Nat) (bk : Bool) (A : Mi) : Prop := SR σ F n w T bk ∧ (∃ X, Xm X (mT A) ∧ RX σ F n ro gl X) ∧ MKm σ w T (mK A) ∧ gi σ 396 9 = nI (mMo A) ∧ gi σ 396 10 = nI (mSt A) ∧ gi σ 396 11 = nI (mPh A) ∧ gi σ 396 12 = nI (mTu A)
/-- what is given all along -/
def GV (F : Nat → Nat) (n : Nat) (ro gl : Nat → Nat) (nr : Nat) : Prop := n ≤ 300 ∧ (∀ i, i < n → F i < 256) ∧ Gln F n ro gl nr
theorem xm_len {X : Nat → List Dn} {tp : Nat → List Rn} (h : Xm X tp) (t : Nat) : (X t).length = (tp t).length := by rw [← h t, List.length_map]
theorem xm_nil {X : Nat → List Dn} {tp : Nat → List Rn} (h : Xm X tp) {t : Nat} (ht : tp t = []) : X t = [] := List.eq_nil_of_length_eq_zero (by rw [xm_len h, ht]; rfl)
theorem catX_ext {α : Type} {X : Nat → List α} {m : Nat} : ∀ {n : Nat}, m ≤ n → (∀ t, m ≤ t → t < n → X t = []) → catX X n = catX X m
  | 0, h, _ => by rw [show m = 0 by omega]
  | n + 1, h, hx => by
    by_cases hm : m = n + 1
    · rw [hm]
    · show catX X n ++ X n = _
      rw [hx n (by omega) (by omega), List.append_nil, catX_ext (by omega) (fun t h1 h2 => hx t h1 (by omega))]
theorem oc_nd {T nr : Nat} {tp : Nat → List Rn} (h : Oc T nr tp) {t : Nat} {r : Rn} (ht : t < T) (hr : r ∈ tp t) : r.1.Nodup := by
  rw [List.nodup_iff_count]
  intro j
  have h1 := h j
  have h3 : occL j (tp t) ≤ sumF (fun t => occL j (tp t)) T := sumF_pos (f := fun t => occL j (tp t)) ht
  have h4 : ∀ l : List Rn, r ∈ l → r.1.count j ≤ occL j l := by
    intro l
    induction l with
    | nil => intro h; cases h
    | cons a l ih =>
      intro h
      show _ ≤ a.1.count j + occL j l
      rcases List.mem_cons.mp h with rfl | h
      · omega
      · have := ih h; omega
  have := h4 _ hr
  split at h1 <;> omega
section ML
variable {E : En} {σ : Sg} {F : Nat → Nat} {n nr w T : Nat} {ro gl : Nat → Nat} {bk : Bool} {A : Mi}
theorem m_isBack (hM : LMod E) (hM2 : LMo2 E) (h5 : gi σ 396 5 = nI (if bk then 1 else 0)) : fX7_isBack E 395 σ = some (bI bk, σ) := by
  unfold fX7_isBack
  rw [tk_ok hM.1, dr_ok hM.2.1 hM2.1.1, hM2.1.2, i5, ck_n (by omega) (by omega), nI_clamp (by omega), h5]
  cases bk
  · rw [if_pos (by decide), bd_ok, kb_0]; rfl
  · rw [if_neg (by simp; rfl), bd_ok, kb_1]; rfl
theorem dd_fr {σ' : Sg} {z : Dn} (h : DD σ F n ro gl z) (h1 : gi σ' 396 (1227 + z.1) = gi σ 396 (1227 + z.1)) (h2 : gi σ' 396 (1927 + z.1) = gi σ 396 (1927 + z.1)) (h3 : gi σ' 396 (2627 + z.1) = gi σ 396 (2627 + z.1)) (h4 : ∀ i, i < zz gl z → gi σ' 396 (7527 + z.2.1 + i) = gi σ 396 (7527 + z.2.1 + i)) : DD σ' F n ro gl z := by
  obtain ⟨z1, z2, z3, z4, z5, z6⟩ := h
  exact ⟨z1, h1.trans z2, h2.trans z3, h3.trans z4, z5, fun i hi => (h4 i hi).trans (z6 i hi)⟩
theorem sr_fr {σ' : Sg} (h : SR σ F n w T bk) (hn : n ≤ 300) (hf : ∀ k, k = 0 ∨ k = 2 ∨ k = 3 ∨ k = 5 ∨ (26 ≤ k ∧ k < 326) → gi σ' 396 k = gi σ 396 k) : SR σ' F n w T bk := by
  obtain ⟨h1, h2, h3, h4, h5⟩ := h
  exact ⟨by rw [hf _ (by omega)]; exact h1, by rw [hf _ (by omega)]; exact h2, by rw [hf _ (by omega)]; exact h3, by rw [hf _ (by omega)]; exact h4, fun i hi => by rw [hf _ (by omega)]; exact h5 i hi⟩
theorem xm_ct {X : Nat → List Dn} (hT : T ≤ 6) (hx : XT σ X) (hm : Xm X (mT A)) (ha : AI T nr A) : CTm σ T (mK A) := fun t ht => by
  obtain ⟨x1, x2, x3⟩ := hx t (by omega)
  have h1 := ha.2.1 t ht
  have h2 := xm_len hm t
  rw [h1, ← h2]
  exact ⟨x1, x2⟩
theorem m_onAll (hM : LMod E) (hM2 : LMo2 E) (hT : T ≤ 6) (h2 : gi σ 396 2 = nI T) {s : Sk} (hc : CTm σ T s) : fX7_onAll E 395 σ = some (nI (lef T s), σ) := by
  unfold fX7_onAll
  rw [tk_ok hM.1]
  refine bd_tr ((nI (sumF (kc s) T), nI T), σ) T (fun i => ((nI (sumF (kc s) i), nI i), σ)) (by show T < 1000000; omega) (fun i rec hi => ?_) (fun rec => ?_) rfl
  · obtain ⟨c1, c2⟩ := hc i hi
    dsimp only
    unfold bX7_onAll_4
    rw [m_tapes hM hM2, bd_ok, h2, if_neg (nI_ge hi (by omega)), dr_ok hM.2.1 hM2.1.1, hM2.1.2, show (20 : Int32) = nI 20 from rfl, nI_add, ck_n (by omega) (by omega), nI_clamp (by omega), c1, nI_add, lt_ok, lt_ok, ad1]
    rfl
  · unfold bX7_onAll_4
    dsimp only
    rw [m_tapes hM hM2, bd_ok, h2, if_pos (nI_le (Nat.le_refl _) (by omega))]
theorem ct_lef {s : Sk} (hT : T ≤ 6) (hc : CTm σ T s) : lef T s ≤ 1536 := by
  have := lef_lt (T := T) (s := s) (c := 256) (fun t ht => (hc t ht).2)
  omega
/-- cells that steps leave alone -/
def esQ (x k : Nat) : Prop := (x ≠ 396 ∨ k < 7 ∨ k = 8 ∨ k = 14 ∨ k = 18 ∨ k = 19 ∨ (26 ≤ k ∧ k < 1227)) ∧ x ≠ 407 ∧ x ≠ 408 ∧ x ≠ 409
theorem m_looks (hM : LMod E) (hM2 : LMo2 E) (hg : GV F n ro gl nr) (hT : T ≤ 6) (ha : AI T nr A) (h : RMm σ F n ro gl w T bk A) : ∃ s, fX7_looksWhetherMerged E 395 σ = some s ∧ RMm s F n ro gl w T bk (tul gl T A) ∧ gi s 396 7 = (if lef T (mK A) = 1 then 3 else gi σ 396 7) ∧ ∀ x k, esQ x k → gi s x k = gi σ x k := by
  obtain ⟨hn, hF, hgl⟩ := hg
  obtain ⟨hs, ⟨X, hm, hx, hd, hp⟩, hk, t9, t10, t11, t12⟩ := id h
  obtain ⟨a1, a2, a3, a4⟩ := id ha
  have hc := xm_ct hT hx hm ha
  have hll := ct_lef hT hc
  obtain ⟨s0, s2, s3, s5, sk⟩ := id hs
  unfold fX7_looksWhetherMerged
  rw [tk_ok hM.1, m_onAll hM hM2 hT s2 hc, bd_ok]
  by_cases h1 : lef T (mK A) = 1
  · rw [if_pos (by rw [h1]; rfl), dr_ok hM.2.1 hM2.1.1, hM2.1.2, i7, ck_n (by omega) (by omega), nI_clamp (by omega), ss_ok]
    obtain ⟨e, q1, q2, q3⟩ := sum_one h1
    have hlen : (mT A e).length = 1 := by rw [← a2 e q1]; exact q2
    have hoth : ∀ t, t ≠ e → mT A t = [] := fun t ht => by
      by_cases htT : t < T
      · exact List.eq_nil_of_length_eq_zero (by rw [← a2 t htT]; exact q3 t htT ht)
      · exact a3 t (by omega)
    have hXe : ∃ z, X e = [z] := by
      have := xm_len hm e
      rw [hlen] at this
      cases hq : X e with
      | nil => rw [hq] at this; simp at this
      | cons z l => rw [hq] at this; cases l with
        | nil => exact ⟨z, rfl⟩
        | cons _ _ => simp at this
    obtain ⟨z, hz⟩ := hXe
    have hXo : ∀ t, t ≠ e → X t = [] := fun t ht => xm_nil hm (hoth t ht)
    have hme : mT A e = [z.2.2] := by rw [← hm e, hz]; rfl
    have hzin : z ∈ catX X 6 := catX_mem.mpr ⟨e, by omega, by rw [hz]; simp⟩
    obtain ⟨z1, z2, z3, z4, z5, z6⟩ := hd z hzin
    have hloop : ∀ s' : Sg, (∀ k, k ≠ 7 → gi s' 396 k = gi σ 396 k) → fx (fun rec a => bX7_looksWhetherMerged_19 E 396 (fun u0 t => rec (u0, t)) a.1 a.2) FU ((0 : Int32), s') = some (nI e, s') := fun s' hs' => by
      refine for_tr e (fun i => (nI i, s')) (by show e < 1000000; omega) (fun i rec hi => ?_) (fun rec => ?_) rfl
      · obtain ⟨x1, x2, x3⟩ := hx i (by omega)
        rw [hXo i (by omega)] at x1
        dsimp only
        unfold bX7_looksWhetherMerged_19
        rw [hM2.1.2, show (20 : Int32) = nI 20 from rfl, nI_add, ck_n (by omega) (by omega), nI_clamp (by omega), hs' _ (by omega), x1, if_neg (by simp; rfl), lt_ok, ad1]
      · obtain ⟨x1, x2, x3⟩ := hx e (by omega)
        rw [hz] at x1
        dsimp only
        unfold bX7_looksWhetherMerged_19
        rw [hM2.1.2, show (20 : Int32) = nI 20 from rfl, nI_add, ck_n (by omega) (by omega), nI_clamp (by omega), hs' _ (by omega), x1, if_pos (by simp; decide)]
    have hrun := (hx e (by omega)).2.2 0 (by rw [hz]; simp)
    rw [hz] at hrun
    have hrun : gi σ 396 (3327 + 700 * e + 0) = nI z.1 := hrun
    rw [hloop _ (fun k hk => gs_ne (by omega)), bd_ok, i0, m_runAt hM hM2 (by omega) (by omega), bd_ok, gs_ne (by omega), hrun, show (2627 : Int32) = nI 2627 from rfl, nI_add, ck_n (by omega) (by omega), nI_clamp (by omega), gs_ne (by omega), z4]
    have hsum : sumF (fun t => if (hdr (mT A t)).2 then szl gl (hdr (mT A t)).1 else 0) T = if z.2.2.2 then zz gl z else 0 := by
      have : ∀ m, m ≤ T → sumF (fun t => if (hdr (mT A t)).2 then szl gl (hdr (mT A t)).1 else 0) m = if e < m then (if z.2.2.2 then zz gl z else 0) else 0 := by
        intro m
        induction m with
        | zero => intro _; rfl
        | succ m ih =>
          intro hm'
          show sumF _ m + _ = _
          rw [ih (by omega)]
          dsimp only
          by_cases hne : m = e
          · subst hne; rw [hme, if_neg (show ¬ m < m by omega), if_pos (show m < m + 1 by omega)]; simp [zz]
          · rw [hoth m hne]
            by_cases hen : e < m
            · rw [if_pos hen, if_pos (show e < m + 1 by omega)]; simp
            · rw [if_neg hen, if_neg (show ¬ e < m + 1 by omega)]; simp
      rw [this T (Nat.le_refl _), if_pos q1]
    have hct : tul gl T A = (fun t => upr (mT A t), mK A, mMo A, mSt A, mPh A, mTu A + if z.2.2.2 then zz gl z else 0) := by unfold tul; rw [if_pos h1, hsum]
    -- the new decoration
    have fin : ∀ s' : Sg, (∀ k, k ≠ 7 → k ≠ 12 → k ≠ 2627 + z.1 → ¬ (7527 ≤ k ∧ k < 7827) → gi s' 396 k = gi σ 396 k) → gi s' 396 (2627 + z.1) = bI false → gi s' 396 12 = nI (mTu A + if z.2.2.2 then zz gl z else 0) → (∀ i, i < zz gl z → gi s' 396 (7527 + z.2.1 + i) = nI ((cnt F n ro (z.2.2.1, false)).getD i 0)) → RMm s' F n ro gl w T bk (tul gl T A) := by
      intro s' f1 f2 f3 f4
      rw [hct]
      refine ⟨sr_fr hs hn (fun k hk => f1 k (by omega) (by omega) (by omega) (by omega)), ⟨fun t => (X t).map (fun y => (y.1, y.2.1, y.2.2.1, false)), fun t => ?_, fun t ht => ?_, fun y hy => ?_, ?_⟩, mk_fr hk (fun k hk => f1 k (by omega) (by omega) (by omega) (by omega)), ?_, ?_, ?_, f3⟩
      · show _ = upr (mT A t)
        rw [← hm t]
        unfold upr
        rw [List.map_map, List.map_map]; rfl
      · obtain ⟨x1, x2, x3⟩ := hx t ht
        dsimp only
        rw [List.length_map]
        refine ⟨by rw [f1 _ (by omega) (by omega) (by omega) (by omega)]; exact x1, x2, fun k hk => ?_⟩
        rw [f1 _ (by omega) (by omega) (by omega) (by omega), x3 k hk, List.getD_eq_getElem?_getD, List.getD_eq_getElem?_getD, List.getElem?_map, List.getElem?_eq_getElem hk]; rfl
      · obtain ⟨t, ht, hyt⟩ := catX_mem.mp hy
        obtain ⟨y', hy', rfl⟩ := List.mem_map.mp hyt
        have hte : t = e := Decidable.byContradiction (fun hne => by rw [hXo t hne] at hy'; cases hy')
        subst hte
        rw [hz] at hy'
        rw [List.mem_singleton.mp hy']
        exact ⟨z1, by rw [f1 _ (by omega) (by omega) (by omega) (by omega)]; exact z2, by rw [f1 _ (by omega) (by omega) (by omega) (by omega)]; exact z3, f2, z5, f4⟩
      · have e1 : catX (fun t => (X t).map (fun y => ((y.1, y.2.1, y.2.2.1, false) : Dn))) 6 = (catX X 6).map (fun y => (y.1, y.2.1, y.2.2.1, false)) := by
          have : ∀ m, catX (fun t => (X t).map (fun y => ((y.1, y.2.1, y.2.2.1, false) : Dn))) m = (catX X m).map (fun y => (y.1, y.2.1, y.2.2.1, false)) := by
            intro m
            induction m with
            | zero => rfl
            | succ m ih => show _ ++ _ = (catX X m ++ X m).map _; rw [ih, List.map_append]
          exact this 6
        rw [e1, List.pairwise_map]
        exact hp
      · rw [f1 _ (by omega) (by omega) (by omega) (by omega)]; exact t9
      · rw [f1 _ (by omega) (by omega) (by omega) (by omega)]; exact t10
      · rw [f1 _ (by omega) (by omega) (by omega) (by omega)]; exact t11
    rw [if_pos h1]
    cases hdn : z.2.2.2 with
    | false =>
      rw [if_pos (by decide), bd_ok]
      refine ⟨_, rfl, fin _ (fun k k1 _ _ _ => gs_ne (by omega)) (by rw [gs_ne (by omega), z4, hdn]) (by rw [gs_ne (by omega), hdn]; exact t12) (fun i hi => ?_), gs_eq, fun x k he => gs_ne (by unfold esQ at he; omega)⟩
      rw [gs_ne (by omega), z6 i hi]
      congr 3
      rw [← hdn]
    | true =>
      rw [hdn] at fin
      rw [if_neg (by simp; rfl), show (12 : Int32) = nI 12 from rfl, ck_n (by omega) (by omega), show (1927 : Int32) = nI 1927 from rfl, nI_add, ck_n (by omega) (by omega), ck_n (by omega) (by omega), nI_clamp (by omega), nI_clamp (by omega), gs_ne (by omega), gs_ne (by omega), t12, z3, nI_add, ss_ok, ck_n (by omega) (by omega), ss_ok, show (1227 : Int32) = nI 1227 from rfl, nI_add, ck_n (by omega) (by omega), ck_n (by omega) (by omega), nI_clamp (by omega)]
      generalize hs2 : si (si (si σ 396 7 3) 396 12 (nI (mTu A + zz gl z))) 396 (2627 + z.1) (nI 0) = s4
      have f4 : ∀ x k, ¬ (x = 396 ∧ (k = 7 ∨ k = 12 ∨ k = 2627 + z.1)) → gi s4 x k = gi σ x k := fun x k q => by rw [← hs2, gs_ne (by omega), gs_ne (by omega), gs_ne (by omega)]
      have g7 : gi s4 396 7 = 3 := by rw [← hs2, gs_ne (by omega), gs_ne (by omega), gs_eq]
      have g12 : gi s4 396 12 = nI (mTu A + zz gl z) := by rw [← hs2, gs_ne (by omega), gs_eq]
      have g26 : gi s4 396 (2627 + z.1) = bI false := by rw [← hs2, gs_eq]; rfl
      have hzT : z.2.2 ∈ mT A e := by rw [hme]; simp
      have hcl := cnt_len (q := z.2.2) hgl (oc_nd a1 q1 hzT) (fun j hj => oc_lt a1 q1 hzT hj)
      have hcl : (cnt F n ro z.2.2).length = zz gl z := hcl
      rw [f4 _ _ (by omega), z2, f4 _ _ (by omega), z3, ← hcl]
      obtain ⟨s5', e5, ⟨L', l1, l2, l3⟩, f5⟩ := m_sorts (σ := s4) (first := z.2.1) (rising := true) (L := cnt F n ro z.2.2) hM hM2 hn (fun i hi => by rw [f4 _ _ (by omega)]; exact sk i hi) hF (fun x hx => (cnt_mem.mp hx).1) (bet_nodup cnt_srt) (by omega) (fun i hi => by rw [f4 _ _ (by omega)]; exact z6 i (by omega))
      rw [show (1 : Int32) = bI true from rfl, e5, bv_ok, bd_ok]
      have hL' : L' = cnt F n ro (z.2.2.1, false) := srt_uniq (F := F) (f := false) l2 (cnt_srt (q := (z.2.2.1, false))) (fun x => by rw [l1.mem_iff, cnt_mem, cnt_mem])
      refine ⟨s5', rfl, fin s5' (fun k k1 k2 k3 k4 => by rw [f5 _ _ (by omega), f4 _ _ (by omega)]) (by rw [f5 _ _ (by omega)]; exact g26) (by rw [f5 _ _ (by omega)]; exact g12) (fun i hi => by rw [l3 i (by omega), hL']), by rw [f5 _ _ (by omega)]; exact g7, fun x k he => by unfold esQ at he; rw [f5 _ _ (by omega), f4 _ _ (by omega)]⟩
  · rw [i1, if_neg (fun q => h1 ((nI_eq (by omega) (by omega)).mp q)), if_neg h1]
    refine ⟨σ, rfl, ?_, rfl, fun _ _ _ => rfl⟩
    unfold tul
    rw [if_neg h1]
    exact h
end ML
