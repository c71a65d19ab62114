/-! steps on paper -/
def ski (w T : Nat) (s : Sk) : Nat → Sk
  | 0 => s
  | n + 1 => (skn w T (T / 2) (ski w T s n)).1
theorem ski_s {w T : Nat} {s : Sk} : ∀ n, ski w T (skn w T (T / 2) s).1 n = ski w T s (n + 1)
  | 0 => rfl
  | n + 1 => by show (skn w T (T / 2) _).1 = (skn w T (T / 2) _).1; rw [ski_s n]
/-- a skeleton comes to one run in K steps -/
def Gd (w T : Nat) (s : Sk) (K : Nat) : Prop := K ≤ 699 ∧ lef T (ski w T s K) = 1 ∧ ∀ j, j < K → lef T (ski w T s j) ≠ 1 ∧ oks w T (T / 2) (ski w T s j) = true
theorem good_un {w T : Nat} : ∀ {f : Nat} {s : Sk}, good w T (T / 2) f s = true → ∃ K, K ≤ f ∧ lef T (ski w T s K) = 1 ∧ ∀ j, j < K → lef T (ski w T s j) ≠ 1 ∧ oks w T (T / 2) (ski w T s j) = true
  | 0, s, h => ⟨0, Nat.le_refl _, by simpa [good, ski] using h, fun j hj => absurd hj (Nat.not_lt_zero j)⟩
  | f + 1, s, h => by
    unfold good at h
    by_cases h1 : lef T s = 1
    · exact ⟨0, Nat.zero_le _, h1, fun j hj => absurd hj (Nat.not_lt_zero j)⟩
    · rw [if_neg (by simpa using h1)] at h
      simp only [Bool.and_eq_true] at h
      obtain ⟨K, k1, k2, k3⟩ := good_un h.2
      rw [ski_s] at k2
      refine ⟨K + 1, by omega, k2, fun j hj => ?_⟩
      cases j with
      | zero => exact ⟨h1, h.1⟩
      | succ j => have := k3 j (by omega); rw [ski_s] at this; exact this
def skA (w T nr : Nat) : Sk := if w = 1 then skb T nr else sk0 w T (lvA w T nr)
noncomputable def kst (w T nr : Nat) : Nat := @dite _ (∃ K, Gd w T (skA w T nr) K) (Classical.propDecidable _) (fun h => h.choose) (fun _ => 0)
theorem gd_kst {w T nr K : Nat} (h : Gd w T (skA w T nr) K) : kst w T nr = K := by
  unfold kst
  have hex : ∃ K, Gd w T (skA w T nr) K := ⟨K, h⟩
  rw [dif_pos hex]
  obtain ⟨h1, h2, h3⟩ := hex.choose_spec
  obtain ⟨g1, g2, g3⟩ := h
  by_cases hlt : hex.choose < K
  · exact absurd h2 (g3 _ hlt).1
  · by_cases hgt : K < hex.choose
    · exact absurd g2 (h3 _ hgt).1
    · omega
/-- all is well with so many runs -/
def Gok (w T nr : Nat) : Prop := w ≤ 2 ∧ 3 ≤ T ∧ T ≤ 6 ∧ 1 ≤ nr ∧ nr ≤ 700 ∧ Cap w T nr ∧ Gd w T (skA w T nr) (kst w T nr)
theorem gok_of {w T nr : Nat} (hw : w ≤ 2) (hT3 : 3 ≤ T) (hT : T ≤ 6) (hn1 : 1 ≤ nr) (hn : nr ≤ 700) (hc : Cap w T nr) (hg : good w T (T / 2) 699 (skA w T nr) = true) : Gok w T nr := by
  obtain ⟨K, k1, k2, k3⟩ := good_un hg
  have hG : Gd w T (skA w T nr) K := ⟨k1, k2, k3⟩
  exact ⟨hw, hT3, hT, hn1, hn, hc, by rw [gd_kst hG]; exact hG⟩
theorem gok_lv {w T nr l L : Nat} (hw : w = 0 ∨ w = 2) (hT3 : 3 ≤ T) (hT : T ≤ 6) (hn1 : 1 ≤ nr) (hn : nr ≤ 700) (hl : l < L) (hL : L ≤ 40) (h1 : nr ≤ smp w (T - 1) l) (h2 : cntF (fun i => decide (smp w (T - 1) i < 2 ^ 31)) L = L) (h3 : cntF (gdl w T) L = L) : Gok w T nr := by
  obtain ⟨e, q1, q2⟩ := fstF_ex (p := fun l => decide (nr ≤ smp w (T - 1) l)) (n := 40) (j := l) (by omega) (by simpa using h1)
  have hgd := cntF_all h3 e (by omega)
  have hlv : lvA w T nr = e := by unfold lvA lvl; rw [q1]; rfl
  have hw1 : w ≠ 1 := by omega
  refine gok_of (by omega) hT3 hT hn1 hn ?_ ?_
  · unfold Cap
    rw [if_neg hw1]
    exact ⟨e, q1, hgd, fun i hi => by have := cntF_all h2 i (by omega); simpa using this⟩
  · unfold skA
    rw [if_neg hw1, hlv]
    unfold gdl at hgd
    simp only [Bool.and_eq_true] at hgd
    exact hgd.1
/-- at most 150 runs -/
theorem gok {w T nr : Nat} (hw : w ≤ 2) (hT3 : 3 ≤ T) (hT : T ≤ 6) (hn1 : 1 ≤ nr) (hn : nr ≤ 150) (h1 : w ≠ 1 ∨ 3 < T) : Gok w T nr := by
  rcases (show w = 0 ∨ w = 1 ∨ w = 2 by omega) with rfl | rfl | rfl
  · rcases (show T = 3 ∨ T = 4 ∨ T = 5 ∨ T = 6 by omega) with rfl | rfl | rfl | rfl
    · exact gok_lv (l := 11) (L := 12) (by omega) hT3 hT hn1 (by omega) (by omega) (by omega) (Nat.le_trans hn lv_03.1) lv_03.2 gd_03
    · exact gok_lv (l := 8) (L := 9) (by omega) hT3 hT hn1 (by omega) (by omega) (by omega) (Nat.le_trans hn lv_04.1) lv_04.2 gd_04
    · exact gok_lv (l := 7) (L := 8) (by omega) hT3 hT hn1 (by omega) (by omega) (by omega) (Nat.le_trans hn lv_05.1) lv_05.2 gd_05
    · exact gok_lv (l := 7) (L := 8) (by omega) hT3 hT hn1 (by omega) (by omega) (by omega) (Nat.le_trans hn lv_06.1) lv_06.2 gd_06
  · have hc : Cap 1 T nr := by unfold Cap; rw [if_pos rfl]; omega
    have hs : skA 1 T nr = skb T nr := by unfold skA; rw [if_pos rfl]
    rcases (show T = 4 ∨ T = 5 ∨ T = 6 by omega) with rfl | rfl | rfl
    · refine gok_of (by omega) hT3 hT hn1 (by omega) hc ?_
      have := cntF_all gd_14 (nr - 1) (by omega)
      rw [show nr - 1 + 1 = nr by omega] at this
      rw [hs]; exact this
    · refine gok_of (by omega) hT3 hT hn1 (by omega) hc ?_
      have := cntF_all gd_15 (nr - 1) (by omega)
      rw [show nr - 1 + 1 = nr by omega] at this
      rw [hs]; exact this
    · refine gok_of (by omega) hT3 hT hn1 (by omega) hc ?_
      have := cntF_all gd_16 (nr - 1) (by omega)
      rw [show nr - 1 + 1 = nr by omega] at this
      rw [hs]; exact this
  · rcases (show T = 3 ∨ T = 4 ∨ T = 5 ∨ T = 6 by omega) with rfl | rfl | rfl | rfl
    · exact gok_lv (l := 11) (L := 12) (by omega) hT3 hT hn1 (by omega) (by omega) (by omega) (Nat.le_trans hn lv_23.1) lv_23.2 gd_23
    · exact gok_lv (l := 6) (L := 7) (by omega) hT3 hT hn1 (by omega) (by omega) (by omega) (Nat.le_trans hn lv_24.1) lv_24.2 gd_24
    · exact gok_lv (l := 5) (L := 6) (by omega) hT3 hT hn1 (by omega) (by omega) (by omega) (Nat.le_trans hn lv_25.1) lv_25.2 gd_25
    · exact gok_lv (l := 5) (L := 6) (by omega) hT3 hT hn1 (by omega) (by omega) (by omega) (Nat.le_trans hn lv_26.1) lv_26.2 gd_26
theorem tab_congr {α : Type} {f g : Nat → α} {n : Nat} (h : ∀ t, t < n → f t = g t) : tab f n = tab g n := by
  unfold tab
  exact List.map_congr_left (fun t ht => h t (List.mem_range.mp ht))
section SP
variable {w T nr : Nat} {bk fr tu : Bool} {gl : Nat → Nat} {A : Mi}
theorem sk_tp0 (hT3 : 3 ≤ T) (hc : Cap w T nr) : skI w T (tp0 w T bk fr tu nr) = skA w T nr := by
  by_cases hw1 : w = 1
  · subst hw1
    have e : tab (fun t => (tp0 1 T bk fr tu nr t).length) T = tab (fun t => if t < T / 2 then (nr + T / 2 - 1 - t) / (T / 2) else 0) T := tab_congr (fun t ht => by
      unfold tp0
      rw [if_pos rfl, tpi_len, Nat.zero_add]
      by_cases hq : t < T / 2
      · rw [if_pos hq, dlb_len (by omega) nr t hq]
      · rw [if_neg hq, dlb_out (by omega) nr t (by omega)]; rfl)
    unfold skI skA skb to0
    rw [if_pos rfl, if_pos rfl, e]
  · obtain ⟨c1, c2, c3, c4, c5⟩ := cap_pf hc hw1
    have hsum := pfA_sum (w := w) (T := T) (l := lvA w T nr)
    obtain ⟨d1, d2, d3, d4⟩ := dms_ok (pf := pfA w T (lvA w T nr)) (fr := fr) (k := T - 1) (n := smp w (T - 1) (lvA w T nr) - nr) (by omega)
    have hps : sumF (fun t => pfA w T (lvA w T nr) t - dmA w T fr nr t) (T - 1) = nr := by have := sumF_sub (f := pfA w T (lvA w T nr)) (g := dmA w T fr nr) (n := T - 1) d2; unfold dmA at this ⊢; omega
    obtain ⟨r1, r2, r3, r4⟩ := dlt_ok (p := fun t => pfA w T (lvA w T nr) t - dmA w T fr nr t) (k := T - 1) (by omega) (r := nr) (by omega)
    have heq := sum_eqp (f := fun t => (dlA w T fr nr t).length) (g := fun t => pfA w T (lvA w T nr) t - dmA w T fr nr t) (n := T - 1) r2 (by rw [hps]; exact r1)
    have e : tab (fun t => (tp0 w T bk fr tu nr t).length) T = tab (fun t => (pfn w (T - 1) (lvA w T nr)).getD t 0) T := tab_congr (fun t ht => by
      unfold tp0
      rw [if_neg hw1, tpi_len]
      by_cases hq : t < T - 1
      · have h1 := heq t hq
        have h2 := d2 t hq
        unfold dmA at h1 ⊢
        rw [h1]
        have : pfA w T (lvA w T nr) t = (pfn w (T - 1) (lvA w T nr)).getD t 0 := by unfold pfA; rw [if_pos hq]
        omega
      · have h1 : dmA w T fr nr t = 0 := d3 t (by omega)
        have h2 : dlA w T fr nr t = [] := r3 t (by omega)
        rw [h1, h2]
        have hl : (pfn w (T - 1) (lvA w T nr)).length = T - 1 := by
          cases lvA w T nr with
          | zero => unfold pfn tab; simp
          | succ l => unfold pfn tab; split <;> simp
        rw [List.getD_eq_getElem?_getD, List.getElem?_eq_none (by omega)]; rfl)
    unfold skI skA sk0 to0
    rw [if_neg hw1, if_neg hw1, e]
def mit (w T : Nat) (bk : Bool) (gl : Nat → Nat) (A : Mi) : Nat → Mi
  | 0 => A
  | n + 1 => stp w T bk gl (mit w T bk gl A n)
theorem tul_K : mK (tul gl T A) = mK A := by unfold tul; split <;> rfl
theorem stp_K : mK (stp w T bk gl A) = (skn w T (T / 2) (mK A)).1 := by unfold stp; rw [tul_K]; rfl
theorem mit_K : ∀ n, mK (mit w T bk gl A n) = ski w T (mK A) n
  | 0 => rfl
  | n + 1 => by show mK (stp w T bk gl _) = _; rw [stp_K, mit_K n]; rfl
/-- what holds of a mill on paper -/
def AI (T nr : Nat) (A : Mi) : Prop := Oc T nr (mT A) ∧ (∀ t, t < T → kc (mK A) t = (mT A t).length) ∧ (∀ t, T ≤ t → mT A t = []) ∧ ∀ t r, r ∈ mT A t → r.1 = [] → r.2 = false
theorem ai_tul (h : AI T nr A) : AI T nr (tul gl T A) := by
  unfold tul
  split
  · obtain ⟨h1, h2, h3, h4⟩ := h
    refine ⟨fun j => ?_, fun t ht => ?_, fun t ht => ?_, fun t r hr _ => ?_⟩
    · rw [← h1 j]; exact sumF_congr (fun t _ => occ_upr)
    · show kc (mK A) t = (upr (mT A t)).length
      unfold upr; rw [List.length_map]; exact h2 t ht
    · show upr (mT A t) = []
      rw [h3 t ht]; rfl
    · have hr : r ∈ upr (mT A t) := hr
      unfold upr at hr
      obtain ⟨q, _, rfl⟩ := List.mem_map.mp hr
      rfl
  · exact h
theorem ld_none {g : Nat → Bool} {tp : Nat → List Rn} {n : Nat} (h : catF g tp n = []) : ldD g tp n = none := by
  unfold ldD; rw [((ld_cat g tp n).2.1).mpr h]; rfl
theorem ai_stp (h : AI T nr A) (hok : oks w T (T / 2) (mK A) = true) : AI T nr (stp w T bk gl A) := by
  obtain ⟨o1, o2, o3, o4, o5⟩ := oks_un hok
  obtain ⟨h1, h2, h3, h4⟩ := h
  unfold stp
  apply ai_tul
  have hg : gvf w (T / 2) (mK A) (kto (mK A)) = false := gv_no o3
  have hl : ∀ t, t < T → gvf w (T / 2) (mK A) t = true → 0 < (mT A t).length := fun t ht q => by rw [← h2 t ht]; exact (gv_fl q).2
  refine ⟨oc_step h1 o2 hg hl, fun t ht => ?_, fun t ht => ?_, fun t r hr hz => ?_⟩
  · show (skn w T (T / 2) (mK A)).1.1.getD t 0 = (tpn T (kto (mK A)) bk (gvf w (T / 2) (mK A)) _ (mT A) t).length
    rw [skn_1, skc_at ht]
    unfold tpn
    have := h2 t ht
    by_cases q1 : t = kto (mK A)
    · rw [if_pos q1, if_pos q1, psh_len, this]
    · rw [if_neg q1, if_neg q1]
      by_cases q2 : gvf w (T / 2) (mK A) t = true
      · rw [if_pos q2, if_pos ⟨ht, q2⟩, List.length_tail, this]
      · rw [if_neg q2, if_neg (fun q => q2 q.2), this]
  · show tpn T (kto (mK A)) bk (gvf w (T / 2) (mK A)) _ (mT A) t = []
    unfold tpn
    rw [if_neg (by omega), if_neg (by omega)]; exact h3 t ht
  · have hr : r ∈ tpn T (kto (mK A)) bk (gvf w (T / 2) (mK A)) (catF (gvf w (T / 2) (mK A)) (mT A) T, bk && (ldD (gvf w (T / 2) (mK A)) (mT A) T == some false)) (mT A) t := hr
    unfold tpn at hr
    by_cases q1 : t = kto (mK A)
    · rw [if_pos q1] at hr
      rcases psh_mem hr with rfl | hr
      · dsimp only at hz ⊢
        rw [ld_none hz]; simp
      · exact h4 t r hr hz
    · rw [if_neg q1] at hr
      by_cases q2 : t < T ∧ gvf w (T / 2) (mK A) t = true
      · rw [if_pos q2] at hr; exact h4 t r (List.mem_of_mem_tail hr) hz
      · rw [if_neg q2] at hr; exact h4 t r hr hz
theorem tp0_out (hT3 : 3 ≤ T) (hc : Cap w T nr) {t : Nat} (ht : T ≤ t) : tp0 w T bk fr tu nr t = [] := by
  unfold tp0
  by_cases hw1 : w = 1
  · rw [if_pos hw1]; unfold tpi; rw [dlb_out (by omega) nr t (by omega)]; cases bk <;> rfl
  · rw [if_neg hw1]
    obtain ⟨c1, c2, c3, c4, c5⟩ := cap_pf hc hw1
    have hsum := pfA_sum (w := w) (T := T) (l := lvA w T nr)
    obtain ⟨d1, d2, d3, d4⟩ := dms_ok (pf := pfA w T (lvA w T nr)) (fr := fr) (k := T - 1) (n := smp w (T - 1) (lvA w T nr) - nr) (by omega)
    have hps : sumF (fun t => pfA w T (lvA w T nr) t - dmA w T fr nr t) (T - 1) = nr := by have := sumF_sub (f := pfA w T (lvA w T nr)) (g := dmA w T fr nr) (n := T - 1) d2; unfold dmA at this ⊢; omega
    obtain ⟨r1, r2, r3, r4⟩ := dlt_ok (p := fun t => pfA w T (lvA w T nr) t - dmA w T fr nr t) (k := T - 1) (by omega) (r := nr) (by omega)
    unfold tpi
    have h1 : dmA w T fr nr t = 0 := d3 t (by omega)
    have h2 : dlA w T fr nr t = [] := r3 t (by omega)
    rw [h1, h2]; cases bk <;> rfl
theorem ai_mi0 (hT3 : 3 ≤ T) (hc : Cap w T nr) : AI T nr (mi0 w T bk fr tu gl nr) := by
  unfold mi0
  apply ai_tul
  refine ⟨tp0_oc hT3 hc, fun t ht => ?_, fun t ht => tp0_out hT3 hc ht, fun t r hr hz => ?_⟩
  · show (tab (fun t => (tp0 w T bk fr tu nr t).length) T).getD t 0 = _
    rw [tab_at ht]
  · rcases tp0_mem hr with rfl | ⟨j, rfl⟩
    · rfl
    · cases hz
theorem mi0_K (hT3 : 3 ≤ T) (hc : Cap w T nr) : mK (mi0 w T bk fr tu gl nr) = skA w T nr := by
  unfold mi0; rw [tul_K]; exact sk_tp0 hT3 hc
/-- the mill behind n steps -/
def mil (w T : Nat) (bk fr tu : Bool) (gl : Nat → Nat) (nr n : Nat) : Mi := mit w T bk gl (mi0 w T bk fr tu gl nr) n
theorem mil_K (h : Gok w T nr) (n : Nat) : mK (mil w T bk fr tu gl nr n) = ski w T (skA w T nr) n := by
  unfold mil; rw [mit_K, mi0_K h.2.1 h.2.2.2.2.2.1]
theorem mil_ok (h : Gok w T nr) {n : Nat} (hn : n < kst w T nr) : oks w T (T / 2) (mK (mil w T bk fr tu gl nr n)) = true ∧ lef T (mK (mil w T bk fr tu gl nr n)) ≠ 1 := by
  rw [mil_K h]
  have := h.2.2.2.2.2.2.2.2 n hn
  exact ⟨this.2, this.1⟩
theorem mil_end (h : Gok w T nr) : lef T (mK (mil w T bk fr tu gl nr (kst w T nr))) = 1 := by
  rw [mil_K h]; exact h.2.2.2.2.2.2.2.1
theorem mil_ai (h : Gok w T nr) : ∀ {n : Nat}, n ≤ kst w T nr → AI T nr (mil w T bk fr tu gl nr n)
  | 0, _ => ai_mi0 h.2.1 h.2.2.2.2.2.1
  | n + 1, hn => by
    show AI T nr (stp w T bk gl (mil w T bk fr tu gl nr n))
    exact ai_stp (mil_ai h (by omega)) (mil_ok h (by omega)).1
theorem oks_lef {s : Sk} (h : oks w T (T / 2) s = true) : 0 < lef T s := by
  obtain ⟨t, h1, h2⟩ := cntF_pos (oks_un h).1
  have := (gv_fl h2).2
  have h3 : kc s t ≤ lef T s := sumF_pos (f := kc s) h1
  omega
theorem mil_lef (h : Gok w T nr) {n : Nat} (hn : n < kst w T nr) : 1 < lef T (mK (mil w T bk fr tu gl nr n)) := by
  obtain ⟨h1, h2⟩ := mil_ok (bk := bk) (fr := fr) (tu := tu) (gl := gl) h hn
  have := oks_lef h1
  omega
end SP
