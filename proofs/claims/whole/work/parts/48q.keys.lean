/-! keys: how many, which most often -/
def cnP (p : Nat → Bool) : Nat → Nat
  | 0 => 0
  | n + 1 => cnP p n + (if p n = true then 1 else 0)
theorem cnP_le (p : Nat → Bool) : ∀ n, cnP p n ≤ n
  | 0 => Nat.le_refl _
  | n + 1 => by have := cnP_le p n; unfold cnP; split <;> omega
theorem cnP_0 {p : Nat → Bool} : ∀ {n : Nat}, (∀ j, j < n → p j = false) → cnP p n = 0
  | 0, _ => rfl
  | n + 1, h => by unfold cnP; rw [cnP_0 (fun j hj => h j (by omega)), h n (by omega)]; rfl
theorem cnP_rs (F : Nat → Nat) (p : Nat → Bool) : ∀ n, (rs F n).countP p = cnP p n
  | 0 => rfl
  | n + 1 => by unfold rs cnP; rw [insR_cnt, cnP_rs F p n]
theorem cnP_tk (p : Nat → Bool) (l : List Nat) : ∀ k, k ≤ l.length → cnP (fun i => p (l.getD i 0)) k = (l.take k).countP p
  | 0, _ => by simp [cnP]
  | k + 1, h => by
    unfold cnP
    rw [cnP_tk p l k (by omega), List.take_succ, List.getElem?_eq_getElem (by omega), List.countP_append, List.getD_eq_getElem?_getD, List.getElem?_eq_getElem (by omega)]
    simp [List.countP_cons]
def gR' (F : Nat → Nat) (n i : Nat) : Nat := (rs F n).getD i 0
theorem cnP_all (F : Nat → Nat) (n : Nat) (p : Nat → Bool) : cnP (fun i => p (gR' F n i)) n = cnP p n := by
  have h := cnP_tk p (rs F n) n (by rw [rs_len]; exact Nat.le_refl _)
  have e : (rs F n).take n = rs F n := List.take_of_length_le (by rw [rs_len]; exact Nat.le_refl _)
  rw [e, cnP_rs] at h
  exact h
theorem oft_cn (F : Nat → Nat) (k : Nat) : ∀ n, oft F k n = cnP (fun i => F i == k) n
  | 0 => rfl
  | n + 1 => by unfold oft cnP; rw [oft_cn F k n]; simp
theorem g_lt {F : Nat → Nat} {n i : Nat} (hi : i < n) : gR' F n i < n := by
  apply rs_mem.mp
  unfold gR'
  rw [List.getD_eq_getElem?_getD, List.getElem?_eq_getElem (by rw [rs_len]; exact hi)]
  exact List.getElem_mem _
theorem g_ex {F : Nat → Nat} {n v : Nat} (hv : v < n) : ∃ i, i < n ∧ gR' F n i = v := by
  obtain ⟨i, hi, e⟩ := List.getElem_of_mem (rs_mem (f := F).mpr hv)
  rw [rs_len] at hi
  refine ⟨i, hi, ?_⟩
  unfold gR'
  rw [List.getD_eq_getElem?_getD, List.getElem?_eq_getElem (by rw [rs_len]; exact hi), e]; rfl
theorem g_srt {F : Nat → Nat} {n i j : Nat} (hij : i < j) (hj : j < n) : lsR F (gR' F n i) (gR' F n j) := by
  have h := rs_lt F n
  rw [List.pairwise_iff_getElem] at h
  have := h i j (by rw [rs_len]; omega) (by rw [rs_len]; omega) hij
  unfold gR'
  rw [List.getD_eq_getElem?_getD, List.getD_eq_getElem?_getD, List.getElem?_eq_getElem (by rw [rs_len]; omega), List.getElem?_eq_getElem (by rw [rs_len]; omega)]
  exact this
/-- none of the first j has key v -/
def fO (F : Nat → Nat) (v : Nat) : Nat → Bool
  | 0 => true
  | j + 1 => if fO F v j = true then !(F j == v) else false
theorem fO_t {F : Nat → Nat} {v : Nat} : ∀ {j : Nat}, fO F v j = true ↔ ∀ i, i < j → F i ≠ v
  | 0 => by simp [fO]
  | j + 1 => by
    unfold fO
    by_cases h : fO F v j = true
    · rw [if_pos h]
      have h' := fO_t.mp h
      constructor
      · intro q i hi
        rcases Nat.lt_or_ge i j with z | z
        · exact h' i z
        · rw [show i = j by omega]; simpa using q
      · intro q; simpa using q j (by omega)
    · rw [if_neg h]
      constructor
      · intro q; cases q
      · intro q; exact absurd (fO_t.mpr (fun i hi => q i (by omega))) h
/-- a record that comes first with its key -/
def fK (F : Nat → Nat) (v : Nat) : Bool := fO F (F v) v
theorem beg_iff {F : Nat → Nat} {n i : Nat} (hi : i < n) : fK F (gR' F n i) = true ↔ (i = 0 ∨ F (gR' F n i) ≠ F (gR' F n (i - 1))) := by
  unfold fK
  rw [fO_t]
  constructor
  · intro h
    by_cases h0 : i = 0
    · exact Or.inl h0
    · right
      intro e
      have s := g_srt (F := F) (show i - 1 < i by omega) hi
      unfold lsR at s
      exact h _ (by omega) e.symm
  · intro h j hj e
    obtain ⟨p, hp, rfl⟩ := g_ex (F := F) (show j < n by have := g_lt (F := F) hi; omega)
    have hpi : p < i := by
      rcases Nat.lt_trichotomy p i with z | z | z
      · exact z
      · subst z; omega
      · have s := g_srt (F := F) z hp
        unfold lsR at s; omega
    rcases h with h | h
    · omega
    · rcases Nat.lt_or_ge p (i - 1) with z | z
      · have s1 := g_srt (F := F) (n := n) z (show i - 1 < n by omega)
        have s2 := g_srt (F := F) (show i - 1 < i by omega) hi
        unfold lsR at s1 s2
        omega
      · rw [show i - 1 = p by omega] at h
        omega
/-- the first record whose key comes most often -/
def MSt (F : Nat → Nat) (n r : Nat) : Prop := r < n ∧ (∀ v, v < n → oft F (F v) n ≤ oft F (F r) n) ∧ ∀ v, v < r → oft F (F v) n < oft F (F r) n
theorem ms_uq {F : Nat → Nat} {n r r' : Nat} (h : MSt F n r) (h' : MSt F n r') : r = r' := by
  rcases Nat.lt_trichotomy r r' with z | z | z
  · have := h'.2.2 r z; have := h.2.1 r' h'.1; omega
  · exact z
  · have := h.2.2 r' z; have := h'.2.1 r h.1; omega
theorem ms_ex {F : Nat → Nat} {n : Nat} (h0 : 0 < n) : ∃ r, MSt F n r := by
  have : ∀ m, 0 < m → ∃ r, r < m ∧ (∀ v, v < m → oft F (F v) n ≤ oft F (F r) n) ∧ ∀ v, v < r → oft F (F v) n < oft F (F r) n := by
    intro m
    induction m with
    | zero => intro h; omega
    | succ m ih =>
      intro _
      by_cases hm : m = 0
      · subst hm
        exact ⟨0, by omega, fun v hv => by rw [show v = 0 by omega]; exact Nat.le_refl _, fun v hv => by omega⟩
      · obtain ⟨r, h1, h2, h3⟩ := ih (by omega)
        by_cases hc : oft F (F m) n ≤ oft F (F r) n
        · refine ⟨r, by omega, fun v hv => ?_, h3⟩
          rcases Nat.lt_or_ge v m with z | z
          · exact h2 v z
          · rw [show v = m by omega]; exact hc
        · refine ⟨m, by omega, fun v hv => ?_, fun v hv => by have := h2 v hv; omega⟩
          rcases Nat.lt_or_ge v m with z | z
          · have := h2 v z; omega
          · rw [show v = m by omega]; exact Nat.le_refl _
  obtain ⟨r, h1, h2, h3⟩ := this n h0
  exact ⟨r, h1, h2, h3⟩
theorem no3 {p : Int32} (h0 : ¬ p = 0) (h1 : ¬ p = 1) (h2 : ¬ p = 2) : ¬ ((0 : Int32) ≤ p ∧ p ≤ 2) := fun q => by
  obtain ⟨m, hm, rfl⟩ := nI_of (x := p) (Int32.not_lt.mpr q.1)
  have q2 : nI m ≤ nI 2 := q.2
  have := (nI_leI hm (by omega)).mp q2
  rcases (show m = 0 ∨ m = 1 ∨ m = 2 by omega) with rfl | rfl | rfl
  · exact h0 rfl
  · exact h1 rfl
  · exact h2 rfl
section KS
variable {E : En} {σ : Sg} {n : Nat} {F : Nat → Nat}
theorem c_begins {a i : Nat} (hL : LRec E a) (hn : n ≤ 300) (h2 : ∀ i, i < n → gi σ (a + 1) i = nI (F i)) (h3 : ∀ i, i < n → gi σ (a + 2) i = nI (gR' F n i)) (hF : ∀ i, i < n → F i < 256) (hi : i < n) : fX3_beginsKey E a (nI i) σ = some (bI (fK F (gR' F n i)), σ) := by
  obtain ⟨l0, l1, l2, l3, l4⟩ := hL
  unfold fX3_beginsKey
  rw [tk_ok l0]
  have hb := beg_iff (F := F) hi
  by_cases h0 : i = 0
  · have : fK F (gR' F n i) = true := hb.mpr (Or.inl h0)
    rw [this, h0, if_pos (show nI 0 = (0 : Int32) from rfl), bd_ok, kb_1]; rfl
  · have q1 := h3 i hi
    have q2 := h3 (i - 1) (by omega)
    have g1 := g_lt (F := F) hi
    have g2 := g_lt (F := F) (show i - 1 < n by omega)
    rw [if_neg (nI_ne0 (by omega) (by omega)), l1, dr_s, l3.1, l3.2, tk_s, l2, dr_s, l4.1, l4.2, tk_s, ck_m (by omega), i1, sub_n (by omega), nI_clamp (by omega), nI_clamp (by omega), q1, q2, ck_m (by omega), ck_m (by omega), ck_m (by omega), nI_clamp (by omega), nI_clamp (by omega), h2 _ g1, h2 _ g2]
    have f1 := hF _ g1
    have f2 := hF _ g2
    by_cases hc : F (gR' F n i) = F (gR' F n (i - 1))
    · have : fK F (gR' F n i) = false := by
        cases hq : fK F (gR' F n i) with
        | false => rfl
        | true => rcases hb.mp hq with z | z
                  · exact absurd z h0
                  · exact absurd hc z
      rw [if_pos (by rw [hc]), bd_ok, kb_0, this]; rfl
    · have : fK F (gR' F n i) = true := hb.mpr (Or.inr hc)
      rw [if_neg (fun q => hc ((nI_eq (by omega) (by omega)).mp q)), bd_ok, this]
      exact kb_1
theorem c_unlike {a : Nat} (hL : LRec E a) (h1 : gi σ a 2 = nI n) (hn : n ≤ 300) (h2 : ∀ i, i < n → gi σ (a + 1) i = nI (F i)) (h3 : ∀ i, i < n → gi σ (a + 2) i = nI (gR' F n i)) (hF : ∀ i, i < n → F i < 256) : fX3_unlikeKeys E a σ = some (nI (cnP (fK F) n), σ) := by
  unfold fX3_unlikeKeys
  rw [tk_ok hL.1, ← cnP_all F n (fK F)]
  refine bd_tr ((nI (cnP (fun i => fK F (gR' F n i)) n), nI n), σ) n (fun i => ((nI (cnP (fun i => fK F (gR' F n i)) i), nI i), σ)) (by show n < 1000000; omega) ?_ ?_ rfl
  · intro i rec hi
    unfold bX3_unlikeKeys_4
    dsimp only
    rw [h1, if_neg (nI_ge hi (by omega)), c_begins hL hn h2 h3 hF hi, bd_ok]
    have e : cnP (fun i => fK F (gR' F n i)) (i + 1) = cnP (fun i => fK F (gR' F n i)) i + (if fK F (gR' F n i) = true then 1 else 0) := rfl
    cases hb : fK F (gR' F n i) with
    | false => rw [if_pos (show bI false = 0 from rfl), bd_ok, lt_ok, i1, nI_add, e, hb, if_neg (by simp)]; rfl
    | true => rw [if_neg (by decide), lt_ok, bd_ok, lt_ok, i1, nI_add, nI_add, e, hb, if_pos rfl]
  · intro rec
    unfold bX3_unlikeKeys_4
    rw [h1, if_pos (nI_le (Nat.le_refl _) (by omega))]
/-- how often key k among the first i in rising order -/
def oR (F : Nat → Nat) (n k i : Nat) : Nat := cnP (fun j => F (gR' F n j) == k) i
theorem oR_n (F : Nat → Nat) (n k : Nat) : oR F n k n = oft F k n := by
  rw [oft_cn]; exact cnP_all F n (fun v => F v == k)
theorem oR_s (F : Nat → Nat) (n k i : Nat) : oR F n k (i + 1) = oR F n k i + (if F (gR' F n i) = k then 1 else 0) := by
  show oR F n k i + (if (F (gR' F n i) == k) = true then 1 else 0) = _
  simp
def BK (F : Nat → Nat) (n i : Nat) (v : Int32 × Int32 × Int32 × Int32) : Prop := v.2.2.2 = nI i ∧ ∃ c st, v.2.1 = nI c ∧ v.2.2.1 = nI st ∧ c ≤ i ∧ (i = 0 → v.1 = -1 ∧ c = 0 ∧ st = 0) ∧ (0 < i → (st < i ∧ F (gR' F n st) = F (gR' F n (i - 1)) ∧ fK F (gR' F n st) = true ∧ i - st = oR F n (F (gR' F n (i - 1))) i) ∧ ∃ r, v.1 = nI r ∧ r < n ∧ fK F r = true ∧ oR F n (F r) i = c) ∧ ∀ j, j < i → oR F n (F (gR' F n j)) i ≤ c ∧ (oR F n (F (gR' F n j)) i = c → ∃ r, v.1 = nI r ∧ r < n ∧ r ≤ gR' F n j)
theorem fK_le {F : Nat → Nat} {f x : Nat} (h : fK F f = true) (e : F x = F f) : f ≤ x := by
  rcases Nat.lt_or_ge x f with z | z
  · exact absurd e (fO_t.mp h x z)
  · exact z
theorem c_bk {a : Nat} (hL : LRec E a) (h1 : gi σ a 2 = nI n) (hn : n ≤ 300) (h2 : ∀ i, i < n → gi σ (a + 1) i = nI (F i)) (h3 : ∀ i, i < n → gi σ (a + 2) i = nI (gR' F n i)) (hF : ∀ i, i < n → F i < 256) :
    ∃ v, fx (fun (rec : (Int32 × Int32 × Int32 × Int32) × Sg → Option ((Int32 × Int32 × Int32 × Int32) × Sg)) a_1 => bX3_keyMostOften_9 E a (fun u0 u1 u2 u3 t => rec ((u0, u1, u2, u3), t)) a_1.1.1 a_1.1.2.1 a_1.1.2.2.1 a_1.1.2.2.2 a_1.2) FU (((-1 : Int32), (0 : Int32), (0 : Int32), (0 : Int32)), σ) = some (v, σ) ∧ BK F n n v := by
  obtain ⟨⟨v, s⟩, e, e1, e2⟩ := for_in (F := fun (rec : (Int32 × Int32 × Int32 × Int32) × Sg → Option ((Int32 × Int32 × Int32 × Int32) × Sg)) a_1 => bX3_keyMostOften_9 E a (fun u0 u1 u2 u3 t => rec ((u0, u1, u2, u3), t)) a_1.1.1 a_1.1.2.1 a_1.1.2.2.1 a_1.1.2.2.2 a_1.2) n (fun i b => b.2 = σ ∧ BK F n i b.1) (fun b => b.2 = σ ∧ BK F n n b.1) (N := FU) (by show n < 1000000; omega)
    (by
      rintro i ⟨⟨v1, v2, v3, v4⟩, s⟩ rec hi ⟨rfl, hv4, c, st, hv2, hv3, hci, hz, hp, hall⟩
      dsimp only at hv4 hv2 hv3 hz hp hall ⊢
      subst hv4 hv2 hv3
      have g1 := g_lt (F := F) hi
      -- the group's start
      have hw : ∃ w, (∀ k : Int32 → Sg → Option ((Int32 × Int32 × Int32 × Int32) × Sg), bd (if bI (fK F (gR' F n i)) = 0 then some (nI st, s) else some (nI i, s)) k = k (nI w) s) ∧ w ≤ i ∧ F (gR' F n w) = F (gR' F n i) ∧ fK F (gR' F n w) = true ∧ i - w = oR F n (F (gR' F n i)) i := by
        cases hb : fK F (gR' F n i) with
        | true =>
          refine ⟨i, fun k => by rw [if_neg (by decide), bd_ok], Nat.le_refl _, rfl, hb, ?_⟩
          rw [Nat.sub_self]
          refine (cnP_0 (fun j hj => ?_)).symm
          have s := g_srt (F := F) hj hi
          have := fO_t.mp hb (gR' F n j)
          unfold lsR at s
          simp only [beq_eq_false_iff_ne]
          intro q
          exact this (by omega) q
        | false =>
          have h0 : i ≠ 0 := fun z => by rw [(beg_iff hi).mpr (Or.inl z)] at hb; cases hb
          have he : F (gR' F n i) = F (gR' F n (i - 1)) := by
            by_cases z : F (gR' F n i) = F (gR' F n (i - 1))
            · exact z
            · rw [(beg_iff hi).mpr (Or.inr z)] at hb; cases hb
          obtain ⟨⟨q1, q2, q3, q4⟩, _⟩ := hp (by omega)
          exact ⟨st, fun k => by rw [if_pos (show bI false = 0 from rfl), bd_ok], by omega, by rw [he]; exact q2, q3, by rw [he]; exact q4⟩
      obtain ⟨w, hw0, hw1, hw2, hw3, hw4⟩ := hw
      have gw := g_lt (F := F) (show w < n by omega)
      have hol := cnP_le (fun j => F (gR' F n j) == F (gR' F n i)) i
      have hos := oR_s F n (F (gR' F n i)) i
      rw [if_pos rfl] at hos
      have hoth : ∀ k, k ≠ F (gR' F n i) → oR F n k (i + 1) = oR F n k i := fun k hk => by rw [oR_s, if_neg (fun z => hk z.symm)]; rfl
      unfold bX3_keyMostOften_9
      rw [h1, if_neg (nI_ge hi (by omega)), c_begins hL hn h2 h3 hF hi, bd_ok, hw0, lt_ok, i1, sub_n (by omega), nI_add, hL.2.2.1, dr_s, hL.2.2.2.2.1, hL.2.2.2.2.2, tk_s, ck_m (by omega), nI_clamp (by omega), h3 w (by omega), lt_ok]
      have fin : ∀ (u : Int32) (c' : Nat), c' ≤ i + 1 → (∃ r, u = nI r ∧ r < n ∧ fK F r = true ∧ oR F n (F r) (i + 1) = c') → (∀ j, j < i + 1 → oR F n (F (gR' F n j)) (i + 1) ≤ c' ∧ (oR F n (F (gR' F n j)) (i + 1) = c' → ∃ r, u = nI r ∧ r < n ∧ r ≤ gR' F n j)) → BK F n (i + 1) (u, nI c', nI w, nI (i + 1)) := by
        intro u c' hc' hr ha
        refine ⟨rfl, c', w, rfl, rfl, hc', fun z => by omega, fun _ => ⟨⟨by omega, ?_, hw3, ?_⟩, hr⟩, ha⟩
        · rw [show i + 1 - 1 = i from rfl]; exact hw2
        · rw [show i + 1 - 1 = i from rfl, hos]; omega
      have new : (∀ j, j < i → oR F n (F (gR' F n j)) i ≤ i - w + 1) → (∀ j, j < i → F (gR' F n j) ≠ F (gR' F n i) → oR F n (F (gR' F n j)) i = i - w + 1 → gR' F n w ≤ gR' F n j) → BK F n (i + 1) (nI (gR' F n w), nI (i - w + 1), nI w, nI (i + 1)) := by
        intro ha1 ha2
        refine fin _ _ (by omega) ⟨_, rfl, gw, hw3, by rw [hw2, hos]; omega⟩ (fun j hj => ?_)
        by_cases he : F (gR' F n j) = F (gR' F n i)
        · rw [he, hos]
          exact ⟨by omega, fun _ => ⟨_, rfl, gw, fK_le hw3 (by rw [he, hw2])⟩⟩
        · have hji : j < i := by
            rcases Nat.lt_or_ge j i with z | z
            · exact z
            · exact absurd (by rw [show j = i by omega]) he
          rw [hoth _ he]
          exact ⟨ha1 j hji, fun q => ⟨_, rfl, gw, ha2 j hji he q⟩⟩
      by_cases c1 : c < i - w + 1
      · rw [if_pos (nI_lt c1 (by omega)), bd_ok, lt_ok, nI_add]
        refine ⟨_, rfl, rfl, new (fun j hj => by have := (hall j hj).1; omega) (fun j hj _ q => by have := (hall j hj).1; omega)⟩
      · rw [if_neg (nI_nlt (by omega) (by omega))]
        have hi0 : 0 < i := by
          rcases Nat.eq_zero_or_pos i with z | z
          · have := (hz z).2.1; omega
          · exact z
        obtain ⟨_, r, hr1, hr2, hr3, hr4⟩ := hp hi0
        subst hr1
        have hrne : F r ≠ F (gR' F n i) := fun z => by rw [z] at hr4; omega
        by_cases c2 : i - w + 1 = c
        · rw [if_neg (by rw [c2]; simp)]
          by_cases c3 : r ≤ gR' F n w
          · rw [if_pos (nI_le c3 (by omega)), bd_ok, lt_ok, nI_add]
            refine ⟨_, rfl, rfl, fin _ _ (by omega) ⟨r, rfl, hr2, hr3, by rw [hoth _ hrne]; exact hr4⟩ (fun j hj => ?_)⟩
            by_cases he : F (gR' F n j) = F (gR' F n i)
            · rw [he, hos]
              refine ⟨by omega, fun _ => ⟨r, rfl, hr2, ?_⟩⟩
              have := fK_le hw3 (show F (gR' F n j) = F (gR' F n w) by rw [he, hw2])
              omega
            · have hji : j < i := by
                rcases Nat.lt_or_ge j i with z | z
                · exact z
                · exact absurd (by rw [show j = i by omega]) he
              rw [hoth _ he]
              exact hall j hji
          · rw [if_neg (nI_ge (by omega) (by omega)), bd_ok, lt_ok, nI_add]
            refine ⟨_, rfl, rfl, new (fun j hj => by have := (hall j hj).1; omega) (fun j hj _ q => ?_)⟩
            obtain ⟨r', e', e2, e3⟩ := (hall j hj).2 (by omega)
            have : r = r' := (nI_eq (by omega) (by omega)).mp e'
            omega
        · rw [if_pos (fun q => c2 ((nI_eq (by omega) (by omega)).mp q)), bd_ok, lt_ok, nI_add]
          refine ⟨_, rfl, rfl, fin _ _ (by omega) ⟨r, rfl, hr2, hr3, by rw [hoth _ hrne]; exact hr4⟩ (fun j hj => ?_)⟩
          by_cases he : F (gR' F n j) = F (gR' F n i)
          · rw [he, hos]
            exact ⟨by omega, fun q => by omega⟩
          · have hji : j < i := by
              rcases Nat.lt_or_ge j i with z | z
              · exact z
              · exact absurd (by rw [show j = i by omega]) he
            rw [hoth _ he]
            exact hall j hji)
    (by
      rintro ⟨⟨v1, v2, v3, v4⟩, s⟩ rec ⟨rfl, hb⟩
      have h4 : v4 = nI n := hb.1
      subst h4
      unfold bX3_keyMostOften_9
      rw [h1, if_pos (nI_le (Nat.le_refl _) (by omega))]
      exact ⟨_, rfl, rfl, hb⟩)
    (a := (((-1 : Int32), (0 : Int32), (0 : Int32), (0 : Int32)), σ)) ⟨rfl, rfl, 0, 0, rfl, rfl, Nat.le_refl _, fun _ => ⟨rfl, rfl, rfl⟩, fun h => absurd h (by omega), fun j hj => absurd hj (by omega)⟩
  dsimp only at e1 e2
  subst e1
  exact ⟨v, e, e2⟩
theorem c_mostK {a : Nat} (hL : LRec E a) (h1 : gi σ a 2 = nI n) (hn : n ≤ 300) (h2 : ∀ i, i < n → gi σ (a + 1) i = nI (F i)) (h3 : ∀ i, i < n → gi σ (a + 2) i = nI (gR' F n i)) (hF : ∀ i, i < n → F i < 256) : (n = 0 → fX3_keyMostOften E a σ = some (-1, σ)) ∧ ∀ r, MSt F n r → fX3_keyMostOften E a σ = some (nI (F r), σ) := by
  obtain ⟨v, e, hv4, c, st, hv2, hv3, hci, hz, hp, hall⟩ := c_bk hL h1 hn h2 h3 hF
  unfold fX3_keyMostOften
  rw [tk_ok hL.1, e, bd_ok]
  constructor
  · intro h0
    rw [(hz h0).1, if_neg (by simp), bd_ok]
  · intro r' hr'
    have h0 : 0 < n := by have := hr'.1; omega
    obtain ⟨_, r, hr1, hr2, hr3, hr4⟩ := hp h0
    rw [oR_n] at hr4
    have hms : MSt F n r := by
      refine ⟨hr2, fun x hx => ?_, fun x hx => ?_⟩
      · obtain ⟨j, hj, rfl⟩ := g_ex (F := F) hx
        have := (hall j hj).1
        rw [oR_n] at this; omega
      · obtain ⟨j, hj, rfl⟩ := g_ex (F := F) (show x < n by omega)
        have := hall j hj
        rw [oR_n] at this
        rcases Nat.lt_or_ge (oft F (F (gR' F n j)) n) c with z | z
        · omega
        · obtain ⟨r2, q1, q2, q3⟩ := this.2 (by omega)
          rw [hr1] at q1
          have : r = r2 := (nI_eq (by omega) (by omega)).mp q1
          omega
    have := ms_uq hms hr'
    subst this
    have hne : ¬ nI r = (-1 : Int32) := fun z => by
      have := nI_pos (n := r) (by omega)
      rw [z] at this
      exact this (by decide)
    rw [hr1, if_pos hne, hL.2.1, dr_s, hL.2.2.2.1.1, hL.2.2.2.1.2, tk_s, ck_m (by omega), nI_clamp (by omega), h2 r hr2, bd_ok]
theorem m_seen (hM : LMod E) (hM2 : LMo2 E) {i : Nat} (hi : i < n) (hn : n ≤ 300) (h2 : ∀ i, i < n → gi σ 396 (26 + i) = nI (F i)) (hF : ∀ i, i < n → F i < 256) :
    fx (fun (rec : (Int32 × Int32) × Sg → Option ((Int32 × Int32) × Sg)) a => bX7_keys_48 E (nI i) 396 (nI (F i)) (fun u0 u1 t => rec ((u0, u1), t)) a.1.1 a.1.2 a.2) FU (((1 : Int32), (0 : Int32)), σ) = some ((bI (fK F i), nI i), σ) := by
  refine for_tr i (fun j => ((bI (fO F (F i) j), nI j), σ)) (by show i < 1000000; omega) ?_ ?_ rfl
  · intro j rec hj
    have q1 := h2 j (by omega)
    have q2 := hF j (by omega)
    have q3 := hF i hi
    unfold bX7_keys_48
    dsimp only
    rw [if_neg (nI_ge hj (by omega))]
    have e : fO F (F i) (j + 1) = if fO F (F i) j = true then !(F j == F i) else false := rfl
    cases hb : fO F (F i) j with
    | false => rw [if_pos (show bI false = 0 from rfl), bd_ok, lt_ok, i1, nI_add, e, hb, if_neg (by simp)]; rfl
    | true =>
      rw [if_neg (by decide), hM2.1.2, show (26 : Int32) = nI 26 from rfl, nI_add, ck_n (by omega) (by omega), nI_clamp (by omega), q1]
      by_cases hc : F j = F i
      · rw [if_pos (by rw [hc]), bd_ok, lt_ok, i1, nI_add, e, hb, if_pos rfl, show (!(F j == F i)) = false by simp [hc]]; rfl
      · rw [if_neg (fun q => hc ((nI_eq (by omega) (by omega)).mp q)), bd_ok, lt_ok, i1, nI_add, e, hb, if_pos rfl, show (!(F j == F i)) = true by simp [hc]]; rfl
  · intro rec
    unfold bX7_keys_48
    dsimp only
    rw [if_pos (nI_le (Nat.le_refl _) (by omega))]
    rfl
def KM (F : Nat → Nat) (n i : Nat) (v : Int32 × Int32 × Int32 × Int32) : Prop := v.2.2.2 = nI i ∧ v.1 = nI (cnP (fK F) i) ∧ ∃ c, v.2.2.1 = nI c ∧ c ≤ n ∧ (i = 0 → v.2.1 = -1 ∧ c = 0) ∧ (∀ x, x < i → oft F (F x) n ≤ c) ∧ (0 < i → ∃ r, r < i ∧ v.2.1 = nI (F r) ∧ oft F (F r) n = c ∧ ∀ x, x < r → oft F (F x) n < c)
theorem oft_pos {F : Nat → Nat} {x : Nat} : ∀ {n : Nat}, x < n → 0 < oft F (F x) n
  | 0, h => by omega
  | n + 1, h => by
    unfold oft
    rcases Nat.lt_or_ge x n with z | z
    · have := oft_pos (F := F) z; omega
    · rw [show x = n by omega, if_pos rfl]; omega
theorem m_km (hM : LMod E) (hM2 : LMo2 E) (h1 : gi σ 396 0 = nI n) (hn : n ≤ 300) (h2 : ∀ i, i < n → gi σ 396 (26 + i) = nI (F i)) (hF : ∀ i, i < n → F i < 256) :
    ∃ v, fx (fun (rec : (Int32 × Int32 × Int32 × Int32) × Sg → Option ((Int32 × Int32 × Int32 × Int32) × Sg)) a => bX7_keys_21 E 395 (fun u0 u1 u2 u3 t => rec ((u0, u1, u2, u3), t)) a.1.1 a.1.2.1 a.1.2.2.1 a.1.2.2.2 a.2) FU (((0 : Int32), (-1 : Int32), (0 : Int32), (0 : Int32)), σ) = some (v, σ) ∧ KM F n n v := by
  obtain ⟨⟨v, s⟩, e, e1, e2⟩ := for_in (F := fun (rec : (Int32 × Int32 × Int32 × Int32) × Sg → Option ((Int32 × Int32 × Int32 × Int32) × Sg)) a => bX7_keys_21 E 395 (fun u0 u1 u2 u3 t => rec ((u0, u1, u2, u3), t)) a.1.1 a.1.2.1 a.1.2.2.1 a.1.2.2.2 a.2) n (fun i b => b.2 = σ ∧ KM F n i b.1) (fun b => b.2 = σ ∧ KM F n n b.1) (N := FU) (by show n < 1000000; omega)
    (by
      rintro i ⟨⟨v1, v2, v3, v4⟩, s⟩ rec hi ⟨rfl, hv4, hv1, c, hv3, hcn, hz, hall, hp⟩
      dsimp only at hv4 hv1 hv3 hz hp hall ⊢
      subst hv4 hv1 hv3
      have q1 := h2 i hi
      have q2 := hF i hi
      have ho := oft_le F (F i) n
      have e : cnP (fK F) (i + 1) = cnP (fK F) i + (if fK F i = true then 1 else 0) := rfl
      unfold bX7_keys_21
      rw [m_many hM hM2, bd_ok, h1, if_neg (nI_ge hi (by omega)), dr_ok hM.2.1 hM2.1.1, hM2.1.2, show (26 : Int32) = nI 26 from rfl, nI_add, ck_n (by omega) (by omega), nI_clamp (by omega), q1, lt_ok, m_seen hM hM2 hi hn h2 hF, bd_ok]
      cases hb : fK F i with
      | false =>
        rw [if_pos (show bI false = 0 from rfl), bd_ok, lt_ok, i1, nI_add]
        obtain ⟨j, hj, ej⟩ : ∃ j, j < i ∧ F j = F i := by
          apply Classical.byContradiction
          intro z
          have : fK F i = true := fO_t.mpr (fun j hj ej => z ⟨j, hj, ej⟩)
          rw [hb] at this; cases this
        refine ⟨_, rfl, rfl, rfl, by dsimp only; rw [e, hb, if_neg (by simp)]; rfl, c, rfl, hcn, fun z => by omega, fun x hx => ?_, fun _ => ?_⟩
        · rcases Nat.lt_or_ge x i with z | z
          · exact hall x z
          · rw [show x = i by omega, ← ej]; exact hall j hj
        · obtain ⟨r, a1, a2⟩ := hp (by omega)
          exact ⟨r, by omega, a2⟩
      | true =>
        rw [if_neg (show ¬ bI true = 0 by decide), lt_ok, m_oftenOf hM hM2 h1 hn h2 hF q2, bd_ok, imax_n (by omega) (by omega)]
        by_cases c1 : oft F (F i) n ≤ c
        · rw [if_pos (nI_le c1 (by omega)), bd_ok, lt_ok, bd_ok, lt_ok, i1, nI_add, nI_add, show max c (oft F (F i) n) = c by omega]
          have hi0 : 0 < i := by
            rcases Nat.eq_zero_or_pos i with z | z
            · have := (hz z).2; have := oft_pos (F := F) hi; omega
            · exact z
          refine ⟨_, rfl, rfl, rfl, by dsimp only; rw [e, hb, if_pos rfl], c, rfl, hcn, fun z => by omega, fun x hx => ?_, fun _ => ?_⟩
          · rcases Nat.lt_or_ge x i with z | z
            · exact hall x z
            · rw [show x = i by omega]; exact c1
          · obtain ⟨r, a1, a2⟩ := hp hi0
            exact ⟨r, by omega, a2⟩
        · rw [if_neg (nI_ge (by omega) (by omega)), bd_ok, lt_ok, bd_ok, lt_ok, i1, nI_add, nI_add, show max c (oft F (F i) n) = oft F (F i) n by omega]
          refine ⟨_, rfl, rfl, rfl, by dsimp only; rw [e, hb, if_pos rfl], oft F (F i) n, rfl, ho, fun z => by omega, fun x hx => ?_, fun _ => ⟨i, by omega, rfl, rfl, fun x hx => ?_⟩⟩
          · rcases Nat.lt_or_ge x i with z | z
            · have := hall x z; omega
            · rw [show x = i by omega]; exact Nat.le_refl _
          · have := hall x hx; omega)
    (by
      rintro ⟨⟨v1, v2, v3, v4⟩, s⟩ rec ⟨rfl, hb⟩
      have h4 : v4 = nI n := hb.1
      subst h4
      unfold bX7_keys_21
      rw [m_many hM hM2, bd_ok, h1, if_pos (nI_le (Nat.le_refl _) (by omega))]
      exact ⟨_, rfl, rfl, hb⟩)
    (a := (((0 : Int32), (-1 : Int32), (0 : Int32), (0 : Int32)), σ)) ⟨rfl, rfl, rfl, 0, rfl, by omega, fun _ => ⟨rfl, rfl⟩, fun x hx => by omega, fun h => absurd h (by omega)⟩
  dsimp only at e1 e2
  subst e1
  exact ⟨v, e, e2⟩
end KS
section KS2
variable {E : En}
theorem ok_keys (hR : LRun E) (hM : LMod E) (hM2 : LMo2 E) (p0 : Int32) : Ok (JJ CG' CM' MG' MM') (fX6_keys E 0 p0) (fX7_keys E 395 p0) := by
  refine ok_of (fun a hw => ?_)
  obtain ⟨r0, r1, r3, r4, r5, r8, r9, r10, r11, r12, r13, l1, l2, lx⟩ := id hR
  obtain ⟨b0, rb0, rb1, rb3, rb4, rb5, rb6, lr, la4, lg, lm, la31, la32⟩ := id l2
  have m0 := hM.1
  have hwc := hw.2.2.1
  have hn := hwc.1
  have hF := hwc.2.1
  by_cases h0 : p0 = 0
  · subst h0
    refine ⟨nI (cnP (fK (cF (aC a))) (cN (aC a))), a, hw, spc_q (fun σ hc => ⟨σ, ?_, fun _ _ _ => rfl, fun _ _ _ => rfl⟩), spm_q (fun σ hc => ⟨σ, ?_, fun _ _ _ => rfl, fun _ _ _ => rfl⟩)⟩
    · obtain ⟨k1, k2, k3⟩ := cs_rr hc.2.2.2.1
      unfold fX6_keys
      rw [tk_ok r0, if_neg (by simp), dr_ok r3 l2.1, dr_ok rb0 lr.1, c_unlike lr k1.1 hn k1.2.1 k1.2.2.1 hF, bd_ok]
    · obtain ⟨k1, k2, k3, k4, k5⟩ := mr_g hn hc.2.2.1
      obtain ⟨v, e, q1, q2, q3⟩ := m_km hM hM2 k1 hn k2 hF
      unfold fX7_keys
      rw [tk_ok m0, show fX7_in E (0 : Int32) (0 : Int32) (2 : Int32) σ = some (1, σ) from m_inN (v := 0) (l := 0) (h := 2) (by omega), bd_ok, if_pos (by decide), e, bd_ok, if_neg (by simp), bd_ok, q2]
  · by_cases hz : cN (aC a) = 0
    · by_cases h1 : p0 = 1
      · subst h1
        refine ⟨-1, a, hw, spc_q (fun σ hc => ⟨σ, ?_, fun _ _ _ => rfl, fun _ _ _ => rfl⟩), spm_q (fun σ hc => ⟨σ, ?_, fun _ _ _ => rfl, fun _ _ _ => rfl⟩)⟩
        · obtain ⟨k1, k2, k3⟩ := cs_rr hc.2.2.2.1
          have hm := (c_mostK lr k1.1 hn k1.2.1 k1.2.2.1 hF).1 hz
          unfold fX6_keys
          rw [tk_ok r0, if_pos (by decide), if_pos rfl, dr_ok r3 l2.1, dr_ok rb0 lr.1, hm, bd_ok, if_neg (by simp)]
        · obtain ⟨k1, k2, k3, k4, k5⟩ := mr_g hn hc.2.2.1
          obtain ⟨v, e, q1, q2, c, q3, q4, q5, q6⟩ := m_km hM hM2 k1 hn k2 hF
          unfold fX7_keys
          rw [tk_ok m0, show fX7_in E (1 : Int32) (0 : Int32) (2 : Int32) σ = some (1, σ) from m_inN (v := 1) (l := 0) (h := 2) (by omega), bd_ok, if_pos (by decide), e, bd_ok, if_pos (by decide), if_neg (by simp), bd_ok, (q5 hz).1]
      · by_cases h2 : p0 = 2
        · subst h2
          refine ⟨0, a, hw, spc_q (fun σ hc => ⟨σ, ?_, fun _ _ _ => rfl, fun _ _ _ => rfl⟩), spm_q (fun σ hc => ⟨σ, ?_, fun _ _ _ => rfl, fun _ _ _ => rfl⟩)⟩
          · obtain ⟨k1, k2, k3⟩ := cs_rr hc.2.2.2.1
            have hm := (c_mostK lr k1.1 hn k1.2.1 k1.2.2.1 hF).1 hz
            unfold fX6_keys
            rw [tk_ok r0, if_pos (by decide), if_neg (by decide), if_pos rfl, dr_ok r3 l2.1, dr_ok rb0 lr.1, hm, bd_ok, if_pos (by decide), if_neg (by simp), bd_ok]
          · obtain ⟨k1, k2, k3, k4, k5⟩ := mr_g hn hc.2.2.1
            obtain ⟨v, e, q1, q2, c, q3, q4, q5, q6⟩ := m_km hM hM2 k1 hn k2 hF
            unfold fX7_keys
            rw [tk_ok m0, show fX7_in E (2 : Int32) (0 : Int32) (2 : Int32) σ = some (1, σ) from m_inN (v := 2) (l := 0) (h := 2) (by omega), bd_ok, if_pos (by decide), e, bd_ok, if_pos (by decide), if_pos (by decide), bd_ok, q3, (q5 hz).2]
            rfl
        · refine ⟨-1, a, hw, spc_q (fun σ hc => ⟨σ, ?_, fun _ _ _ => rfl, fun _ _ _ => rfl⟩), spm_q (fun σ hc => ⟨σ, ?_, fun _ _ _ => rfl, fun _ _ _ => rfl⟩)⟩
          · unfold fX6_keys
            rw [tk_ok r0, if_pos h0, if_neg h1, if_neg h2]
          · unfold fX7_keys
            rw [tk_ok m0, m_inF (no3 h0 h1 h2), bd_ok, if_neg (by simp)]
    · obtain ⟨r, hr⟩ := ms_ex (F := cF (aC a)) (show 0 < cN (aC a) by omega)
      have hkm : ∀ v, KM (cF (aC a)) (cN (aC a)) (cN (aC a)) v → v.2.1 = nI (cF (aC a) r) ∧ v.2.2.1 = nI (oft (cF (aC a)) (cF (aC a) r) (cN (aC a))) := by
        rintro v ⟨q1, q2, c, q3, q4, q5, q6, q7⟩
        obtain ⟨r', t1, t2, t3, t4⟩ := q7 (by omega)
        have : r' = r := ms_uq ⟨t1, fun x hx => by rw [t3]; exact q6 x hx, fun x hx => by rw [t3]; exact t4 x hx⟩ hr
        subst this
        exact ⟨t2, by rw [q3, t3]⟩
      have hkr := hF r hr.1
      by_cases h1 : p0 = 1
      · subst h1
        refine ⟨nI (cF (aC a) r), a, hw, spc_q (fun σ hc => ⟨σ, ?_, fun _ _ _ => rfl, fun _ _ _ => rfl⟩), spm_q (fun σ hc => ⟨σ, ?_, fun _ _ _ => rfl, fun _ _ _ => rfl⟩)⟩
        · obtain ⟨k1, k2, k3⟩ := cs_rr hc.2.2.2.1
          have hm := (c_mostK lr k1.1 hn k1.2.1 k1.2.2.1 hF).2 r hr
          unfold fX6_keys
          rw [tk_ok r0, if_pos (by decide), if_pos rfl, dr_ok r3 l2.1, dr_ok rb0 lr.1, hm, bd_ok, if_neg (by simp)]
        · obtain ⟨k1, k2, k3, k4, k5⟩ := mr_g hn hc.2.2.1
          obtain ⟨v, e, q⟩ := m_km hM hM2 k1 hn k2 hF
          unfold fX7_keys
          rw [tk_ok m0, show fX7_in E (1 : Int32) (0 : Int32) (2 : Int32) σ = some (1, σ) from m_inN (v := 1) (l := 0) (h := 2) (by omega), bd_ok, if_pos (by decide), e, bd_ok, if_pos (by decide), if_neg (by simp), bd_ok, (hkm v q).1]
      · by_cases h2 : p0 = 2
        · subst h2
          refine ⟨nI (oft (cF (aC a)) (cF (aC a) r) (cN (aC a))), a, hw, spc_q (fun σ hc => ⟨σ, ?_, fun _ _ _ => rfl, fun _ _ _ => rfl⟩), spm_q (fun σ hc => ⟨σ, ?_, fun _ _ _ => rfl, fun _ _ _ => rfl⟩)⟩
          · obtain ⟨k1, k2, k3⟩ := cs_rr hc.2.2.2.1
            have hm := (c_mostK lr k1.1 hn k1.2.1 k1.2.2.1 hF).2 r hr
            have hne : ¬ nI (cF (aC a) r) = (-1 : Int32) := fun z => by
              have := nI_pos (n := cF (aC a) r) (by omega)
              rw [z] at this
              exact this (by decide)
            unfold fX6_keys
            rw [tk_ok r0, if_pos (by decide), if_neg (by decide), if_pos rfl, dr_ok r3 l2.1, dr_ok rb0 lr.1, hm, bd_ok, if_pos (by decide), if_pos hne, c_often lr k1.1 hn k1.2.1 hF hkr, bd_ok, bd_ok]
          · obtain ⟨k1, k2, k3, k4, k5⟩ := mr_g hn hc.2.2.1
            obtain ⟨v, e, q⟩ := m_km hM hM2 k1 hn k2 hF
            unfold fX7_keys
            rw [tk_ok m0, show fX7_in E (2 : Int32) (0 : Int32) (2 : Int32) σ = some (1, σ) from m_inN (v := 2) (l := 0) (h := 2) (by omega), bd_ok, if_pos (by decide), e, bd_ok, if_pos (by decide), if_pos (by decide), bd_ok, (hkm v q).2]
        · refine ⟨-1, a, hw, spc_q (fun σ hc => ⟨σ, ?_, fun _ _ _ => rfl, fun _ _ _ => rfl⟩), spm_q (fun σ hc => ⟨σ, ?_, fun _ _ _ => rfl, fun _ _ _ => rfl⟩)⟩
          · unfold fX6_keys
            rw [tk_ok r0, if_pos h0, if_neg h1, if_neg h2]
          · unfold fX7_keys
            rw [tk_ok m0, m_inF (no3 h0 h1 h2), bd_ok, if_neg (by simp)]
end KS2
