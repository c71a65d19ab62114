/-! least -/
theorem nI_dec {a : Nat} (h : 1 ≤ a) : nI a + (-1 : Int32) = nI (a - 1) := by
  rw [show nI a + (-1 : Int32) = nI a - 1 from (Int32.sub_eq_add_neg _ _).symm, i1, sub_n h]
theorem dr_cons {S : List Nat} {i : Nat} (hi : i < S.length) : S.drop i = S.getD i 0 :: S.drop (i + 1) := by
  rw [List.drop_eq_getElem_cons hi, List.getD_eq_getElem?_getD, List.getElem?_eq_getElem hi]; rfl
theorem pad_tk : ∀ (z k : Nat) (S : List Nat), z ≤ k → smL ((List.replicate z 0 ++ S).take k) = smL (S.take (k - z)) ∧ (List.replicate z 0 ++ S).drop k = S.drop (k - z)
  | 0, k, S, _ => ⟨rfl, rfl⟩
  | z + 1, 0, S, h => by omega
  | z + 1, k + 1, S, h => by
    obtain ⟨h1, h2⟩ := pad_tk z k S (by omega)
    rw [List.replicate_succ, List.cons_append, List.take_succ_cons, List.drop_succ_cons, show k + 1 - (z + 1) = k - z by omega]
    refine ⟨?_, h2⟩
    show 0 + smL _ = _
    rw [h1]; omega
theorem pad_sm (S : List Nat) : ∀ z, smL (List.replicate z 0 ++ S) = smL S
  | 0 => rfl
  | z + 1 => by rw [List.replicate_succ, List.cons_append]; show 0 + smL _ = _; rw [pad_sm S z]; omega
theorem pad_srt {S : List Nat} (h : S.Pairwise (· ≤ ·)) : ∀ z, (List.replicate z 0 ++ S).Pairwise (· ≤ ·)
  | 0 => h
  | z + 1 => by rw [List.replicate_succ, List.cons_append]; exact List.pairwise_cons.mpr ⟨fun _ _ => Nat.zero_le _, pad_srt h z⟩
theorem ins0 : ∀ L : List Nat, insS 0 L = 0 :: L
  | [] => rfl
  | x :: l => by unfold insS; rw [if_pos (Nat.zero_le _)]
def padZ (k nr : Nat) : Nat := if (nr - 1) % (k - 1) = 0 then 0 else (k - 1) - (nr - 1) % (k - 1)
theorem pad_ar {k nr : Nat} (h2 : 2 ≤ k) (h5 : k ≤ 5) (hn : 1 ≤ nr) : padZ k nr < k ∧ padZ k nr ≤ 4 ∧ (∀ i, i < padZ k nr → (nr + i - 1) % (k - 1) ≠ 0) ∧ (nr + padZ k nr - 1) % (k - 1) = 0 ∧ k - padZ k nr = (if (nr - 1) % (k - 1) = 0 then k else (nr - 1) % (k - 1) + 1) ∧ (1 < nr → k - padZ k nr ≤ nr) := by
  unfold padZ
  rcases (show k = 2 ∨ k = 3 ∨ k = 4 ∨ k = 5 by omega) with rfl | rfl | rfl | rfl
  · refine ⟨?_, ?_, fun i hi => ?_, ?_, ?_, fun h => ?_⟩ <;> (try split) <;> (try split at *) <;> omega
  · refine ⟨?_, ?_, fun i hi => ?_, ?_, ?_, fun h => ?_⟩ <;> (try split) <;> (try split at *) <;> omega
  · refine ⟨?_, ?_, fun i hi => ?_, ?_, ?_, fun h => ?_⟩ <;> (try split) <;> (try split at *) <;> omega
  · refine ⟨?_, ?_, fun i hi => ?_, ?_, ?_, fun h => ?_⟩ <;> (try split) <;> (try split at *) <;> omega
theorem mod_ge {a d : Nat} (h : 0 < a) (hm : a % d = 0) : d ≤ a := by
  rcases Nat.lt_or_ge a d with z | z
  · rw [Nat.mod_eq_of_lt z] at hm; omega
  · exact z
theorem mod_sub' {a d : Nat} (h : d ≤ a) (hm : a % d = 0) : (a - d) % d = 0 := by
  rw [← Nat.mod_eq_sub_mod h]; exact hm
section LE2
variable {E : En}
/-- what both need of a list -/
def GL (S : List Nat) : Prop := S.Pairwise (· ≤ ·) ∧ smL S ≤ 300 ∧ S.length ≤ 200
theorem gl_drop {S : List Nat} (h : GL S) (i : Nat) : GL (S.drop i) := by
  refine ⟨h.1.sublist (List.drop_sublist i S), ?_, ?_⟩
  · have := smL_td i S; have := h.2.1; omega
  · rw [List.length_drop]; have := h.2.2; omega
theorem gl_mrg {S : List Nat} {w : Nat} (h : GL S) (h1 : 1 ≤ w) (hw : w ≤ S.length) : GL (insS (smL (S.take w)) (S.drop w)) ∧ (insS (smL (S.take w)) (S.drop w)).length = S.length - w + 1 := by
  have hl : (insS (smL (S.take w)) (S.drop w)).length = S.length - w + 1 := by rw [insS_len, List.length_drop]
  refine ⟨⟨insS_srt (gl_drop h w).1, ?_, ?_⟩, hl⟩
  · rw [smL_ins]; have := smL_td w S; have := h.2.1; omega
  · rw [hl]; have := h.2.2; omega
theorem c_tkn {σ : Sg} {S : List Nat} {w : Nat} (h0 : cd E 0 = 6) (hc : rf E 0 12 = some 63) (hl : LArr E 63 100 300) (hg : GL S) (hw : w ≤ S.length) (h : WS σ 63 S) : ∃ s, fx (fun (rec : (Int32 × Int32 × Int32) × Sg → Option ((Int32 × Int32 × Int32) × Sg)) a => bX6_least_100 E (nI w) 0 (fun u0 u1 u2 t => rec ((u0, u1, u2), t)) a.1.1 a.1.2.1 a.1.2.2 a.2) FU ((nI S.length, (0 : Int32), (0 : Int32)), σ) = some ((nI (S.length - w), nI (smL (S.take w)), nI w), s) ∧ WS s 63 (S.drop w) ∧ ∀ y k, y ≠ 63 → gi s y k = gi σ y k := by
  have g3 := hg.2.2
  obtain ⟨⟨v, s⟩, e, e1, e2, e3⟩ := for_in (F := fun (rec : (Int32 × Int32 × Int32) × Sg → Option ((Int32 × Int32 × Int32) × Sg)) a => bX6_least_100 E (nI w) 0 (fun u0 u1 u2 t => rec ((u0, u1, u2), t)) a.1.1 a.1.2.1 a.1.2.2 a.2) w
    (fun i b => b.1 = (nI (S.length - i), nI (smL (S.take i)), nI i) ∧ WS b.2 63 (S.drop i) ∧ ∀ y k, y ≠ 63 → gi b.2 y k = gi σ y k)
    (fun b => b.1 = (nI (S.length - w), nI (smL (S.take w)), nI w) ∧ WS b.2 63 (S.drop w) ∧ ∀ y k, y ≠ 63 → gi b.2 y k = gi σ y k) (N := FU) (by show w < 1000000; omega)
    (by
      rintro i ⟨v, s⟩ rec hi ⟨rfl, f2, f3⟩
      dsimp only at f2 f3 ⊢
      have hgd := gl_drop hg i
      have hd := dr_cons (S := S) (i := i) (by omega)
      have t1 := smL_td i S
      have t2 := smL_td (i + 1) S
      rw [hd] at f2 hgd t1
      have hlen : (S.drop (i + 1)).length + 1 = S.length - i := by rw [List.length_drop]; omega
      obtain ⟨s2, q1, q2, q3⟩ := c6_take h0 hc hl (by omega) hgd.1 hgd.2.1 f2
      rw [hlen] at q1
      unfold bX6_least_100
      rw [if_neg (nI_ge hi (by omega)), if_neg (show ¬ nI (S.length - i) ≤ 0 from (nI_ge (by omega) (by omega) : ¬ nI (S.length - i) ≤ nI 0)), q1, bd_ok, lt_ok, nI_add, nI_dec (by omega), lt_ok, lt_ok, i1, nI_add]
      have t1' : smL (S.take i) + (S.getD i 0 + smL (S.drop (i + 1))) = smL S := t1
      refine ⟨_, rfl, ?_, q2, fun y k hy => by rw [q3 y k hy, f3 y k hy]⟩
      rw [show smL (S.take i) + S.getD i 0 = smL (S.take (i + 1)) by omega, show S.length - i - 1 = S.length - (i + 1) by omega])
    (by
      rintro ⟨v, s⟩ rec ⟨rfl, f2, f3⟩
      unfold bX6_least_100
      dsimp only
      rw [if_pos (nI_le (Nat.le_refl _) (by omega))]
      exact ⟨_, rfl, rfl, f2, f3⟩)
    (a := ((nI S.length, (0 : Int32), (0 : Int32)), σ)) ⟨rfl, h, fun _ _ _ => rfl⟩
  dsimp only at e1 e2 e3
  subst e1
  exact ⟨s, e, e2, e3⟩
theorem m_tkn {σ : Sg} {S : List Nat} {w : Nat} (h0 : cd E 395 = 7) (hc : rf E 395 26 = some 413) (hl : LArr E 413 100 306) (hg : GL S) (hw : w ≤ S.length) (h : WS σ 413 S) : ∃ s, fx (fun (rec : (Int32 × Int32 × Int32) × Sg → Option ((Int32 × Int32 × Int32) × Sg)) a => bX7_least_92 E (nI w) 395 (fun u0 u1 u2 t => rec ((u0, u1, u2), t)) a.1.1 a.1.2.1 a.1.2.2 a.2) FU ((nI S.length, (0 : Int32), (0 : Int32)), σ) = some ((nI (S.length - w), nI (smL (S.take w)), nI w), s) ∧ WS s 413 (S.drop w) ∧ ∀ y k, y ≠ 413 → gi s y k = gi σ y k := by
  have g3 := hg.2.2
  obtain ⟨⟨v, s⟩, e, e1, e2, e3⟩ := for_in (F := fun (rec : (Int32 × Int32 × Int32) × Sg → Option ((Int32 × Int32 × Int32) × Sg)) a => bX7_least_92 E (nI w) 395 (fun u0 u1 u2 t => rec ((u0, u1, u2), t)) a.1.1 a.1.2.1 a.1.2.2 a.2) w
    (fun i b => b.1 = (nI (S.length - i), nI (smL (S.take i)), nI i) ∧ WS b.2 413 (S.drop i) ∧ ∀ y k, y ≠ 413 → gi b.2 y k = gi σ y k)
    (fun b => b.1 = (nI (S.length - w), nI (smL (S.take w)), nI w) ∧ WS b.2 413 (S.drop w) ∧ ∀ y k, y ≠ 413 → gi b.2 y k = gi σ y k) (N := FU) (by show w < 1000000; omega)
    (by
      rintro i ⟨v, s⟩ rec hi ⟨rfl, f2, f3⟩
      dsimp only at f2 f3 ⊢
      have hgd := gl_drop hg i
      have hd := dr_cons (S := S) (i := i) (by omega)
      have t1 := smL_td i S
      have t2 := smL_td (i + 1) S
      rw [hd] at f2 hgd t1
      have hlen : (S.drop (i + 1)).length + 1 = S.length - i := by rw [List.length_drop]; omega
      obtain ⟨s2, q1, q2, q3⟩ := m7_take h0 hc hl (by omega) hgd.1 hgd.2.1 f2
      rw [hlen] at q1
      unfold bX7_least_92
      rw [if_neg (nI_ge hi (by omega)), q1, bd_ok, lt_ok, nI_add, nI_dec (by omega), lt_ok, lt_ok, i1, nI_add]
      have t1' : smL (S.take i) + (S.getD i 0 + smL (S.drop (i + 1))) = smL S := t1
      refine ⟨_, rfl, ?_, q2, fun y k hy => by rw [q3 y k hy, f3 y k hy]⟩
      rw [show smL (S.take i) + S.getD i 0 = smL (S.take (i + 1)) by omega, show S.length - i - 1 = S.length - (i + 1) by omega])
    (by
      rintro ⟨v, s⟩ rec ⟨rfl, f2, f3⟩
      unfold bX7_least_92
      dsimp only
      rw [if_pos (nI_le (Nat.le_refl _) (by omega))]
      exact ⟨_, rfl, rfl, f2, f3⟩)
    (a := ((nI S.length, (0 : Int32), (0 : Int32)), σ)) ⟨rfl, h, fun _ _ _ => rfl⟩
  dsimp only at e1 e2 e3
  subst e1
  exact ⟨s, e, e2, e3⟩
theorem c_mrg {σ : Sg} {S : List Nat} {w k cost it : Nat} (h0 : cd E 0 = 6) (hc : rf E 0 12 = some 63) (hl : LArr E 63 100 300) (hg : GL S) (h1 : 1 ≤ w) (hw : w ≤ S.length) (hl1 : 1 < S.length) (hit : it < 300) (h : WS σ 63 S) (rec : Int32 → Int32 → Int32 → Int32 → Sg → Option ((Int32 × Int32 × Int32 × Int32) × Sg)) : ∃ s, bX6_least_81 E 0 63 (nI k) rec (nI S.length) (nI w) (nI cost) (nI it) σ = rec (nI (insS (smL (S.take w)) (S.drop w)).length) (nI k) (nI (cost + smL (S.take w))) (nI (it + 1)) s ∧ WS s 63 (insS (smL (S.take w)) (S.drop w)) ∧ ∀ y k, y ≠ 63 → gi s y k = gi σ y k := by
  obtain ⟨s, e1, e2, e3⟩ := c_tkn h0 hc hl hg hw h
  have g3 := hg.2.2
  have hld : (S.drop w).length = S.length - w := List.length_drop
  unfold bX6_least_81
  rw [show (300 : Int32) = nI 300 from rfl, if_neg (nI_ge hit (by omega)), i1, if_neg (nI_ge hl1 (by omega)), e1, bd_ok]
  dsimp only
  rw [hl.2, ck_m (by omega), nI_clamp (by omega), ss_ok, lt_ok, lt_ok, lt_ok, nI_add, nI_add, nI_add, (gl_mrg hg h1 hw).2]
  refine ⟨_, rfl, ?_, fun y k hy => by rw [gs_ne (by omega), e3 y k hy]⟩
  have := ws_push (s := smL (S.take w)) e2
  rw [hld] at this
  exact this
theorem c_out {k : Nat} (h0 : cd E 0 = 6) (hc : rf E 0 12 = some 63) (hl : LArr E 63 100 300) (hk : 2 ≤ k) : ∀ (f N : Nat) (S : List Nat) (cost it : Nat) (σ : Sg), GL S → 0 < S.length → (S.length - 1) % (k - 1) = 0 → S.length ≤ f → f < N → it + S.length ≤ 300 → WS σ 63 S → ∃ r s, fx (fun (rec : (Int32 × Int32 × Int32 × Int32) × Sg → Option ((Int32 × Int32 × Int32 × Int32) × Sg)) a => bX6_least_81 E 0 63 (nI k) (fun u0 u1 u2 u3 t => rec ((u0, u1, u2, u3), t)) a.1.1 a.1.2.1 a.1.2.2.1 a.1.2.2.2 a.2) N ((nI S.length, nI k, nI cost, nI it), σ) = some (r, s) ∧ r.2.2.1 = nI (cost + leaS k f S) ∧ ∀ y k, y ≠ 63 → gi s y k = gi σ y k := by
  intro f
  induction f with
  | zero => intro N S cost it σ hg hp hm hf; omega
  | succ f ih =>
    intro N S cost it σ hg hp hm hf hN hit h
    obtain ⟨N', rfl⟩ : ∃ N', N = N' + 1 := ⟨N - 1, by omega⟩
    rw [fx_1]
    dsimp only
    by_cases h1 : S.length ≤ 1
    · have g3 := hg.2.2
      refine ⟨(nI S.length, nI k, nI cost, nI it), σ, ?_, ?_, fun _ _ _ => rfl⟩
      · generalize fx _ N' = rr
        unfold bX6_least_81
        rw [show (300 : Int32) = nI 300 from rfl, if_neg (nI_ge (by omega) (by omega)), i1, if_pos (nI_le h1 (by omega))]
      · unfold leaS; rw [if_pos h1]; rfl
    · have hkl : k - 1 ≤ S.length - 1 := mod_ge (by omega) hm
      obtain ⟨s, e1, e2, e3⟩ := c_mrg (k := k) (cost := cost) (it := it) h0 hc hl hg (show 1 ≤ k by omega) (by omega) (by omega) (by omega) h (fun u0 u1 u2 u3 t => fx (fun (rec : (Int32 × Int32 × Int32 × Int32) × Sg → Option ((Int32 × Int32 × Int32 × Int32) × Sg)) a => bX6_least_81 E 0 63 (nI k) (fun u0 u1 u2 u3 t => rec ((u0, u1, u2, u3), t)) a.1.1 a.1.2.1 a.1.2.2.1 a.1.2.2.2 a.2) N' ((u0, u1, u2, u3), t))
      obtain ⟨q1, q2⟩ := gl_mrg hg (show 1 ≤ k by omega) (show k ≤ S.length by omega)
      have hm2 := mod_sub' hkl hm
      obtain ⟨r, s2, f1, f2, f3⟩ := ih N' (insS (smL (S.take k)) (S.drop k)) (cost + smL (S.take k)) (it + 1) s q1 (by omega) (by rw [q2, show S.length - k + 1 - 1 = S.length - 1 - (k - 1) by omega]; exact hm2) (by omega) (by omega) (by omega) e2
      rw [e1]
      refine ⟨r, s2, f1, ?_, fun y k hy => by rw [f3 y k hy, e3 y k hy]⟩
      rw [f2]
      show _ = nI (cost + (if S.length ≤ 1 then 0 else _))
      rw [if_neg h1, Nat.add_assoc]
theorem m_out {k : Nat} (h0 : cd E 395 = 7) (hc : rf E 395 26 = some 413) (hl : LArr E 413 100 306) (hk : 2 ≤ k) : ∀ (f N : Nat) (S : List Nat) (cost : Nat) (σ : Sg), GL S → 0 < S.length → (S.length - 1) % (k - 1) = 0 → S.length ≤ f → f < N → WS σ 413 S → ∃ r s, fx (fun (rec : (Int32 × Int32) × Sg → Option ((Int32 × Int32) × Sg)) a => bX7_least_81 E (nI k) 395 (fun u0 u1 t => rec ((u0, u1), t)) a.1.1 a.1.2 a.2) N ((nI S.length, nI cost), σ) = some (r, s) ∧ r.2 = nI (cost + leaS k f S) ∧ ∀ y k, y ≠ 413 → gi s y k = gi σ y k := by
  intro f
  induction f with
  | zero => intro N S cost σ hg hp hm hf; omega
  | succ f ih =>
    intro N S cost σ hg hp hm hf hN h
    obtain ⟨N', rfl⟩ : ∃ N', N = N' + 1 := ⟨N - 1, by omega⟩
    have g3 := hg.2.2
    rw [fx_1]
    dsimp only
    by_cases h1 : S.length ≤ 1
    · refine ⟨(nI S.length, nI cost), σ, ?_, ?_, fun _ _ _ => rfl⟩
      · generalize fx _ N' = rr
        unfold bX7_least_81
        rw [i1, if_pos (nI_le h1 (by omega))]
      · unfold leaS; rw [if_pos h1]; rfl
    · have hkl : k - 1 ≤ S.length - 1 := mod_ge (by omega) hm
      obtain ⟨s, e1, e2, e3⟩ := m_tkn h0 hc hl hg (show k ≤ S.length by omega) h
      have hld : (S.drop k).length = S.length - k := List.length_drop
      have hpush := ws_push (s := smL (S.take k)) e2
      rw [hld] at hpush
      obtain ⟨q1, q2⟩ := gl_mrg hg (show 1 ≤ k by omega) (show k ≤ S.length by omega)
      have hm2 := mod_sub' hkl hm
      obtain ⟨r, s2, f1, f2, f3⟩ := ih N' (insS (smL (S.take k)) (S.drop k)) (cost + smL (S.take k)) _ q1 (by omega) (by rw [q2, show S.length - k + 1 - 1 = S.length - 1 - (k - 1) by omega]; exact hm2) (by omega) (by omega) hpush
      refine ⟨r, s2, ?_, ?_, fun y k hy => by rw [f3 y k hy, gs_ne (by omega), e3 y k hy]⟩
      · rw [← f1, q2]
        generalize fx _ N' = rr
        unfold bX7_least_81
        rw [i1, if_neg (nI_ge (by omega) (by omega)), e1, bd_ok, hc, dr_s, hl.1, hl.2, tk_s]
        dsimp only
        rw [ck_m (by omega), nI_clamp (by omega), ss_ok, lt_ok, lt_ok, nI_add, nI_add]
      · rw [f2]
        show _ = nI (cost + (if S.length ≤ 1 then 0 else _))
        rw [if_neg h1, Nat.add_assoc]
end LE2
