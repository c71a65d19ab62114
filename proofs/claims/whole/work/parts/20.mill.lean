/-! the mill on paper: a skeleton (how many runs each tape has, where to, what is open, who gives), and what the runs are -/
def cntF (p : Nat → Bool) : Nat → Nat
  | 0 => 0
  | n + 1 => cntF p n + (if p n then 1 else 0)
def sumF (f : Nat → Nat) : Nat → Nat
  | 0 => 0
  | n + 1 => sumF f n + f n
def fstF (p : Nat → Bool) : Nat → Option Nat
  | 0 => none
  | n + 1 => match fstF p n with
    | some x => some x
    | none => if p n then some n else none
def tab {α : Type} (f : Nat → α) (n : Nat) : List α := (List.range n).map f
/-- how many on each tape; the tape that is written; open; whether the lower half gives -/
abbrev Sk : Type := List Nat × Nat × List Bool × Bool
abbrev kc (s : Sk) (t : Nat) : Nat := s.1.getD t 0
abbrev ko (s : Sk) (t : Nat) : Bool := s.2.2.1.getD t false
abbrev kto (s : Sk) : Nat := s.2.1
abbrev klo (s : Sk) : Bool := s.2.2.2
/-- whether a tape may give -/
def flg (w h : Nat) (s : Sk) (t : Nat) : Bool := match w with
  | 0 => !(t == kto s)
  | 1 => decide (t < h) == klo s
  | _ => ko s t
def gvf (w h : Nat) (s : Sk) (t : Nat) : Bool := !(kc s t == 0) && flg w h s t
def lef (T : Nat) (s : Sk) : Nat := sumF (kc s) T
def skc (w T h : Nat) (s : Sk) : List Nat := tab (fun t => if t = kto s then kc s t + 1 else if gvf w h s t then kc s t - 1 else kc s t) T
/-- the skeleton behind a step; whether a phase is over -/
def skn (w T h : Nat) (s : Sk) : Sk × Bool :=
  let cs := skc w T h s
  if w = 1 then
    if cntF (gvf 1 h (cs, s.2)) T = 0 then ((cs, (if klo s then 0 else h), s.2.2.1, !klo s), true)
    else ((cs, (if (if klo s then T - 1 else h - 1) ≤ kto s then (if klo s then h else 0) else kto s + 1), s.2.2.1, klo s), false)
  else match fstF (fun t => gvf w h s t && (cs.getD t 0 == 0)) T with
    | none => ((cs, s.2), false)
    | some e =>
      if w = 0 then ((cs, e, s.2.2.1, klo s), true)
      else if cntF (gvf 2 h (cs, e, tab (fun t => ko s t && !(t == e)) T, klo s)) T < 2 then ((cs, e, tab (fun t => !(cs.getD t 0 == 0) && !(t == e)) T, klo s), true)
      else ((cs, e, tab (fun t => ko s t && !(t == e)) T, klo s), true)
/-- a run: of which that grew it is made, whether it stands down -/
abbrev Rn : Type := List Nat × Bool
abbrev Mi : Type := (Nat → List Rn) × Sk × Nat × Nat × Nat × Nat
abbrev mT (A : Mi) : Nat → List Rn := A.1
abbrev mK (A : Mi) : Sk := A.2.1
abbrev mMo (A : Mi) : Nat := A.2.2.1
abbrev mSt (A : Mi) : Nat := A.2.2.2.1
abbrev mPh (A : Mi) : Nat := A.2.2.2.2.1
abbrev mTu (A : Mi) : Nat := A.2.2.2.2.2
def szl (gl : Nat → Nat) : List Nat → Nat
  | [] => 0
  | i :: l => gl i + szl gl l
abbrev hdr (l : List Rn) : Rn := l.getD 0 ([], false)
/-- what the step takes, one behind the other -/
def catF (g : Nat → Bool) (tp : Nat → List Rn) : Nat → List Nat
  | 0 => []
  | n + 1 => catF g tp n ++ (if g n then (hdr (tp n)).1 else [])
def ldF (g : Nat → Bool) (tp : Nat → List Rn) (T : Nat) : Option Nat := fstF (fun t => g t && !(hdr (tp t)).1.isEmpty) T
/-- whether the lead stands down -/
def ldD (g : Nat → Bool) (tp : Nat → List Rn) (T : Nat) : Option Bool := (ldF g tp T).map (fun t => (hdr (tp t)).2)
def psh (bk : Bool) (r : Rn) (l : List Rn) : List Rn := if bk then r :: l else l ++ [r]
def tuF (gl : Nat → Nat) (g : Nat → Bool) (tp : Nat → List Rn) (d : Bool) (t : Nat) : Nat := if g t then (if (hdr (tp t)).2 = d then 0 else szl gl (hdr (tp t)).1) else 0
def upr (l : List Rn) : List Rn := l.map (fun r => (r.1, false))
/-- the last run stands up -/
def tul (gl : Nat → Nat) (T : Nat) (A : Mi) : Mi := if lef T (mK A) = 1 then (fun t => upr (mT A t), mK A, mMo A, mSt A, mPh A, mTu A + sumF (fun t => if (hdr (mT A t)).2 then szl gl (hdr (mT A t)).1 else 0) T) else A
def stp0 (w T : Nat) (bk : Bool) (gl : Nat → Nat) (A : Mi) : Mi :=
  let g := gvf w (T / 2) (mK A)
  let c := catF g (mT A) T
  let d := ldD g (mT A) T
  let n := skn w T (T / 2) (mK A)
  (fun t => if t = kto (mK A) then psh bk (c, bk && (d == some false)) (mT A t) else if t < T ∧ g t = true then (mT A t).tail else mT A t, n.1, mMo A + szl gl c, mSt A + 1, mPh A + (if n.2 then 1 else 0), mTu A + sumF (tuF gl g (mT A) (bk && (d == some true))) T)
def stp (w T : Nat) (bk : Bool) (gl : Nat → Nat) (A : Mi) : Mi := tul gl T (stp0 w T bk gl A)
/-- what a step needs of the skeleton -/
def oks (w T h : Nat) (s : Sk) : Bool := decide (0 < cntF (gvf w h s) T) && decide (kto s < T) && !(flg w h s (kto s)) && decide (kc s (kto s) < 256) && (decide (¬ w = 0) || decide (cntF (fun t => t == kto s || !(kc s t == 0)) T = T))
def good (w T h : Nat) : Nat → Sk → Bool
  | 0, s => lef T s == 1
  | f + 1, s => if lef T s == 1 then true else oks w T h s && good w T h f (skn w T h s).1
theorem tab_at {α : Type} {f : Nat → α} {n t : Nat} {d : α} (h : t < n) : (tab f n).getD t d = f t := by
  simp [tab, List.getD, h]
theorem cntF_congr {p q : Nat → Bool} : ∀ {n : Nat}, (∀ t, t < n → p t = q t) → cntF p n = cntF q n
  | 0, _ => rfl
  | n + 1, h => by unfold cntF; rw [cntF_congr (fun t ht => h t (by omega)), h n (by omega)]
theorem sumF_congr {p q : Nat → Nat} : ∀ {n : Nat}, (∀ t, t < n → p t = q t) → sumF p n = sumF q n
  | 0, _ => rfl
  | n + 1, h => by unfold sumF; rw [sumF_congr (fun t ht => h t (by omega)), h n (by omega)]
theorem fstF_congr {p q : Nat → Bool} : ∀ {n : Nat}, (∀ t, t < n → p t = q t) → fstF p n = fstF q n
  | 0, _ => rfl
  | n + 1, h => by unfold fstF; rw [fstF_congr (fun t ht => h t (by omega)), h n (by omega)]
theorem fstF_some {p : Nat → Bool} : ∀ {n e : Nat}, fstF p n = some e → e < n ∧ p e = true ∧ ∀ j, j < e → p j = false
  | 0, e, h => by cases h
  | n + 1, e, h => by
    unfold fstF at h
    cases hq : fstF p n with
    | some x =>
      rw [hq] at h
      simp only [Option.some.injEq] at h
      subst h
      obtain ⟨h1, h2, h3⟩ := fstF_some hq
      exact ⟨by omega, h2, h3⟩
    | none =>
      rw [hq] at h
      dsimp only at h
      split at h
      · next hp =>
        simp only [Option.some.injEq] at h
        subst h
        refine ⟨by omega, hp, fun j hj => ?_⟩
        have : ∀ m, fstF p m = none → ∀ j, j < m → p j = false := by
          intro m
          induction m with
          | zero => intro _ j hj; omega
          | succ m ih =>
            intro hm j hj
            unfold fstF at hm
            cases hm' : fstF p m with
            | some x => rw [hm'] at hm; cases hm
            | none =>
              rw [hm'] at hm
              dsimp only at hm
              by_cases hjm : j = m
              · subst hjm
                cases hpj : p j with
                | false => rfl
                | true => rw [hpj] at hm; cases hm
              · exact ih hm' j (by omega)
        exact this _ hq j hj
      · cases h
theorem fstF_none {p : Nat → Bool} : ∀ {n : Nat}, fstF p n = none → ∀ j, j < n → p j = false
  | 0, _, j, hj => by omega
  | n + 1, h, j, hj => by
    unfold fstF at h
    cases hq : fstF p n with
    | some x => rw [hq] at h; cases h
    | none =>
      rw [hq] at h
      dsimp only at h
      by_cases hjn : j = n
      · subst hjn
        cases hpj : p j with
        | false => rfl
        | true => rw [hpj] at h; cases h
      · exact fstF_none hq j (by omega)
theorem cntF_le (p : Nat → Bool) : ∀ n, cntF p n ≤ n
  | 0 => Nat.le_refl _
  | n + 1 => by have := cntF_le p n; unfold cntF; split <;> omega
theorem cntF_pos {p : Nat → Bool} : ∀ {n : Nat}, 0 < cntF p n → ∃ t, t < n ∧ p t = true
  | 0, h => by simp [cntF] at h
  | n + 1, h => by
    unfold cntF at h
    by_cases hp : p n = true
    · exact ⟨n, by omega, hp⟩
    · rw [if_neg hp] at h
      obtain ⟨t, h1, h2⟩ := cntF_pos (p := p) (n := n) (by omega)
      exact ⟨t, by omega, h2⟩
theorem cntF_zero {p : Nat → Bool} : ∀ {n : Nat}, cntF p n = 0 → ∀ t, t < n → p t = false
  | 0, _, t, ht => by omega
  | n + 1, h, t, ht => by
    unfold cntF at h
    by_cases htn : t = n
    · subst htn
      cases hp : p t with
      | false => rfl
      | true => rw [hp] at h; simp at h
    · exact cntF_zero (p := p) (n := n) (by omega) t (by omega)
theorem cntF_all {p : Nat → Bool} : ∀ {n : Nat}, cntF p n = n → ∀ t, t < n → p t = true
  | 0, _, t, ht => by omega
  | n + 1, h, t, ht => by
    unfold cntF at h
    have := cntF_le p n
    by_cases hp : p n = true
    · rw [if_pos hp] at h
      by_cases htn : t = n
      · subst htn; exact hp
      · exact cntF_all (p := p) (n := n) (by omega) t (by omega)
    · rw [if_neg hp] at h; omega
theorem sumF_pos {f : Nat → Nat} : ∀ {n t : Nat}, t < n → f t ≤ sumF f n
  | 0, t, h => by omega
  | n + 1, t, h => by
    unfold sumF
    by_cases htn : t = n
    · subst htn; omega
    · have := sumF_pos (f := f) (n := n) (t := t) (by omega); omega
