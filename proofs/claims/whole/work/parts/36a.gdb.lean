/-! steps on paper -/
def skb (T nr : Nat) : Sk := (tab (fun t => if t < T / 2 then (nr + T / 2 - 1 - t) / (T / 2) else 0) T, T / 2, opn T (T / 2) (tab (fun t => if t < T / 2 then (nr + T / 2 - 1 - t) / (T / 2) else 0) T), true)
/-- the same check, a skeleton's numbers told before each step -/
def fz (x : Nat) (k : Nat → Bool) : Bool := match x with
  | 0 => k 0
  | Nat.succ n => k (Nat.succ n)
theorem fz_eq {x : Nat} {k : Nat → Bool} : fz x k = k x := by cases x <;> rfl
def fl : List Nat → (List Nat → Bool) → Bool
  | [], k => k []
  | a :: l, k => fz a (fun b => fl l (fun m => k (b :: m)))
theorem fl_eq : ∀ {l : List Nat} {k : List Nat → Bool}, fl l k = k l
  | [], _ => rfl
  | a :: l, k => by unfold fl; rw [fz_eq, fl_eq]
def fq (x : Bool) (k : Bool → Bool) : Bool := match x with
  | true => k true
  | false => k false
theorem fq_eq {x : Bool} {k : Bool → Bool} : fq x k = k x := by cases x <;> rfl
def fm : List Bool → (List Bool → Bool) → Bool
  | [], k => k []
  | a :: l, k => fq a (fun b => fm l (fun m => k (b :: m)))
theorem fm_eq : ∀ {l : List Bool} {k : List Bool → Bool}, fm l k = k l
  | [], _ => rfl
  | a :: l, k => by unfold fm; rw [fq_eq, fm_eq]
def fsk (s : Sk) (k : Sk → Bool) : Bool := fl s.1 (fun a => fz s.2.1 (fun b => fm s.2.2.1 (fun c => fq s.2.2.2 (fun d => k (a, b, c, d)))))
theorem fsk_eq {s : Sk} {k : Sk → Bool} : fsk s k = k s := by unfold fsk; rw [fl_eq, fz_eq, fm_eq, fq_eq]
def goodF (w T h : Nat) : Nat → Sk → Bool
  | 0, s => lef T s == 1
  | f + 1, s => fsk s (fun s => if lef T s == 1 then true else oks w T h s && goodF w T h f (skn w T h s).1)
theorem goodF_eq {w T h : Nat} : ∀ {f : Nat} {s : Sk}, goodF w T h f s = good w T h f s
  | 0, _ => rfl
  | f + 1, s => by unfold goodF good; rw [fsk_eq, goodF_eq]
set_option maxRecDepth 100000 in
theorem gd_14' : cntF (fun n => goodF 1 4 2 699 (skb 4 (n + 1))) 150 = 150 := by decide +kernel
theorem gd_14 : cntF (fun n => good 1 4 2 699 (skb 4 (n + 1))) 150 = 150 := by simp only [← goodF_eq]; exact gd_14'
