/-! leaves: one row of a tape, small readers of the reference -/
def bI : Bool → Int32
  | true => 1
  | false => 0
theorem cl0_ : (0 : Int32).toNatClampNeg = 0 := by decide
theorem ck_l {β : Type} {i : Int32} {n : Nat} {k : Option β} (h : 0 ≤ i ∧ i.toNatClampNeg < n) : ck i n k = k := by unfold ck; rw [if_pos h]
theorem sub_n {a b : Nat} (h : b ≤ a) : nI a - nI b = nI (a - b) := pk_sub h
theorem ss_ok {β : Type} {x : Sg} {f : Sg → Option β} : ss x f = f x := rfl
theorem lt_ok {α β : Type} {x : α} {f : α → Option β} : lt x f = f x := rfl
theorem fx_1 {α β : Type} {F : (α → Option β) → α → Option β} {n : Nat} {a : α} : fx F (n + 1) a = F (fx F n) a := rfl
theorem tape_size {E : En} {a : Nat} {σ : Sg} (h : LTape E a) {lo hi : Nat} (h1 : gi σ a 1 = nI lo) (h2 : gi σ a 2 = nI hi) (hle : lo ≤ hi) : fX5_size E a σ = some (nI (hi - lo), σ) := by
  unfold fX5_size
  rw [tk_ok h.1, h1, h2, sub_n hle]
theorem tape_wipe {E : En} {a : Nat} {σ : Sg} (h : LTape E a) : fX5_wipe E a σ = some (si (si σ a 1 0) a 2 0) := by
  unfold fX5_wipe
  rw [tk_ok h.1]
  rfl
theorem tape_at {E : En} {a : Nat} {σ : Sg} (h : LTape E a) {lo hi k : Nat} (b : Bool) (h1 : gi σ a 1 = nI lo) (h2 : gi σ a 2 = nI hi) (hle : lo ≤ hi) (hhi : hi ≤ 256) (hk : k < 2 ^ 30) : fX5_at E a (nI k) (bI b) σ = some (if k < hi - lo then gi σ (a + 1) (if b then hi - 1 - k else lo + k) else -2, σ) := by
  unfold fX5_at
  rw [tk_ok h.1, if_neg (nI_pos (by omega)), tape_size h h1 h2 hle, bd_ok]
  by_cases hc : k < hi - lo
  · rw [if_pos (nI_lt hc (by omega)), if_pos hc, dr_ok h.2.1 h.2.2.1]
    cases b with
    | false =>
      rw [if_pos (show bI false = 0 from rfl), bd_ok, h1, nI_add, h.2.2.2, ck_n (by omega) (by omega), nI_clamp (by omega)]
      rfl
    | true =>
      rw [if_neg (show ¬ bI true = 0 by decide), bd_ok, h2, show (1 : Int32) = nI 1 from rfl, sub_n (by omega), sub_n (by omega), h.2.2.2, ck_n (by omega) (by omega), nI_clamp (by omega)]
      rfl
  · rw [if_neg (nI_nlt (by omega) (by omega)), if_neg hc]
theorem tape_write {E : En} {a : Nat} {σ : Sg} (h : LTape E a) {hi : Nat} {v : Int32} (h2 : gi σ a 2 = nI hi) (hhi : hi < 256) : fX5_write E a v σ = some (si (si σ (a + 1) hi v) a 2 (nI (hi + 1))) := by
  unfold fX5_write
  rw [tk_ok h.1, h2, show (256 : Int32) = nI 256 from rfl, if_neg (nI_ge hhi (by omega)), dr_ok h.2.1 h.2.2.1, h.2.2.2, ck_n (by omega) (by omega), nI_clamp (by omega)]
  rw [ss_ok, ss_ok, gi_si, if_neg (by omega), h2, ad1, bd_ok]
theorem tape_drop {E : En} {a : Nat} {σ : Sg} (h : LTape E a) {lo hi : Nat} (b : Bool) (h1 : gi σ a 1 = nI lo) (h2 : gi σ a 2 = nI hi) (hlt : lo < hi) (hhi : hi ≤ 256) :
    ∃ σ', fX5_drop E a (bI b) σ = some σ' ∧ (∀ x j, x ≠ a → gi σ' x j = gi σ x j) ∧ (∀ x j, gl σ' x j = gl σ x j) ∧ (∀ j, j ≠ 1 → j ≠ 2 → gi σ' a j = gi σ a j) ∧
      gi σ' a 1 = nI (if hi - lo = 1 then 0 else if b then lo else lo + 1) ∧ gi σ' a 2 = nI (if hi - lo = 1 then 0 else if b then hi - 1 else hi) := by
  unfold fX5_drop
  rw [tk_ok h.1, h1, h2, if_pos (nI_lt hlt (by omega))]
  cases b with
  | false =>
    rw [if_pos (show bI false = 0 from rfl)]
    unfold ss
    rw [bd_ok, ad1]
    have e1 : gi (si σ a 1 (nI (lo + 1))) a 1 = nI (lo + 1) := by rw [gi_si, if_pos ⟨rfl, rfl⟩]
    have e2 : gi (si σ a 1 (nI (lo + 1))) a 2 = nI hi := by rw [gi_si, if_neg (by omega), h2]
    rw [e1, e2]
    by_cases hc : hi - lo = 1
    · rw [if_neg (fun q => q (by rw [show lo + 1 = hi by omega])), tape_wipe h, bv_ok, bd_ok]
      refine ⟨_, rfl, fun x j hx => ?_, fun x j => rfl, fun j h1 h2 => ?_, ?_, ?_⟩
      · simp [gi_si, hx]
      · simp [gi_si, h1, h2]
      · simp [gi_si, hc]; rfl
      · simp [gi_si, hc]; rfl
    · rw [if_pos (fun q => absurd ((nI_eq (by omega) (by omega)).mp q) (by omega)), bd_ok]
      refine ⟨_, rfl, fun x j hx => ?_, fun x j => rfl, fun j h1 h2 => ?_, ?_, ?_⟩
      · simp [gi_si, hx]
      · simp [gi_si, h1]
      · simp [gi_si, hc]
      · simp [gi_si, hc, h2]
  | true =>
    rw [if_neg (show ¬ bI true = 0 by decide)]
    unfold ss
    rw [show (1 : Int32) = nI 1 from rfl, sub_n (by omega), bd_ok]
    have e1 : gi (si σ a 2 (nI (hi - 1))) a 1 = nI lo := by rw [gi_si, if_neg (by omega), h1]
    have e2 : gi (si σ a 2 (nI (hi - 1))) a 2 = nI (hi - 1) := by rw [gi_si, if_pos ⟨rfl, rfl⟩]
    rw [e1, e2]
    by_cases hc : hi - lo = 1
    · rw [if_neg (fun q => q (by rw [show hi - 1 = lo by omega])), tape_wipe h, bv_ok, bd_ok]
      refine ⟨_, rfl, fun x j hx => ?_, fun x j => rfl, fun j h1 h2 => ?_, ?_, ?_⟩
      · simp [gi_si, hx]
      · simp [gi_si, h1, h2]
      · simp [gi_si, hc]; rfl
      · simp [gi_si, hc]; rfl
    · rw [if_pos (fun q => absurd ((nI_eq (by omega) (by omega)).mp q) (by omega)), bd_ok]
      refine ⟨_, rfl, fun x j hx => ?_, fun x j => rfl, fun j h1 h2 => ?_, ?_, ?_⟩
      · simp [gi_si, hx]
      · simp [gi_si, h2]
      · simp [gi_si, hc, h1]
      · simp [gi_si, hc]
