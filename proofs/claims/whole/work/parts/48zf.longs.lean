/-! steps leave long numbers as they are -/
def Kp {β : Type} (g : β → Sg) (l : Nat → Nat → Int64) (x : Option β) : Prop := ∀ r, x = some r → (g r).2 = l
def kpE {α : Type} (r : α × Sg) : Sg := r.2
def kpI (r : Sg) : Sg := r
section KP
variable {β : Type} {g : β → Sg} {l : Nat → Nat → Int64} {E : En}
theorem kp_tk {x c : Nat} {k : Option β} (h : Kp g l k) : Kp g l (tk x c k) := by unfold tk; split; exact h; intro r e; cases e
theorem kp_dr {r : Option Nat} {c : Nat} {f : Nat → Option β} (h : ∀ x, Kp g l (f x)) : Kp g l (dr r E c f) := by
  unfold dr; split
  · exact kp_tk (h _)
  · intro r e; cases e
theorem kp_ck {i : Int32} {n : Nat} {k : Option β} (h : Kp g l k) : Kp g l (ck i n k) := by unfold ck; split; exact h; intro r e; cases e
theorem kp_kb {v : Int32} {k : Option β} (h : Kp g l k) : Kp g l (kb v k) := by unfold kb; split; exact h; intro r e; cases e
theorem kp_nz {v : Int32} {k : Option β} (h : Kp g l k) : Kp g l (nz v k) := by unfold nz; split; intro r e; cases e; exact h
theorem kp_bd {α : Type} {x : Option (α × Sg)} {f : α → Sg → Option β} (h1 : Kp kpE l x) (h2 : ∀ v s, s.2 = l → Kp g l (f v s)) : Kp g l (bd x f) := by
  unfold bd; split
  · next r => exact h2 _ _ (h1 r rfl)
  · intro r e; cases e
theorem kp_bv {x : Option Sg} {f : Sg → Option β} (h1 : Kp kpI l x) (h2 : ∀ s, s.2 = l → Kp g l (f s)) : Kp g l (bv x f) := by
  unfold bv; split
  · next r => exact h2 _ (h1 r rfl)
  · intro r e; cases e
theorem kp_ss {x : Sg} {f : Sg → Option β} (h1 : x.2 = l) (h2 : ∀ s, s.2 = l → Kp g l (f s)) : Kp g l (ss x f) := h2 x h1
theorem kp_lt {α : Type} {x : α} {f : α → Option β} (h : ∀ v, Kp g l (f v)) : Kp g l (lt x f) := h x
theorem kp_ite {c : Prop} [Decidable c] {a b : Option β} (h1 : Kp g l a) (h2 : Kp g l b) : Kp g l (if c then a else b) := by split; exact h1; exact h2
theorem kp_sm {α γ : Type} {x : α ⊕ γ} {f : α → Option β} {h : γ → Option β} (h1 : ∀ a, Kp g l (f a)) (h2 : ∀ b, Kp g l (h b)) : Kp g l (sm x f h) := by unfold sm; split; exact h1 _; exact h2 _
theorem kp_so {α : Type} {v : α} {s : Sg} (h : s.2 = l) : Kp kpE l (some (v, s)) := by intro r e; cases e; exact h
theorem kp_sI {s : Sg} (h : s.2 = l) : Kp kpI l (some s) := by intro r e; cases e; exact h
theorem kp_si {s : Sg} {a k : Nat} {v : Int32} (h : s.2 = l) : (si s a k v).2 = l := h
theorem kp_fx {α : Type} {F : (α × Sg → Option β) → α × Sg → Option β} (h : ∀ rec, (∀ v s, s.2 = l → Kp g l (rec (v, s))) → ∀ v s, s.2 = l → Kp g l (F rec (v, s))) : ∀ {n : Nat} {v : α} {s : Sg}, s.2 = l → Kp g l (fx F n (v, s))
  | 0, _, _, _ => by intro r e; cases e
  | n + 1, v, s, hs => h (fx F n) (fun v s hs => kp_fx h hs) v s hs
end KP
theorem k_fX5_size {E : En} {l : Nat → Nat → Int64} {σ : Sg} {a0 : Nat} (h : σ.2 = l) : Kp kpE l (fX5_size E a0 σ) := by
  unfold fX5_size
  repeat' with_reducible first | assumption | apply kp_si | intro _ | apply kp_tk | apply kp_dr | apply kp_ck | apply kp_kb | apply kp_nz | apply kp_bd | apply kp_bv | apply kp_ss | apply kp_lt | apply kp_ite | apply kp_sm | apply kp_so | apply kp_sI  
theorem k_fX1_gives {E : En} {l : Nat → Nat → Int64} {σ : Sg} {a0 : Nat} {a1 : Int32} (h : σ.2 = l) : Kp kpE l (fX1_gives E a0 a1 σ) := by
  unfold fX1_gives
  repeat' with_reducible first | assumption | apply kp_si | intro _ | apply kp_tk | apply kp_dr | apply kp_ck | apply kp_kb | apply kp_nz | apply kp_bd | apply kp_bv | apply kp_ss | apply kp_lt | apply kp_ite | apply kp_sm | apply kp_so | apply kp_sI | apply k_fX5_size 
theorem k_fX5_at {E : En} {l : Nat → Nat → Int64} {σ : Sg} {a0 : Nat} {a1 : Int32} {a2 : Int32} (h : σ.2 = l) : Kp kpE l (fX5_at E a0 a1 a2 σ) := by
  unfold fX5_at
  repeat' with_reducible first | assumption | apply kp_si | intro _ | apply kp_tk | apply kp_dr | apply kp_ck | apply kp_kb | apply kp_nz | apply kp_bd | apply kp_bv | apply kp_ss | apply kp_lt | apply kp_ite | apply kp_sm | apply kp_so | apply kp_sI | apply k_fX5_size 
theorem k_fX1_isDown {E : En} {l : Nat → Nat → Int64} {σ : Sg} {a0 : Nat} {a1 : Int32} (h : σ.2 = l) : Kp kpE l (fX1_isDown E a0 a1 σ) := by
  unfold fX1_isDown
  repeat' with_reducible first | assumption | apply kp_si | intro _ | apply kp_tk | apply kp_dr | apply kp_ck | apply kp_kb | apply kp_nz | apply kp_bd | apply kp_bv | apply kp_ss | apply kp_lt | apply kp_ite | apply kp_sm | apply kp_so | apply kp_sI  
theorem k_fX1_look {E : En} {l : Nat → Nat → Int64} {σ : Sg} {a0 : Nat} (h : σ.2 = l) : Kp kpI l (fX1_look E a0 σ) := by
  unfold fX1_look
  repeat' with_reducible first | assumption | apply kp_si | intro _ | apply kp_tk | apply kp_dr | apply kp_ck | apply kp_kb | apply kp_nz | apply kp_bd | apply kp_bv | apply kp_ss | apply kp_lt | apply kp_ite | apply kp_sm | apply kp_so | apply kp_sI | apply k_fX1_gives | apply k_fX5_at | apply k_fX1_isDown | (apply kp_fx; intro rec hrec v s hs; unfold bX1_look_7; dsimp only) | apply hrec
theorem k_fX5_wipe {E : En} {l : Nat → Nat → Int64} {σ : Sg} {a0 : Nat} (h : σ.2 = l) : Kp kpI l (fX5_wipe E a0 σ) := by
  unfold fX5_wipe
  repeat' with_reducible first | assumption | apply kp_si | intro _ | apply kp_tk | apply kp_dr | apply kp_ck | apply kp_kb | apply kp_nz | apply kp_bd | apply kp_bv | apply kp_ss | apply kp_lt | apply kp_ite | apply kp_sm | apply kp_so | apply kp_sI  
theorem k_fX5_drop {E : En} {l : Nat → Nat → Int64} {σ : Sg} {a0 : Nat} {a1 : Int32} (h : σ.2 = l) : Kp kpI l (fX5_drop E a0 a1 σ) := by
  unfold fX5_drop
  repeat' with_reducible first | assumption | apply kp_si | intro _ | apply kp_tk | apply kp_dr | apply kp_ck | apply kp_kb | apply kp_nz | apply kp_bd | apply kp_bv | apply kp_ss | apply kp_lt | apply kp_ite | apply kp_sm | apply kp_so | apply kp_sI | apply k_fX5_wipe 
theorem k_fX1_sizeOf {E : En} {l : Nat → Nat → Int64} {σ : Sg} {a0 : Nat} {a1 : Int32} (h : σ.2 = l) : Kp kpE l (fX1_sizeOf E a0 a1 σ) := by
  unfold fX1_sizeOf
  repeat' with_reducible first | assumption | apply kp_si | intro _ | apply kp_tk | apply kp_dr | apply kp_ck | apply kp_kb | apply kp_nz | apply kp_bd | apply kp_bv | apply kp_ss | apply kp_lt | apply kp_ite | apply kp_sm | apply kp_so | apply kp_sI  
theorem k_fX5_write {E : En} {l : Nat → Nat → Int64} {σ : Sg} {a0 : Nat} {a1 : Int32} (h : σ.2 = l) : Kp kpI l (fX5_write E a0 a1 σ) := by
  unfold fX5_write
  repeat' with_reducible first | assumption | apply kp_si | intro _ | apply kp_tk | apply kp_dr | apply kp_ck | apply kp_kb | apply kp_nz | apply kp_bd | apply kp_bv | apply kp_ss | apply kp_lt | apply kp_ite | apply kp_sm | apply kp_so | apply kp_sI  
theorem k_fX1_emptiedTape {E : En} {l : Nat → Nat → Int64} {σ : Sg} {a0 : Nat} (h : σ.2 = l) : Kp kpE l (fX1_emptiedTape E a0 σ) := by
  unfold fX1_emptiedTape
  repeat' with_reducible first | assumption | apply kp_si | intro _ | apply kp_tk | apply kp_dr | apply kp_ck | apply kp_kb | apply kp_nz | apply kp_bd | apply kp_bv | apply kp_ss | apply kp_lt | apply kp_ite | apply kp_sm | apply kp_so | apply kp_sI | apply k_fX5_size | (apply kp_fx; intro rec hrec v s hs; unfold bX1_emptiedTape_2; dsimp only) | apply hrec
theorem k_fX1_givers {E : En} {l : Nat → Nat → Int64} {σ : Sg} {a0 : Nat} (h : σ.2 = l) : Kp kpE l (fX1_givers E a0 σ) := by
  unfold fX1_givers
  repeat' with_reducible first | assumption | apply kp_si | intro _ | apply kp_tk | apply kp_dr | apply kp_ck | apply kp_kb | apply kp_nz | apply kp_bd | apply kp_bv | apply kp_ss | apply kp_lt | apply kp_ite | apply kp_sm | apply kp_so | apply kp_sI | apply k_fX1_gives | (apply kp_fx; intro rec hrec v s hs; unfold bX1_givers_4; dsimp only) | apply hrec
theorem k_fX1_openPass {E : En} {l : Nat → Nat → Int64} {σ : Sg} {a0 : Nat} (h : σ.2 = l) : Kp kpI l (fX1_openPass E a0 σ) := by
  unfold fX1_openPass
  repeat' with_reducible first | assumption | apply kp_si | intro _ | apply kp_tk | apply kp_dr | apply kp_ck | apply kp_kb | apply kp_nz | apply kp_bd | apply kp_bv | apply kp_ss | apply kp_lt | apply kp_ite | apply kp_sm | apply kp_so | apply kp_sI | apply k_fX5_size | (apply kp_fx; intro rec hrec v s hs; unfold bX1_openPass_2; dsimp only) | apply hrec
theorem k_fX1_endNumberedPhase {E : En} {l : Nat → Nat → Int64} {σ : Sg} {a0 : Nat} (h : σ.2 = l) : Kp kpI l (fX1_endNumberedPhase E a0 σ) := by
  unfold fX1_endNumberedPhase
  repeat' with_reducible first | assumption | apply kp_si | intro _ | apply kp_tk | apply kp_dr | apply kp_ck | apply kp_kb | apply kp_nz | apply kp_bd | apply kp_bv | apply kp_ss | apply kp_lt | apply kp_ite | apply kp_sm | apply kp_so | apply kp_sI | apply k_fX1_emptiedTape | apply k_fX1_givers | apply k_fX1_openPass 
theorem k_fX1_firstToWrite {E : En} {l : Nat → Nat → Int64} {σ : Sg} {a0 : Nat} (h : σ.2 = l) : Kp kpE l (fX1_firstToWrite E a0 σ) := by
  unfold fX1_firstToWrite
  repeat' with_reducible first | assumption | apply kp_si | intro _ | apply kp_tk | apply kp_dr | apply kp_ck | apply kp_kb | apply kp_nz | apply kp_bd | apply kp_bv | apply kp_ss | apply kp_lt | apply kp_ite | apply kp_sm | apply kp_so | apply kp_sI  
theorem k_fX1_endBalancedPhase {E : En} {l : Nat → Nat → Int64} {σ : Sg} {a0 : Nat} (h : σ.2 = l) : Kp kpI l (fX1_endBalancedPhase E a0 σ) := by
  unfold fX1_endBalancedPhase
  repeat' with_reducible first | assumption | apply kp_si | intro _ | apply kp_tk | apply kp_dr | apply kp_ck | apply kp_kb | apply kp_nz | apply kp_bd | apply kp_bv | apply kp_ss | apply kp_lt | apply kp_ite | apply kp_sm | apply kp_so | apply kp_sI | apply k_fX1_givers | apply k_fX1_firstToWrite 
theorem k_fX1_turnLast {E : En} {l : Nat → Nat → Int64} {σ : Sg} {a0 : Nat} (h : σ.2 = l) : Kp kpI l (fX1_turnLast E a0 σ) := by
  unfold fX1_turnLast
  repeat' with_reducible first | assumption | apply kp_si | intro _ | apply kp_tk | apply kp_dr | apply kp_ck | apply kp_kb | apply kp_nz | apply kp_bd | apply kp_bv | apply kp_ss | apply kp_lt | apply kp_ite | apply kp_sm | apply kp_so | apply kp_sI | apply k_fX5_at | apply k_fX1_isDown | (apply kp_fx; intro rec hrec v s hs; unfold bX1_turnLast_11; dsimp only) | apply hrec
theorem k_fX1_advance {E : En} {l : Nat → Nat → Int64} {σ : Sg} {a0 : Nat} (h : σ.2 = l) : Kp kpI l (fX1_advance E a0 σ) := by
  unfold fX1_advance
  repeat' with_reducible first | assumption | apply kp_si | intro _ | apply kp_tk | apply kp_dr | apply kp_ck | apply kp_kb | apply kp_nz | apply kp_bd | apply kp_bv | apply kp_ss | apply kp_lt | apply kp_ite | apply kp_sm | apply kp_so | apply kp_sI | apply k_fX1_isDown | apply k_fX1_look | apply k_fX5_drop | apply k_fX1_sizeOf | apply k_fX5_write | apply k_fX1_endNumberedPhase | apply k_fX1_endBalancedPhase | apply k_fX1_turnLast | (apply kp_fx; intro rec hrec v s hs; unfold bX1_advance_32; dsimp only) | apply hrec
