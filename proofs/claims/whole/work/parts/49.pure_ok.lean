theorem pure_ok : ∀ (L : Nat) (xs : Nat → Int32), L ≤ 3072 → ∃ σ' : Sg, lawAll L xs = some (1, σ') := sorry
