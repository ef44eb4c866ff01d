/-- STILL OWED: the law's loop over what D_ says of class and reference answers 1 -/
theorem law_pure (L : Nat) (xs : Nat → Int32) (hL : L ≤ 3072) : ∃ (N : Nat) (ρ : Int32 × Mm), ρ.1 = 1 ∧ L_L_law_18 L xs N N (nI 0) M0 = some ρ := sorry
