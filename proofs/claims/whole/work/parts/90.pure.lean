/-- the law's loop over what D_ says of class and reference answers 1 -/
theorem law_pure (L : Nat) (xs : Nat → Int32) (hL : L ≤ 3072) : ∃ (N : Nat) (ρ : Int32 × Mm), ρ.1 = 1 ∧ L_L_law_18 L xs N N (nI 0) M0 = some ρ := by
  obtain ⟨ρ, a, b⟩ := law_loop (xs := xs) 30000 (by decide) hL 30000 0 M0 (by omega) (by omega) INV_M0
  exact ⟨30000, ρ, a, b⟩
