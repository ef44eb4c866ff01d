-- the token behind a token
theorem toks_next (B : Nat → Nat) (n : Nat) : ∀ d i, n - i = d → ∀ h, h + 1 < (toks B n i).length → (toks B n i).drop (h + 1) = toks B n (tk (toks B n i) h).2.2.1 := by
  intro d
  induction d using Nat.strongRecOn with
  | ind d ih =>
    intro i hd
    by_cases h : n ≤ i
    · rw [toks_end h]
      intro j hj
      simp at hj
    · by_cases hb : isBl (B i) = true
      · rw [toks_bl (by omega) hb]; exact ih (n - (i + 1)) (by omega) (i + 1) rfl
      · rw [toks_tok (by omega) hb]
        have he := tokAt_end (B := B) (n := n) (i := i) (by omega)
        have q := ih (n - (tokAt B n i).2.2.1) (by omega) (tokAt B n i).2.2.1 rfl
        intro j hj
        cases j with
        | zero => rfl
        | succ j =>
          simp only [List.length_cons] at hj
          exact q j (by omega)
theorem toks_last (B : Nat → Nat) (n : Nat) : ∀ d i, n - i = d → ∀ h, h + 1 = (toks B n i).length → tk (toks B n i) h = (0, n, n, 0) := by
  intro d
  induction d using Nat.strongRecOn with
  | ind d ih =>
    intro i hd
    by_cases h : n ≤ i
    · rw [toks_end h]
      intro j hj
      have : j = 0 := by simp at hj; exact hj
      subst this; rfl
    · by_cases hb : isBl (B i) = true
      · rw [toks_bl (by omega) hb]; exact ih (n - (i + 1)) (by omega) (i + 1) rfl
      · rw [toks_tok (by omega) hb]
        have he := tokAt_end (B := B) (n := n) (i := i) (by omega)
        have q := ih (n - (tokAt B n i).2.2.1) (by omega) (tokAt B n i).2.2.1 rfl
        have ql := (toks_len B n (n - (tokAt B n i).2.2.1) (tokAt B n i).2.2.1 rfl).2
        intro j hj
        cases j with
        | zero => simp only [List.length_cons] at hj; omega
        | succ j =>
          simp only [List.length_cons] at hj
          exact q j (by omega)
