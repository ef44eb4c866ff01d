-- the law's loop: class reference answer alike
theorem INV_M0 : INV M0 := by
  refine ⟨rfl, 35, 52, 69, 87, 105, 121, ⟨fun _ => 0, 0, by omega, rfl, rfl, fun i hi => absurd hi (Nat.not_lt_zero _), rfl, rfl, rfl, rfl⟩, ⟨⟨rfl, rfl, Or.inl ⟨rfl, rfl⟩⟩, ⟨rfl, rfl, Or.inl ⟨rfl, rfl⟩⟩, rfl, rfl, Or.inl ⟨rfl, rfl⟩⟩, Or.inl ⟨rfl, rfl, rfl, rfl, rfl⟩⟩
theorem law_loop {L : Nat} {xs : Nat → Int32} (N : Nat) (hN : 20000 < N) (hL : L ≤ 3072) : ∀ (fu j : Nat) (M : Mm), 6 * j ≤ L + 6 → L + 6 < 6 * j + 6 * fu → INV M → ∃ ρ : Int32 × Mm, ρ.1 = 1 ∧ L_L_law_18 L xs N fu (nI (6 * j)) M = some ρ
  | 0, j, M, h1, h2, _ => by omega
  | fu + 1, j, M, h1, h2, I => by
    have ih := law_loop (xs := xs) N hN hL fu (j + 1)
    have done : ∃ ρ : Int32 × Mm, ρ.1 = 1 ∧ retZ (nI 1) M = some ρ := ⟨(nI 1, M), rfl, retZ_1 M⟩
    rw [L_L_law_18, show Int32.ofNat L = nI L from rfl]
    by_cases e : L < 6 * j + 6
    · have lt : nI L - nI 6 < nI (6 * j) := by
        by_cases c : 6 ≤ L
        · rw [n_sub c, n_lt (by omega) (by omega)]; omega
        · have : L = 0 ∨ L = 1 ∨ L = 2 ∨ L = 3 ∨ L = 4 ∨ L = 5 := by omega
          have j1 : j = 0 ∨ j = 1 := by omega
          rcases j1 with z | z <;> subst z <;> rcases this with z | z | z | z | z | z <;> subst z <;> decide
      rw [if_pos lt]; exact done
    · rw [if_neg (by rw [n_sub (by omega), n_lt (by omega) (by omega)]; omega)]
      have ld : ∀ c, c < 6 → ldS L xs (nI (6 * j + c)) = some (xs (6 * j + c)) := fun c hc => by
        unfold ldS
        rw [ix_n (by omega) (by omega)]; rfl
      have l0 := ld 0 (by omega)
      rw [Nat.add_zero] at l0
      have nx : nI (6 * j) + nI 6 = nI (6 * (j + 1)) := by rw [nI_add]; rfl
      -- one call, both sides
      have stp : ∀ {x : Option (Int32 × Mm)} {y : Mm → Option (Int32 × Mm)}, QOK M x y → ∃ ρ : Int32 × Mm, ρ.1 = 1 ∧ (x.bind fun q3 => (y q3.2).bind fun q4 => (if q3.1 = q4.1 then L_L_law_18 L xs N fu (nI (6 * (j + 1))) q4.2 else retZ (nI 0) q4.2)) = some ρ := fun h => by
        obtain ⟨r, M1, M2, a1, a2, a3⟩ := h
        rw [a1, Option.bind_some, a2, Option.bind_some, if_pos rfl]
        exact ih M2 (by omega) (by omega) a3
      rw [l0, Option.bind_some]
      simp only [nx, nI_add, ld 1 (by omega), ld 2 (by omega), ld 3 (by omega), ld 4 (by omega), ld 5 (by omega), Option.bind_some]
      generalize xs (6 * j) &&& nI 31 = op
      by_cases c : op = nI 0
      · rw [if_pos c]
        obtain ⟨r, a1, a2⟩ := q_status N I
        rw [a1, Option.bind_some, a2, Option.bind_some, if_pos rfl]
        exact ih M (by omega) (by omega) I
      rw [if_neg c]; clear c
      by_cases c : op = nI 1
      · rw [if_pos c]; exact stp (q_feed N hN I _ _ _ _ _)
      rw [if_neg c]; clear c
      by_cases c : op = nI 2
      · rw [if_pos c]; exact stp (q_grammar N hN I _)
      rw [if_neg c]; clear c
      by_cases c : op = nI 3
      · rw [if_pos c]
        obtain ⟨r, a1, a2⟩ := q_fault N I (xs (6 * j + 1))
        rw [a1, Option.bind_some, a2, Option.bind_some, if_pos rfl]
        exact ih M (by omega) (by omega) I
      rw [if_neg c]; clear c
      by_cases c : op = nI 4
      · rw [if_pos c]; exact stp (q_many N hN I _)
      rw [if_neg c]; clear c
      by_cases c : op = nI 5
      · rw [if_pos c]; exact stp (q_symbol N hN I _ _)
      rw [if_neg c]; clear c
      by_cases c : op = nI 6
      · rw [if_pos c]; exact stp (q_production N hN I _ _)
      rw [if_neg c]; clear c
      by_cases c : op = nI 7
      · rw [if_pos c]; exact stp (q_hangs N hN I _ _ _ _)
      rw [if_neg c]; clear c
      by_cases c : op = nI 8
      · rw [if_pos c]; exact stp (q_induced N hN I _ _ _)
      rw [if_neg c]; clear c
      by_cases c : op = nI 9
      · rw [if_pos c]; exact stp (q_circle N hN I _)
      rw [if_neg c]; clear c
      by_cases c : op = nI 10
      · rw [if_pos c]; exact stp (q_visit N hN I _ _)
      rw [if_neg c]; clear c
      by_cases c : op = nI 11
      · rw [if_pos c]; exact stp (q_ordered N hN I _)
      rw [if_neg c]; clear c
      by_cases c : op = nI 12
      · rw [if_pos c]; exact stp (q_plan N hN I _ _)
      rw [if_neg c]; clear c
      by_cases c : op = nI 13
      · rw [if_pos c]; exact stp (q_real N hN I _)
      rw [if_neg c]; clear c
      by_cases c : op = nI 14
      · rw [if_pos c]; exact stp (q_shades N hN I _)
      rw [if_neg c]; clear c
      by_cases c : op = nI 15
      · rw [if_pos c]; exact stp (q_tree N hN I _)
      rw [if_neg c]; clear c
      by_cases c : op = nI 16
      · rw [if_pos c]; exact stp (q_node N hN I _ _)
      rw [if_neg c]; clear c
      by_cases c : op = nI 17
      · rw [if_pos c]; exact stp (q_value N hN I _ _)
      rw [if_neg c]; clear c
      by_cases c : op = nI 18
      · rw [if_pos c]; exact stp (q_knot N hN I _ _ _)
      rw [if_neg c]; clear c
      by_cases c : op = nI 19
      · rw [if_pos c]; exact stp (q_span N hN I _ _ _)
      rw [if_neg c]; clear c
      by_cases c : op = nI 20
      · rw [if_pos c]; exact stp (q_run N hN I _)
      rw [if_neg c]; clear c
      by_cases c : op = nI 21
      · rw [if_pos c]; exact stp (q_longest N hN I)
      rw [if_neg c]; clear c
      by_cases c : op = nI 22
      · rw [if_pos c]; exact stp (q_put N hN I _ _)
      rw [if_neg c]; clear c
      by_cases c : op = nI 23
      · rw [if_pos c]; exact stp (q_give N hN I _ _)
      rw [if_neg c]; clear c
      by_cases c : op = nI 24
      · rw [if_pos c]; exact stp (q_graft N hN I _ _)
      rw [if_neg c]; clear c
      by_cases c : op = nI 25
      · rw [if_pos c]; exact stp (q_anew N I _)
      rw [if_neg c]; clear c
      by_cases c : op = nI 26
      · rw [if_pos c]; exact stp (q_digest N hN I)
      rw [if_neg c]
      exact ih M (by omega) (by omega) I
