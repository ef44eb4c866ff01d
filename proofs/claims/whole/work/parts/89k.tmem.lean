-- the class's search for groups: its memory
abbrev ZS : Type := Nat × (Nat → Nat) × (Nat → Nat) × Nat × (Nat → Nat) × Nat × (Nat → Nat) × (Nat → Nat) × Nat × (Nat → Nat)
def KM1 (c w τ : Nat) (mk lw : Nat → Nat) (oN : Nat) (O : Nat → Nat) (pN : Nat) (P Q : Nat → Nat) (gN : Nat) (gr : Nat → Nat) (M : Mm) : Prop :=
  (M.1 c 14 = nI τ ∧ M.1 c 10 = nI oN ∧ M.1 c 13 = nI pN ∧ M.1 c 4 = nI gN ∧ M.2.2 c 6 = w) ∧
  (∀ v, v < 320 → M.1 (c + 5) v = nI (mk v) ∧ M.1 (c + 3) v = nP (gr v) ∧ (¬ mk v = 0 → M.1 (c + 6) v = nI (lw v))) ∧
  (∀ a, a < oN → M.1 (c + 7) a = nI (O a)) ∧
  ∀ s, s < pN → M.1 (c + 8) s = nI (P s) ∧ M.1 (c + 9) s = nI (Q s)
/-- groups in their order: where each begins, who is in it, which are knots -/
def KM2 (c gN : Nat) (fr od : Nat → Nat) (kt : Nat → Bool) (M : Mm) : Prop := M.1 c 5 = nI (cnt kt gN) ∧ (∀ g, g ≤ gN → M.1 (c + 2) g = nI (fr g)) ∧ (∀ m, m < fr gN → M.1 (c + 1) m = nI (od m)) ∧ ∀ g, g < gN → M.1 (c + 4) g = bI (kt g)
def PKn (c b _j : Nat) : Prop := c ≤ b ∧ b ≤ c + 9
theorem KM1.w {c w τ oN pN gN : Nat} {mk lw O P Q gr : Nat → Nat} {M : Mm} (h : KM1 c w τ mk lw oN O pN P Q gN gr M) (hw : w = 69 ∨ w = 87) : rf M c 6 8 = some w := by unfold rf; rw [h.1.2.2.2.2]; rcases hw with e | e <;> subst e <;> rfl
theorem s_enter {c w τ oN pN gN v : Nat} {mk lw O P Q gr ak : Nat → Nat} {M : Mm} (N : Nat) (hc : c = 106 ∨ c = 122) (hw : w = 69 ∨ w = 87) (h : KM1 c w τ mk lw oN O pN P Q gN gr M) (hv : v < 320) (ho : oN < 320) (hp : pN < 320) (ha : M.1 (w + 15) v = nI (ak v)) :
    ∃ M', D_X4_enter N c (nI v) M = some M' ∧ KM1 c w (τ + 1) (st1 mk v (τ + 1)) (st1 lw v (τ + 1)) (oN + 1) (st1 O oN v) (pN + 1) (st1 P pN v) (st1 Q pN (ak v)) gN gr M' ∧ FX (fun b j => b = c ∧ (j = 10 ∨ j = 13 ∨ j = 14) ∨ c + 5 ≤ b ∧ b ≤ c + 9) M M' := by
  obtain ⟨⟨h1, h2, h3, h4, h5⟩, h6, h7, h8⟩ := h
  unfold D_X4_enter
  rw [h1, nI_add, pI_n, Option.bind_some, upI_s, stI_n hv (by omega), Option.bind_some, upI_n (by omega), upI_s, stI_n hv (by omega), Option.bind_some, upI_n (by omega), upI_n (by omega), upI_j, if_neg (by decide), h2, stI_n ho (by omega), Option.bind_some, upI_n (by omega), upI_n (by omega), upI_n (by omega), upI_j, if_neg (by decide), h2, nI_add, pI_n, Option.bind_some, upI_j, if_neg (by decide), upI_n (by omega), upI_n (by omega), upI_n (by omega), upI_j, if_neg (by decide), h3, stI_n hp (by omega), Option.bind_some]
  have r6 : rf (upI (upI (upI (upI (upI (upI M c 14 (nI (τ + 1))) (c + 5) v (nI (τ + 1))) (c + 6) v (nI (τ + 1))) (c + 7) oN (nI v)) c 10 (nI (oN + 1))) (c + 8) pN (nI v)) c 6 8 = some w := by
    unfold rf
    rw [up2, up2, up2, up2, up2, up2, h5]; rcases hw with e | e <;> subst e <;> rfl
  rw [r6, Option.bind_some, ldI_n hv (by omega), upI_n (by omega), upI_n (by omega), upI_n (by omega), upI_n (by omega), upI_n (by omega), upI_n (by omega), ha, Option.bind_some, upI_n (by omega), upI_j, if_neg (by decide), upI_n (by omega), upI_n (by omega), upI_n (by omega), upI_j, if_neg (by decide), h3, stI_n hp (by omega), Option.bind_some, upI_n (by omega), upI_n (by omega), upI_j, if_neg (by decide), upI_n (by omega), upI_n (by omega), upI_n (by omega), upI_j, if_neg (by decide), h3, nI_add, pI_n, Option.bind_some]
  refine ⟨_, rfl, ⟨⟨?_, ?_, ?_, ?_, ?_⟩, fun x hx => ⟨?_, ?_, fun hm => ?_⟩, fun a ha' => ?_, fun s hs => ⟨?_, ?_⟩⟩, ?_⟩
  · rw [upI_j, if_neg (by decide), upI_n (by omega), upI_n (by omega), upI_j, if_neg (by decide), upI_n (by omega), upI_n (by omega), upI_n (by omega), upI_s]
  · rw [upI_j, if_neg (by decide), upI_n (by omega), upI_n (by omega), upI_s]
  · rw [upI_s]
  · rw [upI_j, if_neg (by decide), upI_n (by omega), upI_n (by omega), upI_j, if_neg (by decide), upI_n (by omega), upI_n (by omega), upI_n (by omega), upI_j, if_neg (by decide)]; exact h4
  · rw [up2, up2, up2, up2, up2, up2, up2, up2]; exact h5
  · rw [upI_n (by omega), upI_n (by omega), upI_n (by omega), upI_n (by omega), upI_n (by omega), upI_n (by omega), upI_j, upI_n (by omega), st1_t]
    split
    · rfl
    · exact (h6 x hx).1
  · rw [upI_n (by omega), upI_n (by omega), upI_n (by omega), upI_n (by omega), upI_n (by omega), upI_n (by omega), upI_n (by omega), upI_n (by omega)]; exact (h6 x hx).2.1
  · rw [upI_n (by omega), upI_n (by omega), upI_n (by omega), upI_n (by omega), upI_n (by omega), upI_j, upI_n (by omega), upI_n (by omega), st1_t]
    rw [st1_t] at hm
    split
    · rfl
    · rename_i e
      rw [if_neg e] at hm
      exact (h6 x hx).2.2 hm
  · rw [upI_n (by omega), upI_n (by omega), upI_n (by omega), upI_n (by omega), upI_j, upI_n (by omega), upI_n (by omega), upI_n (by omega), st1_t]
    split
    · rfl
    · exact h7 a (by omega)
  · rw [upI_n (by omega), upI_n (by omega), upI_j, upI_n (by omega), upI_n (by omega), upI_n (by omega), upI_n (by omega), upI_n (by omega), st1_t]
    split
    · rfl
    · exact (h8 s (by omega)).1
  · rw [upI_n (by omega), upI_j, upI_n (by omega), upI_n (by omega), upI_n (by omega), upI_n (by omega), upI_n (by omega), upI_n (by omega), st1_t]
    split
    · rfl
    · exact (h8 s (by omega)).2
  · refine FX.trans (FX.trans (FX.trans (FX.trans (FX.trans (FX.trans (FX.trans (FX.I ?_) (FX.I ?_)) (FX.I ?_)) (FX.I ?_)) (FX.I ?_)) (FX.I ?_)) (FX.I ?_)) (FX.I ?_) <;> omega
/-- sorting one more in -/
theorem s_insert {c B E i : Nat} {od : Nat → Nat} {M : Mm} (N : Nat) (hN : 2000 < N) (hE : E < 320) (hB : B ≤ E) (hi : i < 320) (ho : ∀ m, B ≤ m → m < E → M.1 (c + 1) m = nI (od m) ∧ od m < 320) (hs : ∀ m, B ≤ m → m + 1 < E → od m < od (m + 1)) (hn : ∀ m, B ≤ m → m < E → ¬ od m = i) :
    ∃ at' M', D_X4_insert N c (nI i) (nI B) (nI E) M = some M' ∧ B ≤ at' ∧ at' ≤ E ∧ (∀ m, B ≤ m → m < at' → od m < i) ∧ (∀ m, at' ≤ m → m < E → i < od m) ∧ (∀ m, B ≤ m → m ≤ E → M'.1 (c + 1) m = nI (if m < at' then od m else if m = at' then i else od (m - 1))) ∧ FX (fun b j => b = c + 1 ∧ B ≤ j ∧ j ≤ E) M M' := by
  have key : ∀ (fu a : Nat) (M : Mm), B ≤ a → a ≤ E → a < fu → (∀ m, B ≤ m → m < a → M.1 (c + 1) m = nI (od m)) → (∀ m, a < m → m ≤ E → M.1 (c + 1) m = nI (od (m - 1))) → (∀ m, a ≤ m → m < E → i < od m) → ∃ at' M', L_X4_insert_3 (nI B) c (nI i) fu (nI a) M = some M' ∧ B ≤ at' ∧ at' ≤ E ∧ (∀ m, B ≤ m → m < at' → od m < i) ∧ (∀ m, at' ≤ m → m < E → i < od m) ∧ (∀ m, B ≤ m → m ≤ E → M'.1 (c + 1) m = nI (if m < at' then od m else if m = at' then i else od (m - 1))) ∧ FX (fun b j => b = c + 1 ∧ B ≤ j ∧ j ≤ E) M M' := fun fu => by
    induction fu with
    | zero => intro a M h1 h2 h3; omega
    | succ fu ih =>
      intro a M h1 h2 h3 h4 h5 h6
      have put : (∀ m, B ≤ m → m < a → od m < i) → ∃ at' M', ((stI 320 (c + 1) (nI a) (nI i) M).bind fun M2 => some M2) = some M' ∧ B ≤ at' ∧ at' ≤ E ∧ (∀ m, B ≤ m → m < at' → od m < i) ∧ (∀ m, at' ≤ m → m < E → i < od m) ∧ (∀ m, B ≤ m → m ≤ E → M'.1 (c + 1) m = nI (if m < at' then od m else if m = at' then i else od (m - 1))) ∧ FX (fun b j => b = c + 1 ∧ B ≤ j ∧ j ≤ E) M M' := fun q => by
        rw [stI_n (by omega) (by omega), Option.bind_some]
        refine ⟨a, _, rfl, h1, h2, q, h6, fun m m1' m2' => ?_, FX.I ⟨rfl, h1, h2⟩⟩
        rw [upI_j]
        by_cases z : m = a
        · rw [if_pos z, if_neg (by omega), if_pos z]
        · rw [if_neg z]
          by_cases y : m < a
          · rw [if_pos y]; exact h4 m m1' y
          · rw [if_neg y, if_neg z]; exact h5 m (by omega) m2'
      rw [L_X4_insert_3]
      simp only [n_le (show a < 2 ^ 31 by omega) (show B < 2 ^ 31 by omega)]
      by_cases e : a ≤ B
      · rw [if_pos e]; exact put fun m x y => by omega
      · have ld := h4 (a - 1) (by omega) (by omega)
        have l3 := (ho (a - 1) (by omega) (by omega)).2
        rw [if_neg e, n_sub (by omega), ldI_n (by omega) (by omega), ld, Option.bind_some]
        simp only [n_le (show od (a - 1) < 2 ^ 31 by omega) (show i < 2 ^ 31 by omega)]
        by_cases g : od (a - 1) ≤ i
        · have ne := hn (a - 1) (by omega) (by omega)
          rw [if_pos g]
          refine put fun m x y => ?_
          have : ∀ d, m + d = a - 1 → od m ≤ od (a - 1) := fun d => by
            induction d generalizing m with
            | zero => intro q; rw [show m = a - 1 by omega]; exact Nat.le_refl _
            | succ d ih2 =>
              intro q
              have := hs m x (by omega)
              have := ih2 (m + 1) (by omega) (by omega) (by omega)
              omega
          have := this (a - 1 - m) (by omega)
          omega
        · rw [if_neg g, Option.bind_some, stI_n (by omega) (by omega), Option.bind_some, n_m1 (by omega), Option.bind_some]
          have f1 : FX (fun b j => b = c + 1 ∧ B ≤ j ∧ j ≤ E) M (upI M (c + 1) a (nI (od (a - 1)))) := FX.I ⟨rfl, h1, h2⟩
          obtain ⟨at', M', b1, b2, b3, b4, b5, b6, b7⟩ := ih (a - 1) (upI M (c + 1) a (nI (od (a - 1)))) (by omega) (by omega) (by omega) (fun m x y => by rw [upI_j, if_neg (by omega)]; exact h4 m x (by omega)) (fun m x y => by
            rw [upI_j]
            by_cases z : m = a
            · rw [if_pos z, z]
            · rw [if_neg z]; exact h5 m (by omega) y) (fun m x y => by
            by_cases z : m = a - 1
            · rw [z]; omega
            · exact h6 m (by omega) y)
          exact ⟨at', M', b1, b2, b3, b4, b5, b6, f1.trans b7⟩
  unfold D_X4_insert
  exact key N E M hB (Nat.le_refl _) (by omega) (fun m x y => (ho m x y).1) (fun m x y => by omega) (fun m x y => by omega)
