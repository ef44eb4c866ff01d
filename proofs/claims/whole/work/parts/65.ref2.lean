-- the reference's blanks
def U1 (f : Nat) (M M' : Mm) : Prop := M'.2 = M.2 ∧ (∀ a, ¬ a = 137 → M'.1 a = M.1 a) ∧ ∀ j, ¬ j = f → M'.1 137 j = M.1 137 j
theorem U1.refl {f : Nat} {M : Mm} : U1 f M M := ⟨rfl, fun _ _ => rfl, fun _ _ => rfl⟩
theorem U1.trans {f : Nat} {M M' M'' : Mm} (h : U1 f M M') (h' : U1 f M' M'') : U1 f M M'' := ⟨h'.1.trans h.1, fun a ha => (h'.2.1 a ha).trans (h.2.1 a ha), fun j hj => (h'.2.2 j hj).trans (h.2.2 j hj)⟩
theorem U1.I {f : Nat} {v : Int32} {M : Mm} : U1 f M (upI M 137 f v) := ⟨by rw [up2], fun a ha => by rw [up1, if_neg ha], fun j hj => by rw [up1, if_pos rfl, upd_a, if_neg hj]⟩
theorem HR.U {B : Nat → Nat} {n f : Nat} {M M' : Mm} (h : HR B n M) (hf : ¬ f = 10) (u : U1 f M M') : HR B n M' := ⟨(u.2.2 10 (fun e => hf e.symm)).trans h.1, h.2.1, fun i hi => by rw [u.2.1 138 (by decide)]; exact h.2.2 i hi⟩
theorem r_blank {B : Nat → Nat} {n : Nat} (N : Nat) (kE : Mm → Option Mm) : ∀ (k i : Nat) (M : Mm), i ≤ n → n < i + k → M.1 137 12 = nI i → HR B n M → ∃ M', L_X12_go_0 kE N 137 k M = kE M' ∧ U1 12 M M' ∧ M'.1 137 12 = nI (rE isBl B n i)
  | 0, i, M, h, h2, _, _ => by omega
  | k + 1, i, M, h, h2, h12, hB => by
    have hn := hB.2.1
    have go : isBl (B i) = true → i < n → ∃ M', ((pI M 137 12 (nI i + nI 1)).bind fun M2 => L_X12_go_0 kE N 137 k M2) = kE M' ∧ U1 12 M M' ∧ M'.1 137 12 = nI (rE isBl B n i) := by
      intro hb hi
      obtain ⟨M', a, b, c⟩ := r_blank N kE k (i + 1) (upI M 137 12 (nI (i + 1))) (by omega) (by omega) (upI_s _ _ _ _) (hB.U (by decide) U1.I)
      refine ⟨M', ?_, U1.I.trans b, ?_⟩
      · rw [nI_add, pI_n, Option.bind_some]; exact a
      · rw [c, rE_step hi hb]
    rw [L_X12_go_0, h12, r_byteAt N hB (by omega), Option.bind_some]
    simp only [jn, Option.bind_some]
    unfold bC
    by_cases c : i < n
    · have hb := (hB.2.2 i c).2
      simp only [c, if_true]
      by_cases c1 : B i = 32
      · rw [if_pos (by rw [c1])]
        exact go (by unfold isBl; rw [c1]; rfl) c
      · rw [if_neg (fun q => c1 ((n_eq (by omega) (by omega)).mp q))]
        by_cases c2 : B i = 10
        · rw [if_pos (by rw [c2])]
          exact go (by unfold isBl; rw [c2]; rfl) c
        · rw [if_neg (fun q => c2 ((n_eq (by omega) (by omega)).mp q))]
          refine ⟨M, rfl, U1.refl, ?_⟩
          rw [h12, rE_stop]
          intro q
          have := q.2
          unfold isBl at this
          rw [beq_eq_false_iff_ne.mpr c1, beq_eq_false_iff_ne.mpr c2] at this
          exact absurd this (by decide)
    · simp only [c, if_false]
      rw [if_neg (m1_ne_n (by omega)), if_neg (m1_ne_n (by omega))]
      refine ⟨M, rfl, U1.refl, ?_⟩
      rw [h12, rE_stop (fun q => c q.1)]
