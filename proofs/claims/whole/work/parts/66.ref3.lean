-- the reference's numbers
def U2 (f f' : Nat) (M M' : Mm) : Prop := M'.2 = M.2 ∧ (∀ a, ¬ a = 137 → M'.1 a = M.1 a) ∧ ∀ j, ¬ j = f → ¬ j = f' → M'.1 137 j = M.1 137 j
theorem U2.refl {f f' : Nat} {M : Mm} : U2 f f' M M := ⟨rfl, fun _ _ => rfl, fun _ _ _ => rfl⟩
theorem U2.trans {f f' : Nat} {M M' M'' : Mm} (h : U2 f f' M M') (h' : U2 f f' M' M'') : U2 f f' M M'' := ⟨h'.1.trans h.1, fun a ha => (h'.2.1 a ha).trans (h.2.1 a ha), fun j hj hj' => (h'.2.2 j hj hj').trans (h.2.2 j hj hj')⟩
theorem U2.a {f f' : Nat} {M M' : Mm} (h : U1 f M M') : U2 f f' M M' := ⟨h.1, h.2.1, fun j hj _ => h.2.2 j hj⟩
theorem U2.b {f f' : Nat} {M M' : Mm} (h : U1 f' M M') : U2 f f' M M' := ⟨h.1, h.2.1, fun j _ hj => h.2.2 j hj⟩
def mn (a b : Nat) : Nat := if a < b then a else b
theorem r_number {B : Nat → Nat} {n : Nat} (N s : Nat) (kE : Mm → Option Mm) : ∀ (k i : Nat) (M : Mm), s ≤ i → i ≤ n → n < i + k → M.1 137 11 = nI s → M.1 137 12 = nI i → M.1 137 14 = nI (spell 10 48 B s (mn (i - s) 4)) → HR B n M → ∃ M', L_X12_go_186 kE N 137 k M = kE M' ∧ U2 12 14 M M' ∧ M'.1 137 12 = nI (rE isDi B n i) ∧ M'.1 137 14 = nI (spell 10 48 B s (mn (rE isDi B n i - s) 4))
  | 0, i, M, _, h, h2, _, _, _, _ => by omega
  | k + 1, i, M, hs, h, h2, h11, h12, h14, hB => by
    have hn := hB.2.1
    rw [L_X12_go_186, h12, r_byteAt N hB (by omega), Option.bind_some, r_isDi N hB, Option.bind_some]
    cases e : (decide (i < n) && isDi (B i))
    · rw [bI_f, if_pos rfl]
      refine ⟨M, rfl, U2.refl, ?_, ?_⟩
      · rw [h12, rE_stop (fun q => by rw [decide_eq_true q.1, q.2] at e; cases e)]
      · rw [h14, rE_stop (fun q => by rw [decide_eq_true q.1, q.2] at e; cases e)]
    · rw [Bool.and_eq_true] at e
      have hi : i < n := of_decide_eq_true e.1
      have hb := (hB.2.2 i hi).2
      have hd := isDi_in e.2
      rw [bI_t, if_neg z10, h11, n_sub hs]
      have e4 : (nI 4 ≤ nI (i - s)) = (4 ≤ i - s) := n_le (by omega) (by omega)
      simp only [e4]
      rw [rE_step hi e.2]
      by_cases c : 4 ≤ i - s
      · rw [if_pos c, Option.bind_some, h12, nI_add, pI_n, Option.bind_some]
        obtain ⟨M', a, b, d, f⟩ := r_number N s kE k (i + 1) (upI M 137 12 (nI (i + 1))) (by omega) (by omega) (by omega) (by rw [U1.I.2.2 11 (by decide)]; exact h11) (upI_s _ _ _ _) (by rw [U1.I.2.2 14 (by decide), h14]; unfold mn; rw [if_neg (by omega), if_neg (by omega)]) (hB.U (by decide) U1.I)
        exact ⟨M', a, (U2.a U1.I).trans b, d, f⟩
      · have em : mn (i - s) 4 = i - s := if_pos (by omega)
        have ev : (nI 10 * nI (spell 10 48 B s (mn (i - s) 4)) + nI (B i)) - nI 48 = nI (spell 10 48 B s (mn (i + 1 - s) 4)) := by
          have em2 : mn (i + 1 - s) 4 = (i - s) + 1 := by unfold mn; split <;> omega
          rw [em2, em, pk_mul, nI_add, n_sub (by omega), spell, show s + (i - s) = i by omega]
          exact congrArg nI (by omega)
        rw [if_neg c, Option.bind_some, bC, if_pos hi, h14, ev, pI_n, Option.bind_some, Option.bind_some]
        have g12 : (upI M 137 14 (nI (spell 10 48 B s (mn (i + 1 - s) 4)))).1 137 12 = nI i := by rw [U1.I.2.2 12 (by decide)]; exact h12
        rw [g12, nI_add, pI_n, Option.bind_some]
        obtain ⟨M', a, b, d, f⟩ := r_number N s kE k (i + 1) (upI (upI M 137 14 (nI (spell 10 48 B s (mn (i + 1 - s) 4)))) 137 12 (nI (i + 1))) (by omega) (by omega) (by omega) (by rw [U1.I.2.2 11 (by decide), U1.I.2.2 11 (by decide)]; exact h11) (upI_s _ _ _ _) (by rw [U1.I.2.2 14 (by decide)]; exact upI_s _ _ _ _) ((hB.U (by decide) U1.I).U (by decide) U1.I)
        exact ⟨M', a, ((U2.b U1.I).trans (U2.a U1.I)).trans b, d, f⟩
