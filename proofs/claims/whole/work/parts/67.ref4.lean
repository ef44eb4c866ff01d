-- the reference's words
def U3 (M M' : Mm) : Prop := M'.2.2 = M.2.2 ∧ (∀ a, ¬ a = 137 → M'.1 a = M.1 a ∧ M'.2.1 a = M.2.1 a) ∧ (∀ j, ¬ j = 12 → M'.1 137 j = M.1 137 j) ∧ ∀ j, ¬ j = 18 → M'.2.1 137 j = M.2.1 137 j
theorem U3.refl {M : Mm} : U3 M M := ⟨rfl, fun _ _ => ⟨rfl, rfl⟩, fun _ _ => rfl, fun _ _ => rfl⟩
theorem U3.trans {M M' M'' : Mm} (h : U3 M M') (h' : U3 M' M'') : U3 M M'' := ⟨h'.1.trans h.1, fun a ha => ⟨(h'.2.1 a ha).1.trans (h.2.1 a ha).1, (h'.2.1 a ha).2.trans (h.2.1 a ha).2⟩, fun j hj => (h'.2.2.1 j hj).trans (h.2.2.1 j hj), fun j hj => (h'.2.2.2 j hj).trans (h.2.2.2 j hj)⟩
theorem U3.a {v : Int32} {M : Mm} : U3 M (upI M 137 12 v) := ⟨by rw [up2], fun a ha => ⟨by rw [up1, if_neg ha], by rw [up2]⟩, fun j hj => by rw [up1, if_pos rfl, upd_a, if_neg hj], fun j _ => by rw [up2]⟩
theorem U3.b {v : Int64} {M : Mm} : U3 M (upJ M 137 18 v) := ⟨by rw [upJ3], fun a ha => ⟨by rw [upJ1], by rw [upJ2, if_neg ha]⟩, fun j _ => by rw [upJ1], fun j hj => by rw [upJ2, if_pos rfl, updL_a, if_neg hj]⟩
theorem HR.U3 {B : Nat → Nat} {n : Nat} {M M' : Mm} (h : HR B n M) (u : U3 M M') : HR B n M' := ⟨(u.2.2.1 10 (by decide)).trans h.1, h.2.1, fun i hi => by rw [(u.2.1 138 (by decide)).1]; exact h.2.2 i hi⟩
theorem upJ_s (M : Mm) (a k : Nat) (v : Int64) : (upJ M a k v).2.1 a k = v := by rw [upJ2, if_pos rfl, updL_a, if_pos rfl]
theorem r_word {B : Nat → Nat} {n : Nat} (N s : Nat) (kE : Mm → Option Mm) : ∀ (k i : Nat) (M : Mm), s ≤ i → i ≤ n → n < i + k → M.1 137 11 = nI s → M.1 137 12 = nI i → M.2.1 137 18 = lN (spell 27 96 B s (mn (i - s) 8)) → HR B n M → ∃ M', L_X12_go_81 kE N 137 k M = kE M' ∧ U3 M M' ∧ M'.1 137 12 = nI (rE isLe B n i) ∧ M'.2.1 137 18 = lN (spell 27 96 B s (mn (rE isLe B n i - s) 8))
  | 0, i, M, _, h, h2, _, _, _, _ => by omega
  | k + 1, i, M, hs, h, h2, h11, h12, h18, hB => by
    have hn := hB.2.1
    rw [L_X12_go_81, h12, r_byteAt N hB (by omega), Option.bind_some, r_isLe N hB, Option.bind_some]
    cases e : (decide (i < n) && isLe (B i))
    · rw [bI_f, if_pos rfl]
      refine ⟨M, rfl, U3.refl, ?_, ?_⟩
      · rw [h12, rE_stop (fun q => by rw [decide_eq_true q.1, q.2] at e; cases e)]
      · rw [h18, rE_stop (fun q => by rw [decide_eq_true q.1, q.2] at e; cases e)]
    · rw [Bool.and_eq_true] at e
      have hi : i < n := of_decide_eq_true e.1
      have hb := (hB.2.2 i hi).2
      have hd := isLe_in e.2
      rw [bI_t, if_neg z10, h11, n_sub hs]
      have e8 : (nI 8 ≤ nI (i - s)) = (8 ≤ i - s) := n_le (by omega) (by omega)
      simp only [e8]
      rw [rE_step hi e.2]
      by_cases c : 8 ≤ i - s
      · rw [if_pos c, Option.bind_some, h12, nI_add, pI_n, Option.bind_some]
        obtain ⟨M', a, b, d, f⟩ := r_word N s kE k (i + 1) (upI M 137 12 (nI (i + 1))) (by omega) (by omega) (by omega) (by rw [U3.a.2.2.1 11 (by decide)]; exact h11) (upI_s _ _ _ _) (by rw [up2, h18]; unfold mn; rw [if_neg (by omega), if_neg (by omega)]) (hB.U3 U3.a)
        exact ⟨M', a, U3.a.trans b, d, f⟩
      · have em : mn (i - s) 8 = i - s := if_pos (by omega)
        have ev : (lN 27 * lN (spell 27 96 B s (mn (i - s) 8)) + (nI (B i)).toInt64) - lN 96 = lN (spell 27 96 B s (mn (i + 1 - s) 8)) := by
          have em2 : mn (i + 1 - s) 8 = (i - s) + 1 := by unfold mn; split <;> omega
          rw [em2, em, l_of (by omega), lN_mul, lN_add, l_sub (by omega), spell, show s + (i - s) = i by omega]
          exact congrArg lN (by omega)
        rw [if_neg c, Option.bind_some, bC, if_pos hi, h18, ev, pJ_n, Option.bind_some, Option.bind_some]
        have g12 : (upJ M 137 18 (lN (spell 27 96 B s (mn (i + 1 - s) 8)))).1 137 12 = nI i := by rw [upJ1]; exact h12
        rw [g12, nI_add, pI_n, Option.bind_some]
        obtain ⟨M', a, b, d, f⟩ := r_word N s kE k (i + 1) (upI (upJ M 137 18 (lN (spell 27 96 B s (mn (i + 1 - s) 8)))) 137 12 (nI (i + 1))) (by omega) (by omega) (by omega) (by rw [U3.a.2.2.1 11 (by decide), upJ1]; exact h11) (upI_s _ _ _ _) (by rw [up2]; exact upJ_s _ _ _ _) ((hB.U3 U3.b).U3 U3.a)
        exact ⟨M', a, (U3.b.trans U3.a).trans b, d, f⟩
