-- the reference's bytes
def HR (B : Nat → Nat) (n : Nat) (M : Mm) : Prop := M.1 137 10 = nI n ∧ n ≤ 1000 ∧ ∀ i, i < n → M.1 138 i = nI (B i) ∧ B i < 256
def bC (B : Nat → Nat) (n i : Nat) : Int32 := if i < n then nI (B i) else m1
theorem r_byteAt {B : Nat → Nat} {n i : Nat} {M : Mm} (N : Nat) (hB : HR B n M) (hi : i < 2 ^ 31) : D_X12_byteAt N 137 (nI i) M = some (bC B n i) := by
  obtain ⟨h1, h2, h3⟩ := hB
  unfold D_X12_byteAt bC
  rw [h1]
  have e : (nI n ≤ nI i) = (n ≤ i) := n_le (by omega) (by omega)
  simp only [e]
  by_cases c : i < n
  · rw [if_neg (by omega), if_pos c, ldI_n (by omega) (by omega), Option.bind_some]
    rw [(h3 i c).1]
  · rw [if_pos (by omega), if_neg c]
theorem r_isLe0 (N c : Nat) (M : Mm) (hc : c < 2 ^ 31) : D_X12_isLetter N (nI c) M = some (bI (isLe c)) := by
  unfold D_X12_isLetter isLe
  simp (disch := omega) only [n_lt, jn, okZ_0, okZ_1]
  by_cases h1 : c < 97
  · rw [if_pos h1, decide_eq_false (show ¬ 97 ≤ c by omega)]; rfl
  · rw [if_neg h1, decide_eq_true (show 97 ≤ c by omega)]
    by_cases h2 : 122 < c
    · rw [if_pos h2, decide_eq_false (show ¬ c ≤ 122 by omega)]; rfl
    · rw [if_neg h2, decide_eq_true (show c ≤ 122 by omega)]; rfl
theorem r_isDi0 (N c : Nat) (M : Mm) (hc : c < 2 ^ 31) : D_X12_isDigit N (nI c) M = some (bI (isDi c)) := by
  unfold D_X12_isDigit isDi
  simp (disch := omega) only [n_lt, jn, okZ_0, okZ_1]
  by_cases h1 : c < 48
  · rw [if_pos h1, decide_eq_false (show ¬ 48 ≤ c by omega)]; rfl
  · rw [if_neg h1, decide_eq_true (show 48 ≤ c by omega)]
    by_cases h2 : 57 < c
    · rw [if_pos h2, decide_eq_false (show ¬ c ≤ 57 by omega)]; rfl
    · rw [if_neg h2, decide_eq_true (show c ≤ 57 by omega)]; rfl
theorem r_isLe {B : Nat → Nat} {n i : Nat} {M M0 : Mm} (N : Nat) (hB : HR B n M0) : D_X12_isLetter N (bC B n i) M = some (bI (decide (i < n) && isLe (B i))) := by
  unfold bC
  by_cases c : i < n
  · rw [if_pos c, decide_eq_true c, r_isLe0 N _ M (by have := (hB.2.2 i c).2; omega)]; rfl
  · rw [if_neg c, decide_eq_false c]
    unfold D_X12_isLetter
    simp only [jn, m1_lt_n (show 97 < 2 ^ 31 by omega), if_true, okZ_0]; rfl
theorem r_isDi {B : Nat → Nat} {n i : Nat} {M M0 : Mm} (N : Nat) (hB : HR B n M0) : D_X12_isDigit N (bC B n i) M = some (bI (decide (i < n) && isDi (B i))) := by
  unfold bC
  by_cases c : i < n
  · rw [if_pos c, decide_eq_true c, r_isDi0 N _ M (by have := (hB.2.2 i c).2; omega)]; rfl
  · rw [if_neg c, decide_eq_false c]
    unfold D_X12_isDigit
    simp only [jn, m1_lt_n (show 48 < 2 ^ 31 by omega), if_true, okZ_0]; rfl
