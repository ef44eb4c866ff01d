-- the reference's bytes
def HR (B : Nat → Nat) (n : Nat) (M : Mm) : Prop := M.1 137 10 = nI n ∧ n ≤ 1000 ∧ ∀ i, i < n → M.1 138 i = nI (B i) ∧ B i < 256
def bC (B : Nat → Nat) (n i : Nat) : Int32 := if i < n then nI (B i) else m1
theorem r_byteAt {B : Nat → Nat} {n i : Nat} {M : Mm} (N : Nat) (hB : HR B n M) (hi : i < 2 ^ 31) : D_X12_byteAt N 137 (nI i) M = some (bC B n i) := by
  obtain ⟨h1, h2, h3⟩ := hB
  unfold D_X12_byteAt bC
  rw [h1]
  have e : (nI n ≤ nI i) = (n ≤ i) := n_le (by omega) (by omega)
  simp only [e]
  by_cases c : i < n
  · rw [if_neg (by omega), if_pos c, ldI_n (by omega) (by omega), Option.bind_some]
    rw [(h3 i c).1]
  · rw [if_pos (by omega), if_neg c]
theorem r_isLe0 (N c : Nat) (M : Mm) (hc : c < 2 ^ 31) : D_X12_isLetter N (nI c) M = some (bI (isLe c)) := by
  unfold D_X12_isLetter isLe
  simp (disch := omega) only [n_lt, jn, okZ_0, okZ_1]
  by_cases h1 : c < 97
  · rw [if_pos h1, decide_eq_false (show ¬ 97 ≤ c by omega)]; rfl
  · rw [if_neg h1, decide_eq_true (show 97 ≤ c by omega)]
    by_cases h2 : 122 < c
    · rw [if_pos h2, decide_eq_false (show ¬ c ≤ 122 by omega)]; rfl
    · rw [if_neg h2, decide_eq_true (show c ≤ 122 by omega)]; rfl
theorem r_isDi0 (N c : Nat) (M : Mm) (hc : c < 2 ^ 31) : D_X12_isDigit N (nI c) M = some (bI (isDi c)) := by
  unfold D_X12_isDigit isDi
  simp (disch := omega) only [n_lt, jn, okZ_0, okZ_1]
  by_cases h1 : c < 48
  · rw [if_pos h1, decide_eq_false (show ¬ 48 ≤ c by omega)]; rfl
  · rw [if_neg h1, decide_eq_true (show 48 ≤ c by omega)]
    by_cases h2 : 57 < c
    · rw [if_pos h2, decide_eq_false (show ¬ c ≤ 57 by omega)]; rfl
    · rw [if_neg h2, decide_eq_true (show c ≤ 57 by omega)]; rfl
theorem r_isLe {B : Nat → Nat} {n i : Nat} {M M0 : Mm} (N : Nat) (hB : HR B n M0) : D_X12_isLetter N (bC B n i) M = some (bI (decide (i < n) && isLe (B i))) := by
  unfold bC
  by_cases c : i < n
  · rw [if_pos c, decide_eq_true c, r_isLe0 N _ M (by have := (hB.2.2 i c).2; omega)]; rfl
  · rw [if_neg c, decide_eq_false c]
    unfold D_X12_isLetter
    simp only [jn, m1_lt_n (show 97 < 2 ^ 31 by omega), if_true, okZ_0]; rfl
theorem r_isDi {B : Nat → Nat} {n i : Nat} {M M0 : Mm} (N : Nat) (hB : HR B n M0) : D_X12_isDigit N (bC B n i) M = some (bI (decide (i < n) && isDi (B i))) := by
  unfold bC
  by_cases c : i < n
  · rw [if_pos c, decide_eq_true c, r_isDi0 N _ M (by have := (hB.2.2 i c).2; omega)]; rfl
  · rw [if_neg c, decide_eq_false c]
    unfold D_X12_isDigit
    simp only [jn, m1_lt_n (show 48 < 2 ^ 31 by omega), if_true, okZ_0]; rfl
theorem r_sign (N c : Nat) (M : Mm) (hc : c < 256) : D_X12_isKnownSign N (nI c) M = some (bI (isSg c)) := by
  unfold D_X12_isKnownSign
  have ne : ∀ v, v < 256 → ¬ c = v → ¬ nI c = nI v := fun v hv h q => h ((n_eq (by omega) (by omega)).mp q)
  simp only [jn]
  by_cases k0 : c = 59
  · subst k0; rfl
  rw [if_neg (ne 59 (by omega) k0)]
  by_cases k1 : c = 58
  · subst k1; rfl
  rw [if_neg (ne 58 (by omega) k1)]
  by_cases k2 : c = 44
  · subst k2; rfl
  rw [if_neg (ne 44 (by omega) k2)]
  by_cases k3 : c = 46
  · subst k3; rfl
  rw [if_neg (ne 46 (by omega) k3)]
  by_cases k4 : c = 61
  · subst k4; rfl
  rw [if_neg (ne 61 (by omega) k4)]
  by_cases k5 : c = 43
  · subst k5; rfl
  rw [if_neg (ne 43 (by omega) k5)]
  by_cases k6 : c = 45
  · subst k6; rfl
  rw [if_neg (ne 45 (by omega) k6)]
  by_cases k7 : c = 42
  · subst k7; rfl
  rw [if_neg (ne 42 (by omega) k7)]
  by_cases k8 : c = 124
  · subst k8; rfl
  rw [if_neg (ne 124 (by omega) k8)]
  by_cases k9 : c = 38
  · subst k9; rfl
  rw [if_neg (ne 38 (by omega) k9)]
  by_cases k10 : c = 60
  · subst k10; rfl
  rw [if_neg (ne 60 (by omega) k10)]
  by_cases k11 : c = 40
  · subst k11; rfl
  rw [if_neg (ne 40 (by omega) k11)]
  by_cases k12 : c = 41
  · subst k12; rfl
  rw [if_neg (ne 41 (by omega) k12)]
  have e : isSg c = false := by
    unfold isSg
    simp only [beq_eq_false_iff_ne.mpr k0, beq_eq_false_iff_ne.mpr k1, beq_eq_false_iff_ne.mpr k2, beq_eq_false_iff_ne.mpr k3, beq_eq_false_iff_ne.mpr k4, beq_eq_false_iff_ne.mpr k5, beq_eq_false_iff_ne.mpr k6, beq_eq_false_iff_ne.mpr k7, beq_eq_false_iff_ne.mpr k8, beq_eq_false_iff_ne.mpr k9, beq_eq_false_iff_ne.mpr k10, beq_eq_false_iff_ne.mpr k11, beq_eq_false_iff_ne.mpr k12, Bool.or_false]
  rw [e]; rfl
