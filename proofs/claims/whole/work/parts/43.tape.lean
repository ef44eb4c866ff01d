/-! the class's tape (cell 2; rows 3 bytes, 4 kinds, 5 starts, 6 contents) -/
def tk (T : List Tok) (h : Nat) : Tok := T.getD h (0, 0, 0, 0)
theorem tk_l {T U : List Tok} {j : Nat} (h : j < T.length) : tk (T ++ U) j = tk T j := by
  unfold tk
  rw [List.getD_eq_getElem?_getD, List.getD_eq_getElem?_getD, List.getElem?_append_left h]
theorem tk_r {T : List Tok} {x : Tok} : tk (T ++ [x]) T.length = x := by
  unfold tk
  rw [List.getD_eq_getElem?_getD, List.getElem?_append_right (Nat.le_refl _), Nat.sub_self]; rfl
def HB (B : Nat → Nat) (n : Nat) (M : Mm) : Prop := ∀ i, i < n → M.1 3 i &&& nI 255 = nI (B i) ∧ B i < 256
def TL (T : List Tok) (M : Mm) : Prop := M.1 2 4 = nI T.length ∧ ∀ j, j < T.length → M.1 4 j = nI (tk T j).1 ∧ M.1 5 j = nI (tk T j).2.1 ∧ M.2.1 6 j = lN (tk T j).2.2.2
def S2 : Nat → Prop := fun a => a = 2 ∨ a = 4 ∨ a = 5 ∨ a = 6
theorem HB.fr {B : Nat → Nat} {n : Nat} {M M' : Mm} (h : HB B n M) (hf : Fr S2 M M') : HB B n M' := fun i hi => by
  rw [(hf 3 (by unfold S2; omega)).1]; exact h i hi
theorem s_isLe (N c : Nat) (M : Mm) (hc : c < 2 ^ 31) : D_X7_isLetter N (nI c) M = some (bI (isLe c)) := by
  unfold D_X7_isLetter isLe
  simp (disch := omega) only [nI_add, pk_mul, n_lt, n_le, n_eq, dv_n, rm_n, n_sub, n_neg, n_m1, n_ne_m1, m1_ne_n, n_m1_lt, m1_lt_n, m1_le_n, n_le_m1, m1_add, n_and, n_or, n_shl, n_shr, Option.bind_some, okZ_b, okZ_0, okZ_1, retZ_b, retZ_0, retZ_1, bI_0, bI_1, lgc, jn, ldI_n, ldJ_n, stI_n, stJ_n, stB_n, stZ_n, stZ_0, stZ_1, pI_n, pJ_n, pN_n, pZ_b, pZ_0, pZ_1]
  by_cases h1 : c < 97
  · rw [if_pos h1, show decide (97 ≤ c) = false by simp; omega]; rfl
  · rw [if_neg h1, show decide (97 ≤ c) = true by simp; omega]
    by_cases h2 : 122 < c
    · rw [if_pos h2, show decide (c ≤ 122) = false by simp; omega]; rfl
    · rw [if_neg h2, show decide (c ≤ 122) = true by simp; omega]; rfl
theorem s_isDi (N c : Nat) (M : Mm) (hc : c < 2 ^ 31) : D_X7_isDigit N (nI c) M = some (bI (isDi c)) := by
  unfold D_X7_isDigit isDi
  simp (disch := omega) only [nI_add, pk_mul, n_lt, n_le, n_eq, dv_n, rm_n, n_sub, n_neg, n_m1, n_ne_m1, m1_ne_n, n_m1_lt, m1_lt_n, m1_le_n, n_le_m1, m1_add, n_and, n_or, n_shl, n_shr, Option.bind_some, okZ_b, okZ_0, okZ_1, retZ_b, retZ_0, retZ_1, bI_0, bI_1, lgc, jn, ldI_n, ldJ_n, stI_n, stJ_n, stB_n, stZ_n, stZ_0, stZ_1, pI_n, pJ_n, pN_n, pZ_b, pZ_0, pZ_1]
  by_cases h1 : c < 48
  · rw [if_pos h1, show decide (48 ≤ c) = false by simp; omega]; rfl
  · rw [if_neg h1, show decide (48 ≤ c) = true by simp; omega]
    by_cases h2 : 57 < c
    · rw [if_pos h2, show decide (c ≤ 57) = false by simp; omega]; rfl
    · rw [if_neg h2, show decide (c ≤ 57) = true by simp; omega]; rfl
theorem s_isBl (N c : Nat) (M : Mm) (hc : c < 2 ^ 31) : D_X7_isBlank N (nI c) M = some (bI (isBl c)) := by
  unfold D_X7_isBlank isBl
  simp (disch := omega) only [nI_add, pk_mul, n_lt, n_le, n_eq, dv_n, rm_n, n_sub, n_neg, n_m1, n_ne_m1, m1_ne_n, n_m1_lt, m1_lt_n, m1_le_n, n_le_m1, m1_add, n_and, n_or, n_shl, n_shr, Option.bind_some, okZ_b, okZ_0, okZ_1, retZ_b, retZ_0, retZ_1, bI_0, bI_1, lgc, jn, ldI_n, ldJ_n, stI_n, stJ_n, stB_n, stZ_n, stZ_0, stZ_1, pI_n, pJ_n, pN_n, pZ_b, pZ_0, pZ_1]
  by_cases h1 : c = 10
  · simp [h1, bI]
  · by_cases h2 : c = 32
    · simp [h2, bI]
    · simp [h1, h2, bI]
theorem s_isSg (N c : Nat) (M : Mm) (hc : c < 2 ^ 31) : D_X7_isSign N (nI c) M = some (bI (isSg c)) := by
  unfold D_X7_isSign isSg
  have e : ∀ k, k < 200 → (nI c = nI k) = (c = k) := fun k hk => n_eq hc (by omega)
  simp only [e 38 (by decide), e 40 (by decide), e 41 (by decide), e 42 (by decide), e 43 (by decide), e 44 (by decide), e 45 (by decide), e 46 (by decide), e 58 (by decide), e 59 (by decide), e 60 (by decide), e 61 (by decide), e 124 (by decide), okZ_0, okZ_1]
  by_cases h38 : c = 38
  · subst h38; rfl
  rw [if_neg h38, beq_eq_false_iff_ne.mpr h38]
  by_cases h40 : c = 40
  · subst h40; rfl
  rw [if_neg h40, beq_eq_false_iff_ne.mpr h40]
  by_cases h41 : c = 41
  · subst h41; rfl
  rw [if_neg h41, beq_eq_false_iff_ne.mpr h41]
  by_cases h42 : c = 42
  · subst h42; rfl
  rw [if_neg h42, beq_eq_false_iff_ne.mpr h42]
  by_cases h43 : c = 43
  · subst h43; rfl
  rw [if_neg h43, beq_eq_false_iff_ne.mpr h43]
  by_cases h44 : c = 44
  · subst h44; rfl
  rw [if_neg h44, beq_eq_false_iff_ne.mpr h44]
  by_cases h45 : c = 45
  · subst h45; rfl
  rw [if_neg h45, beq_eq_false_iff_ne.mpr h45]
  by_cases h46 : c = 46
  · subst h46; rfl
  rw [if_neg h46, beq_eq_false_iff_ne.mpr h46]
  by_cases h58 : c = 58
  · subst h58; rfl
  rw [if_neg h58, beq_eq_false_iff_ne.mpr h58]
  by_cases h59 : c = 59
  · subst h59; rfl
  rw [if_neg h59, beq_eq_false_iff_ne.mpr h59]
  by_cases h60 : c = 60
  · subst h60; rfl
  rw [if_neg h60, beq_eq_false_iff_ne.mpr h60]
  by_cases h61 : c = 61
  · subst h61; rfl
  rw [if_neg h61, beq_eq_false_iff_ne.mpr h61]
  by_cases h124 : c = 124
  · subst h124; rfl
  rw [if_neg h124, beq_eq_false_iff_ne.mpr h124]
  rfl
theorem s_byteAt {B : Nat → Nat} {n i : Nat} (N : Nat) {M : Mm} (hB : HB B n M) (hi : i < n) (hn : n ≤ 1000) : D_X7_byteAt N 2 (nI i) M = some (nI (B i)) := by
  unfold D_X7_byteAt
  simp (disch := omega) only [nI_add, pk_mul, n_lt, n_le, n_eq, dv_n, rm_n, n_sub, n_neg, n_m1, n_ne_m1, m1_ne_n, n_m1_lt, m1_lt_n, m1_le_n, n_le_m1, m1_add, n_and, n_or, n_shl, n_shr, Option.bind_some, okZ_b, okZ_0, okZ_1, retZ_b, retZ_0, retZ_1, bI_0, bI_1, lgc, jn, ldI_n, ldJ_n, stI_n, stJ_n, stB_n, stZ_n, stZ_0, stZ_1, pI_n, pJ_n, pN_n, pZ_b, pZ_0, pZ_1, Nat.reduceAdd]
  rw [(hB i hi).1]
theorem s_add {T : List Tok} {M : Mm} (N : Nat) (x : Tok) (h : TL T M) (hl : T.length < 1001) : ∃ M', D_X7_add N 2 (nI x.1) (nI x.2.1) (lN x.2.2.2) M = some M' ∧ TL (T ++ [x]) M' ∧ Fr S2 M M' ∧ (∀ f, f ≠ 4 → M'.1 2 f = M.1 2 f) ∧ M'.2.1 2 = M.2.1 2 := by
  obtain ⟨h1, h2⟩ := h
  have e0 : Int32.ofNat 1001 = nI 1001 := rfl
  unfold D_X7_add
  rw [e0, h1]
  simp (disch := omega) only [nI_add, pk_mul, n_lt, n_le, n_eq, dv_n, rm_n, n_sub, n_neg, n_m1, n_ne_m1, m1_ne_n, n_m1_lt, m1_lt_n, m1_le_n, n_le_m1, m1_add, n_and, n_or, n_shl, n_shr, Option.bind_some, okZ_b, okZ_0, okZ_1, retZ_b, retZ_0, retZ_1, bI_0, bI_1, lgc, jn, ldI_n, ldJ_n, stI_n, stJ_n, stB_n, stZ_n, stZ_0, stZ_1, pI_n, pJ_n, pN_n, pZ_b, pZ_0, pZ_1, Nat.reduceAdd, if_neg (show ¬ 1001 ≤ T.length by omega), up1, up2, upJ1, upJ2, upJ3, upN1, upN2, upN3, upd_a, updL_a, mR1, h1, Nat.reduceEqDiff, if_false, if_true]
  refine ⟨_, rfl, ⟨?_, fun j hj => ?_⟩, ?_, fun f hf => ?_, ?_⟩
  · simp only [up1, up2, upJ1, upJ2, upJ3, upN1, upN2, upN3, upd_a, updL_a, mR1, Nat.reduceEqDiff, if_true, List.length_append, List.length_cons, List.length_nil]
  · rw [List.length_append] at hj
    simp only [List.length_cons, List.length_nil] at hj
    simp only [up1, up2, upJ1, upJ2, upJ3, upN1, upN2, upN3, upd_a, updL_a, mR1, Nat.reduceEqDiff, if_true, if_false]
    by_cases hj2 : j = T.length
    · subst hj2
      simp only [if_true, tk_r, and_self]
    · simp only [if_neg hj2, tk_l (show j < T.length by omega)]
      exact h2 j (by omega)
  · exact ((Fr.I (Or.inr (Or.inl rfl))).trans (Fr.I (Or.inr (Or.inr (Or.inl rfl))))).trans ((Fr.J (Or.inr (Or.inr (Or.inr rfl)))).trans (Fr.I (Or.inl rfl)))
  · simp only [up1, up2, upJ1, upJ2, upJ3, upN1, upN2, upN3, upd_a, updL_a, mR1, Nat.reduceEqDiff, if_true, if_false, if_neg hf]
  · simp only [up1, up2, upJ1, upJ2, upJ3, upN1, upN2, upN3, upd_a, updL_a, mR1, Nat.reduceEqDiff, if_true, if_false]
theorem isLe_ge {c : Nat} (h : isLe c = true) : 97 ≤ c := by
  unfold isLe at h
  simp at h; omega
theorem isDi_ge {c : Nat} (h : isDi c = true) : 48 ≤ c := by
  unfold isDi at h
  simp at h; omega
theorem loop_word {B : Nat → Nat} {n : Nat} {M : Mm} (N s : Nat) (kE : Int32 → Int64 → Option (Int32 × Mm)) (hB : HB B n M) (hn : n ≤ 1000) : ∀ (k i : Nat), s ≤ i → i ≤ n → n < i + k → L_X7_cutWord_5 kE (nI n) N 2 M k (nI i) (lN (spell 32 96 B s (i - s))) = kE (nI (rE isLe B n i)) (lN (spell 32 96 B s (rE isLe B n i - s))) := by
  intro k
  induction k with
  | zero => intro i _ h1 h2; omega
  | succ k ih =>
    intro i hs h1 h2
    rw [L_X7_cutWord_5]
    simp (disch := omega) only [nI_add, pk_mul, n_lt, n_le, n_eq, dv_n, rm_n, n_sub, n_neg, n_m1, n_ne_m1, m1_ne_n, n_m1_lt, m1_lt_n, m1_le_n, n_le_m1, m1_add, n_and, n_or, n_shl, n_shr]
    by_cases hi : n ≤ i
    · rw [if_pos hi, rE_stop (by omega)]
    · rw [if_neg hi]
      have hb := hB i (by omega)
      rw [s_byteAt N hB (by omega) hn, Option.bind_some, s_isLe N _ M (by omega), Option.bind_some, Option.bind_some]
      simp only [bI_0]
      by_cases hl : isLe (B i) = false
      · rw [if_pos hl, rE_stop (by rw [hl]; simp)]
      · have hl' : isLe (B i) = true := by simpa using hl
        have hge := isLe_ge hl'
        rw [if_neg hl, l_of (by omega), lN_mul, lN_add, l_sub (by omega), lN_add, Option.bind_some, Option.bind_some, rE_step (by omega) hl',
          show 32 * spell 32 96 B s (i - s) + B i - 97 + 1 = spell 32 96 B s (i + 1 - s) by
            rw [show i + 1 - s = (i - s) + 1 by omega, spell, show s + (i - s) = i by omega]; omega]
        exact ih (i + 1) (by omega) (by omega) (by omega)
theorem loop_number {B : Nat → Nat} {n : Nat} {M : Mm} (N s : Nat) (kE : Int32 → Int64 → Option (Int32 × Mm)) (hB : HB B n M) (hn : n ≤ 1000) : ∀ (k i : Nat), s ≤ i → i ≤ n → n < i + k → L_X7_cutNumber_5 kE (nI n) N 2 M k (nI i) (lN (spell 10 48 B s (i - s))) = kE (nI (rE isDi B n i)) (lN (spell 10 48 B s (rE isDi B n i - s))) := by
  intro k
  induction k with
  | zero => intro i _ h1 h2; omega
  | succ k ih =>
    intro i hs h1 h2
    rw [L_X7_cutNumber_5]
    simp (disch := omega) only [nI_add, pk_mul, n_lt, n_le, n_eq, dv_n, rm_n, n_sub, n_neg, n_m1, n_ne_m1, m1_ne_n, n_m1_lt, m1_lt_n, m1_le_n, n_le_m1, m1_add, n_and, n_or, n_shl, n_shr]
    by_cases hi : n ≤ i
    · rw [if_pos hi, rE_stop (by omega)]
    · rw [if_neg hi]
      have hb := hB i (by omega)
      rw [s_byteAt N hB (by omega) hn, Option.bind_some, s_isDi N _ M (by omega), Option.bind_some, Option.bind_some]
      simp only [bI_0]
      by_cases hl : isDi (B i) = false
      · rw [if_pos hl, rE_stop (by rw [hl]; simp)]
      · have hl' : isDi (B i) = true := by simpa using hl
        have hge := isDi_ge hl'
        rw [if_neg hl, l_of (by omega), lN_mul, lN_add, l_sub (by omega), Option.bind_some, Option.bind_some, rE_step (by omega) hl',
          show 10 * spell 10 48 B s (i - s) + B i - 48 = spell 10 48 B s (i + 1 - s) by
            rw [show i + 1 - s = (i - s) + 1 by omega, spell, show s + (i - s) = i by omega]; omega]
        exact ih (i + 1) (by omega) (by omega) (by omega)
/-- a token is cut and added -/
theorem s_cut {B : Nat → Nat} {n i : Nat} {T : List Tok} {M : Mm} (N : Nat) (hN : 2000 < N) (hB : HB B n M) (hi : i < n) (hn : n ≤ 1000) (h : TL T M) (hl : T.length < 1001) :
    ∃ M', D_X7_cut N 2 (nI i) (nI n) M = some (nI (tokAt B n i).2.2.1, M') ∧ TL (T ++ [tokAt B n i]) M' ∧ Fr S2 M M' ∧ (∀ f, f ≠ 4 → M'.1 2 f = M.1 2 f) ∧ M'.2.1 2 = M.2.1 2 := by
  have hb := hB i hi
  unfold D_X7_cut
  rw [s_byteAt N hB hi hn, Option.bind_some, s_isLe N _ M (by omega), Option.bind_some]
  simp only [bI_0]
  by_cases h1 : isLe (B i) = true
  · rw [if_neg (by rw [h1]; simp)]
    unfold D_X7_cutWord
    have e := loop_word N i (fun (l3_3 : Int32) (l4_3 : Int64) => (if (l3_3 - nI i) ≤ (nI 8) then ((D_X7_add N 2 (nI 1) (nI i) l4_3 M).bind fun M1 => some (l3_3, M1)) else ((D_X7_add N 2 (nI 4) (nI i) l4_3 M).bind fun M2 => some (l3_3, M2)))) hB hn N i (Nat.le_refl i) (by omega) (by omega)
    rw [Nat.sub_self] at e
    rw [show lN 0 = lN (spell 32 96 B i 0) from rfl, e]
    have hge : i ≤ rE isLe B n i := rE_ge
    have hle : rE isLe B n i ≤ n := rE_le (by omega)
    simp (disch := omega) only [nI_add, pk_mul, n_lt, n_le, n_eq, dv_n, rm_n, n_sub, n_neg, n_m1, n_ne_m1, m1_ne_n, n_m1_lt, m1_lt_n, m1_le_n, n_le_m1, m1_add, n_and, n_or, n_shl, n_shr]
    have et : tokAt B n i = (if rE isLe B n i - i ≤ 8 then 1 else 4, i, rE isLe B n i, spell 32 96 B i (rE isLe B n i - i)) := by unfold tokAt; rw [if_pos h1]
    obtain ⟨M', a1, a2⟩ := s_add N (tokAt B n i) h hl
    rw [et] at a1 a2 ⊢
    by_cases h8 : rE isLe B n i - i ≤ 8
    · simp only [if_pos h8] at a1 a2 ⊢
      rw [a1]
      exact ⟨M', rfl, a2⟩
    · simp only [if_neg h8] at a1 a2 ⊢
      rw [a1]
      exact ⟨M', rfl, a2⟩
  · rw [if_pos (by simpa using h1), s_isDi N _ M (by omega), Option.bind_some]
    simp only [bI_0]
    by_cases h2 : isDi (B i) = true
    · rw [if_neg (by rw [h2]; simp)]
      unfold D_X7_cutNumber
      have e := loop_number N i (fun (l3_3 : Int32) (l4_3 : Int64) => (if (l3_3 - nI i) ≤ (nI 4) then ((D_X7_add N 2 (nI 2) (nI i) l4_3 M).bind fun M1 => some (l3_3, M1)) else ((D_X7_add N 2 (nI 4) (nI i) l4_3 M).bind fun M2 => some (l3_3, M2)))) hB hn N i (Nat.le_refl i) (by omega) (by omega)
      rw [Nat.sub_self] at e
      rw [show lN 0 = lN (spell 10 48 B i 0) from rfl, e]
      have hge : i ≤ rE isDi B n i := rE_ge
      have hle : rE isDi B n i ≤ n := rE_le (by omega)
      simp (disch := omega) only [nI_add, pk_mul, n_lt, n_le, n_eq, dv_n, rm_n, n_sub, n_neg, n_m1, n_ne_m1, m1_ne_n, n_m1_lt, m1_lt_n, m1_le_n, n_le_m1, m1_add, n_and, n_or, n_shl, n_shr]
      have et : tokAt B n i = (if rE isDi B n i - i ≤ 4 then 2 else 4, i, rE isDi B n i, spell 10 48 B i (rE isDi B n i - i)) := by unfold tokAt; rw [if_neg h1, if_pos h2]
      obtain ⟨M', a1, a2⟩ := s_add N (tokAt B n i) h hl
      rw [et] at a1 a2 ⊢
      by_cases h8 : rE isDi B n i - i ≤ 4
      · simp only [if_pos h8] at a1 a2 ⊢
        rw [a1]
        exact ⟨M', rfl, a2⟩
      · simp only [if_neg h8] at a1 a2 ⊢
        rw [a1]
        exact ⟨M', rfl, a2⟩
    · rw [if_pos (by simpa using h2), s_isSg N _ M (by omega), Option.bind_some]
      simp only [bI_0]
      have et : tokAt B n i = (if isSg (B i) = true then 3 else 4, i, i + 1, B i) := by unfold tokAt; rw [if_neg h1, if_neg h2]
      obtain ⟨M', a1, a2⟩ := s_add N (tokAt B n i) h hl
      rw [et] at a1 a2 ⊢
      by_cases h3 : isSg (B i) = true
      · rw [if_pos h3] at a1 a2 ⊢
        rw [if_neg (by rw [h3]; simp), Option.bind_some, l_of (by omega), a1, Option.bind_some, nI_add]
        exact ⟨M', rfl, a2⟩
      · rw [if_neg h3] at a1 a2 ⊢
        rw [if_pos (by simpa using h3), Option.bind_some, l_of (by omega), a1, Option.bind_some, nI_add]
        exact ⟨M', rfl, a2⟩
