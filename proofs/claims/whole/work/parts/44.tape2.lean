/-- the tape at a token -/
def TK (T : List Tok) (h : Nat) (M : Mm) : Prop := TL T M ∧ h < T.length ∧ T.length ≤ 1001 ∧ M.1 2 5 = nI h ∧ M.1 2 7 = nI (tk T h).1 ∧ M.2.1 2 8 = lN (tk T h).2.2.2
def adv (T : List Tok) (h : Nat) : Nat := if h + 1 < T.length then h + 1 else h
theorem adv_lt {T : List Tok} {h : Nat} (hh : h < T.length) : adv T h < T.length := by unfold adv; split <;> omega
/-- kinds, starts, contents are as they must be -/
def TW (T : List Tok) : Prop := ∀ j, j < T.length → (tk T j).1 ≤ 4 ∧ (tk T j).2.1 ≤ 1000
def S1 : Nat → Prop := fun a => a = 2
theorem TL.fr {T : List Tok} {M M' : Mm} (h : TL T M) (h4 : M'.1 2 4 = M.1 2 4) (hf : Fr S1 M M') : TL T M' := ⟨h4.trans h.1, fun j hj => by
  rw [(hf 4 (by unfold S1; omega)).1, (hf 5 (by unfold S1; omega)).1, (hf 6 (by unfold S1; omega)).2.1]; exact h.2 j hj⟩
/-- what of cell 2 stays at an advance -/
def K2 (M M' : Mm) : Prop := ∀ f, f ≠ 5 → f ≠ 7 → M'.1 2 f = M.1 2 f
theorem s_adv0 {T : List Tok} {h h' : Nat} {M : Mm} (N : Nat) (hT : TL T M) (hl : T.length ≤ 1001) (hw : TW T) (hh' : h' < T.length) (hcase : (M.1 2 5 = nI h ∧ h < T.length ∧ h' = adv T h) ∨ (M.1 2 5 = m1 ∧ h' = 0)) : ∃ M', D_X7_advance N 2 M = some M' ∧ TK T h' M' ∧ Fr S1 M M' ∧ K2 M M' := by
  unfold D_X7_advance
  obtain ⟨Mp, e1, e2, e3, e4⟩ : ∃ Mp, (if (M.1 2 4) ≤ ((M.1 2 5) + (nI 1)) then (some M) else ((pI M 2 5 ((M.1 2 5) + (nI 1))).bind fun M4 => (some M4))) = some Mp ∧ Mp.1 2 5 = nI h' ∧ Fr S1 M Mp ∧ (∀ f, f ≠ 5 → Mp.1 2 f = M.1 2 f) := by
    rw [hT.1]
    rcases hcase with ⟨c1, c2, c3⟩ | ⟨c1, c3⟩
    · rw [c1]
      simp (disch := omega) only [nI_add, pk_mul, n_lt, n_le, n_eq, dv_n, rm_n, n_sub, n_neg, n_m1, n_ne_m1, m1_ne_n, n_m1_lt, m1_lt_n, m1_le_n, n_le_m1, m1_add, n_and, n_or, n_shl, n_shr, Option.bind_some, okZ_b, okZ_0, okZ_1, retZ_b, retZ_0, retZ_1, bI_0, bI_1, lgc, jn, ldI_n, ldJ_n, stI_n, stJ_n, stB_n, stZ_n, stZ_0, stZ_1, pI_n, pJ_n, pN_n, pZ_b, pZ_0, pZ_1]
      unfold adv at c3
      by_cases hc : h + 1 < T.length
      · rw [if_pos hc] at c3
        rw [if_neg (by omega)]
        exact ⟨_, rfl, by simp only [up1, up2, upJ1, upJ2, upJ3, upN1, upN2, upN3, upd_a, updL_a, mR1, if_true, c3], Fr.I rfl, fun f hf => by simp only [up1, up2, upJ1, upJ2, upJ3, upN1, upN2, upN3, upd_a, updL_a, mR1, if_true, if_neg hf]⟩
      · rw [if_neg hc] at c3
        rw [if_pos (by omega)]
        exact ⟨_, rfl, by rw [c1, c3], Fr.refl, fun _ _ => rfl⟩
    · rw [c1, show m1 + nI 1 = nI 0 from m1_add 0]
      simp (disch := omega) only [nI_add, pk_mul, n_lt, n_le, n_eq, dv_n, rm_n, n_sub, n_neg, n_m1, n_ne_m1, m1_ne_n, n_m1_lt, m1_lt_n, m1_le_n, n_le_m1, m1_add, n_and, n_or, n_shl, n_shr, Option.bind_some, okZ_b, okZ_0, okZ_1, retZ_b, retZ_0, retZ_1, bI_0, bI_1, lgc, jn, ldI_n, ldJ_n, stI_n, stJ_n, stB_n, stZ_n, stZ_0, stZ_1, pI_n, pJ_n, pN_n, pZ_b, pZ_0, pZ_1]
      rw [if_neg (by omega)]
      exact ⟨_, rfl, by simp only [up1, up2, upJ1, upJ2, upJ3, upN1, upN2, upN3, upd_a, updL_a, mR1, if_true, c3], Fr.I rfl, fun f hf => by simp only [up1, up2, upJ1, upJ2, upJ3, upN1, upN2, upN3, upd_a, updL_a, mR1, if_true, if_neg hf]⟩
  rw [e1, Option.bind_some, e2]
  have hTp : TL T Mp := hT.fr (e4 4 (by omega)) e3
  obtain ⟨k1, k2, k3⟩ := hTp.2 h' hh'
  simp (disch := omega) only [nI_add, pk_mul, n_lt, n_le, n_eq, dv_n, rm_n, n_sub, n_neg, n_m1, n_ne_m1, m1_ne_n, n_m1_lt, m1_lt_n, m1_le_n, n_le_m1, m1_add, n_and, n_or, n_shl, n_shr, Option.bind_some, okZ_b, okZ_0, okZ_1, retZ_b, retZ_0, retZ_1, bI_0, bI_1, lgc, jn, ldI_n, ldJ_n, stI_n, stJ_n, stB_n, stZ_n, stZ_0, stZ_1, pI_n, pJ_n, pN_n, pZ_b, pZ_0, pZ_1, Nat.reduceAdd, k1, up1, up2, upJ1, upJ2, upJ3, upN1, upN2, upN3, upd_a, updL_a, mR1, Nat.reduceEqDiff, if_false, if_true, e2, k3]
  refine ⟨_, rfl, ⟨⟨?_, fun j hj => ?_⟩, hh', hl, ?_, ?_, ?_⟩, ?_, fun f h5 h7 => ?_⟩
  · simp only [up1, up2, upJ1, upJ2, upJ3, upN1, upN2, upN3, upd_a, updL_a, mR1, Nat.reduceEqDiff, if_true, if_false]
    exact hTp.1
  · simp only [up1, up2, upJ1, upJ2, upJ3, upN1, upN2, upN3, upd_a, updL_a, mR1, Nat.reduceEqDiff, if_true, if_false]
    exact hTp.2 j hj
  · simp only [up1, up2, upJ1, upJ2, upJ3, upN1, upN2, upN3, upd_a, updL_a, mR1, Nat.reduceEqDiff, if_true, if_false]
    exact e2
  · simp only [up1, up2, upJ1, upJ2, upJ3, upN1, upN2, upN3, upd_a, updL_a, mR1, Nat.reduceEqDiff, if_true, if_false]
  · simp only [up1, up2, upJ1, upJ2, upJ3, upN1, upN2, upN3, upd_a, updL_a, mR1, Nat.reduceEqDiff, if_true, if_false]
  · exact (e3.trans (Fr.I rfl)).trans (Fr.J rfl)
  · simp only [up1, up2, upJ1, upJ2, upJ3, upN1, upN2, upN3, upd_a, updL_a, mR1, Nat.reduceEqDiff, if_true, if_neg h7]
    exact e4 f h5
theorem s_adv {T : List Tok} {h : Nat} {M : Mm} (N : Nat) (hT : TK T h M) (hw : TW T) : ∃ M', D_X7_advance N 2 M = some M' ∧ TK T (adv T h) M' ∧ Fr S1 M M' ∧ K2 M M' :=
  s_adv0 N hT.1 hT.2.2.1 hw (adv_lt hT.2.1) (Or.inl ⟨hT.2.2.2.1, hT.2.1, rfl⟩)
theorem s_isWordOf {T : List Tok} {h v : Nat} {M : Mm} (N : Nat) (hT : TK T h M) (hw : TW T) (hv : v < 2 ^ 63) (hc : (tk T h).1 = 1 → (tk T h).2.2.2 < 2 ^ 63) : D_X7_isWordOf N 2 (lN v) M = some (bI (decide ((tk T h).1 = 1 ∧ (tk T h).2.2.2 = v))) := by
  obtain ⟨-, h1, h2, h3, h4, h5⟩ := hT
  have hk := (hw h h1).1
  unfold D_X7_isWordOf
  rw [h4, h5]
  simp (disch := omega) only [nI_add, pk_mul, n_lt, n_le, n_eq, dv_n, rm_n, n_sub, n_neg, n_m1, n_ne_m1, m1_ne_n, n_m1_lt, m1_lt_n, m1_le_n, n_le_m1, m1_add, n_and, n_or, n_shl, n_shr, Option.bind_some, okZ_b, okZ_0, okZ_1, retZ_b, retZ_0, retZ_1, bI_0, bI_1, lgc, jn, ldI_n, ldJ_n, stI_n, stJ_n, stB_n, stZ_n, stZ_0, stZ_1, pI_n, pJ_n, pN_n, pZ_b, pZ_0, pZ_1]
  by_cases h1 : (tk T h).1 = 1
  · rw [if_pos h1]
    simp only [l_eq (hc h1) hv]
    by_cases h2 : (tk T h).2.2.2 = v
    · rw [if_pos h2, decide_eq_true ⟨h1, h2⟩]; rfl
    · rw [if_neg h2, decide_eq_false (fun q => h2 q.2)]; rfl
  · rw [if_neg h1, decide_eq_false (fun q => h1 q.1)]; rfl
theorem s_isSignOf {T : List Tok} {h c : Nat} {M : Mm} (N : Nat) (hT : TK T h M) (hw : TW T) (hv : c < 2 ^ 31) (hc : (tk T h).1 = 3 → (tk T h).2.2.2 < 2 ^ 63) : D_X7_isSignOf N 2 (nI c) M = some (bI (decide ((tk T h).1 = 3 ∧ (tk T h).2.2.2 = c))) := by
  obtain ⟨-, h1, h2, h3, h4, h5⟩ := hT
  have hk := (hw h h1).1
  unfold D_X7_isSignOf
  rw [h4, h5, l_of hv]
  simp (disch := omega) only [nI_add, pk_mul, n_lt, n_le, n_eq, dv_n, rm_n, n_sub, n_neg, n_m1, n_ne_m1, m1_ne_n, n_m1_lt, m1_lt_n, m1_le_n, n_le_m1, m1_add, n_and, n_or, n_shl, n_shr, Option.bind_some, okZ_b, okZ_0, okZ_1, retZ_b, retZ_0, retZ_1, bI_0, bI_1, lgc, jn, ldI_n, ldJ_n, stI_n, stJ_n, stB_n, stZ_n, stZ_0, stZ_1, pI_n, pJ_n, pN_n, pZ_b, pZ_0, pZ_1]
  by_cases h1 : (tk T h).1 = 3
  · rw [if_pos h1]
    simp only [l_eq (hc h1) (show c < 2 ^ 63 by omega)]
    by_cases h2 : (tk T h).2.2.2 = c
    · rw [if_pos h2, decide_eq_true ⟨h1, h2⟩]; rfl
    · rw [if_neg h2, decide_eq_false (fun q => h2 q.2)]; rfl
  · rw [if_neg h1, decide_eq_false (fun q => h1 q.1)]; rfl
def kept (v : Nat) : Bool := v == 664177132 || v == 543204 || v == 611717 || v == 302 || v == 16052 || v == 15021 || v == 13368 || v == 13614 || v == 294
def isNm (x : Tok) : Bool := x.1 == 1 && !kept x.2.2.2
theorem s_isName {T : List Tok} {h : Nat} {M : Mm} (N : Nat) (hT : TK T h M) (hw : TW T) (hc : (tk T h).1 = 1 → (tk T h).2.2.2 < 2 ^ 63) : D_X7_isName N 2 M = some (bI (isNm (tk T h))) := by
  obtain ⟨-, h1, h2, h3, h4, h5⟩ := hT
  have hk := (hw h h1).1
  unfold D_X7_isName isNm
  rw [h4, h5]
  simp (disch := omega) only [nI_add, pk_mul, n_lt, n_le, n_eq, dv_n, rm_n, n_sub, n_neg, n_m1, n_ne_m1, m1_ne_n, n_m1_lt, m1_lt_n, m1_le_n, n_le_m1, m1_add, n_and, n_or, n_shl, n_shr, Option.bind_some, okZ_b, okZ_0, okZ_1, retZ_b, retZ_0, retZ_1, bI_0, bI_1, lgc, jn, ldI_n, ldJ_n, stI_n, stJ_n, stB_n, stZ_n, stZ_0, stZ_1, pI_n, pJ_n, pN_n, pZ_b, pZ_0, pZ_1]
  by_cases h1 : (tk T h).1 = 1
  · have hl := hc h1
    have e : ∀ v, v < 2 ^ 63 → (lN (tk T h).2.2.2 = lN v) = ((tk T h).2.2.2 = v) := fun v hv => l_eq hl hv
    rw [if_pos h1]
    simp only [e 664177132 (by decide), e 543204 (by decide), e 611717 (by decide), e 302 (by decide), e 16052 (by decide), e 15021 (by decide), e 13368 (by decide), e 13614 (by decide), e 294 (by decide)]
    rw [h1]
    generalize (tk T h).2.2.2 = v
    unfold kept
    by_cases k0 : v = 664177132
    · subst k0; rfl
    rw [if_neg k0, beq_eq_false_iff_ne.mpr k0]
    by_cases k1 : v = 543204
    · subst k1; rfl
    rw [if_neg k1, beq_eq_false_iff_ne.mpr k1]
    by_cases k2 : v = 611717
    · subst k2; rfl
    rw [if_neg k2, beq_eq_false_iff_ne.mpr k2]
    by_cases k3 : v = 302
    · subst k3; rfl
    rw [if_neg k3, beq_eq_false_iff_ne.mpr k3]
    by_cases k4 : v = 16052
    · subst k4; rfl
    rw [if_neg k4, beq_eq_false_iff_ne.mpr k4]
    by_cases k5 : v = 15021
    · subst k5; rfl
    rw [if_neg k5, beq_eq_false_iff_ne.mpr k5]
    by_cases k6 : v = 13368
    · subst k6; rfl
    rw [if_neg k6, beq_eq_false_iff_ne.mpr k6]
    by_cases k7 : v = 13614
    · subst k7; rfl
    rw [if_neg k7, beq_eq_false_iff_ne.mpr k7]
    by_cases k8 : v = 294
    · subst k8; rfl
    rw [if_neg k8, beq_eq_false_iff_ne.mpr k8]
    rfl
  · rw [if_neg h1, beq_eq_false_iff_ne.mpr h1]; rfl
theorem s_fail {T : List Tok} {h y : Nat} {M : Mm} (N : Nat) (hT : TK T h M) (hw : TW T) : ∃ M', D_X7_fail N 2 (nI y) M = some (nI 0, M') ∧ M'.1 2 9 = nI (if (tk T h).1 = 4 then 1 else y) ∧ M'.1 2 10 = nI (tk T h).2.1 ∧ Fr S1 M M' ∧ (∀ f, f ≠ 9 → f ≠ 10 → M'.1 2 f = M.1 2 f) ∧ M'.2.1 2 = M.2.1 2 := by
  obtain ⟨hL, h1, h2, h3, h4, h5⟩ := hT
  have hk := (hw h h1).1
  obtain ⟨k1, k2, k3⟩ := hL.2 h h1
  unfold D_X7_fail
  rw [h4]
  simp (disch := omega) only [nI_add, pk_mul, n_lt, n_le, n_eq, dv_n, rm_n, n_sub, n_neg, n_m1, n_ne_m1, m1_ne_n, n_m1_lt, m1_lt_n, m1_le_n, n_le_m1, m1_add, n_and, n_or, n_shl, n_shr]
  have e : (if (tk T h).1 = 4 then some (nI 1) else some (nI y)) = some (nI (if (tk T h).1 = 4 then 1 else y)) := by split <;> rfl
  rw [e]
  simp (disch := omega) only [Option.bind_some, okZ_b, okZ_0, okZ_1, retZ_b, retZ_0, retZ_1, bI_0, bI_1, lgc, jn, ldI_n, ldJ_n, stI_n, stJ_n, stB_n, stZ_n, stZ_0, stZ_1, pI_n, pJ_n, pN_n, pZ_b, pZ_0, pZ_1, up1, up2, upJ1, upJ2, upJ3, upN1, upN2, upN3, upd_a, updL_a, mR1, Nat.reduceAdd, Nat.reduceEqDiff, if_true, if_false, h3, k2]
  refine ⟨_, rfl, ?_, ?_, ?_, fun f h9 h10 => ?_, ?_⟩
  · simp only [up1, up2, upJ1, upJ2, upJ3, upN1, upN2, upN3, upd_a, updL_a, mR1, Nat.reduceEqDiff, if_true, if_false]
  · simp only [up1, up2, upJ1, upJ2, upJ3, upN1, upN2, upN3, upd_a, updL_a, mR1, Nat.reduceEqDiff, if_true, if_false]
  · exact (Fr.I (S := S1) rfl).trans (Fr.I rfl)
  · simp only [up1, up2, upJ1, upJ2, upJ3, upN1, upN2, upN3, upd_a, updL_a, mR1, Nat.reduceEqDiff, if_true, if_neg h9, if_neg h10]
  · simp only [up1, up2, upJ1, upJ2, upJ3, upN1, upN2, upN3, upd_a, updL_a, mR1]
theorem s_takeSign {T : List Tok} {h c : Nat} {M : Mm} (N : Nat) (hT : TK T h M) (hw : TW T) (hv : c < 2 ^ 31) (hc : (tk T h).1 = 3 → (tk T h).2.2.2 < 2 ^ 63) :
    (if (tk T h).1 = 3 ∧ (tk T h).2.2.2 = c then ∃ M', D_X7_takeSign N 2 (nI c) M = some (nI 1, M') ∧ TK T (adv T h) M' ∧ Fr S1 M M' ∧ K2 M M'
     else ∃ M', D_X7_takeSign N 2 (nI c) M = some (nI 0, M') ∧ M'.1 2 9 = nI (if (tk T h).1 = 4 then 1 else 2) ∧ M'.1 2 10 = nI (tk T h).2.1 ∧ Fr S1 M M' ∧ (∀ f, f ≠ 9 → f ≠ 10 → M'.1 2 f = M.1 2 f) ∧ M'.2.1 2 = M.2.1 2) := by
  obtain ⟨Mf, f1, f2⟩ := s_fail (y := 2) N hT hw
  obtain ⟨Ma, a1, a2⟩ := s_adv N hT hw
  obtain ⟨hL, h1, h2, h3, h4, h5⟩ := hT
  have hk := (hw h h1).1
  unfold D_X7_takeSign
  rw [h4, h5, l_of hv]
  simp (disch := omega) only [nI_add, pk_mul, n_lt, n_le, n_eq, dv_n, rm_n, n_sub, n_neg, n_m1, n_ne_m1, m1_ne_n, n_m1_lt, m1_lt_n, m1_le_n, n_le_m1, m1_add, n_and, n_or, n_shl, n_shr, lgc]
  by_cases c1 : (tk T h).1 = 3
  · simp only [l_eq (hc c1) (show c < 2 ^ 63 by omega)]
    by_cases c2 : (tk T h).2.2.2 = c
    · rw [if_pos ⟨c1, c2⟩, if_pos c1, if_pos c2, a1]
      exact ⟨Ma, rfl, a2⟩
    · rw [if_neg (fun q => c2 q.2), if_pos c1, if_neg c2, f1]
      exact ⟨Mf, rfl, f2⟩
  · rw [if_neg (fun q => c1 q.1), if_neg c1, f1]
    exact ⟨Mf, rfl, f2⟩
theorem s_pointFollows {T : List Tok} {h : Nat} {M : Mm} (N : Nat) (hT : TK T h M) (hw : TW T) (hc : ∀ j, j < T.length → (tk T j).1 = 3 → (tk T j).2.2.2 < 2 ^ 63) : D_X7_pointFollows N 2 M = some (bI (decide (h + 1 < T.length ∧ (tk T (h + 1)).1 = 3 ∧ (tk T (h + 1)).2.2.2 = 46))) := by
  obtain ⟨hL, h1, h2, h3, h4, h5⟩ := hT
  unfold D_X7_pointFollows
  rw [hL.1, h3]
  simp (disch := omega) only [nI_add, pk_mul, n_lt, n_le, n_eq, dv_n, rm_n, n_sub, n_neg, n_m1, n_ne_m1, m1_ne_n, n_m1_lt, m1_lt_n, m1_le_n, n_le_m1, m1_add, n_and, n_or, n_shl, n_shr, jn, okZ_0, okZ_1]
  by_cases c0 : T.length ≤ h + 1
  · rw [if_pos c0, decide_eq_false (fun q => by omega)]; rfl
  · obtain ⟨k1, k2, k3⟩ := hL.2 (h + 1) (by omega)
    have hk := (hw (h + 1) (by omega)).1
    rw [if_neg c0]
    simp (disch := omega) only [Option.bind_some, okZ_b, okZ_0, okZ_1, retZ_b, retZ_0, retZ_1, bI_0, bI_1, lgc, jn, ldI_n, ldJ_n, stI_n, stJ_n, stB_n, stZ_n, stZ_0, stZ_1, pI_n, pJ_n, pN_n, pZ_b, pZ_0, pZ_1, Nat.reduceAdd, k1, nI_add, pk_mul, n_lt, n_le, n_eq, dv_n, rm_n, n_sub, n_neg, n_m1, n_ne_m1, m1_ne_n, n_m1_lt, m1_lt_n, m1_le_n, n_le_m1, m1_add, n_and, n_or, n_shl, n_shr, k3]
    by_cases c1 : (tk T (h + 1)).1 = 3
    · rw [if_pos c1]
      simp only [l_eq (hc _ (show h + 1 < T.length by omega) c1) (show 46 < 2 ^ 63 by decide)]
      by_cases c2 : (tk T (h + 1)).2.2.2 = 46
      · rw [if_pos c2, decide_eq_true ⟨by omega, c1, c2⟩]; rfl
      · rw [if_neg c2, decide_eq_false (fun q => c2 q.2.2)]; rfl
    · rw [if_neg c1, decide_eq_false (fun q => c1 q.2.1)]; rfl
