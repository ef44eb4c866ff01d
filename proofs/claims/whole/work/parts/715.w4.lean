-- which occs a production has, which can be told
def W4 (G : Gr) : Prop := ∀ p, p < G.i 0 1 → ∀ i, (G.i 8 p).testBit i = (decide (i / 8 < G.i 6 p) && decide (i % 8 < G.i 4 (G.i 7 (4 * p + i / 8)) + G.i 5 (G.i 7 (4 * p + i / 8)))) ∧
  (G.i 9 p).testBit i = (decide (i / 8 < G.i 6 p) && (if i / 8 = 0 then decide (G.i 4 (G.i 7 (4 * p)) ≤ i % 8 ∧ i % 8 < G.i 4 (G.i 7 (4 * p)) + G.i 5 (G.i 7 (4 * p))) else decide (i % 8 < G.i 4 (G.i 7 (4 * p + i / 8)))))
def W5 (G : Gr) : Prop := W4 G ∧ ∀ p, p < G.i 0 1 → ∀ k, k < G.i 6 p → G.i 7 (4 * p + k) + 1 < G.i 0 0
theorem W5_att {G : Gr} {w : Nat} {inn : Bool} (h : W5 G) : W5 (gAtt G (G.i 0 0 - 1) w inn) := by
  obtain ⟨h4, h5⟩ := h
  refine ⟨fun p hp i => ?_, fun p hp k hk => ?_⟩
  · rw [gAtt_i0] at hp
    have q := h4 p hp i
    have n4 : ∀ t, t + 1 < G.i 0 0 → (gAtt G (G.i 0 0 - 1) w inn).i 4 t = G.i 4 t := fun t ht => by rw [gAtt_4, if_neg (by omega)]
    have n5 : ∀ t, t + 1 < G.i 0 0 → (gAtt G (G.i 0 0 - 1) w inn).i 5 t = G.i 5 t := fun t ht => by rw [gAtt_5, if_neg (by omega)]
    rw [gAtt_ik _ _ _ _ 8 _ (by omega) (by omega), gAtt_ik _ _ _ _ 9 _ (by omega) (by omega), gAtt_ik _ _ _ _ 6 _ (by omega) (by omega), gAtt_ik _ _ _ _ 7 _ (by omega) (by omega), gAtt_ik _ _ _ _ 7 _ (by omega) (by omega)]
    by_cases c : i / 8 < G.i 6 p
    · have h50 : G.i 7 (4 * p) + 1 < G.i 0 0 := h5 p hp 0 (by omega)
      rw [n4 _ (h5 p hp _ c), n5 _ (h5 p hp _ c), n4 _ h50, n5 _ h50]
      exact q
    · simp only [decide_eq_false c, Bool.false_and] at q ⊢
      exact q
  · rw [gAtt_i0] at hp ⊢
    rw [gAtt_ik _ _ _ _ _ _ (by omega) (by omega)] at hk ⊢
    exact h5 p hp k hk
theorem W5_sym {G : Gr} {w : Nat} (h0 : W0 G) (h : W4 G) : W5 (gSym G w) := by
  have hk : ∀ k j, ¬ k = 0 → ¬ k = 4 → ¬ k = 5 → (gSym G w).i k j = G.i k j := fun k j q1 q2 q3 => by rw [gSym_i, if_neg (by omega), if_neg (by omega)]
  have hnp : (gSym G w).i 0 1 = G.i 0 1 := by rw [gSym_i, if_neg (by omega), if_neg (by omega)]
  have h45 : ∀ k t, (k = 4 ∨ k = 5) → t < G.i 0 0 → (gSym G w).i k t = G.i k t := fun k t q1 q2 => by rw [gSym_i, if_neg (by omega), if_neg (by omega)]
  refine ⟨fun p hp i => ?_, fun p hp k hk2 => ?_⟩
  · rw [hnp] at hp
    have q := h p hp i
    rw [hk 8 _ (by omega) (by omega) (by omega), hk 9 _ (by omega) (by omega) (by omega), hk 6 _ (by omega) (by omega) (by omega), hk 7 _ (by omega) (by omega) (by omega), hk 7 _ (by omega) (by omega) (by omega)]
    by_cases c : i / 8 < G.i 6 p
    · have s1 := (h0.2.2.2.2 p hp).2.2 _ c
      have s2 : G.i 7 (4 * p) < G.i 0 0 := (h0.2.2.2.2 p hp).2.2 0 (by omega)
      rw [h45 4 _ (Or.inl rfl) s1, h45 5 _ (Or.inr rfl) s1, h45 4 _ (Or.inl rfl) s2, h45 5 _ (Or.inr rfl) s2]
      exact q
    · simp only [decide_eq_false c, Bool.false_and] at q ⊢
      exact q
  · rw [hnp] at hp
    rw [hk _ _ (by omega) (by omega) (by omega)] at hk2 ⊢
    have s1 := (h0.2.2.2.2 p hp).2.2 k hk2
    rw [gSym_i, if_pos ⟨rfl, rfl⟩]; omega
theorem W4_pro {G : Gr} {w : Nat} (h : W4 G) : W4 (gPro G w) := by
  have hk : ∀ k j, (k = 4 ∨ k = 5 ∨ k = 7 ∨ (¬ j = G.i 0 1 ∧ ¬ k = 0)) → (gPro G w).i k j = G.i k j := fun k j q => by rw [gPro_i, if_neg (by omega), if_neg (by omega)]
  intro p hp i
  rw [gPro_i, if_pos ⟨rfl, rfl⟩] at hp
  rw [hk 4 _ (by omega), hk 5 _ (by omega), hk 7 _ (by omega), hk 7 _ (by omega), hk 4 _ (by omega), hk 5 _ (by omega)]
  by_cases e : p = G.i 0 1
  · subst e
    have z : ∀ k, (k = 6 ∨ k = 8 ∨ k = 9) → (gPro G w).i k (G.i 0 1) = 0 := fun k q => by rw [gPro_i, if_neg (by omega), if_pos (by omega)]
    rw [z 8 (by omega), z 9 (by omega), z 6 (by omega)]
    have c : ¬ i / 8 < 0 := by omega
    simp only [decide_eq_false c, Bool.false_and, Nat.zero_testBit, and_self]
  · rw [hk 8 _ (by omega), hk 9 _ (by omega), hk 6 _ (by omega)]
    exact h p (by omega) i
theorem inB_bit (G : Gr) (s j : Nat) : (inB G s).testBit j = decide (j < G.i 4 s) := Nat.testBit_two_pow_sub_one _ _
theorem ouB_bit (G : Gr) (s j : Nat) : (ouB G s).testBit j = decide (G.i 4 s ≤ j ∧ j < G.i 4 s + G.i 5 s) := by
  unfold ouB
  rw [Nat.testBit_mul_two_pow, Nat.testBit_two_pow_sub_one]
  by_cases c : G.i 4 s ≤ j
  · rw [decide_eq_true c, Bool.true_and]
    exact decide_eq_decide.mpr (by omega)
  · rw [decide_eq_false c, Bool.false_and, decide_eq_false (fun q => c q.1)]
theorem W4_sid {G : Gr} {p s : Nat} (h0 : W0 G) (h : W4 G) (hp : p < G.i 0 1) (hs : s < G.i 0 0) (hd : G.i 6 p < 4) : W4 (gSid G p s) := by
  have hk : ∀ k j, ¬ k = 6 → ¬ k = 7 → ¬ k = 8 → ¬ k = 9 → (gSid G p s).i k j = G.i k j := fun k j q1 q2 q3 q4 => gSid_0 _ _ _ _ _ q1 q2 q3 q4
  obtain ⟨b1, b2, _, _⟩ := h0.2.2.2.1 s hs
  have h8 : ∀ q, (gSid G p s).i 8 q = if q = p then G.i 8 p ||| (inB G s ||| ouB G s) * 2 ^ (8 * G.i 6 p) else G.i 8 q := fun q => by unfold gSid; simp only [sI_i, Nat.reduceEqDiff, true_and, false_and, if_false]
  have h9 : ∀ q, (gSid G p s).i 9 q = if q = p then G.i 9 p ||| (if G.i 6 p = 0 then ouB G s else inB G s) * 2 ^ (8 * G.i 6 p) else G.i 9 q := fun q => by unfold gSid; simp only [sI_i, Nat.reduceEqDiff, true_and, false_and, if_false]
  intro q hq i
  rw [hk 0 1 (by omega) (by omega) (by omega) (by omega)] at hq
  obtain ⟨u, t⟩ := h q hq i
  rw [h8, h9, gSid_6, gSid_7, gSid_7, hk 4 _ (by omega) (by omega) (by omega) (by omega), hk 5 _ (by omega) (by omega) (by omega) (by omega), hk 4 _ (by omega) (by omega) (by omega) (by omega), hk 5 _ (by omega) (by omega) (by omega) (by omega)]
  by_cases e : q = p
  · subst e
    simp only [if_true]
    rw [Nat.testBit_or, Nat.testBit_or, u, t, Nat.testBit_mul_two_pow, Nat.testBit_mul_two_pow, Nat.testBit_or]
    by_cases c : i / 8 < G.i 6 q
    · rw [decide_eq_false (show ¬ 8 * G.i 6 q ≤ i by omega), Bool.false_and, Bool.false_and, Bool.or_false, Bool.or_false, decide_eq_true c, decide_eq_true (show i / 8 < G.i 6 q + 1 by omega), if_neg (show ¬ 4 * q + i / 8 = 4 * q + G.i 6 q by omega), if_neg (show ¬ 4 * q = 4 * q + G.i 6 q by omega)]
      exact ⟨rfl, rfl⟩
    · rw [decide_eq_false c, Bool.false_and, Bool.false_and, Bool.false_or, Bool.false_or, decide_eq_true (show 8 * G.i 6 q ≤ i by omega), Bool.true_and, Bool.true_and]
      by_cases c2 : i / 8 = G.i 6 q
      · rw [decide_eq_true (show i / 8 < G.i 6 q + 1 by omega), if_pos (by omega), show i - 8 * G.i 6 q = i % 8 by omega, inB_bit, ouB_bit]
        refine ⟨?_, ?_⟩
        · rw [← Bool.decide_or, Bool.true_and]
          exact decide_eq_decide.mpr (by omega)
        · rw [Bool.true_and]
          by_cases z : G.i 6 q = 0
          · rw [if_pos z, if_pos (by omega), ouB_bit, if_pos (by omega)]
          · rw [if_neg z, if_neg (by omega), inB_bit]
      · rw [decide_eq_false (show ¬ i / 8 < G.i 6 q + 1 by omega), Bool.false_and, Bool.false_and, inB_bit, ouB_bit, decide_eq_false (by omega), decide_eq_false (by omega)]
        refine ⟨rfl, ?_⟩
        split
        · rw [ouB_bit]; exact decide_eq_false (by omega)
        · rw [inB_bit]; exact decide_eq_false (by omega)
  · have hsq := (h0.2.2.2.2 q hq).2.1
    rw [if_neg e, if_neg e, if_neg e]
    by_cases c : i / 8 < G.i 6 q
    · rw [if_neg (show ¬ 4 * q + i / 8 = 4 * p + G.i 6 p by omega), if_neg (show ¬ 4 * q = 4 * p + G.i 6 p by omega)]; exact ⟨u, t⟩
    · simp only [decide_eq_false c, Bool.false_and] at u t ⊢
      exact ⟨u, t⟩
