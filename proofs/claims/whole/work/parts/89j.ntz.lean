-- the lowest bit
theorem tb_split {n a b : Nat} (hb : b < 2 ^ n) (j : Nat) : (2 ^ n * a + b).testBit j = if j < n then b.testBit j else a.testBit (j - n) := Nat.testBit_two_pow_mul_add a hb j
theorem low_ex : ∀ (n q : Nat), q < 2 ^ n → ¬ q = 0 → ∃ z r, z < n ∧ q = 2 ^ (z + 1) * r + 2 ^ z
  | 0, q, h, h0 => by
    have : (2 : Nat) ^ 0 = 1 := rfl
    omega
  | n + 1, q, h, h0 => by
    by_cases e : q % 2 = 1
    · exact ⟨0, q / 2, by omega, by rw [show (2 : Nat) ^ (0 + 1) = 2 from rfl, show (2 : Nat) ^ 0 = 1 from rfl]; omega⟩
    · obtain ⟨z, r, h1, h2⟩ := low_ex n (q / 2) (by rw [Nat.pow_succ] at h; omega) (by omega)
      refine ⟨z + 1, r, by omega, ?_⟩
      have p1 : 2 ^ (z + 1 + 1) * r = 2 ^ (z + 1) * r * 2 := by rw [Nat.pow_succ 2 (z + 1), Nat.mul_right_comm]
      have p2 : 2 ^ (z + 1) = 2 ^ z * 2 := Nat.pow_succ 2 z
      rw [p1]
      generalize 2 ^ (z + 1) * r = X at h2 ⊢
      omega
/-- where the lowest bit is -/
def tzT (q : Nat) : Nat := fb (fun o => q.testBit o) 32
theorem low_of {q : Nat} (h : q < 2 ^ 32) (h0 : ¬ q = 0) : tzT q < 32 ∧ q.testBit (tzT q) = true ∧ (∀ j, (q &&& (q - 1)).testBit j = (q.testBit j && !decide (j = tzT q))) ∧ andn (q - 1) q = 2 ^ tzT q - 1 := by
  obtain ⟨z, r, h1, h2⟩ := low_ex 32 q h h0
  have hz : 0 < 2 ^ z := Nat.pow_pos (by decide)
  have lt : 2 ^ z < 2 ^ (z + 1) := Nat.pow_lt_pow_right (by decide) (by omega)
  have bq : ∀ j, q.testBit j = if j < z + 1 then (2 ^ z).testBit j else r.testBit (j - (z + 1)) := fun j => by rw [h2, tb_split lt]
  have b1 : ∀ j, (q - 1).testBit j = if j < z + 1 then (2 ^ z - 1).testBit j else r.testBit (j - (z + 1)) := fun j => by
    rw [show q - 1 = 2 ^ (z + 1) * r + (2 ^ z - 1) by omega, tb_split (by omega)]
  have pz : ∀ j, (2 ^ z).testBit j = decide (j = z) := fun j => by
    by_cases c : j = z
    · rw [decide_eq_true c]; exact (pow_bit z j).2 c
    · rw [decide_eq_false c]
      cases x : (2 ^ z).testBit j
      · rfl
      · exact absurd ((pow_bit z j).1 x) c
  have pm : ∀ j, (2 ^ z - 1).testBit j = decide (j < z) := fun j => Nat.testBit_two_pow_sub_one z j
  have ez : tzT q = z := fb_eq (by omega) (fun j hj => by rw [bq, if_pos (by omega), pz, decide_eq_false (by omega)]) (Or.inr (by rw [bq, if_pos (by omega), pz, decide_eq_true rfl]))
  rw [ez]
  refine ⟨h1, by rw [bq, if_pos (by omega), pz, decide_eq_true rfl], fun j => ?_, nat_ext fun j => ?_⟩
  · rw [Nat.testBit_and, bq, b1, pz, pm]
    by_cases c : j < z + 1
    · rw [if_pos c, if_pos c]
      by_cases d : j = z
      · rw [decide_eq_true d, decide_eq_false (by omega)]; rfl
      · rw [decide_eq_false d]; rfl
    · rw [if_neg c, if_neg c, Bool.and_self, decide_eq_false (by omega)]; simp
  · rw [andn_b, bq, b1, pz, pm]
    by_cases c : j < z + 1
    · rw [if_pos c, if_pos c]
      by_cases d : j = z
      · rw [decide_eq_true d, decide_eq_false (by omega)]; rfl
      · rw [decide_eq_false d, decide_eq_true (by omega)]; rfl
    · rw [if_neg c, if_neg c, decide_eq_false (by omega)]
      cases r.testBit (j - (z + 1)) <;> rfl
def ntzF (x : Int32) : Option Int32 := (if nI 0 < x then ((if x ≤ (nI 65536) then (some (x, (nI 1))) else ((some ((nI 1) + (nI 16))).bind fun l1_7 => (some ((shr x (nI 16)))).bind fun l0_8 => (some (l0_8, l1_7)))).bind fun p34 => ((if p34.1 ≤ (nI 256) then (some (p34.1, p34.2)) else ((some (p34.2 + (nI 8))).bind fun l1_6 => (some ((shr p34.1 (nI 8)))).bind fun l0_7 => (some (l0_7, l1_6)))).bind fun p49 => ((if p49.1 ≤ (nI 16) then (some (p49.1, p49.2)) else ((some (p49.2 + (nI 4))).bind fun l1_5 => (some ((shr p49.1 (nI 4)))).bind fun l0_6 => (some (l0_6, l1_5)))).bind fun p62 => (if p62.1 ≤ (nI 4) then (some (p62.2 + (shr p62.1 (nI 1)))) else ((some (p62.2 + (nI 2))).bind fun l1_4 => (some ((shr p62.1 (nI 2)))).bind fun l0_5 => (some (l1_4 + (shr l0_5 (nI 1))))))))) else (some (x &&& (nI 32))))
theorem ntz_all : ∀ k, k < 32 → ntzF (nI (2 ^ k - 1)) = some (nI k) := by decide +kernel
theorem s_ntz {q : Nat} (N : Nat) (M : Mm) (h : q < 2 ^ 32) (h0 : ¬ q = 0) : D_J6_numberOfTrailingZeros_0f7a4 N (nI q) M = some (nI (tzT q)) := by
  obtain ⟨a1, a2, a3, a4⟩ := low_of h h0
  have e : ((nI q ^^^ m1) &&& (nI q - nI 1)) = nI (2 ^ tzT q - 1) := by
    rw [n_sub (by omega), Int32.and_comm, n_andn (by omega), a4]
  show (some ((nI q ^^^ m1) &&& (nI q - nI 1))).bind ntzF = _
  rw [e, Option.bind_some]
  exact ntz_all _ a1
