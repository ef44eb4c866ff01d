theorem sm31 : ∀ k, k < 32 → ((nI k &&& 31).toBitVec.smod 32).toNat = k := by decide +kernel
theorem su31 : ∀ k, k < 32 → (((nI k).toUInt32 &&& Int32.toUInt32 31).toBitVec % 32).toNat = k := by decide +kernel
theorem n_tn {n : Nat} (h : n < 2 ^ 32) : (nI n).toBitVec.toNat = n := pk_tn h
theorem n_ofn (x : Int32) : x = nI x.toBitVec.toNat := by
  apply Int32.toBitVec_inj.mp
  simp [nI]
theorem n_inj {a b : Nat} (ha : a < 2 ^ 32) (hb : b < 2 ^ 32) (h : nI a = nI b) : a = b := by
  rw [← n_tn ha, ← n_tn hb, h]
theorem n_shl (a : Nat) {k : Nat} (hk : k < 32) : nI a <<< (nI k &&& 31) = nI (a * 2 ^ k) := by
  apply Int32.toBitVec_inj.mp
  apply BitVec.eq_of_toNat_eq
  rw [pk_shl (nI a) (nI k &&& 31) k (sm31 k hk)]
  simp [nI, Nat.mod_mul_mod]
theorem n_shr {a k : Nat} (ha : a < 2 ^ 32) (hk : k < 32) : shr (nI a) (nI k) = nI (a / 2 ^ k) := pk_ushrN ha (nI k) k (su31 k hk)
theorem n_sshr {a k : Nat} (ha : a < 2 ^ 31) (hk : k < 32) : nI a >>> (nI k &&& 31) = nI (a / 2 ^ k) := pk_shrN ha (nI k &&& 31) k (sm31 k hk)
theorem lgc (x y : Int64) : (lg_cmp x y = nI 0) = (x = y) := by
  unfold lg_cmp
  have h1 : ¬ ((1 : Int32) = nI 0) := by decide +kernel
  have h2 : ¬ ((-1 : Int32) = nI 0) := by decide +kernel
  have h0 : (0 : Int32) = nI 0 := by decide +kernel
  by_cases hg : x > y
  · have hne : ¬ x = y := fun e => by
      rw [e] at hg
      exact absurd (Int64.lt_iff_toInt_lt.mp hg) (by omega)
    simp [hg, h1, hne]
  · by_cases he : x = y
    · subst he
      simp [hg, h0]
    · simp [hg, he, h2]
theorem l_eq {a b : Nat} (ha : a < 2 ^ 63) (hb : b < 2 ^ 63) : (lN a = lN b) = (a = b) := propext (pk_lEQ ha hb)
theorem l_of {a : Nat} (h : a < 2 ^ 31) : (nI a).toInt64 = lN a := nI_l h
theorem l_to (a : Nat) : (lN a).toInt32 = nI a := lN_i a
theorem l_sub {a b : Nat} (h : b ≤ a) : lN a - lN b = lN (a - b) := lN_sub h
/-- a bit of a number, as an int's -/
theorem bitI {a k : Nat} (ha : a < 2 ^ 32) (hk : k < 32) : shr (nI a) (nI k) &&& nI 1 = bI (a.testBit k) := by
  rw [n_shr ha hk, n_and, Nat.and_one_is_mod, Nat.testBit_eq_decide_div_mod_eq]
  have h2 : a / 2 ^ k % 2 = 0 ∨ a / 2 ^ k % 2 = 1 := by omega
  rcases h2 with h | h <;> simp [h, bI]
theorem bitS {a k : Nat} (ha : a < 2 ^ 31) (hk : k < 32) : nI a >>> (nI k &&& 31) &&& nI 1 = bI (a.testBit k) := by
  rw [n_sshr ha hk, n_and, Nat.and_one_is_mod, Nat.testBit_eq_decide_div_mod_eq]
  have h2 : a / 2 ^ k % 2 = 0 ∨ a / 2 ^ k % 2 = 1 := by omega
  rcases h2 with h | h <;> simp [h, bI]
/-- any int's bit, by the shift with sign too -/
theorem bitS' (x : Int32) {k : Nat} (hk : k < 32) : x >>> (nI k &&& 31) &&& nI 1 = bI (x.toBitVec.getLsbD k) := by
  have key : ∀ (y : BitVec 32), (y.sshiftRight k) &&& 1#32 = if y.getLsbD k then 1#32 else 0#32 := by
    intro y
    apply BitVec.eq_of_getLsbD_eq
    intro i hi
    simp only [BitVec.getLsbD_and, BitVec.getLsbD_sshiftRight]
    by_cases h0 : i = 0
    · subst h0
      cases hb : y.getLsbD k <;> simp [hk] at hb ⊢ <;> simp [hb]
    · have : (1#32).getLsbD i = false := by
        simp [BitVec.getLsbD_one, h0]
      rw [this, Bool.and_false]
      cases y.getLsbD k <;> simp [BitVec.getLsbD_one, h0]
  apply Int32.toBitVec_inj.mp
  rw [Int32.toBitVec_and]
  have e1 : (x >>> (nI k &&& 31)).toBitVec = x.toBitVec.sshiftRight k := by
    rw [Int32.toBitVec_shiftRight]
    show BitVec.sshiftRight _ _ = _
    rw [sm31 k hk]
  rw [e1]
  have e2 : (nI 1).toBitVec = 1#32 := by decide +kernel
  rw [e2, key]
  cases x.toBitVec.getLsbD k <;> decide +kernel
theorem n_lsb {a k : Nat} (ha : a < 2 ^ 32) : (nI a).toBitVec.getLsbD k = a.testBit k := by
  rw [BitVec.getLsbD, n_tn ha]
theorem bit_or (a b k : Nat) : (a ||| b).testBit k = (a.testBit k || b.testBit k) := Nat.testBit_or a b k
theorem or_lt {a b k : Nat} (ha : a < 2 ^ k) (hb : b < 2 ^ k) : a ||| b < 2 ^ k := Nat.or_lt_two_pow ha hb
theorem tb_lt {a k i : Nat} (ha : a < 2 ^ k) (h : a.testBit i = true) : i < k := by
  refine Nat.not_le.mp fun hk => ?_
  have := Nat.testBit_lt_two_pow (Nat.lt_of_lt_of_le ha (Nat.pow_le_pow_right (by decide) hk))
  rw [this] at h
  cases h
theorem nat_ext {a b : Nat} (h : ∀ i, a.testBit i = b.testBit i) : a = b := Nat.eq_of_testBit_eq h
theorem memR {M M' : Mm} {a : Nat} {r : Nat → Int32} (h : M'.1 a = r) (ho : ∀ b, b ≠ a → M'.1 b = M.1 b) (h2 : M'.2 = M.2) : M' = (upR M.1 a r, M.2) := by
  refine Prod.ext ?_ h2
  funext b
  by_cases hb : b = a
  · subst hb
    show M'.1 b = upR M.1 b r b
    rw [upR_s, h]
  · show M'.1 b = upR M.1 a r b
    rw [upR_n hb, ho b hb]
theorem mR1 (M : Mm) (a : Nat) (r : Nat → Int32) (b : Nat) : ((upR M.1 a r, M.2) : Mm).1 b = if b = a then r else M.1 b := rfl
/-- Arrays.fill -/
theorem fill_loop (a : Nat) (v : Int32) {n : Nat} (hlen : len a = n) (hn : n < 2 ^ 31) : ∀ (k i : Nat) (M : Mm), i ≤ n → n < i + k → L_J7_fill_53178_5 (nI n) a v k (nI i) M = some (upR M.1 a (fun j => if i ≤ j ∧ j < n then v else M.1 a j), M.2) := by
  intro k
  induction k with
  | zero => intro i M h1 h2; omega
  | succ k ih =>
    intro i M h1 h2
    rw [L_J7_fill_53178_5, hlen]
    simp (disch := omega) only [n_le]
    by_cases hi : n ≤ i
    · have : i = n := by omega
      subst this
      rw [if_pos (Nat.le_refl _)]
      refine congrArg some (memR ?_ (fun b hb => rfl) rfl)
      funext j
      rw [if_neg (by omega)]
    · rw [if_neg hi, stI_n (by omega) (by omega)]
      simp only [Option.bind_some, nI_add]
      rw [ih (i + 1) _ (by omega) (by omega)]
      refine congrArg some (memR ?_ (fun b hb => ?_) rfl)
      · rw [mR1, if_pos rfl]
        funext j
        rw [up1, if_pos rfl, upd_a]
        by_cases hj : j = i
        · subst hj
          rw [if_neg (by omega), if_pos rfl, if_pos (by omega)]
        · rw [if_neg hj]
          by_cases h3 : i + 1 ≤ j ∧ j < n
          · rw [if_pos h3, if_pos (by omega)]
          · rw [if_neg h3, if_neg (by omega)]
      · rw [mR1, if_neg hb, up1, if_neg hb]
theorem fill_n (N a : Nat) (v : Int32) (M : Mm) {n : Nat} (hlen : len a = n) (hn : n < 2 ^ 31) (hN : n < N) : D_J7_fill_53178 N a v M = some (upR M.1 a (fun j => if j < n then v else M.1 a j), M.2) := by
  unfold D_J7_fill_53178
  rw [show Int32.ofNat (len a) = nI n by rw [hlen]; rfl, Option.bind_some, fill_loop a v hlen hn N 0 M (by omega) (by omega)]
  refine congrArg some (memR ?_ (fun b hb => ?_) rfl)
  · rw [mR1, if_pos rfl]
    funext j
    simp
  · rw [mR1, if_neg hb]
