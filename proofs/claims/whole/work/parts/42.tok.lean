/-! texts cut into tokens -/
def isBl (c : Nat) : Bool := c == 10 || c == 32
def isLe (c : Nat) : Bool := decide (97 ≤ c) && decide (c ≤ 122)
def isDi (c : Nat) : Bool := decide (48 ≤ c) && decide (c ≤ 57)
def isSg (c : Nat) : Bool := c == 38 || c == 40 || c == 41 || c == 42 || c == 43 || c == 44 || c == 45 || c == 46 || c == 58 || c == 59 || c == 60 || c == 61 || c == 124
/-- the first place from i on, before n, where P doesn't hold -/
def runE (P : Nat → Bool) (B : Nat → Nat) (n : Nat) : Nat → Nat → Nat
  | 0, i => i
  | k + 1, i => if i < n ∧ P (B i) = true then runE P B n k (i + 1) else i
/-- the end of a run that begins at i -/
def rE (P : Nat → Bool) (B : Nat → Nat) (n i : Nat) : Nat := runE P B n (n - i) i
theorem rE_stop {P : Nat → Bool} {B : Nat → Nat} {n i : Nat} (h : ¬ (i < n ∧ P (B i) = true)) : rE P B n i = i := by
  unfold rE
  cases hk : n - i with
  | zero => rfl
  | succ k => rw [runE, if_neg h]
theorem rE_step {P : Nat → Bool} {B : Nat → Nat} {n i : Nat} (h : i < n) (hp : P (B i) = true) : rE P B n i = rE P B n (i + 1) := by
  unfold rE
  obtain ⟨k, hk⟩ : ∃ k, n - i = k + 1 := ⟨n - i - 1, by omega⟩
  rw [hk, runE, if_pos ⟨h, hp⟩, show n - (i + 1) = k by omega]
theorem runE_ge (P : Nat → Bool) (B : Nat → Nat) (n : Nat) : ∀ k i, i ≤ runE P B n k i
  | 0, i => Nat.le_refl i
  | k + 1, i => by
    rw [runE]
    split
    · exact Nat.le_trans (Nat.le_succ i) (runE_ge P B n k (i + 1))
    · exact Nat.le_refl i
theorem runE_le (P : Nat → Bool) (B : Nat → Nat) (n : Nat) : ∀ k i, i ≤ n → runE P B n k i ≤ n
  | 0, i, h => h
  | k + 1, i, h => by
    rw [runE]
    split
    · rename_i h1; exact runE_le P B n k (i + 1) h1.1
    · exact h
theorem rE_ge {P : Nat → Bool} {B : Nat → Nat} {n i : Nat} : i ≤ rE P B n i := runE_ge P B n _ i
theorem rE_le {P : Nat → Bool} {B : Nat → Nat} {n i : Nat} (h : i ≤ n) : rE P B n i ≤ n := runE_le P B n _ i h
theorem rE_all {P : Nat → Bool} {B : Nat → Nat} {n : Nat} : ∀ {i j : Nat}, i ≤ j → j < rE P B n i → P (B j) = true := by
  have key : ∀ d i j, j - i = d → i ≤ j → j < rE P B n i → P (B j) = true := by
    intro d
    induction d with
    | zero =>
      intro i j hd hij hj
      have e : i = j := by omega
      subst e
      by_cases h : i < n ∧ P (B i) = true
      · exact h.2
      · rw [rE_stop h] at hj; omega
    | succ d ih =>
      intro i j hd hij hj
      by_cases h : i < n ∧ P (B i) = true
      · rw [rE_step h.1 h.2] at hj
        exact ih (i + 1) j (by omega) (by omega) hj
      · rw [rE_stop h] at hj; omega
  intro i j h1 h2
  exact key (j - i) i j rfl h1 h2
theorem rE_end {P : Nat → Bool} {B : Nat → Nat} {n : Nat} : ∀ {i : Nat}, i ≤ n → ¬ (rE P B n i < n ∧ P (B (rE P B n i)) = true) := by
  have key : ∀ d i, n - i = d → i ≤ n → ¬ (rE P B n i < n ∧ P (B (rE P B n i)) = true) := by
    intro d
    induction d with
    | zero =>
      intro i hd hi h
      rw [rE_stop (by omega)] at h; omega
    | succ d ih =>
      intro i hd hi
      by_cases h : i < n ∧ P (B i) = true
      · rw [rE_step h.1 h.2]
        exact ih (i + 1) (by omega) (by omega)
      · rw [rE_stop h]; exact h
  intro i h
  exact key (n - i) i rfl h
/-- the number that a run of signs spells: base b, each sign's number less z -/
def spell (b z : Nat) (B : Nat → Nat) (s : Nat) : Nat → Nat
  | 0 => 0
  | k + 1 => b * spell b z B s k + (B (s + k) - z)
-- tokens: kind (0 end, 1 word, 2 number, 3 sign, 4 none), start, end, content
abbrev Tok : Type := Nat × Nat × Nat × Nat
def tokAt (B : Nat → Nat) (n i : Nat) : Tok :=
  if isLe (B i) = true then (if rE isLe B n i - i ≤ 8 then 1 else 4, i, rE isLe B n i, spell 32 96 B i (rE isLe B n i - i))
  else if isDi (B i) = true then (if rE isDi B n i - i ≤ 4 then 2 else 4, i, rE isDi B n i, spell 10 48 B i (rE isDi B n i - i))
  else (if isSg (B i) = true then 3 else 4, i, i + 1, B i)
theorem tokAt_end {B : Nat → Nat} {n i : Nat} (h : i < n) : i < (tokAt B n i).2.2.1 ∧ (tokAt B n i).2.2.1 ≤ n := by
  unfold tokAt
  split
  · rename_i h1
    constructor
    · show i < rE isLe B n i
      rw [rE_step h h1]; exact Nat.lt_of_lt_of_le (Nat.lt_succ_self i) rE_ge
    · exact rE_le (Nat.le_of_lt h)
  · split
    · rename_i h1
      constructor
      · show i < rE isDi B n i
        rw [rE_step h h1]; exact Nat.lt_of_lt_of_le (Nat.lt_succ_self i) rE_ge
      · exact rE_le (Nat.le_of_lt h)
    · exact ⟨Nat.lt_succ_self i, h⟩
/-- all tokens from a place on, the end too -/
def toksK (B : Nat → Nat) (n : Nat) : Nat → Nat → List Tok
  | 0, _ => [(0, n, n, 0)]
  | k + 1, i => if n ≤ i then [(0, n, n, 0)] else if isBl (B i) = true then toksK B n k (i + 1) else tokAt B n i :: toksK B n k (tokAt B n i).2.2.1
theorem toksK_0 {B : Nat → Nat} {n i : Nat} : toksK B n 0 i = [(0, n, n, 0)] := rfl
theorem toksK_s {B : Nat → Nat} {n k i : Nat} : toksK B n (k + 1) i = if n ≤ i then [(0, n, n, 0)] else if isBl (B i) = true then toksK B n k (i + 1) else tokAt B n i :: toksK B n k (tokAt B n i).2.2.1 := rfl
theorem toksK_more (B : Nat → Nat) (n : Nat) : ∀ k i, n - i ≤ k → toksK B n k i = toksK B n (n - i) i := by
  have key : ∀ k k' i, n - i ≤ k → n - i ≤ k' → toksK B n k i = toksK B n k' i := by
    intro k
    induction k with
    | zero =>
      intro k' i h h'
      cases k' with
      | zero => rfl
      | succ k' => rw [toksK_0, toksK_s, if_pos (by omega)]
    | succ k ih =>
      intro k' i h h'
      cases k' with
      | zero => rw [toksK_s, if_pos (by omega), toksK_0]
      | succ k' =>
        rw [toksK_s, toksK_s]
        by_cases hn : n ≤ i
        · rw [if_pos hn, if_pos hn]
        · rw [if_neg hn, if_neg hn]
          by_cases hb : isBl (B i) = true
          · rw [if_pos hb, if_pos hb]; exact ih k' (i + 1) (by omega) (by omega)
          · rw [if_neg hb, if_neg hb]
            have he := (tokAt_end (B := B) (show i < n by omega)).1
            rw [ih k' _ (by omega) (by omega)]
  intro k i h
  exact key k (n - i) i h (Nat.le_refl _)
def toks (B : Nat → Nat) (n i : Nat) : List Tok := toksK B n (n - i) i
theorem toks_end {B : Nat → Nat} {n i : Nat} (h : n ≤ i) : toks B n i = [(0, n, n, 0)] := by
  unfold toks
  rw [show n - i = 0 by omega, toksK_0]
theorem toks_bl {B : Nat → Nat} {n i : Nat} (h : i < n) (hb : isBl (B i) = true) : toks B n i = toks B n (i + 1) := by
  unfold toks
  obtain ⟨k, hk⟩ : ∃ k, n - i = k + 1 := ⟨n - i - 1, by omega⟩
  rw [hk, toksK_s, if_neg (by omega), if_pos hb, toksK_more B n k (i + 1) (by omega)]
theorem toks_tok {B : Nat → Nat} {n i : Nat} (h : i < n) (hb : ¬ isBl (B i) = true) : toks B n i = tokAt B n i :: toks B n (tokAt B n i).2.2.1 := by
  have he := (tokAt_end (B := B) h).1
  unfold toks
  obtain ⟨k, hk⟩ : ∃ k, n - i = k + 1 := ⟨n - i - 1, by omega⟩
  rw [hk, toksK_s, if_neg (by omega), if_neg hb, toksK_more B n k _ (by omega)]
theorem toks_len (B : Nat → Nat) (n : Nat) : ∀ d i, n - i = d → (toks B n i).length ≤ d + 1 ∧ 1 ≤ (toks B n i).length := by
  intro d
  induction d using Nat.strongRecOn with
  | _ d ih =>
    intro i hd
    by_cases hn : n ≤ i
    · rw [toks_end hn]; simp
    · by_cases hb : isBl (B i) = true
      · rw [toks_bl (by omega) hb]
        have := ih (d - 1) (by omega) (i + 1) (by omega)
        omega
      · rw [toks_tok (by omega) hb]
        have he := tokAt_end (B := B) (show i < n by omega)
        have := ih (n - (tokAt B n i).2.2.1) (by omega) _ rfl
        simp only [List.length_cons]
        omega
