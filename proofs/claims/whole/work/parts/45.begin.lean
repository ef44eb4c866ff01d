/-! words by two bases -/
def okW : Nat → Nat → Prop
  | 0, c => c = 0
  | k + 1, c => c = 0 ∨ (1 ≤ c % 32 ∧ c % 32 ≤ 26 ∧ okW k (c / 32))
def conv : Nat → Nat → Nat
  | 0, _ => 0
  | k + 1, c => 27 * conv k (c / 32) + c % 32
theorem okW_0 : ∀ k, okW k 0
  | 0 => rfl
  | _ + 1 => Or.inl rfl
theorem conv_0 : ∀ k, conv k 0 = 0
  | 0 => rfl
  | k + 1 => by rw [conv, Nat.zero_div, conv_0 k]
theorem conv_pos : ∀ k c, okW k c → c ≠ 0 → conv k c ≠ 0
  | 0, c, h, h0 => absurd h h0
  | k + 1, c, h, h0 => by
    rcases h with h | ⟨h1, h2, -⟩
    · exact absurd h h0
    · rw [conv]; omega
theorem conv_inj : ∀ k a b, okW k a → okW k b → conv k a = conv k b → a = b
  | 0, a, b, ha, hb, _ => by rw [show a = 0 from ha, show b = 0 from hb]
  | k + 1, a, b, ha, hb, h => by
    by_cases a0 : a = 0
    · by_cases b0 : b = 0
      · rw [a0, b0]
      · subst a0
        rw [conv_0] at h
        exact absurd h.symm (conv_pos _ _ hb b0)
    · by_cases b0 : b = 0
      · subst b0
        rw [conv_0] at h
        exact absurd h (conv_pos _ _ ha a0)
      · rcases ha with ha | ⟨a1, a2, a3⟩
        · exact absurd ha a0
        rcases hb with hb | ⟨b1, b2, b3⟩
        · exact absurd hb b0
        rw [conv, conv] at h
        have h1 : a % 32 = b % 32 := by omega
        have h2 : conv k (a / 32) = conv k (b / 32) := by omega
        have h3 := conv_inj k _ _ a3 b3 h2
        omega
theorem okW_lt : ∀ k c, okW k c → c < 32 ^ k
  | 0, c, h => by rw [show c = 0 from h]; decide
  | k + 1, c, h => by
    rcases h with h | ⟨h1, h2, h3⟩
    · rw [h]; exact Nat.pow_pos (by decide)
    · have := okW_lt k _ h3
      rw [Nat.pow_succ]; omega
theorem conv_lt : ∀ k c, okW k c → conv k c < 27 ^ k
  | 0, c, h => by rw [conv]; decide
  | k + 1, c, h => by
    rcases h with h | ⟨h1, h2, h3⟩
    · rw [h, conv_0]; exact Nat.pow_pos (by decide)
    · have := conv_lt k _ h3
      rw [Nat.pow_succ, conv]; omega
theorem isLe_in {c : Nat} (h : isLe c = true) : 97 ≤ c ∧ c ≤ 122 := by
  unfold isLe at h
  simp at h; exact h
theorem isDi_in {c : Nat} (h : isDi c = true) : 48 ≤ c ∧ c ≤ 57 := by
  unfold isDi at h
  simp at h; exact h
theorem spell_ok {B : Nat → Nat} {s : Nat} : ∀ k, (∀ j, j < k → isLe (B (s + j)) = true) → okW k (spell 32 96 B s k)
  | 0, _ => rfl
  | k + 1, h => by
    have h1 := isLe_in (h k (Nat.lt_succ_self k))
    have h2 := spell_ok k fun j hj => h j (by omega)
    refine Or.inr ⟨?_, ?_, ?_⟩
    · rw [spell]; omega
    · rw [spell]; omega
    · rw [spell, show (32 * spell 32 96 B s k + (B (s + k) - 96)) / 32 = spell 32 96 B s k by omega]
      exact h2
theorem okW_up : ∀ k c, okW k c → okW (k + 1) c
  | 0, c, h => Or.inl h
  | k + 1, c, h => by
    rcases h with h | ⟨h1, h2, h3⟩
    · exact Or.inl h
    · exact Or.inr ⟨h1, h2, okW_up k _ h3⟩
theorem okW_le {k m c : Nat} (h : okW k c) (hm : k ≤ m) : okW m c := by
  obtain ⟨d, rfl⟩ := Nat.exists_eq_add_of_le hm
  induction d with
  | zero => exact h
  | succ d ih => exact okW_up _ _ (ih (by omega))
theorem conv_spell {B : Nat → Nat} {s : Nat} : ∀ f k, k ≤ f → (∀ j, j < k → isLe (B (s + j)) = true) → conv f (spell 32 96 B s k) = spell 27 96 B s k
  | 0, k, hk, _ => by
    have : k = 0 := by omega
    subst this; rfl
  | f + 1, 0, _, _ => by rw [spell, conv_0]; rfl
  | f + 1, k + 1, hk, h => by
    have h1 := isLe_in (h k (Nat.lt_succ_self k))
    rw [conv, spell, show (32 * spell 32 96 B s k + (B (s + k) - 96)) / 32 = spell 32 96 B s k by omega, show (32 * spell 32 96 B s k + (B (s + k) - 96)) % 32 = B (s + k) - 96 by omega, conv_spell f k (by omega) (fun j hj => h j (by omega)), spell]
theorem spell_di {B : Nat → Nat} {s : Nat} : ∀ k, (∀ j, j < k → isDi (B (s + j)) = true) → spell 10 48 B s k < 10 ^ k
  | 0, _ => Nat.one_pos
  | k + 1, h => by
    have h1 := isDi_in (h k (Nat.lt_succ_self k))
    have h2 := spell_di k fun j hj => h j (by omega)
    rw [spell, Nat.pow_succ]; omega
/-- what a token can be -/
def TG (n : Nat) (x : Tok) : Prop := x.1 ≤ 4 ∧ x.2.1 ≤ n ∧ (x.1 = 1 → okW 8 x.2.2.2) ∧ (x.1 = 2 → x.2.2.2 ≤ 9999) ∧ (x.1 = 3 → x.2.2.2 < 256)
theorem TG_end {n : Nat} : TG n (0, n, n, 0) := by
  refine ⟨Nat.zero_le _, Nat.le_refl _, fun h => ?_, fun h => ?_, fun h => ?_⟩ <;> cases h
theorem tokAt_TG {B : Nat → Nat} {n i : Nat} (hi : i < n) (hB : B i < 256) : TG n (tokAt B n i) := by
  unfold tokAt
  split
  · rename_i h1
    have hall : ∀ j, j < rE isLe B n i - i → isLe (B (i + j)) = true := fun j hj => rE_all (by omega) (show i + j < rE isLe B n i by omega)
    refine ⟨?_, Nat.le_of_lt hi, fun h => ?_, fun h => ?_, fun h => ?_⟩
    · show (if _ then 1 else 4) ≤ 4
      split <;> decide
    · have h8 : rE isLe B n i - i ≤ 8 := by
        refine Decidable.byContradiction fun h8 => ?_
        rw [if_neg h8] at h; cases h
      exact okW_le (spell_ok _ hall) h8
    · split at h <;> cases h
    · split at h <;> cases h
  · split
    · rename_i h1
      have hall : ∀ j, j < rE isDi B n i - i → isDi (B (i + j)) = true := fun j hj => rE_all (by omega) (show i + j < rE isDi B n i by omega)
      refine ⟨?_, Nat.le_of_lt hi, fun h => ?_, fun h => ?_, fun h => ?_⟩
      · show (if _ then 2 else 4) ≤ 4
        split <;> decide
      · split at h <;> cases h
      · have h4 : rE isDi B n i - i ≤ 4 := by
          refine Decidable.byContradiction fun h4 => ?_
          rw [if_neg h4] at h; cases h
        have := spell_di _ hall
        have h10 : 10 ^ (rE isDi B n i - i) ≤ 10 ^ 4 := Nat.pow_le_pow_right (by decide) h4
        show spell 10 48 B i (rE isDi B n i - i) ≤ 9999
        omega
      · split at h <;> cases h
    · refine ⟨?_, Nat.le_of_lt hi, fun h => ?_, fun h => ?_, fun h => hB⟩
      · show (if _ then 3 else 4) ≤ 4
        split <;> decide
      · split at h <;> cases h
      · split at h <;> cases h
theorem toks_TG {B : Nat → Nat} {n : Nat} (hB : ∀ i, i < n → B i < 256) : ∀ d i, n - i = d → ∀ x ∈ toks B n i, TG n x := by
  intro d
  induction d using Nat.strongRecOn with
  | _ d ih =>
    intro i hd x hx
    by_cases hn : n ≤ i
    · rw [toks_end hn] at hx
      rw [List.mem_singleton.mp hx]
      exact TG_end
    · by_cases hb : isBl (B i) = true
      · rw [toks_bl (by omega) hb] at hx
        exact ih (d - 1) (by omega) (i + 1) (by omega) x hx
      · rw [toks_tok (by omega) hb] at hx
        have he := tokAt_end (B := B) (show i < n by omega)
        rcases List.mem_cons.mp hx with rfl | hx
        · exact tokAt_TG (by omega) (hB i (by omega))
        · exact ih (n - (tokAt B n i).2.2.1) (by omega) _ rfl x hx
theorem tk_mem {T : List Tok} {h : Nat} (hh : h < T.length) : tk T h ∈ T := by
  unfold tk
  rw [List.getD_eq_getElem?_getD, List.getElem?_eq_getElem hh]
  exact List.getElem_mem hh
/-- tokens of a text of at most n bytes -/
def TT (n : Nat) (T : List Tok) : Prop := n ≤ 1000 ∧ ∀ x ∈ T, TG n x
theorem TT.w {n : Nat} {T : List Tok} (h : TT n T) : TW T := fun j hj => ⟨(h.2 _ (tk_mem hj)).1, Nat.le_trans (h.2 _ (tk_mem hj)).2.1 h.1⟩
theorem TT.g {n : Nat} {T : List Tok} (h : TT n T) {j : Nat} (hj : j < T.length) : TG n (tk T j) := h.2 _ (tk_mem hj)
theorem TT.c1 {n : Nat} {T : List Tok} (h : TT n T) {j : Nat} (hj : j < T.length) (hk : (tk T j).1 = 1) : (tk T j).2.2.2 < 2 ^ 63 := Nat.lt_trans (okW_lt 8 _ ((h.g hj).2.2.1 hk)) (by decide)
theorem TT.c3 {n : Nat} {T : List Tok} (h : TT n T) {j : Nat} (hj : j < T.length) (hk : (tk T j).1 = 3) : (tk T j).2.2.2 < 2 ^ 63 := Nat.lt_trans ((h.g hj).2.2.2.2 hk) (by decide)
theorem loop_begin {B : Nat → Nat} {n : Nat} (N : Nat) (hN : 2000 < N) (hn : n ≤ 1000) (kE : Mm → Option Mm) : ∀ (k i e : Nat) (T : List Tok) (M : Mm), i ≤ n → e ≤ n → n < i + k → T.length ≤ max i e → HB B n M → TL T M →
    ∃ T' M', L_X7_begin_24 kE (nI n) N 2 k (nI e) (nI i) M = kE M' ∧ T' ++ [(0, n, n, 0)] = T ++ toks B n (max i e) ∧ TL T' M' ∧ T'.length ≤ n ∧ Fr S2 M M' ∧ (∀ f, f ≠ 4 → M'.1 2 f = M.1 2 f) ∧ M'.2.1 2 = M.2.1 2 := by
  intro k
  induction k with
  | zero => intro i e T M h1 h2 h3; omega
  | succ k ih =>
    intro i e T M h1 h2 h3 hl hB hT
    rw [L_X7_begin_24]
    simp (disch := omega) only [nI_add, pk_mul, n_lt, n_le, n_eq, dv_n, rm_n, n_sub, n_neg, n_m1, n_ne_m1, m1_ne_n, n_m1_lt, m1_lt_n, m1_le_n, n_le_m1, m1_add, n_and, n_or, n_shl, n_shr, Option.bind_some]
    by_cases hi : n ≤ i
    · rw [if_pos hi]
      refine ⟨T, M, rfl, ?_, hT, by omega, Fr.refl, fun _ _ => rfl, rfl⟩
      rw [toks_end (by omega)]
    · rw [if_neg hi]
      by_cases he : i < e
      · rw [if_pos he, show max i e = max (i + 1) e by omega]
        exact ih (i + 1) e T M (by omega) h2 (by omega) (by omega) hB hT
      · have hb := hB i (by omega)
        rw [if_neg he, s_byteAt N hB (by omega) hn, Option.bind_some, s_isBl N _ M (by omega), Option.bind_some]
        simp only [bI_0]
        rw [show max i e = i by omega]
        by_cases hbl : isBl (B i) = true
        · rw [if_neg (by rw [hbl]; simp), toks_bl (by omega) hbl]
          have h4 := ih (i + 1) e T M (by omega) h2 (by omega) (by omega) hB hT
          rw [show max (i + 1) e = i + 1 by omega] at h4
          exact h4
        · rw [if_pos (by simpa using hbl)]
          obtain ⟨M1, a1, a2, a3, a4, a5⟩ := s_cut N hN hB (show i < n by omega) hn hT (by omega)
          have hen := tokAt_end (B := B) (show i < n by omega)
          rw [a1, Option.bind_some]
          obtain ⟨T', M', b1, b2, b3, b4, b5, b6, b7⟩ := ih (i + 1) (tokAt B n i).2.2.1 (T ++ [tokAt B n i]) M1 (by omega) hen.2 (by omega) (by rw [List.length_append]; simp only [List.length_cons, List.length_nil]; omega) (hB.fr a3) a2
          rw [show max (i + 1) (tokAt B n i).2.2.1 = (tokAt B n i).2.2.1 by omega] at b2
          refine ⟨T', M', b1, ?_, b3, b4, a3.trans b5, fun f hf => (b6 f hf).trans (a4 f hf), b7.trans a5⟩
          rw [b2, toks_tok (by omega) hbl, List.append_assoc]
          rfl
/-- the tape at the first token of a text -/
theorem s_begin {B : Nat → Nat} {n : Nat} {M : Mm} (N : Nat) (hN : 2000 < N) (hn : n ≤ 1000) (hB : HB B n M) : ∃ M', D_X7_begin N 2 (nI n) M = some M' ∧ TK (toks B n 0) 0 M' ∧ TT n (toks B n 0) ∧ Fr S2 M M' ∧ M'.1 2 6 = nI 0 := by
  have hTT : TT n (toks B n 0) := ⟨hn, toks_TG (fun i hi => (hB i hi).2) n 0 (by omega)⟩
  unfold D_X7_begin
  simp only [Option.bind_some, okZ_b, okZ_0, okZ_1, retZ_b, retZ_0, retZ_1, bI_0, bI_1, lgc, jn, ldI_n, ldJ_n, stI_n, stJ_n, stB_n, stZ_n, stZ_0, stZ_1, pI_n, pJ_n, pN_n, pZ_b, pZ_0, pZ_1]
  have f1 : ∀ {M : Mm} {f : Nat} {v : Int32}, Fr S2 M (upI M 2 f v) := fun {M f v} => Fr.I (Or.inl rfl)
  generalize hM4 : upI (upI (upI (upI M 2 6 (nI 0)) 2 4 (nI 0)) 2 9 (nI 0)) 2 10 m1 = M4
  have fr4 : Fr S2 M M4 := by rw [← hM4]; exact ((f1.trans f1).trans f1).trans f1
  have hT0 : TL [] M4 := by
    refine ⟨?_, fun j hj => absurd hj (Nat.not_lt_zero j)⟩
    rw [← hM4]
    simp only [up1, up2, upJ1, upJ2, upJ3, upN1, upN2, upN3, upd_a, updL_a, mR1, Nat.reduceEqDiff, if_true, if_false]
    rfl
  have h46 : M4.1 2 6 = nI 0 := by
    rw [← hM4]
    simp only [up1, up2, upJ1, upJ2, upJ3, upN1, upN2, upN3, upd_a, updL_a, mR1, Nat.reduceEqDiff, if_true, if_false]
  obtain ⟨T', M5, b1, b2, b3, b4, b5, b6, b7⟩ := loop_begin (B := B) N hN hn (fun (M6 : Mm) => ((D_X7_add N 2 (nI 0) (nI n) (lN 0) M6).bind fun M7 => (some (upI M7 2 5 m1)).bind fun M8 => (D_X7_advance N 2 M8).bind fun M9 => some M9)) N 0 0 [] M4 (by omega) (by omega) (by omega) (by simp) (hB.fr fr4) hT0
  simp only [Option.bind_some] at b1
  rw [b1]
  rw [List.nil_append] at b2
  obtain ⟨M7, a1, a2, a3, a4, a5⟩ := s_add N (0, n, n, 0) b3 (by omega)
  rw [b2] at a2
  simp only at a1
  rw [a1, Option.bind_some]
  have hl := toks_len B n n 0 (by omega)
  have hT8 : TL (toks B n 0) (upI M7 2 5 m1) := a2.fr (by simp only [up1, up2, upJ1, upJ2, upJ3, upN1, upN2, upN3, upd_a, updL_a, mR1, Nat.reduceEqDiff, if_true, if_false]) (Fr.I rfl)
  obtain ⟨M9, c1, c2, c3, c4⟩ := s_adv0 (h := 0) (h' := 0) N hT8 (by omega) hTT.w (by omega) (Or.inr ⟨by simp only [up1, up2, upJ1, upJ2, upJ3, upN1, upN2, upN3, upd_a, updL_a, mR1, if_true], rfl⟩)
  rw [c1, Option.bind_some]
  refine ⟨M9, rfl, c2, hTT, ((fr4.trans b5).trans a3).trans (f1.trans (c3.mono fun a ha => Or.inl ha)), ?_⟩
  rw [c4 6 (by omega) (by omega)]
  simp only [up1, up2, upJ1, upJ2, upJ3, upN1, upN2, upN3, upd_a, updL_a, mR1, Nat.reduceEqDiff, if_true, if_false]
  rw [a4 6 (by omega), b6 6 (by omega), h46]
