-- closing rows of bits
def clS (k w : Nat) (R : Nat → Nat) (o : Nat) : Nat := if o < w ∧ (R o).testBit k = true then R o ||| R k else R o
def clo (w : Nat) : Nat → (Nat → Nat) → Nat → Nat
  | 0, R => R
  | n + 1, R => clS n w (clo w n R)
theorem clo_s (w n : Nat) (R : Nat → Nat) : clo w (n + 1) R = clS n w (clo w n R) := rfl
def LT (R : Nat → Nat) : Prop := ∀ o, R o < 2 ^ 32
theorem clS_lt {k w : Nat} {R : Nat → Nat} (h : LT R) : LT (clS k w R) := fun o => by
  unfold clS; split
  · exact or_lt (h o) (h k)
  · exact h o
theorem clo_lt {w : Nat} {R : Nat → Nat} (h : LT R) : ∀ n, LT (clo w n R)
  | 0 => h
  | n + 1 => clS_lt (clo_lt h n)
theorem clS_k {k w : Nat} {R : Nat → Nat} : clS k w R k = R k := by
  unfold clS; split
  · exact Nat.or_self _
  · rfl
/-- memory slots f.. of a cell hold rows -/
def HRo (a f w : Nat) (R : Nat → Nat) (M : Mm) : Prop := ∀ o, o < w → M.1 a (f + o) = nI (R o)
theorem HRo.fx {P : Nat → Nat → Prop} {a f w : Nat} {R : Nat → Nat} {M M' : Mm} (h : HRo a f w R M) (fx : FX P M M') (hP : ∀ j, f ≤ j → j < f + w → ¬ P a j) : HRo a f w R M' := fun o ho => by rw [(fx.2 a (f + o) (hP _ (by omega) (by omega))).1]; exact h o ho
theorem HRo.cg {a f w : Nat} {R R' : Nat → Nat} {M : Mm} (h : HRo a f w R M) (e : ∀ o, o < w → R o = R' o) : HRo a f w R' M := fun o ho => by rw [← e o ho]; exact h o ho
theorem close_in {a f w k L : Nat} {R : Nat → Nat} (N : Nat) (hlen : len a = L) (hL : f + w ≤ L) (hL2 : L ≤ 5000) (hw : w ≤ 32) (hk : k < w) (hR : LT R) (kE : Mm → Option Mm) : ∀ (fu i : Nat) (M : Mm), i ≤ w → w < i + fu → (∀ o, o < w → M.1 a (f + o) = nI (if o < i then clS k w R o else R o)) → ∃ M', L_X3_close_17 kE (nI w) (nI (R k)) a (nI f) (nI k) fu (nI i) M = kE M' ∧ HRo a f w (clS k w R) M' ∧ FX (fun b j => b = a ∧ f ≤ j ∧ j < f + w) M M'
  | 0, i, M, h1, h2, _ => by omega
  | fu + 1, i, M, h1, h2, hM => by
    rw [L_X3_close_17]
    simp (disch := omega) only [n_le]
    by_cases e : w ≤ i
    · rw [if_pos e]
      exact ⟨M, rfl, fun o ho => by rw [hM o ho, if_pos (by omega)], FX.refl⟩
    · rw [if_neg e]
      by_cases e2 : nI (R k) = nI 0
      · rw [if_pos e2]
        have z : R k = 0 := n_inj (hR k) (by decide) e2
        refine ⟨M, rfl, fun o ho => ?_, FX.refl⟩
        rw [hM o ho]
        have : clS k w R o = R o := by unfold clS; rw [z, Nat.or_zero, ite_self]
        rw [this, ite_self]
      · have hi := hM i (by omega)
        rw [if_neg (Nat.lt_irrefl i)] at hi
        rw [if_neg e2, hlen, nI_add, ldI_n (by omega) (by omega), hi, Option.bind_some, bitI (hR i) (by omega)]
        simp only [bI_0, Option.bind_some, nI_add]
        cases b : (R i).testBit k
        · rw [if_pos rfl]
          refine close_in N hlen hL hL2 hw hk hR kE fu (i + 1) M (by omega) (by omega) fun o ho => ?_
          rw [hM o ho]
          by_cases q : o = i
          · rw [q, if_neg (Nat.lt_irrefl i), if_pos (Nat.lt_succ_self i)]
            unfold clS; rw [if_neg (fun z => by rw [b] at z; cases z.2)]
          · by_cases q2 : o < i
            · rw [if_pos q2, if_pos (by omega)]
            · rw [if_neg q2, if_neg (by omega)]
        · rw [if_neg (by decide), n_or, stI_n (by omega) (by omega), Option.bind_some]
          obtain ⟨M', a1, a2, a3⟩ := close_in N hlen hL hL2 hw hk hR kE fu (i + 1) (upI M a (f + i) (nI (R i ||| R k))) (by omega) (by omega) fun o ho => by
            rw [upI_j]
            by_cases q : o = i
            · rw [q, if_pos rfl, if_pos (Nat.lt_succ_self i)]
              unfold clS; rw [if_pos ⟨by omega, b⟩]
            · rw [if_neg (by omega), hM o ho]
              by_cases q2 : o < i
              · rw [if_pos q2, if_pos (by omega)]
              · rw [if_neg q2, if_neg (by omega)]
          exact ⟨M', a1, a2, (FX.I ⟨rfl, by omega, by omega⟩).trans a3⟩
theorem close_out {a f w L : Nat} (N : Nat) (hN : 2000 < N) (hlen : len a = L) (hL : f + w ≤ L) (hL2 : L ≤ 5000) (hw : w ≤ 32) {R : Nat → Nat} (hR : LT R) : ∀ (fu k : Nat) (M : Mm), k ≤ w → w < k + fu → HRo a f w (clo w k R) M → ∃ M', L_X3_close_2 (nI w) a (nI f) N fu (nI k) M = some M' ∧ HRo a f w (clo w w R) M' ∧ FX (fun b j => b = a ∧ f ≤ j ∧ j < f + w) M M'
  | 0, k, M, h1, h2, _ => by omega
  | fu + 1, k, M, h1, h2, hM => by
    rw [L_X3_close_2]
    simp (disch := omega) only [n_le]
    by_cases e : w ≤ k
    · rw [if_pos e]
      have ek : k = w := by omega
      subst ek
      exact ⟨M, rfl, hM, FX.refl⟩
    · rw [if_neg e, hlen, nI_add, ldI_n (by omega) (by omega), hM k (by omega), Option.bind_some]
      obtain ⟨M1, a1, a2, a3⟩ := close_in N hlen hL hL2 hw (show k < w by omega) (clo_lt hR k) (fun M4 => (some (nI k + (nI 1))).bind fun l3_2 => (L_X3_close_2 (nI w) a (nI f) N fu l3_2 M4)) N 0 M (by omega) (by omega) fun o ho => by rw [if_neg (by omega)]; exact hM o ho
      rw [a1, Option.bind_some, nI_add]
      obtain ⟨M2, b1, b2, b3⟩ := close_out N hN hlen hL hL2 hw hR fu (k + 1) M1 (by omega) (by omega) a2
      exact ⟨M2, b1, b2, a3.trans b3⟩
theorem s_close {a f w L : Nat} {R : Nat → Nat} {M : Mm} (N : Nat) (hN : 2000 < N) (hlen : len a = L) (hL : f + w ≤ L) (hL2 : L ≤ 5000) (hw : w ≤ 32) (hR : LT R) (hM : HRo a f w R M) : ∃ M', D_X3_close N a (nI f) (nI w) M = some M' ∧ HRo a f w (clo w w R) M' ∧ FX (fun b j => b = a ∧ f ≤ j ∧ j < f + w) M M' :=
  close_out N hN hlen hL hL2 hw hR N 0 M (by omega) (by omega) hM
-- the reference's
theorem r_has {v k : Nat} (N : Nat) (M : Mm) (hv : v < 2 ^ 32) (hk : k < 32) : D_X12_has N (nI v) (nI k) M = some (bI (v.testBit k)) := by
  unfold D_X12_has
  rw [bitS' _ hk, n_lsb hv]
  cases v.testBit k
  · rw [bI_f, if_neg (fun q => z10 q.symm), okZ_0]
  · rw [bI_t, if_pos rfl, okZ_1]
theorem closes_in {k : Nat} {R : Nat → Nat} (N : Nat) (hk : k < 32) (hR : LT R) (kE : Mm → Option Mm) : ∀ (fu i : Nat) (M : Mm), i ≤ 32 → 32 < i + fu → (∀ o, o < 32 → M.1 144 o = nI (if o < i then clS k 32 R o else R o)) → ∃ M', L_X12_closes_10 kE 137 N (nI k) fu (nI i) M = kE M' ∧ HRo 144 0 32 (clS k 32 R) M' ∧ FX (fun b _ => b = 144) M M'
  | 0, i, M, h1, h2, _ => by omega
  | fu + 1, i, M, h1, h2, hM => by
    rw [L_X12_closes_10]
    simp (disch := omega) only [n_le]
    by_cases e : 32 ≤ i
    · rw [if_pos e]
      exact ⟨M, rfl, fun o ho => by rw [Nat.zero_add, hM o ho, if_pos (by omega)], FX.refl⟩
    · have hi := hM i (by omega)
      rw [if_neg (Nat.lt_irrefl i)] at hi
      have hkk : M.1 144 k = nI (R k) := by rw [hM k hk, clS_k, ite_self]
      rw [if_neg e, show (137 : Nat) + 7 = 144 from rfl, ldI_n (by omega) (by omega), hi, Option.bind_some, r_has N M (hR i) hk, Option.bind_some]
      simp only [bI_0, Option.bind_some, nI_add]
      cases b : (R i).testBit k
      · rw [if_pos rfl]
        refine closes_in N hk hR kE fu (i + 1) M (by omega) (by omega) fun o ho => ?_
        rw [hM o ho]
        by_cases q : o = i
        · rw [q, if_neg (Nat.lt_irrefl i), if_pos (Nat.lt_succ_self i)]
          unfold clS; rw [if_neg (fun z => by rw [b] at z; cases z.2)]
        · by_cases q2 : o < i
          · rw [if_pos q2, if_pos (by omega)]
          · rw [if_neg q2, if_neg (by omega)]
      · rw [if_neg (by decide), ldI_n (by omega) (by omega), hkk, Option.bind_some, n_or, stI_n (by omega) (by omega), Option.bind_some]
        obtain ⟨M', a1, a2, a3⟩ := closes_in N hk hR kE fu (i + 1) (upI M 144 i (nI (R i ||| R k))) (by omega) (by omega) fun o ho => by
          rw [upI_j]
          by_cases q : o = i
          · rw [q, if_pos rfl, if_pos (Nat.lt_succ_self i)]
            unfold clS; rw [if_pos ⟨by omega, b⟩]
          · rw [if_neg q, hM o ho]
            by_cases q2 : o < i
            · rw [if_pos q2, if_pos (by omega)]
            · rw [if_neg q2, if_neg (by omega)]
        exact ⟨M', a1, a2, (FX.I (P := fun b _ => b = 144) rfl).trans a3⟩
theorem closes_out (N : Nat) (hN : 2000 < N) {R : Nat → Nat} (hR : LT R) : ∀ (fu k : Nat) (M : Mm), k ≤ 32 → 32 < k + fu → HRo 144 0 32 (clo 32 k R) M → ∃ M', L_X12_closes_2 137 N fu (nI k) M = some M' ∧ HRo 144 0 32 (clo 32 32 R) M' ∧ FX (fun b _ => b = 144) M M'
  | 0, k, M, h1, h2, _ => by omega
  | fu + 1, k, M, h1, h2, hM => by
    rw [L_X12_closes_2]
    simp (disch := omega) only [n_le]
    by_cases e : 32 ≤ k
    · rw [if_pos e]
      have ek : k = 32 := by omega
      subst ek
      exact ⟨M, rfl, hM, FX.refl⟩
    · rw [if_neg e]
      obtain ⟨M1, a1, a2, a3⟩ := closes_in N (show k < 32 by omega) (clo_lt hR k) (fun M4 => (some (nI k + (nI 1))).bind fun l1_2 => (L_X12_closes_2 137 N fu l1_2 M4)) N 0 M (by omega) (by omega) fun o ho => by rw [if_neg (by omega)]; have := hM o ho; rw [Nat.zero_add] at this; exact this
      rw [a1, Option.bind_some, nI_add]
      obtain ⟨M2, b1, b2, b3⟩ := closes_out N hN hR fu (k + 1) M1 (by omega) (by omega) a2
      exact ⟨M2, b1, b2, a3.trans b3⟩
theorem r_closes {R : Nat → Nat} {M : Mm} (N : Nat) (hN : 2000 < N) (hR : LT R) (hM : HRo 144 0 32 R M) : ∃ M', D_X12_closes N 137 M = some M' ∧ HRo 144 0 32 (clo 32 32 R) M' ∧ FX (fun b _ => b = 144) M M' :=
  closes_out N hN hR N 0 M (by omega) (by omega) hM
/-- rows of a narrower square -/
def SQ (w : Nat) (R : Nat → Nat) : Prop := (∀ o, w ≤ o → R o = 0) ∧ ∀ o, R o < 2 ^ w
theorem SQ.lt {w : Nat} {R : Nat → Nat} (h : SQ w R) (hw : w ≤ 32) : LT R := fun o => Nat.lt_of_lt_of_le (h.2 o) (Nat.pow_le_pow_right (by decide) hw)
theorem clo_sq {w w' : Nat} {R : Nat → Nat} (h : SQ w R) (hw : w ≤ w') : ∀ n, SQ w (clo w' n R)
  | 0 => h
  | n + 1 => by
    obtain ⟨a, b⟩ := clo_sq h hw n
    refine ⟨fun o ho => ?_, fun o => ?_⟩
    · rw [clo_s]; unfold clS
      rw [if_neg (fun q => by rw [a o ho, Nat.zero_testBit] at q; cases q.2)]; exact a o ho
    · rw [clo_s]; unfold clS; split
      · exact or_lt (b o) (b n)
      · exact b o
theorem clo_w {w w' : Nat} {R : Nat → Nat} (h : SQ w R) (hw : w ≤ w') : ∀ n, clo w' n R = clo w (min n w) R
  | 0 => by rw [Nat.zero_min]; rfl
  | n + 1 => by
    have ih := clo_w h hw n
    have sq := clo_sq h hw n
    rw [clo_s]
    by_cases c : n < w
    · rw [show min (n + 1) w = n + 1 by omega, clo_s, ih, show min n w = n by omega]
      funext o
      unfold clS
      rw [ih, show min n w = n by omega] at sq
      by_cases q : o < w
      · simp only [q, true_and, show o < w' by omega]
      · rw [if_neg (fun z => by rw [sq.1 o (by omega), Nat.zero_testBit] at z; cases z.2), if_neg (fun z => q z.1)]
    · have ih' : clo w' n R = clo w w R := by rw [ih, show min n w = w by omega]
      rw [show min (n + 1) w = w by omega, ← ih']
      funext o
      unfold clS
      rw [if_neg]
      intro z
      have := tb_lt (sq.2 o) z.2
      omega
theorem clo_32 {w : Nat} {R : Nat → Nat} (h : SQ w R) (hw : w ≤ 32) : clo 32 32 R = clo w w R := by
  rw [clo_w h hw 32, show min 32 w = w by omega]
-- what closing is
def bt (R : Nat → Nat) (i j : Nat) : Prop := (R i).testBit j = true
theorem clS_b {k w : Nat} {R : Nat → Nat} {i j : Nat} (hi : i < w) : bt (clS k w R) i j ↔ bt R i j ∨ (bt R i k ∧ bt R k j) := by
  unfold bt clS
  by_cases e : (R i).testBit k = true
  · rw [if_pos ⟨hi, e⟩, Nat.testBit_or, Bool.or_eq_true]
    exact ⟨fun h => h.elim Or.inl fun h => Or.inr ⟨e, h⟩, fun h => h.elim Or.inl fun h => Or.inr h.2⟩
  · rw [if_neg (fun z => e z.2)]
    exact ⟨Or.inl, fun h => h.elim id fun h => absurd h.1 e⟩
theorem clo_sub {w : Nat} {R : Nat → Nat} {i j : Nat} (hi : i < w) (h : bt R i j) : ∀ n, bt (clo w n R) i j
  | 0 => h
  | n + 1 => (clS_b hi).mpr (Or.inl (clo_sub hi h n))
theorem clo_least {w : Nat} {R : Nat → Nat} {S : Nat → Nat → Prop} (hS : ∀ i j, i < w → bt R i j → S i j) (hT : ∀ i l j, i < w → l < w → S i l → S l j → S i j) : ∀ n, n ≤ w → ∀ i j, i < w → bt (clo w n R) i j → S i j
  | 0, _, i, j, hi, h => hS i j hi h
  | n + 1, hn, i, j, hi, h => by
    rcases (clS_b hi).mp h with h | ⟨h1, h2⟩
    · exact clo_least hS hT n (by omega) i j hi h
    · exact hT i n j hi (by omega) (clo_least hS hT n (by omega) i n hi h1) (clo_least hS hT n (by omega) n j (by omega) h2)
theorem clo_trans0 {w : Nat} {R : Nat → Nat} : ∀ n, n ≤ w → ∀ l, l < n → ∀ i j, i < w → bt (clo w n R) i l → bt (clo w n R) l j → bt (clo w n R) i j
  | 0, _, l, hl, _, _, _, _, _ => by omega
  | n + 1, hn, l, hl, i, j, hi, h1, h2 => by
    rw [clo_s] at h1 h2 ⊢
    rw [clS_b hi] at h1 ⊢
    rw [clS_b (by omega)] at h2
    by_cases e : l = n
    · subst e
      have h1' := h1.elim id And.left
      have h2' := h2.elim id And.right
      exact Or.inr ⟨h1', h2'⟩
    · have T := clo_trans0 n (by omega) l (by omega) (R := R) (w := w)
      rcases h1 with a | ⟨b1, b2⟩
      · rcases h2 with c | ⟨d1, d2⟩
        · exact Or.inl (T i j hi a c)
        · exact Or.inr ⟨T i n hi a d1, d2⟩
      · rcases h2 with c | ⟨d1, d2⟩
        · exact Or.inr ⟨b1, T n j (by omega) b2 c⟩
        · exact Or.inr ⟨b1, d2⟩
theorem clo_trans {w : Nat} {R : Nat → Nat} {i l j : Nat} (hi : i < w) (hl : l < w) (h1 : bt (clo w w R) i l) (h2 : bt (clo w w R) l j) : bt (clo w w R) i j := clo_trans0 w (Nat.le_refl _) l hl i j hi h1 h2
