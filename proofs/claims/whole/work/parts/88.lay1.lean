-- the class lays a plan
theorem s_during {g s v : Nat} {G : Gr} {A : Nat → Nat} {M : Mm} (N : Nat) (hN : 2000 < N) (h : QG G) (hI : Ind G A) (hs : s < G.i 0 0) (hv : v < 2 ^ 31) (hn : slf G A s = false) (K : CG g G M) (hP : HP G A (G.i 0 0) M) : D_X5_during N 15 g (nI s) (nI v) M = some (nI (dur G A s v)) := by
  have h8 := h.att8 hs
  have h4 := h.at' hs
  have hns := h.ns
  have hw : ∀ b, b < att G s → vW G A s b ≤ 5 := fun b hb => Nat.le_trans (vW_bd (hI.ac h hs hn) h4 hb).2 (vV_bd (hI.ac h hs hn) h4).2
  have hm := fun b hb => (hP s hs).2 hn b hb
  unfold D_X5_during
  have key : ∀ (k i : Nat), i ≤ att G s → 9 < i + k → L_X5_during_6 g (nI s) M 15 (nI v) k (nI (wid (fun a => decide (vW G A s a = v)) i)) (nI i) = some (nI (dur G A s v)) := by
    intro k
    induction k with
    | zero => intro i h1 h2; omega
    | succ k ih =>
      intro i h1 h2
      rw [L_X5_during_6, ldI_n (by omega) (by omega), K.a 4 s (by omega), Option.bind_some, ldI_n (by omega) (by omega), K.a 5 s (by omega), Option.bind_some, nI_add]
      have ea : (nI (G.i 4 s + G.i 5 s) ≤ nI i) = (att G s ≤ i) := n_le (by omega) (by omega)
      simp only [ea]
      by_cases e : att G s ≤ i
      · have ei : i = att G s := by omega
        subst ei
        rw [if_pos e]; rfl
      · have hwi := hw i (by omega)
        rw [if_neg e, show (15 : Nat) + 2 = 17 from rfl, pk_mul, nI_add, ldI_n (by omega) (by omega), hm i (by omega), Option.bind_some]
        simp only [Option.bind_some, nI_add, n_shl 1 (show i < 32 by omega), Nat.one_mul, n_or, n_eq (show vW G A s i < 2 ^ 31 by omega) hv]
        have r := ih (i + 1) (by omega) (by omega)
        rw [wid] at r
        by_cases c : vW G A s i = v
        · rw [if_pos c]
          rw [if_pos (decide_eq_true c)] at r; exact r
        · rw [if_neg c]
          rw [if_neg (by rw [decide_eq_false c]; decide)] at r; exact r
  exact key N 0 (Nat.zero_le _) (by omega)
/-- a list in a row of a cell -/
def LSt (M : Mm) (b off : Nat) (L : List Nat) : Prop := ∀ i x, L[i]? = some x → M.1 b (off + i) = nI x
theorem LSt.fx {P : Nat → Nat → Prop} {M M' : Mm} {b off : Nat} {L : List Nat} (h : LSt M b off L) (f : FX P M M') (hP : ∀ j, off ≤ j → j < off + L.length → ¬ P b j) : LSt M' b off L := fun i x hx => by
  have hi : i < L.length := (List.getElem?_eq_some_iff.mp hx).1
  rw [(f.2 b (off + i) (hP _ (by omega) (by omega))).1]; exact h i x hx
theorem get_app {L : List Nat} {x i y : Nat} (h : (L ++ [x])[i]? = some y) : (i < L.length ∧ L[i]? = some y) ∨ (i = L.length ∧ x = y) := by
  by_cases c : i < L.length
  · rw [List.getElem?_append_left c] at h; exact Or.inl ⟨c, h⟩
  · rw [List.getElem?_append_right (by omega)] at h
    by_cases e : i - L.length = 0
    · rw [e] at h
      have : x = y := by simpa using h
      exact Or.inr ⟨by omega, this⟩
    · obtain ⟨q, hq⟩ : ∃ q, i - L.length = q + 1 := ⟨i - L.length - 1, by omega⟩
      rw [hq] at h
      simp at h
def PAd (p b j : Nat) : Prop := b = 19 ∧ 36 * p ≤ j ∧ j < 36 * p + 36 ∨ b = 21 ∧ j = p
theorem s_addStep {p x : Nat} {L : List Nat} {M : Mm} (N : Nat) (hp : p < 12) (hl : M.1 21 p = nI L.length) (h40 : L.length < 36) (hL : LSt M 19 (36 * p) L) : ∃ M', D_X5_add N 15 (nI p) (nI x) M = some M' ∧ M'.1 21 p = nI (L ++ [x]).length ∧ LSt M' 19 (36 * p) (L ++ [x]) ∧ FX (PAd p) M M' := by
  unfold D_X5_add
  rw [show (15 : Nat) + 6 = 21 from rfl, show (15 : Nat) + 4 = 19 from rfl, ldI_n (by omega) (by omega), Option.bind_some, hl, if_neg (by rw [n_le (by omega) (by omega)]; omega), Option.bind_some, pk_mul, nI_add, stI_n (by omega) (by omega), Option.bind_some, ldI_n (by omega) (by omega), Option.bind_some, show (upI M 19 (36 * p + L.length) (nI x)).1 21 p = nI L.length by rw [up1, if_neg (by decide)]; exact hl, nI_add, stI_n (by omega) (by omega), Option.bind_some]
  refine ⟨_, rfl, ?_, ?_, ?_⟩
  · rw [upI_s, List.length_append]; rfl
  · intro i y hy
    rw [up1, if_neg (by decide), upI_j]
    rcases get_app hy with ⟨c, d⟩ | ⟨c, d⟩
    · rw [if_neg (by omega)]; exact hL i y d
    · rw [if_pos (by omega), d]
  · exact (FX.I (P := PAd p) (Or.inl ⟨rfl, by omega, by omega⟩)).trans (FX.I (Or.inr ⟨rfl, rfl⟩))
/-- a plan on the way, as the class has it -/
def LRo (G : Gr) (p : Nat) (S : PSt) (M : Mm) : Prop := M.1 15 6 = nI S.1 ∧ (∀ k, 1 ≤ k → k < G.i 6 p → M.1 20 k = nI (S.2.2.1 k)) ∧ M.1 21 p = nI S.2.2.2.length ∧ LSt M 19 (36 * p) S.2.2.2 ∧ M.1 22 p = nI (vsD G p S.2.2.1) ∧ M.1 23 p = nI (tlK G p S.1)
def PLy (p b j : Nat) : Prop := b = 15 ∧ j = 6 ∨ b = 20 ∨ b = 19 ∧ 36 * p ≤ j ∧ j < 36 * p + 36 ∨ (b = 21 ∨ b = 22 ∨ b = 23) ∧ j = p
theorem PAd.ly {p b j : Nat} (h : PAd p b j) : PLy p b j := by unfold PAd at h; unfold PLy; omega
theorem OrdP.tl32 {G : Gr} {A : Nat → Nat} {p : Nat} (h : OrdP G A p) : G.i 9 p < 2 ^ 32 := lt_of_bits fun i hi => by
  have := h.1.us_lt h.2.2.1 (h.1.tl_us h.2.2.1 hi)
  have := h.1.sd h.2.2.1
  omega
theorem OrdP.ak32 {G : Gr} {A : Nat → Nat} {p : Nat} (h : OrdP G A p) {o : Nat} (ho : o < 32) : G.i 12 (32 * p + o) < 2 ^ 32 := lt_of_bits fun i hi => by
  have := h.1.us_lt h.2.2.1 (h.1.ask h.2.2.1 ho hi).1
  have := h.1.sd h.2.2.1
  omega
theorem loop_addRule {g p : Nat} {G : Gr} {A : Nat → Nat} {S : PSt} {M : Mm} (h : OrdP G A p) (K : CG g G M) (hK : M.1 15 6 = nI S.1) (kE : Int32 → Option (Int32 × Mm)) : ∀ (fu o : Nat), o ≤ 32 → 33 < o + fu → (∀ j, j < o → ((G.i 9 p).testBit j && !S.1.testBit j && decide (andn (G.i 12 (32 * p + j)) S.1 = 0)) = false) → L_X5_addRule_17 kE M (nI (andn (G.i 9 p) S.1)) g (nI p) 15 fu (nI o) = if nrI G p S.1 < 32 then kE (nI (nrI G p S.1)) else some (nI 0, M)
  | 0, o, h1, h2, _ => by omega
  | fu + 1, o, h1, h2, hj => by
    have hnp := h.1.np
    have hp := h.2.2.1
    rw [L_X5_addRule_17]
    simp (disch := omega) only [n_le]
    by_cases e : 32 ≤ o
    · have eo : o = 32 := by omega
      subst eo
      have : nrI G p S.1 = 32 := fb_eq (Nat.le_refl _) hj (Or.inl rfl)
      rw [if_pos e, if_neg (by omega)]; rfl
    · have next : ((G.i 9 p).testBit o && !S.1.testBit o && decide (andn (G.i 12 (32 * p + o)) S.1 = 0)) = false → L_X5_addRule_17 kE M (nI (andn (G.i 9 p) S.1)) g (nI p) 15 fu (nI (o + 1)) = if nrI G p S.1 < 32 then kE (nI (nrI G p S.1)) else some (nI 0, M) := fun c =>
        loop_addRule h K hK kE fu (o + 1) (by omega) (by omega) fun j hj2 => by
          by_cases z : j = o
          · rw [z]; exact c
          · exact hj j (by omega)
      rw [if_neg e, bitI (andn_lt h.tl32) (by omega)]
      simp only [bI_0, Option.bind_some, nI_add, andn_b]
      cases b : ((G.i 9 p).testBit o && !S.1.testBit o)
      · rw [if_pos rfl]; exact next (by rw [b]; rfl)
      · rw [if_neg (by decide), pk_mul, nI_add, ldI_n (by omega) (by omega), K.a 12 _ (by omega), Option.bind_some, hK, n_andn (h.ak32 (by omega))]
        simp only [andn_0 (h.ak32 (show o < 32 by omega))]
        by_cases c : andn (G.i 12 (32 * p + o)) S.1 = 0
        · have : nrI G p S.1 = o := fb_eq (by omega) hj (Or.inr (by rw [b, decide_eq_true c]; rfl))
          rw [if_pos c, this, if_pos (by omega)]
        · rw [if_neg c]; exact next (by rw [b, decide_eq_false c]; rfl)
theorem s_addRule {g p : Nat} {G : Gr} {A : Nat → Nat} {S : PSt} {M : Mm} (N : Nat) (hN : 2000 < N) (h : OrdP G A p) (I : PI2 G A p S) (K : CG g G M) (R : LRo G p S M) : (¬ nrI G p S.1 < 32 → D_X5_addRule N 15 g (nI p) M = some (nI 0, M)) ∧ (nrI G p S.1 < 32 → ∃ M', D_X5_addRule N 15 g (nI p) M = some (nI 1, M') ∧ LRo G p (stR G p S) M' ∧ FX (PLy p) M M') := by
  obtain ⟨R1, R2, R3, R4, R5, R6⟩ := R
  have hnp := h.1.np
  have hp := h.2.2.1
  have hl : S.2.2.2.length ≤ 35 := by have := I.2.1; omega
  unfold D_X5_addRule
  rw [ldI_n (by omega) (by omega), K.a 9 p (by omega), Option.bind_some, R1, n_andn h.tl32, Option.bind_some, loop_addRule h K R1 _ N 0 (by omega) (by omega) fun j hj => by omega]
  refine ⟨fun c => if_neg c, fun c => ?_⟩
  rw [if_pos c]
  obtain ⟨M1, a1, a2, a3, a4⟩ := s_addStep (x := 100 + nrI G p S.1) N (show p < 12 by omega) R3 (by omega) R4
  have e23 : M1.1 23 p = nI (tlK G p S.1) := (a4.2 23 p (fun q => by unfold PAd at q; omega)).1.trans R6
  have e15 : M1.1 15 6 = nI S.1 := (a4.2 15 6 (fun q => by unfold PAd at q; omega)).1.trans R1
  rw [nI_add, a1, Option.bind_some, show (15 : Nat) + 8 = 23 from rfl, ldI_n (by omega) (by omega), e23, Option.bind_some, nI_add, stI_n (by omega) (by omega), Option.bind_some, show (upI M1 23 p (nI (tlK G p S.1 + 1))).1 15 6 = nI S.1 by rw [up1, if_neg (by decide)]; exact e15, n_shl 1 (show nrI G p S.1 < 32 by omega), Nat.one_mul, n_or, pI_n, Option.bind_some, retZ_1]
  have et := (st_R h I c).2
  refine ⟨_, rfl, ⟨upI_s _ _ _ _, fun k k1 k2 => ?_, ?_, ?_, ?_, ?_⟩, ?_⟩
  · rw [up1, if_neg (by decide), up1, if_neg (by decide), (a4.2 20 k (fun q => by unfold PAd at q; omega)).1]; exact R2 k k1 k2
  · rw [up1, if_neg (by decide), up1, if_neg (by decide)]; exact a2
  · intro i y hy
    rw [up1, if_neg (by decide), up1, if_neg (by decide)]; exact a3 i y hy
  · rw [up1, if_neg (by decide), up1, if_neg (by decide), (a4.2 22 p (fun q => by unfold PAd at q; omega)).1]; exact R5
  · rw [up1, if_neg (by decide), upI_s, et]
  · exact ((a4.mono fun a j q => q.ly).trans (FX.I (by unfold PLy; omega))).trans (FX.I (by unfold PLy; omega))
theorem dur_io {G : Gr} {A : Nat → Nat} {s v : Nat} : dur G A s v = durI G A s v ||| durO G A s v := by
  apply Nat.eq_of_testBit_eq
  intro i
  rw [Bool.eq_iff_iff, or_bit, durI_b, durO_b, dur_b, Bool.and_eq_true, decide_eq_true_iff, decide_eq_true_iff]
  unfold att
  constructor
  · intro q
    by_cases c : i < G.i 4 s
    · exact Or.inl ⟨c, q.2⟩
    · exact Or.inr ⟨⟨by omega, q.1⟩, q.2⟩
  · rintro (q | q)
    · exact ⟨by omega, q.2⟩
    · exact ⟨q.1.2, q.2⟩
theorem dur_lt {G : Gr} {A : Nat → Nat} {s v : Nat} (h8 : att G s ≤ 8) : dur G A s v < 2 ^ 8 := Nat.lt_of_lt_of_le (wid_lt _ _) (Nat.pow_le_pow_right (by decide) h8)
theorem or_sub {x y K : Nat} (h : andn x K = 0) : K ||| (x ||| y) = K ||| y := by
  apply Nat.eq_of_testBit_eq
  intro i
  rw [Nat.testBit_or, Nat.testBit_or, Nat.testBit_or]
  cases c : x.testBit i
  · rfl
  · rw [andn_sub.mp h i c]; rfl
theorem or_mul (x y k : Nat) : (x ||| y) * 2 ^ k = x * 2 ^ k ||| y * 2 ^ k := by
  rw [← Nat.shiftLeft_eq, ← Nat.shiftLeft_eq, ← Nat.shiftLeft_eq, Nat.shiftLeft_or_distrib]
