-- the class orders a symbol's attributes
def andn (a b : Nat) : Nat := a ^^^ (a &&& b)
theorem andn_b (a b i : Nat) : (andn a b).testBit i = (a.testBit i && !b.testBit i) := by
  unfold andn
  rw [Nat.testBit_xor, Nat.testBit_and]
  cases a.testBit i <;> cases b.testBit i <;> rfl
theorem andn_lt {a b k : Nat} (h : a < 2 ^ k) : andn a b < 2 ^ k := lt_of_bits fun i hi => by
  rw [andn_b, Bool.and_eq_true] at hi
  exact tb_lt h hi.1
theorem n_andn {a b : Nat} (ha : a < 2 ^ 32) : nI a &&& (nI b ^^^ m1) = nI (andn a b) := by
  apply Int32.toBitVec_inj.mp
  apply BitVec.eq_of_getLsbD_eq
  intro i hi
  show (BitVec.ofNat 32 a &&& (BitVec.ofNat 32 b ^^^ BitVec.allOnes 32)).getLsbD i = (BitVec.ofNat 32 (andn a b)).getLsbD i
  rw [BitVec.getLsbD_and, BitVec.getLsbD_xor, BitVec.getLsbD_allOnes, BitVec.getLsbD_ofNat, BitVec.getLsbD_ofNat, BitVec.getLsbD_ofNat, andn_b]
  simp [hi]
theorem andn_0 {a b : Nat} (ha : a < 2 ^ 32) : (nI (andn a b) = nI 0) = (andn a b = 0) := propext ⟨fun h => n_inj (andn_lt ha) (by decide) h, fun h => by rw [h]⟩
theorem andn_sub {a b : Nat} : andn a b = 0 ↔ ∀ i, a.testBit i = true → b.testBit i = true := by
  constructor
  · intro h i hi
    have : (andn a b).testBit i = false := by rw [h, Nat.zero_testBit]
    rw [andn_b, hi, Bool.true_and] at this
    cases c : b.testBit i
    · rw [c] at this; cases this
    · rfl
  · intro h
    apply Nat.eq_of_testBit_eq
    intro i
    rw [andn_b, Nat.zero_testBit]
    cases c : a.testBit i
    · rfl
    · rw [h i c]; rfl
def LB (G : Gr) (s : Nat) (S : Nat → Nat) (L : Nat) : Prop := L < 256 ∧ ∀ b, L.testBit b = (decide (b < att G s) && decide (S b = 0))
/-- where the sets are noted -/
def WM (G : Gr) (s : Nat) (S : Nat → Nat) (M : Mm) : Prop := ∀ a, a < att G s → ¬ S a = 0 → M.1 17 (8 * s + a) = nI (S a - 1)
theorem s_isAwaited {G : Gr} {A : Nat → Nat} {s L a : Nat} {S : Nat → Nat} {M : Mm} (N : Nat) (hN : 2000 < N) (hs : s < 8) (h8 : att G s ≤ 8) (ha : a < 8) (hA : ∀ r, A r < 256) (hL : LB G s S L) (hM : HRo 10 0 64 A M) : D_X5_isAwaited N 15 9 (nI s) (nI L) (nI a) M = some (bI (!vFree G A s S a)) := by
  have key : ∀ (k i : Nat), i ≤ 8 → 8 < i + k → (∀ j, j < i → L.testBit j = true → (A (8 * s + j)).testBit a = false) → L_X5_isAwaited_3 (nI L) 9 (nI s) M (nI a) k (nI i) = some (bI (!vFree G A s S a)) := by
    intro k
    induction k with
    | zero => intro i h1 h2; omega
    | succ k ih =>
      intro i h1 h2 hj
      rw [L_X5_isAwaited_3]
      simp (disch := omega) only [n_le]
      by_cases e : 8 ≤ i
      · rw [if_pos e, okZ_0]
        have : vFree G A s S a = true := vFree_t.mpr fun x hx hs0 => hj x (by omega) (by rw [hL.2, decide_eq_true hx, decide_eq_true hs0]; rfl)
        rw [this]; rfl
      · rw [if_neg e, bitI (Nat.lt_trans hL.1 (by decide)) (by omega)]
        simp only [bI_0, Option.bind_some, nI_add]
        cases b : L.testBit i
        · rw [if_pos rfl]
          refine ih (i + 1) (by omega) (by omega) fun j hj2 hb => ?_
          by_cases c : j = i
          · rw [c, b] at hb; cases hb
          · exact hj j (by omega) hb
        · have hr := hM (8 * s + i) (by omega)
          rw [Nat.zero_add] at hr
          rw [if_neg (by decide), show (9 : Nat) + 1 = 10 from rfl, pk_mul, nI_add, ldI_n (by omega) (by omega), hr, Option.bind_some, bitI (Nat.lt_trans (hA _) (by decide)) (by omega)]
          simp only [bI_0]
          cases d : (A (8 * s + i)).testBit a
          · rw [if_pos rfl]
            refine ih (i + 1) (by omega) (by omega) fun j hj2 hb => ?_
            by_cases c : j = i
            · rw [c]; exact d
            · exact hj j (by omega) hb
          · rw [if_neg (by decide), okZ_1]
            rw [hL.2, Bool.and_eq_true, decide_eq_true_iff, decide_eq_true_iff] at b
            have : vFree G A s S a = false := by
              cases f : vFree G A s S a
              · rfl
              · rw [vFree_t.mp f i b.1 b.2] at d; cases d
            rw [this]; rfl
  exact key N 0 (by omega) (by omega) fun j hj => by omega
def P17 (s b j : Nat) : Prop := b = 17 ∧ 8 * s ≤ j ∧ j < 8 * s + 8
/-- the bits of a kind -/
def kdB (G : Gr) (s : Nat) (outs : Bool) : Nat := if outs = true then ouB G s else inB G s
theorem kdB_b {G : Gr} {s b : Nat} {outs : Bool} (hb : b < att G s) : (kdB G s outs).testBit b = (decide (G.i 4 s ≤ b) == outs) := by
  unfold kdB
  unfold att at hb
  cases outs
  · rw [if_neg (by decide), inB_bit]
    by_cases c : b < G.i 4 s
    · rw [decide_eq_true c, decide_eq_false (by omega)]; rfl
    · rw [decide_eq_false c, decide_eq_true (by omega)]; rfl
  · rw [if_pos rfl, ouB_bit]
    by_cases c : G.i 4 s ≤ b
    · rw [decide_eq_true c, decide_eq_true ⟨c, hb⟩]; rfl
    · rw [decide_eq_false c, decide_eq_false (fun z => c z.1)]; rfl
theorem vPs_out {G : Gr} {A : Nat → Nat} {s : Nat} {outs : Bool} {k : Nat} {S : Nat → Nat} : ∀ a b, a ≤ b → vPs G A s outs k a S b = S b
  | 0, b, _ => rfl
  | a + 1, b, h => by
    rw [vPs_s]; unfold vSt
    rw [if_neg (fun z => by omega)]
    exact vPs_out a b (by omega)
theorem loop_fill_in {G : Gr} {A : Nat → Nat} {s k : Nat} {outs : Bool} {S : Nat → Nat} (N : Nat) (hN : 2000 < N) (hs : s < 8) (h8 : att G s ≤ 8) (hA : ∀ r, A r < 256) (kE : Int32 → Int32 → Mm → Option (Int32 × Mm)) : ∀ (fu i L : Nat) (M : Mm), i ≤ 8 → 8 < i + fu → LB G s (vPs G A s outs (k + 1) (if i < att G s then i else att G s) S) L → WM G s (vPs G A s outs (k + 1) (if i < att G s then i else att G s) S) M → HRo 10 0 64 A M → ∃ L' M', L_X5_fill_27 kE (nI (kdB G s outs)) N 15 9 (nI s) (nI k) fu (nI L) (bI (vB G A s outs (k + 1) S (if i < att G s then i else att G s))) (nI i) M = kE (nI L') (bI (vB G A s outs (k + 1) S (att G s))) M' ∧ LB G s (vPass G A s outs (k + 1) S) L' ∧ WM G s (vPass G A s outs (k + 1) S) M' ∧ FX (P17 s) M M'
  | 0, i, L, M, h1, h2, _, _, _ => by omega
  | fu + 1, i, L, M, h1, h2, hL, hW, hM => by
    rw [L_X5_fill_27]
    simp (disch := omega) only [n_le]
    by_cases e : 8 ≤ i
    · rw [if_neg (show ¬ i < att G s by omega)] at hL hW
      rw [if_pos e, if_neg (show ¬ i < att G s by omega)]
      exact ⟨L, M, rfl, hL, hW, FX.refl⟩
    · rw [if_neg e, n_and, bitI (Nat.lt_of_le_of_lt Nat.and_le_left (Nat.lt_trans hL.1 (by decide))) (by omega)]
      simp only [bI_0, Option.bind_some, nI_add, Nat.testBit_and, hL.2 i]
      by_cases ci : i < att G s
      · have e1 : (if i < att G s then i else att G s) = i := if_pos ci
        have e2 : (if i + 1 < att G s then i + 1 else att G s) = i + 1 := by split <;> omega
        rw [e1] at hL hW ⊢
        rw [decide_eq_true ci, Bool.true_and, kdB_b ci]
        have hvb : vB G A s outs (k + 1) S (i + 1) = (vB G A s outs (k + 1) S i || vOk G A s outs (vPs G A s outs (k + 1) i S) i) := rfl
        have skip : vOk G A s outs (vPs G A s outs (k + 1) i S) i = false → ∃ L' M', L_X5_fill_27 kE (nI (kdB G s outs)) N 15 9 (nI s) (nI k) fu (nI L) (bI (vB G A s outs (k + 1) S i)) (nI (i + 1)) M = kE (nI L') (bI (vB G A s outs (k + 1) S (att G s))) M' ∧ LB G s (vPass G A s outs (k + 1) S) L' ∧ WM G s (vPass G A s outs (k + 1) S) M' ∧ FX (P17 s) M M' := fun ho => by
          have est : vPs G A s outs (k + 1) (i + 1) S = vPs G A s outs (k + 1) i S := by
            rw [vPs_s]; funext b; unfold vSt; rw [if_neg (fun z => by rw [ho] at z; cases z.1)]
          have r := loop_fill_in (k := k) N hN hs h8 hA kE fu (i + 1) L M (by omega) (by omega) (by rw [e2, est]; exact hL) (by rw [e2, est]; exact hW) hM
          rw [e2, hvb, ho, Bool.or_false] at r
          exact r
        cases c : (decide (vPs G A s outs (k + 1) i S i = 0) && (decide (G.i 4 s ≤ i) == outs))
        · rw [if_pos rfl]
          exact skip (by unfold vOk; rw [c]; rfl)
        · rw [if_neg (by decide), s_isAwaited N hN hs h8 (by omega) hA hL hM, Option.bind_some]
          simp only [bI_0]
          cases f : vFree G A s (vPs G A s outs (k + 1) i S) i
          · rw [show (!false) = true from rfl, if_neg (by decide)]
            exact skip (by unfold vOk; rw [f, Bool.and_false])
          · have ho : vOk G A s outs (vPs G A s outs (k + 1) i S) i = true := by unfold vOk; rw [c, f]; rfl
            have est : ∀ b, vPs G A s outs (k + 1) (i + 1) S b = if b = i then k + 1 else vPs G A s outs (k + 1) i S b := fun b => by
              rw [vPs_s]; unfold vSt
              by_cases q : b = i
              · rw [if_pos ⟨ho, q⟩, if_pos q]
              · rw [if_neg (fun z => q z.2), if_neg q]
            rw [show (!true) = false from rfl, if_pos rfl, show (15 : Nat) + 2 = 17 from rfl, pk_mul, nI_add, stI_n (by omega) (by omega), Option.bind_some, n_shl 1 (show i < 32 by omega), Nat.one_mul, n_andn (Nat.lt_trans hL.1 (by decide)), ← bI_t]
            have f1 : FX (P17 s) M (upI M 17 (8 * s + i) (nI k)) := FX.I ⟨rfl, by omega, by omega⟩
            obtain ⟨L', M', r1, r2, r3, r4⟩ := loop_fill_in (k := k) (S := S) (outs := outs) N hN hs h8 hA kE fu (i + 1) (andn L (2 ^ i)) (upI M 17 (8 * s + i) (nI k)) (by omega) (by omega) (by
              rw [e2]
              refine ⟨andn_lt (k := 8) hL.1, fun b => ?_⟩
              rw [andn_b, hL.2, est]
              by_cases q : b = i
              · rw [q, Nat.testBit_two_pow_self, if_pos rfl, decide_eq_false (show ¬ k + 1 = 0 by omega), Bool.and_false]; exact Bool.and_false _
              · rw [Nat.testBit_two_pow_of_ne (fun z => q z.symm), if_neg q]; exact Bool.and_true _) (by
              rw [e2]
              intro a ha hne
              rw [est] at hne ⊢
              rw [upI_j]
              by_cases q : a = i
              · rw [if_pos (by omega), if_pos q]; rfl
              · rw [if_neg q] at hne
                rw [if_neg (by omega), if_neg q]; exact hW a ha hne) (hM.fx f1 fun j _ _ q => by have := q.1; omega)
            rw [e2, hvb, ho, Bool.or_true] at r1
            exact ⟨L', M', r1, r2, r3, f1.trans r4⟩
      · have e1 : (if i < att G s then i else att G s) = att G s := if_neg ci
        have e2 : (if i + 1 < att G s then i + 1 else att G s) = att G s := if_neg (by omega)
        rw [decide_eq_false ci, Bool.false_and, Bool.false_and, if_pos rfl]
        have r := loop_fill_in (k := k) (S := S) (outs := outs) N hN hs h8 hA kE fu (i + 1) L M (by omega) (by omega) (by rw [e2]; rw [e1] at hL; exact hL) (by rw [e2]; rw [e1] at hW; exact hW) hM
        rw [e2] at r
        rw [e1]
        exact r
theorem loop_fill {G : Gr} {A : Nat → Nat} {s k : Nat} {outs : Bool} {S : Nat → Nat} (N : Nat) (hN : 2000 < N) (hs : s < 8) (h8 : att G s ≤ 8) (hA : ∀ r, A r < 256) : ∀ (fu i L : Nat) (M : Mm), 10 < i + fu → vz G s (vIt G A s outs (k + 1) S i) + i ≤ 8 → LB G s (vIt G A s outs (k + 1) S i) L → WM G s (vIt G A s outs (k + 1) S i) M → HRo 10 0 64 A M → ∃ L' M', L_X5_fill_9 (nI (kdB G s outs)) N 15 9 (nI s) (nI k) fu (nI L) (nI 1) (nI i) M = some (nI L', M') ∧ LB G s (vFill G A s outs (k + 1) S) L' ∧ WM G s (vFill G A s outs (k + 1) S) M' ∧ FX (P17 s) M M'
  | 0, i, L, M, h1, h2, _, _, _ => by omega
  | fu + 1, i, L, M, h1, h2, hL, hW, hM => by
    rw [L_X5_fill_9]
    simp (disch := omega) only [n_lt]
    rw [if_neg (show ¬ 8 < i by omega), if_neg z10]
    have z : (if 0 < att G s then 0 else att G s) = 0 := by split <;> omega
    obtain ⟨L1, M1, a1, a2, a3, a4⟩ := loop_fill_in (k := k) (S := vIt G A s outs (k + 1) S i) (outs := outs) N hN hs h8 hA (fun (l6_4 : Int32) (l7_3 : Int32) (M4 : Mm) => ((some (nI i + (nI 1))).bind fun l8_2 => (L_X5_fill_9 (nI (kdB G s outs)) N 15 9 (nI s) (nI k) fu l6_4 l7_3 l8_2 M4))) N 0 L M (by omega) (by omega) (by rw [z]; exact hL) (by rw [z]; exact hW) hM
    rw [z] at a1
    have a1' : L_X5_fill_27 (fun (l6_4 : Int32) (l7_3 : Int32) (M4 : Mm) => ((some (nI i + (nI 1))).bind fun l8_2 => (L_X5_fill_9 (nI (kdB G s outs)) N 15 9 (nI s) (nI k) fu l6_4 l7_3 l8_2 M4))) (nI (kdB G s outs)) N 15 9 (nI s) (nI k) N (nI L) (nI 0) (nI 0) M = _ := a1
    rw [a1', Option.bind_some, nI_add]
    have pf := vPass_b (G := G) (A := A) (s := s) (outs := outs) (S := vIt G A s outs (k + 1) S i) (show ¬ k + 1 = 0 by omega)
    cases c : vB G A s outs (k + 1) (vIt G A s outs (k + 1) S i) (att G s)
    · have hf := pf.1 c
      have e := vFill_of (S := S) (i := i) (by omega) hf
      refine ⟨L1, M1, ?_, by rw [e]; rw [hf] at a2; exact a2, by rw [e]; rw [hf] at a3; exact a3, a4⟩
      cases fu with
      | zero => omega
      | succ fu =>
        rw [L_X5_fill_9]
        simp (disch := omega) only [n_lt]
        by_cases q : 8 < i + 1
        · rw [if_pos q]
        · rw [if_neg q, bI_f, if_pos rfl]
    · have hlt := pf.2.1 c
      obtain ⟨L2, M2, b1, b2, b3, b4⟩ := loop_fill (S := S) (outs := outs) N hN hs h8 hA fu (i + 1) L1 M1 (by omega) (by show vz G s (vPass G A s outs (k + 1) (vIt G A s outs (k + 1) S i)) + (i + 1) ≤ 8; omega) a2 a3 (hM.fx a4 fun j _ _ q => by have := q.1; omega)
      exact ⟨L2, M2, b1, b2, b3, a4.trans b4⟩
theorem s_fill' {G : Gr} {A : Nat → Nat} {s k L : Nat} {outs : Bool} {S : Nat → Nat} {M : Mm} (N : Nat) (hN : 2000 < N) (hs : s < 8) (h8 : att G s ≤ 8) (hA : ∀ r, A r < 256) (hL : LB G s S L) (hW : WM G s S M) (hM : HRo 10 0 64 A M) : ∃ L' M', D_X5_fill N 15 9 (nI s) (nI L) (nI (kdB G s outs)) (nI k) M = some (nI L', M') ∧ LB G s (vFill G A s outs (k + 1) S) L' ∧ WM G s (vFill G A s outs (k + 1) S) M' ∧ FX (P17 s) M M' :=
  loop_fill (S := S) (outs := outs) N hN hs h8 hA N 0 L M (by omega) (by have := vz_le G s S; show vz G s S + 0 ≤ 8; omega) hL hW hM
theorem LB_0 {G : Gr} {s L : Nat} {S : Nat → Nat} (h : LB G s S L) : (L = 0) ↔ vz G s S = 0 := by
  constructor
  · intro e
    refine Decidable.byContradiction fun c => ?_
    have : ∃ a, a < att G s ∧ S a = 0 := by
      refine Classical.byContradiction fun d => c ?_
      have : ∀ n, n ≤ att G s → cnt (fun a => decide (S a = 0)) n = 0 := by
        intro n
        induction n with
        | zero => intro _; rfl
        | succ n ih =>
          intro hn
          rw [cnt, ih (by omega), if_neg]
          intro z
          exact d ⟨n, hn, of_decide_eq_true z⟩
      exact this _ (Nat.le_refl _)
    obtain ⟨a, ha, hs⟩ := this
    have := h.2 a
    rw [e, Nat.zero_testBit, decide_eq_true ha, decide_eq_true hs] at this
    cases this
  · intro e
    apply Nat.eq_of_testBit_eq
    intro b
    rw [h.2, Nat.zero_testBit]
    by_cases c : b < att G s
    · rw [decide_eq_false (vz_ne e c), Bool.and_false]
    · rw [decide_eq_false c, Bool.false_and]
theorem loop_orderOf {g s : Nat} {G : Gr} {A : Nat → Nat} (N : Nat) (hN : 2000 < N) (h : QG G) (hg : g = 35 ∨ g = 52) (hA : ∀ r, A r < 256) (hs : s < G.i 0 0) (hAc : AcS G A s) (kE : Int32 → Mm → Option (Int32 × Mm)) : ∀ (fu t L : Nat) (M : Mm), t ≤ vT G A s → 10 < t + fu → CG g G M → LB G s (vSet G A s t) L → WM G s (vSet G A s t) M → HRo 10 0 64 A M → ∃ M', L_X5_orderOf_19 kE N g (nI s) 15 9 fu (nI L) (nI t) (nI t) M = kE (nI (vT G A s)) M' ∧ WM G s (vSet G A s (vT G A s)) M' ∧ FX (P17 s) M M'
  | 0, t, L, M, h1, h2, _, _, _, _ => by have := (vT_le hAc (h.at' hs)).1; omega
  | fu + 1, t, L, M, h1, h2, K, hL, hW, hM => by
    obtain ⟨t9, tz⟩ := vT_le hAc (h.at' hs)
    have h4 := h.at' hs
    have hns := h.ns
    have h8 : att G s ≤ 8 := by unfold att; omega
    rw [L_X5_orderOf_19]
    simp (disch := omega) only [n_lt]
    rw [if_neg (show ¬ 16 < t by omega)]
    have e0 : (nI L = nI 0) = (L = 0) := n_eq (by have := hL.1; omega) (by omega)
    simp only [e0]
    by_cases e : L = 0
    · have ez := (LB_0 hL).mp e
      have et : t = vT G A s := by
        refine Decidable.byContradiction fun c => ?_
        exact vT_no (show t < vT G A s by omega) ez
      subst et
      rw [if_pos e]
      exact ⟨M, rfl, hW, FX.refl⟩
    · have hlt : t < vT G A s := by
        refine Decidable.byContradiction fun c => ?_
        have et : t = vT G A s := by omega
        exact e ((LB_0 hL).mpr (by rw [et]; exact tz))
      rw [if_neg e, rm_n (by omega) (by omega) (by omega), Option.bind_some]
      have ek : (if nI (t % 2) = nI 0 then ((D_X1_outsOf N g (nI s) M).bind fun q4 => (some q4)) else ((D_X1_insOf N g (nI s) M).bind fun q5 => (some q5))) = some (nI (kdB G s (decide (t % 2 = 0)))) := by
        rw [s_outsOf N K (by omega) h4.1 h4.2, s_insOf N K (by omega) h4.1]
        have e2 : (nI (t % 2) = nI 0) = (t % 2 = 0) := n_eq (by omega) (by omega)
        simp only [e2]
        unfold kdB
        by_cases c : t % 2 = 0
        · rw [if_pos c, decide_eq_true c, if_pos rfl]; rfl
        · rw [if_neg c, decide_eq_false c, if_neg (by decide)]; rfl
      obtain ⟨L1, M1, a1, a2, a3, a4⟩ := s_fill' (k := t) (outs := decide (t % 2 = 0)) N hN (show s < 8 by omega) h8 hA hL hW hM
      rw [ek, Option.bind_some, a1, Option.bind_some, Option.bind_some, Option.bind_some, nI_add]
      obtain ⟨M2, b1, b2, b3⟩ := loop_orderOf N hN h hg hA hs hAc kE fu (t + 1) L1 M1 (by omega) (by omega) (K.fx a4 fun k hk j q => by have := q.1; omega) a2 a3 (hM.fx a4 fun j _ _ q => by have := q.1; omega)
      exact ⟨M2, b1, b2, a4.trans b3⟩
theorem loop_when {g s v : Nat} {G : Gr} {S : Nat → Nat} (N : Nat) (h : QG G) (hg : g = 35 ∨ g = 52) (hs : s < G.i 0 0) (hS : ∀ a, a < att G s → ¬ S a = 0 ∧ S a ≤ 9) (hv : v ≤ 5) (hv2 : ∀ a, a < att G s → (S a - 1) / 2 ≤ v) : ∀ (fu a : Nat) (M : Mm), a ≤ att G s → 9 < a + fu → CG g G M → (∀ b, b < att G s → M.1 17 (8 * s + b) = nI (if b < a then v - (S b - 1) / 2 else S b - 1)) → ∃ M', L_X5_orderOf_91 g (nI s) (nI v) 15 fu (nI a) M = some (nI v, M') ∧ (∀ b, b < att G s → M'.1 17 (8 * s + b) = nI (v - (S b - 1) / 2)) ∧ FX (P17 s) M M'
  | 0, a, M, h1, h2, _, _ => by have := h.at' hs; unfold att at h1; omega
  | fu + 1, a, M, h1, h2, K, hM => by
    have h4 := h.at' hs
    have hns := h.ns
    have h8 : att G s ≤ 8 := by unfold att; omega
    rw [L_X5_orderOf_91, ldI_n (by omega) (by omega), K.a 4 s (by omega), Option.bind_some, ldI_n (by omega) (by omega), K.a 5 s (by omega), Option.bind_some, nI_add]
    have ea : (nI (G.i 4 s + G.i 5 s) ≤ nI a) = (att G s ≤ a) := n_le (by omega) (by omega)
    simp only [ea]
    by_cases e : att G s ≤ a
    · rw [if_pos e]
      exact ⟨M, rfl, fun b hb => by rw [hM b hb, if_pos (by omega)], FX.refl⟩
    · have hma := hM a (by omega)
      rw [if_neg (Nat.lt_irrefl a)] at hma
      have hSa := hS a (by omega)
      rw [if_neg e, show (15 : Nat) + 2 = 17 from rfl, pk_mul, nI_add, ldI_n (by omega) (by omega), hma, Option.bind_some, dv_n (by omega) (by omega) (by omega), Option.bind_some, n_sub (hv2 a (by omega)), stI_n (by omega) (by omega), Option.bind_some, Option.bind_some, nI_add]
      have f1 : FX (P17 s) M (upI M 17 (8 * s + a) (nI (v - (S a - 1) / 2))) := FX.I ⟨rfl, by omega, by omega⟩
      obtain ⟨M', b1, b2, b3⟩ := loop_when N h hg hs hS hv hv2 fu (a + 1) _ (by omega) (by omega) (K.fx f1 fun k hk j q => by have := q.1; omega) (fun b hb => by
        rw [upI_j]
        by_cases q : b = a
        · rw [if_pos (by omega), if_pos (by omega), q]
        · rw [if_neg (by omega), hM b hb]
          by_cases q2 : b < a
          · rw [if_pos q2, if_pos (by omega)]
          · rw [if_neg q2, if_neg (by omega)])
      exact ⟨M', b1, b2, f1.trans b3⟩
theorem s_orderOf {g s : Nat} {G : Gr} {A : Nat → Nat} {M : Mm} (N : Nat) (hN : 2000 < N) (h : QG G) (hg : g = 35 ∨ g = 52) (hA : ∀ r, A r < 256) (hs : s < G.i 0 0) (hAc : AcS G A s) (K : CG g G M) (hM : HRo 10 0 64 A M) : ∃ M', D_X5_orderOf N 15 g 9 (nI s) M = some (nI (vV G A s), M') ∧ (∀ b, b < att G s → M'.1 17 (8 * s + b) = nI (vW G A s b)) ∧ FX (P17 s) M M' := by
  have h4 := h.at' hs
  have hns := h.ns
  have h8 : att G s ≤ 8 := by unfold att; omega
  obtain ⟨t9, tz⟩ := vT_le hAc h4
  have hv := vV_bd hAc h4
  unfold D_X5_orderOf
  rw [s_insOf N K (by omega) h4.1, Option.bind_some, s_outsOf N K (by omega) h4.1 h4.2, Option.bind_some, n_or, Option.bind_some]
  have hL : LB G s (vSet G A s 0) (inB G s ||| ouB G s) := by
    have hb : ∀ b, (inB G s ||| ouB G s).testBit b = (decide (b < att G s) && decide (vSet G A s 0 b = 0)) := fun b => by
      rw [Nat.testBit_or, inB_bit, ouB_bit, show vSet G A s 0 b = 0 from rfl, decide_eq_true rfl, Bool.and_true, ← Bool.decide_or]
      unfold att
      exact decide_eq_decide.mpr (by omega)
    refine ⟨lt_of_bits (n := 8) fun i hi => ?_, hb⟩
    rw [hb, Bool.and_eq_true] at hi
    have := of_decide_eq_true hi.1
    omega
  obtain ⟨M1, a1, a2, a3⟩ := loop_orderOf N hN h hg hA hs hAc (fun (l5_3 : Int32) (M2 : Mm) => ((dvI (l5_3 + (nI 1)) (nI 2)).bind fun v2 => (some ((mxI (nI 1) v2))).bind fun l6_3 => (L_X5_orderOf_91 g (nI s) l6_3 15 N (nI 0) M2))) N 0 (inB G s ||| ouB G s) M (Nat.zero_le _) (by omega) K hL (fun a _ hne => absurd rfl hne) hM
  rw [a1, nI_add, dv_n (by omega) (by omega) (by omega), Option.bind_some, mx_n (by omega) (by omega), Option.bind_some]
  have ev : (if 1 < (vT G A s + 1) / 2 then (vT G A s + 1) / 2 else 1) = vV G A s := by
    unfold vV
    split <;> split <;> omega
  rw [ev]
  have K1 := K.fx a3 fun k hk j q => by have := q.1; omega
  have hS : ∀ a, a < att G s → ¬ vSet G A s (vT G A s) a = 0 ∧ vSet G A s (vT G A s) a ≤ vT G A s := fun a ha => ⟨vz_ne tz ha, vSet_bd _ _⟩
  obtain ⟨M2, b1, b2, b3⟩ := loop_when (v := vV G A s) (S := vSet G A s (vT G A s)) N h hg hs (fun a ha => ⟨(hS a ha).1, by have := (hS a ha).2; omega⟩) hv.2 (fun a ha => by
    have := hS a ha
    have hne : ¬ vT G A s = 0 := by omega
    unfold vV; rw [if_neg hne]; omega) N 0 M1 (Nat.zero_le _) (by omega) K1 (fun b hb => by rw [if_neg (by omega)]; exact a2 b hb (hS b hb).1)
  exact ⟨M2, b1, b2, a3.trans b3⟩
