-- the reference: a grammar's text, whole
def PG (a j : Nat) : Prop := PR a j ∨ a = 137 ∧ (5 ≤ j ∧ j ≤ 21)
def PH (a j : Nat) : Prop := PG a j ∨ a = 139 ∨ a = 141 ∨ a = 137 ∧ (j = 9 ∨ j = 50)
/-- a grammar told -/
def QT (G : Gr) (M : Mm) : Prop := RG 139 141 G (G.i 0 0) (G.i 0 1) 1000 M ∧ W0 G ∧ W2 G ∧ W4 G ∧ ZR G (G.i 0 1) ∧ GI G
theorem r_ends (N : Nat) (b : Bool) (M : Mm) : ∃ M', D_X12_ends N 137 (bI b) M = some (nI (if b = true then 0 else 9), M') ∧ M'.1 137 7 = M.1 137 16 ∧ M'.1 137 8 = M.1 137 17 ∧ FX (fun a j => a = 137 ∧ (j = 7 ∨ j = 8)) M M' := by
  unfold D_X12_ends
  rw [pI_n, Option.bind_some, pI_n, Option.bind_some]
  have f : FX (fun a j => a = 137 ∧ (j = 7 ∨ j = 8)) M (upI (upI M 137 7 (M.1 137 16)) 137 8 ((upI M 137 7 (M.1 137 16)).1 137 17)) := (FX.I ⟨rfl, Or.inl rfl⟩).trans (FX.I ⟨rfl, Or.inr rfl⟩)
  refine ⟨_, ?_, ?_, ?_, f⟩
  · cases b
    · rw [bI_f, if_pos rfl]; rfl
    · rw [bI_t, if_neg z10]; rfl
  · rw [upI_j, if_neg (by omega), upI_j, if_pos rfl]
  · rw [upI_j, if_pos rfl, upI_j, if_neg (by omega)]
def RGr (G0 : Gr) (B : Nat → Nat) (n : Nat) (M : Mm) (N : Nat) (x : Option (Int32 × Mm)) : Prop := match pRead (toks B n 0) G0 with
  | .inl e => ∃ M', x = some (m1, M') ∧ M'.1 137 7 = nI e.1 ∧ M'.1 137 8 = nI e.2 ∧ M'.1 137 6 = nI 9 ∧ M'.1 137 5 = nI 0 ∧ M'.1 137 9 = M.1 137 9 ∧ FX PG M M'
  | .inr y => ∃ M1, x = ((D_X12_induces N 137 M1).bind fun M16 => (ldI 3816 139 (nI 1) M16).bind fun v3 => (D_X12_gives N 137 v3 M16).bind fun q6 => some (q6.1, q6.2)) ∧ QT y.2 M1 ∧ LI (toks B n 0) y.1 y.2 ∧ M1.1 137 7 = nI 0 ∧ M1.1 137 8 = m1 ∧ M1.1 137 5 = nI 0 ∧ M1.1 137 9 = nI 1 ∧ M1.1 137 50 = nI 0 ∧ FX PH M M1
theorem v_grammar1 {B : Nat → Nat} {n t : Nat} {M : Mm} (N : Nat) (hN : 5000 < N) (G0 : Gr) (ht : M.1 137 5 = nI t) (ht2 : t ≤ 1000) (hn : n ≤ t) (hB : ∀ i, i < n → M.1 138 i = nI (B i) ∧ B i < 256) : RGr G0 B n M N (D_X12_grammar N 137 (nI n) M) := by
  unfold D_X12_grammar
  rw [ht, r_isFrom N M (by omega) (by omega) (by omega), Option.bind_some, decide_eq_true ⟨Nat.zero_le n, hn⟩, bI_t, if_neg z10]
  obtain ⟨M1, a1, K1, Z1, t1, p1⟩ := v_begins (B := B) N (by omega) (by omega) hB
  rw [a1, Option.bind_some]
  simp (disch := omega) only [show (137 : Nat) + 3 = 140 from rfl, show (137 : Nat) + 2 = 139 from rfl, stI_n, Option.bind_some]
  generalize hM5 : upI (upI (upI (upI M1 140 0 (nI 0)) 140 1 (nI 0)) 140 2 (nI 0)) 140 3 (nI 0) = M5
  have f5 : FX (fun a _ => a = 140) M1 M5 := by
    rw [← hM5]; exact (((FX.I (P := fun a _ => a = 140) rfl).trans (FX.I rfl)).trans (FX.I rfl)).trans (FX.I rfl)
  have hj : ∀ j, j < 4 → M5.1 140 j = nI 0 := fun j hj => by
    rw [← hM5, upI_j, upI_j, upI_j, upI_j]
    repeat' split
    all_goals (first | rfl | omega)
  have K5 : RQ B n (toks B n 0) 0 M5 := K1.fx f5 (fun j q => by omega) (fun j _ q => by omega)
  have Z5 : RZ M5 := ⟨(f5.2 137 16 (by omega)).1.trans Z1.1, (f5.2 137 17 (by omega)).1.trans Z1.2⟩
  have T5 : M5.1 137 5 = nI 0 := (f5.2 137 5 (by omega)).1.trans t1
  have hl := K5.t.2.2
  have hE := K5.t.2.1
  have hT := K5.t.1
  have Q5 : QL B n (toks B n 0) 0 (gClr G0) M5 := gClr_QL hl K5 Z5 (hj 0 (by omega)) (hj 1 (by omega)) (hj 2 (by omega)) (hj 3 (by omega))
  have L5 : LI (toks B n 0) 0 (gClr G0) := gClr_LI K5.h hl
  have P5 : FX PG M M5 := (p1.mono fun a j q => Or.inr ⟨q.1, by have := q.2; omega⟩).trans (f5.mono fun a j q => Or.inl (Or.inr (Or.inl q)))
  have P59 : M5.1 137 9 = M.1 137 9 := (f5.2 137 9 (by omega)).1.trans (p1.2 137 9 (by unfold PN; omega)).1
  have PRG : ∀ {X Y : Mm}, FX PR X Y → FX PG X Y := fun h => h.mono fun a j q => Or.inl q
  generalize hkE : (fun (l2_2 : Int32) (M7 : Mm) => ((D_X12_ends N 137 l2_2 M7).bind fun q5 => (if q5.1 ≤ nI 0 then (L_X12_grammar_92 _ 137 N (nI 0) q5.2) else _))) = kE
  have r1 := v_readLine N (by omega) Q5 L5
  have r : RVk (QL B n (toks B n 0)) M5 (pRead (toks B n 0) G0) kE ((D_X12_readLine N 137 M5).bind fun q3 => L_X12_grammar_56 kE 137 N N q3.1 q3.2) := by
    show RVk _ M5 (bnd (pLine (toks B n 0) 0 (gClr G0)) fun h' G' => pRL (toks B n 0) 999 false h' G') kE _
    cases e2 : pLine (toks B n 0) 0 (gClr G0) with
    | inl er =>
      rw [e2] at r1; obtain ⟨M2, a, b, c⟩ := r1
      rw [a, Option.bind_some]
      refine ⟨M2, ?_, b, c⟩
      cases N with
      | zero => omega
      | succ N => rw [L_X12_grammar_56, if_pos rfl]
    | inr y =>
      rw [e2] at r1; obtain ⟨M2, a, b, c⟩ := r1
      rw [a, Option.bind_some]
      have hy := pLine_h hT hE L5 e2
      have rr := loop_v_lines N (by omega) N 999 y.1 y.2 M2 b (pLine_L hT hE L5 e2) (by omega) (by omega) (kE := kE)
      show RVk _ M5 (pRL (toks B n 0) 999 false y.1 y.2) kE _
      cases e3 : pRL (toks B n 0) 999 false y.1 y.2 with
      | inl er => rw [e3] at rr; obtain ⟨M3, a3, b3, c3⟩ := rr; exact ⟨M3, a3, b3, c.trans c3⟩
      | inr z => rw [e3] at rr; obtain ⟨M3, a3, b3, c3⟩ := rr; exact ⟨M3, a3, b3, c.trans c3⟩
  unfold RGr
  cases e : pRead (toks B n 0) G0 with
  | inl er =>
    rw [e] at r
    obtain ⟨M6, a6, b6, c6⟩ := r
    rw [a6, ← hkE]
    obtain ⟨M7, a7, b7, c7, f7⟩ := r_ends N false M6
    show ∃ M', ((D_X12_ends N 137 (bI false) M6).bind _) = _ ∧ _
    rw [a7, Option.bind_some]
    simp only [Bool.false_eq_true, if_false]
    rw [if_neg (show ¬ nI 9 ≤ nI 0 by decide +kernel)]
    unfold D_X12_refuse
    rw [pI_n, Option.bind_some, Option.bind_some]
    have f8 : FX PG M7 (upI M7 137 6 (nI 9)) := FX.I (Or.inr ⟨rfl, by omega⟩)
    refine ⟨_, rfl, ?_, ?_, ?_, ?_, ?_, ((P5.trans (PRG c6)).trans (f7.mono fun a j q => Or.inr ⟨q.1, by have := q.2; omega⟩)).trans f8⟩
    · rw [upI_j, if_neg (by omega), b7]; exact b6.1
    · rw [upI_j, if_neg (by omega), c7]; exact b6.2
    · rw [upI_j, if_pos rfl]
    · rw [upI_j, if_neg (by omega), (f7.2 137 5 (by omega)).1, (c6.2 137 5 (by unfold PR PB; omega)).1]; exact T5
    · rw [upI_j, if_neg (by omega), (f7.2 137 9 (by omega)).1, (c6.2 137 9 (by unfold PR PB; omega)).1]; exact P59
  | inr y =>
    rw [e] at r
    obtain ⟨M6, a6, b6, c6⟩ := r
    rw [a6, ← hkE]
    obtain ⟨M7, a7, b7, c7, f7⟩ := r_ends N true M6
    have hLI : LI (toks B n 0) y.1 y.2 := pRL_L hT hE 1000 true 0 (gClr G0) y L5 e
    have n12 := hLI.1.2.1
    show ∃ M', ((D_X12_ends N 137 (bI true) M6).bind _) = _ ∧ _
    rw [a7, Option.bind_some]
    simp only [if_true]
    rw [if_pos (show nI 0 ≤ nI 0 by decide +kernel)]
    obtain ⟨M8, a8, b8, c8, d8, f8⟩ := loop_v_copy (fun (M10 : Mm) => (L_X12_grammar_119 (fun (M13 : Mm) => ((pZ M13 137 9 (nI 1)).bind fun M14 => (pI M14 137 50 (nI 0)).bind fun M15 => (D_X12_induces N 137 M15).bind fun M16 => (ldI 3816 139 (nI 1) M16).bind fun v3 => (D_X12_gives N 137 v3 M16).bind fun q6 => some (q6.1, q6.2))) 137 N (nI 0) M10)) N 0 M7 (by omega) (by omega)
    obtain ⟨M9, a9, b9, g9, c9, d9, h9⟩ := loop_v_copyJ (fun (M13 : Mm) => ((pZ M13 137 9 (nI 1)).bind fun M14 => (pI M14 137 50 (nI 0)).bind fun M15 => (D_X12_induces N 137 M15).bind fun M16 => (ldI 3816 139 (nI 1) M16).bind fun v3 => (D_X12_gives N 137 v3 M16).bind fun q6 => some (q6.1, q6.2))) N 0 M8 (by omega) (by omega)
    have e78 : (L_X12_grammar_92 (fun (M10 : Mm) => (L_X12_grammar_119 (fun (M13 : Mm) => ((pZ M13 137 9 (nI 1)).bind fun M14 => (pI M14 137 50 (nI 0)).bind fun M15 => (D_X12_induces N 137 M15).bind fun M16 => (ldI 3816 139 (nI 1) M16).bind fun v3 => (D_X12_gives N 137 v3 M16).bind fun q6 => some (q6.1, q6.2))) 137 N (nI 0) M10)) 137 N (nI 0) M7) = ((pZ M9 137 9 (nI 1)).bind fun M14 => (pI M14 137 50 (nI 0)).bind fun M15 => (D_X12_induces N 137 M15).bind fun M16 => (ldI 3816 139 (nI 1) M16).bind fun v3 => (D_X12_gives N 137 v3 M16).bind fun q6 => some (q6.1, q6.2)) := a8.trans a9
    refine ⟨upI (upI M9 137 9 (nI 1)) 137 50 (nI 0), ?_, ⟨?_, hLI.1, hLI.2.1, b6.2.2.2.1, b6.2.2.1, b6.2.2.2.2⟩, hLI, ?_, ?_, ?_, ?_, ?_, ?_⟩
    · refine Eq.trans e78 ?_
      rw [pZ_1, Option.bind_some, pI_n, Option.bind_some]
    · have hG7 : RG 140 142 y.2 (y.2.i 0 0) (y.2.i 0 1) 1000 M7 := b6.1.2.1.eq (by funext j; exact (f7.2 140 j (by omega)).1) (by funext j; exact (f7.2 142 j (by omega)).2)
      refine hG7.copy hLI.1 n12 (fun j hj => ?_) (fun j hj => ?_)
      · rw [up1, if_neg (by omega), up1, if_neg (by omega), b9]; exact d8 j (by omega) hj
      · rw [up2, up2, d9 j (by omega) hj, b8]
    · rw [upI_j, if_neg (by omega), upI_j, if_neg (by omega), b9, c8 137 (by omega), b7]; exact b6.1.2.2.1
    · rw [upI_j, if_neg (by omega), upI_j, if_neg (by omega), b9, c8 137 (by omega), c7]; exact b6.1.2.2.2
    · rw [upI_j, if_neg (by omega), upI_j, if_neg (by omega), b9, c8 137 (by omega), (f7.2 137 5 (by omega)).1, (c6.2 137 5 (by unfold PR PB; omega)).1]; exact T5
    · rw [upI_j, if_neg (by omega), upI_j, if_pos rfl]
    · rw [upI_j, if_pos rfl]
    · have fa : FX PH M M7 := ((P5.trans (PRG c6)).trans (f7.mono fun a j q => Or.inr ⟨q.1, by have := q.2; omega⟩)).mono fun a j q => Or.inl q
      have fb : FX PH M7 M9 := ⟨by rw [g9, b8], fun a j q => ⟨by
        rw [b9, c8 a (fun z => q (Or.inr (Or.inl z)))], by
        rw [c9 a (fun z => q (Or.inr (Or.inr (Or.inl z)))), b8]⟩⟩
      exact ((fa.trans fb).trans (FX.I (Or.inr (Or.inr (Or.inr ⟨rfl, Or.inl rfl⟩))))).trans (FX.I (Or.inr (Or.inr (Or.inr ⟨rfl, Or.inr rfl⟩))))
