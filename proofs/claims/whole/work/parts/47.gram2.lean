-- the class's Grammar, method by method
def SG (g : Nat) : Nat → Prop := fun a => g ≤ a ∧ a ≤ g + 16
-- M' differs from M in g's cells alone, and holds the same references
def FG (g : Nat) (M M' : Mm) : Prop := Fr (SG g) M M' ∧ M'.2.2 = M.2.2
theorem FG.refl {g : Nat} {M : Mm} : FG g M M := ⟨Fr.refl, rfl⟩
theorem FG.trans {g : Nat} {M M' M'' : Mm} (h : FG g M M') (h' : FG g M' M'') : FG g M M'' := ⟨h.1.trans h'.1, h'.2.trans h.2⟩
theorem FG.I {g k j : Nat} {v : Int32} {M : Mm} (h : k ≤ 16) : FG g M (upI M (g + k) j v) := ⟨Fr.I ⟨by omega, by omega⟩, by rw [up2]⟩
theorem FG.F {g j : Nat} {v : Int32} {M : Mm} : FG g M (upI M g j v) := FG.I (k := 0) (by omega)
theorem FG.J {g k j : Nat} {v : Int64} {M : Mm} (h : k ≤ 16) : FG g M (upJ M (g + k) j v) := ⟨Fr.J ⟨by omega, by omega⟩, by rw [upJ3]⟩
theorem fR_n {r n : Nat} (h : r < n) : fR r n = nI r := if_pos h
theorem fR_m {r n : Nat} (h : ¬ r < n) : fR r n = m1 := if_neg h
theorem loop_findSymbol {g w : Nat} {G : Gr} {M : Mm} (C : CG g G M) (hn : G.i 0 0 ≤ 8) (hl : ∀ j, j < G.i 0 0 → G.l 1 j < 2 ^ 63) (hw : w < 2 ^ 63) : ∀ (k i : Nat), i ≤ G.i 0 0 → G.i 0 0 < i + k → (∀ j, j < i → ¬ G.l 1 j = w) → L_X1_findSymbol_2 M g (lN w) k (nI i) = some (fR (fi (G.l 1) w (G.i 0 0)) (G.i 0 0))
  | 0, i, _, h, _ => by omega
  | k + 1, i, hi, h, hj => by
    show (if (M.1 g 0) ≤ nI i then (some m1) else ((ldJ 8 (g + 1) (nI i) M).bind fun v1 => (if (lg_cmp v1 (lN w)) = nI 0 then (some (nI i)) else ((some (nI i + (nI 1))).bind fun l3_2 => (L_X1_findSymbol_2 M g (lN w) k l3_2))))) = _
    rw [C.f 0]
    simp (disch := omega) only [n_le]
    by_cases e : G.i 0 0 ≤ i
    · rw [if_pos e, fi_eq hi hj (Or.inl (by omega)), fR_m (by omega)]
    · rw [if_neg e, ldJ_n (by omega) (by omega), C.n 1 i (by omega)]
      simp only [Option.bind_some, lgc, l_eq (hl i (by omega)) hw]
      by_cases e2 : G.l 1 i = w
      · rw [if_pos e2, fi_eq hi hj (Or.inr e2), fR_n (by omega)]
      · rw [if_neg e2, nI_add]
        exact loop_findSymbol C hn hl hw k (i + 1) (by omega) (by omega) fun j hj2 => by
          by_cases e3 : j = i
          · rw [e3]; exact e2
          · exact hj j (by omega)
theorem s_findSymbol {g w : Nat} {G : Gr} {M : Mm} (N : Nat) (hN : 2000 < N) (C : CG g G M) (hn : G.i 0 0 ≤ 8) (hl : ∀ j, j < G.i 0 0 → G.l 1 j < 2 ^ 63) (hw : w < 2 ^ 63) : D_X1_findSymbol N g (lN w) M = some (fR (fi (G.l 1) w (G.i 0 0)) (G.i 0 0)) :=
  loop_findSymbol C hn hl hw N 0 (by omega) (by omega) fun j hj => by omega
theorem loop_findProduction {g w : Nat} {G : Gr} {M : Mm} (C : CG g G M) (hn : G.i 0 1 ≤ 12) (hl : ∀ j, j < G.i 0 1 → G.l 3 j < 2 ^ 63) (hw : w < 2 ^ 63) : ∀ (k i : Nat), i ≤ G.i 0 1 → G.i 0 1 < i + k → (∀ j, j < i → ¬ G.l 3 j = w) → L_X1_findProduction_2 M g (lN w) k (nI i) = some (fR (fi (G.l 3) w (G.i 0 1)) (G.i 0 1))
  | 0, i, _, h, _ => by omega
  | k + 1, i, hi, h, hj => by
    show (if (M.1 g 1) ≤ nI i then (some m1) else ((ldJ 12 (g + 3) (nI i) M).bind fun v1 => (if (lg_cmp v1 (lN w)) = nI 0 then (some (nI i)) else ((some (nI i + (nI 1))).bind fun l3_2 => (L_X1_findProduction_2 M g (lN w) k l3_2))))) = _
    rw [C.f 1]
    simp (disch := omega) only [n_le]
    by_cases e : G.i 0 1 ≤ i
    · rw [if_pos e, fi_eq hi hj (Or.inl (by omega)), fR_m (by omega)]
    · rw [if_neg e, ldJ_n (by omega) (by omega), C.n 3 i (by omega)]
      simp only [Option.bind_some, lgc, l_eq (hl i (by omega)) hw]
      by_cases e2 : G.l 3 i = w
      · rw [if_pos e2, fi_eq hi hj (Or.inr e2), fR_n (by omega)]
      · rw [if_neg e2, nI_add]
        exact loop_findProduction C hn hl hw k (i + 1) (by omega) (by omega) fun j hj2 => by
          by_cases e3 : j = i
          · rw [e3]; exact e2
          · exact hj j (by omega)
theorem s_findProduction {g w : Nat} {G : Gr} {M : Mm} (N : Nat) (hN : 2000 < N) (C : CG g G M) (hn : G.i 0 1 ≤ 12) (hl : ∀ j, j < G.i 0 1 → G.l 3 j < 2 ^ 63) (hw : w < 2 ^ 63) : D_X1_findProduction N g (lN w) M = some (fR (fi (G.l 3) w (G.i 0 1)) (G.i 0 1)) :=
  loop_findProduction C hn hl hw N 0 (by omega) (by omega) fun j hj => by omega
theorem loop_findAttribute {g s w : Nat} {G : Gr} {M : Mm} (C : CG g G M) (hs : s < 8) (hn : G.i 4 s + G.i 5 s ≤ 8) (hl : ∀ j, j < G.i 4 s + G.i 5 s → G.l 2 (8 * s + j) < 2 ^ 63) (hw : w < 2 ^ 63) : ∀ (k i : Nat), i ≤ G.i 4 s + G.i 5 s → G.i 4 s + G.i 5 s < i + k → (∀ j, j < i → ¬ G.l 2 (8 * s + j) = w) → L_X1_findAttribute_3 g (nI s) M (lN w) k (nI i) = some (fR (fi (fun a => G.l 2 (8 * s + a)) w (G.i 4 s + G.i 5 s)) (G.i 4 s + G.i 5 s))
  | 0, i, _, h, _ => by omega
  | k + 1, i, hi, h, hj => by
    show ((ldI 8 (g + 4) (nI s) M).bind fun v1 => (ldI 8 (g + 5) (nI s) M).bind fun v2 => (if (v1 + v2) ≤ nI i then (some m1) else ((ldJ 64 (g + 2) (((nI 8) * nI s) + nI i) M).bind fun v3 => (if (lg_cmp v3 (lN w)) = nI 0 then (some (nI i)) else ((some (nI i + (nI 1))).bind fun l4_2 => (L_X1_findAttribute_3 g (nI s) M (lN w) k l4_2)))))) = _
    simp (disch := omega) only [ldI_n, C.a, Option.bind_some, nI_add, n_le, pk_mul]
    by_cases e : G.i 4 s + G.i 5 s ≤ i
    · rw [if_pos e, fi_eq hi hj (Or.inl (by omega)), fR_m (by omega)]
    · rw [if_neg e, ldJ_n (by omega) (by omega), C.n 2 _ (by omega)]
      simp only [Option.bind_some, lgc, l_eq (hl i (by omega)) hw]
      by_cases e2 : G.l 2 (8 * s + i) = w
      · rw [if_pos e2, fi_eq hi hj (Or.inr e2), fR_n (by omega)]
      · rw [if_neg e2]
        exact loop_findAttribute C hs hn hl hw k (i + 1) (by omega) (by omega) fun j hj2 => by
          by_cases e3 : j = i
          · rw [e3]; exact e2
          · exact hj j (by omega)
theorem s_findAttribute {g s w : Nat} {G : Gr} {M : Mm} (N : Nat) (hN : 2000 < N) (C : CG g G M) (hs : s < 8) (hn : G.i 4 s + G.i 5 s ≤ 8) (hl : ∀ j, j < G.i 4 s + G.i 5 s → G.l 2 (8 * s + j) < 2 ^ 63) (hw : w < 2 ^ 63) : D_X1_findAttribute N g (nI s) (lN w) M = some (fR (fi (fun a => G.l 2 (8 * s + a)) w (G.i 4 s + G.i 5 s)) (G.i 4 s + G.i 5 s)) :=
  loop_findAttribute C hs hn hl hw N 0 (by omega) (by omega) fun j hj => by omega
def gSym (G : Gr) (w : Nat) : Gr := sI (sI (sI (sL G 1 (G.i 0 0) w) 4 (G.i 0 0) 0) 5 (G.i 0 0) 0) 0 0 (G.i 0 0 + 1)
theorem s_addSymbol {g w : Nat} {G : Gr} {M : Mm} (N : Nat) (C : CG g G M) (h : G.i 0 0 < 8) : ∃ M', D_X1_addSymbol N g (lN w) M = some M' ∧ CG g (gSym G w) M' ∧ FG g M M' := by
  have C1 := C.J 1 (G.i 0 0) w
  have C2 := C1.I 4 (G.i 0 0) 0
  have C3 := C2.I 5 (G.i 0 0) 0
  have C4 := C3.F 0 (G.i 0 0 + 1)
  unfold D_X1_addSymbol
  rw [C.f 0, stJ_n h (by omega), Option.bind_some, C1.f 0]
  simp (disch := omega) only [sL_i, stI_n, Option.bind_some, C2.f, C3.f, sI_i, Nat.reduceEqDiff, false_and, if_false, pI_n, nI_add]
  exact ⟨_, rfl, C4, (((FG.J (by omega)).trans (FG.I (by omega))).trans (FG.I (by omega))).trans FG.F⟩
def gAtt (G : Gr) (s w : Nat) (inn : Bool) : Gr := if inn = true then sI (sL G 2 (8 * s + G.i 4 s + G.i 5 s) w) 4 s (G.i 4 s + 1) else sI (sL G 2 (8 * s + G.i 4 s + G.i 5 s) w) 5 s (G.i 5 s + 1)
theorem s_addAttribute {g s w : Nat} {G : Gr} {M : Mm} (N : Nat) (inn : Bool) (C : CG g G M) (hs : s < 8) (h : G.i 4 s + G.i 5 s < 8) : ∃ M', D_X1_addAttribute N g (nI s) (lN w) (bI inn) M = some M' ∧ CG g (gAtt G s w inn) M' ∧ FG g M M' := by
  have C1 := C.J 2 (8 * s + G.i 4 s + G.i 5 s) w
  unfold D_X1_addAttribute
  simp (disch := omega) only [ldI_n, C.a, Option.bind_some, nI_add, pk_mul, stJ_n, C1.a, sL_i, stI_n]
  cases inn
  · rw [if_pos bI_f]
    exact ⟨_, rfl, C1.I 5 s (G.i 5 s + 1), (FG.J (by omega)).trans (FG.I (by omega))⟩
  · rw [if_neg (by rw [bI_t]; exact z10)]
    exact ⟨_, rfl, C1.I 4 s (G.i 4 s + 1), (FG.J (by omega)).trans (FG.I (by omega))⟩
def gPro (G : Gr) (w : Nat) : Gr := sI (sI (sI (sI (sI (sI (sL G 3 (G.i 0 1) w) 6 (G.i 0 1) 0) 8 (G.i 0 1) 0) 9 (G.i 0 1) 0) 10 (G.i 0 1) 0) 11 (G.i 0 1) 0) 0 1 (G.i 0 1 + 1)
theorem s_addProduction {g w : Nat} {G : Gr} {M : Mm} (N : Nat) (C : CG g G M) (h : G.i 0 1 < 12) : ∃ M', D_X1_addProduction N g (lN w) M = some M' ∧ CG g (gPro G w) M' ∧ FG g M M' := by
  have C1 := C.J 3 (G.i 0 1) w
  have C2 := C1.I 6 (G.i 0 1) 0
  have C3 := C2.I 8 (G.i 0 1) 0
  have C4 := C3.I 9 (G.i 0 1) 0
  have C5 := C4.I 10 (G.i 0 1) 0
  have C6 := C5.I 11 (G.i 0 1) 0
  have C7 := C6.F 1 (G.i 0 1 + 1)
  unfold D_X1_addProduction
  rw [C.f 1, stJ_n h (by omega), Option.bind_some, C1.f 1]
  simp (disch := omega) only [sL_i, stI_n, Option.bind_some, C2.f, C3.f, C4.f, C5.f, C6.f, sI_i, Nat.reduceEqDiff, false_and, if_false, pI_n, nI_add]
  exact ⟨_, rfl, C7, ((((((FG.J (by omega)).trans (FG.I (by omega))).trans (FG.I (by omega))).trans (FG.I (by omega))).trans (FG.I (by omega))).trans (FG.I (by omega))).trans FG.F⟩
-- the bits of a symbol's ins, of its outs
def inB (G : Gr) (s : Nat) : Nat := 2 ^ G.i 4 s - 1
def ouB (G : Gr) (s : Nat) : Nat := (2 ^ G.i 5 s - 1) * 2 ^ G.i 4 s
theorem s_insOf {g s : Nat} {G : Gr} {M : Mm} (N : Nat) (C : CG g G M) (hs : s < 8) (h : G.i 4 s ≤ 4) : D_X1_insOf N g (nI s) M = some (nI (inB G s)) := by
  unfold D_X1_insOf
  have h0 : 0 < 2 ^ G.i 4 s := Nat.two_pow_pos _
  rw [ldI_n hs (by omega), C.a 4 s (by omega), Option.bind_some, n_shl 1 (show G.i 4 s < 32 by omega), Nat.one_mul, n_sub (by omega)]; rfl
theorem s_outsOf {g s : Nat} {G : Gr} {M : Mm} (N : Nat) (C : CG g G M) (hs : s < 8) (h : G.i 4 s ≤ 4) (h' : G.i 5 s ≤ 4) : D_X1_outsOf N g (nI s) M = some (nI (ouB G s)) := by
  unfold D_X1_outsOf
  have h0 : 0 < 2 ^ G.i 5 s := Nat.two_pow_pos _
  rw [ldI_n hs (by omega), C.a 5 s (by omega), Option.bind_some, ldI_n hs (by omega), C.a 4 s (by omega), Option.bind_some, n_shl 1 (show G.i 5 s < 32 by omega), Nat.one_mul, n_sub (by omega), n_shl _ (show G.i 4 s < 32 by omega)]; rfl
def gSid (G : Gr) (p s : Nat) : Gr :=
  sI (sI (sI (sI G 7 (4 * p + G.i 6 p) s) 8 p (G.i 8 p ||| (inB G s ||| ouB G s) * 2 ^ (8 * G.i 6 p))) 9 p (G.i 9 p ||| (if G.i 6 p = 0 then ouB G s else inB G s) * 2 ^ (8 * G.i 6 p))) 6 p (G.i 6 p + 1)
theorem s_addSide {g p s : Nat} {G : Gr} {M : Mm} (N : Nat) (C : CG g G M) (hp : p < 12) (hd : G.i 6 p < 4) (hs : s < 8) (h : G.i 4 s ≤ 4) (h' : G.i 5 s ≤ 4) : ∃ M', D_X1_addSide N g (nI p) (nI s) M = some M' ∧ CG g (gSid G p s) M' ∧ FG g M M' := by
  have C1 := C.I 7 (4 * p + G.i 6 p) s
  have C2 := C1.I 8 p (G.i 8 p ||| (inB G s ||| ouB G s) * 2 ^ (8 * G.i 6 p))
  have C3 := C2.I 9 p (G.i 9 p ||| (if G.i 6 p = 0 then ouB G s else inB G s) * 2 ^ (8 * G.i 6 p))
  have C4 := C3.I 6 p (G.i 6 p + 1)
  have e4 : ∀ (j : Nat) (v : Nat), (sI G 7 j v).i 4 = G.i 4 := fun j v => by funext x; simp only [sI_i, Nat.reduceEqDiff, false_and, if_false]
  have e5 : ∀ (j : Nat) (v : Nat), (sI G 7 j v).i 5 = G.i 5 := fun j v => by funext x; simp only [sI_i, Nat.reduceEqDiff, false_and, if_false]
  have q1 := s_insOf N C1 hs (by rw [e4]; exact h)
  have q2 := s_outsOf N C1 hs (by rw [e4]; exact h) (by rw [e5]; exact h')
  have e4' : ∀ (j v j' v' : Nat), (sI (sI G 7 j v) 8 j' v').i 4 = G.i 4 := fun j v j' v' => by funext x; simp only [sI_i, Nat.reduceEqDiff, false_and, if_false]
  have e5' : ∀ (j v j' v' : Nat), (sI (sI G 7 j v) 8 j' v').i 5 = G.i 5 := fun j v j' v' => by funext x; simp only [sI_i, Nat.reduceEqDiff, false_and, if_false]
  have q3 := s_insOf N C2 hs (by rw [e4']; exact h)
  have q4 := s_outsOf N C2 hs (by rw [e4']; exact h) (by rw [e5']; exact h')
  simp only [inB, ouB, e4, e5, e4', e5'] at q1 q2 q3 q4
  unfold D_X1_addSide
  simp (disch := omega) only [ldI_n, C.a, C1.a, Option.bind_some, nI_add, pk_mul, stI_n, sI_i, Nat.reduceEqDiff, false_and, if_false, q1, q2, n_or, n_shl]
  simp only [inB, ouB] at C2 C3 C4 ⊢
  have e9 : (if nI (G.i 6 p) = nI 0 then ((D_X1_outsOf N g (nI s) (upI (upI M (g + 7) (4 * p + G.i 6 p) (nI s)) (g + 8) p (nI (G.i 8 p ||| ((2 ^ G.i 4 s - 1) ||| (2 ^ G.i 5 s - 1) * 2 ^ G.i 4 s) * 2 ^ (8 * G.i 6 p))))).bind fun q3 => (some q3)) else ((D_X1_insOf N g (nI s) (upI (upI M (g + 7) (4 * p + G.i 6 p) (nI s)) (g + 8) p (nI (G.i 8 p ||| ((2 ^ G.i 4 s - 1) ||| (2 ^ G.i 5 s - 1) * 2 ^ G.i 4 s) * 2 ^ (8 * G.i 6 p))))).bind fun q4 => (some q4))) = some (nI (if G.i 6 p = 0 then (2 ^ G.i 5 s - 1) * 2 ^ G.i 4 s else 2 ^ G.i 4 s - 1)) := by
    simp (disch := omega) only [n_eq, q3, q4, Option.bind_some]
    by_cases e : G.i 6 p = 0
    · rw [if_pos e, if_pos e]
    · rw [if_neg e, if_neg e]
  rw [e9]
  simp (disch := omega) only [ldI_n, C2.a, C3.a, Option.bind_some, nI_add, stI_n, sI_i, Nat.reduceEqDiff, false_and, if_false, n_or, n_shl]
  exact ⟨_, rfl, C4, (((FG.I (by omega)).trans (FG.I (by omega))).trans (FG.I (by omega))).trans (FG.I (by omega))⟩
