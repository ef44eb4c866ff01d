-- symbols' lines
def W0 (G : Gr) : Prop := G.i 0 0 ≤ 8 ∧ G.i 0 1 ≤ 12 ∧ G.i 0 2 ≤ 1000 ∧ (∀ s, s < G.i 0 0 → G.i 4 s ≤ 4 ∧ G.i 5 s ≤ 4 ∧ okW 8 (G.l 1 s) ∧ ∀ a, a < G.i 4 s + G.i 5 s → okW 8 (G.l 2 (8 * s + a))) ∧ (∀ p, p < G.i 0 1 → okW 8 (G.l 3 p) ∧ G.i 6 p ≤ 4 ∧ ∀ k, k < G.i 6 p → G.i 7 (4 * p + k) < G.i 0 0)
theorem ok63 {c : Nat} (h : okW 8 c) : c < 2 ^ 63 := Nat.lt_trans (okW_lt 8 c h) (by decide)
theorem W0.c {G : Gr} (h : W0 G) : G.i 0 2 ≤ 1000 := h.2.2.1
theorem isNm_k {x : Tok} (h : isNm x = true) : x.1 = 1 := by
  unfold isNm at h; rw [Bool.and_eq_true] at h; exact beq_iff_eq.mp h.1
theorem nm_ok {n : Nat} {T : List Tok} {h : Nat} (hT : TT n T) (hh : h < T.length) (e : isNm (tk T h) = true) : okW 8 (tk T h).2.2.2 := (hT.g hh).2.2.1 (isNm_k e)
theorem RI.bind {T : List Tok} {g : Nat} {M : Mm} {r : RS} {x : Option (Int32 × Mm)} {f : Nat → Gr → RS} {F : Int32 × Mm → Option (Int32 × Mm)} (h : RI T g M r x) (h0 : ∀ M', F (nI 0, M') = some (nI 0, M')) (h1 : ∀ y M', r = .inr y → KS T y.1 g y.2 M' → RI T g M' (f y.1 y.2) (F (nI 1, M'))) : RI T g M (bnd r f) (x.bind F) := by
  cases r with
  | inl e => obtain ⟨M', a, b⟩ := h; exact ⟨M', by rw [a, Option.bind_some, h0], b⟩
  | inr y => obtain ⟨M', a, b, c, d⟩ := h; rw [a, Option.bind_some]; exact (h1 y M' rfl b).pre c d
theorem RC.bind {T : List Tok} {g : Nat} {M : Mm} {r : RS} {x : Option (Int32 × Mm)} {f : Nat → Gr → RS} {F : Int32 × Mm → Option (Int32 × Mm)} (h : RC T g M r x) (h0 : ∀ M', F (nI 0, M') = some (nI 0, M')) (h1 : ∀ y M', r = .inr y → KS T y.1 g y.2 M' → RC T g M' (f y.1 y.2) (F (nI 1, M'))) : RC T g M (bnd r f) (x.bind F) := by
  cases r with
  | inl e => obtain ⟨M', a, b⟩ := h; exact ⟨M', by rw [a, Option.bind_some, h0], b⟩
  | inr y => obtain ⟨M', a, b, c⟩ := h; rw [a, Option.bind_some]; exact (h1 y M' rfl b).pre c
def pAttr (inn : Bool) (T : List Tok) (h : Nat) (G : Gr) : RS :=
  if isNm (tk T h) = true then
    (if fi (fun a => G.l 2 (8 * (G.i 0 0 - 1) + a)) (tk T h).2.2.2 (G.i 4 (G.i 0 0 - 1) + G.i 5 (G.i 0 0 - 1)) < G.i 4 (G.i 0 0 - 1) + G.i 5 (G.i 0 0 - 1) then fl T h 4
     else if (if inn = true then G.i 4 (G.i 0 0 - 1) else G.i 5 (G.i 0 0 - 1)) < 4 then .inr (adv T h, gAtt G (G.i 0 0 - 1) (tk T h).2.2.2 inn) else fl T h 6)
  else fl T h 2
-- what a line of a symbol leaves as it was
def Sa (G G' : Gr) : Prop := G'.i 0 1 = G.i 0 1 ∧ G'.i 0 2 = G.i 0 2 ∧ G'.pa = G.pa ∧ G'.cp = G.cp ∧ G'.co = G.co
theorem Sa.refl {G : Gr} : Sa G G := ⟨rfl, rfl, rfl, rfl, rfl⟩
theorem Sa.trans {G G' G'' : Gr} (h : Sa G G') (h' : Sa G' G'') : Sa G G'' := ⟨h'.1.trans h.1, h'.2.1.trans h.2.1, h'.2.2.1.trans h.2.2.1, h'.2.2.2.1.trans h.2.2.2.1, h'.2.2.2.2.trans h.2.2.2.2⟩
theorem gAtt_i0 (G : Gr) (s w : Nat) (inn : Bool) (j : Nat) : (gAtt G s w inn).i 0 j = G.i 0 j := by
  cases inn <;> simp only [gAtt, if_true, if_false, sI_i, sL_i, Bool.false_eq_true, Nat.reduceEqDiff, false_and]
theorem gAtt_ik (G : Gr) (s w : Nat) (inn : Bool) (k j : Nat) (h4 : ¬ k = 4) (h5 : ¬ k = 5) : (gAtt G s w inn).i k j = G.i k j := by
  cases inn <;> simp only [gAtt, if_true, if_false, sI_i, sL_i, Bool.false_eq_true, h4, h5, false_and]
theorem gAtt_4 (G : Gr) (s w : Nat) (inn : Bool) (j : Nat) : (gAtt G s w inn).i 4 j = if inn = true ∧ j = s then G.i 4 s + 1 else G.i 4 j := by
  cases inn <;> simp only [gAtt, if_true, if_false, sI_i, sL_i, Bool.false_eq_true, Nat.reduceEqDiff, false_and, true_and]
theorem gAtt_5 (G : Gr) (s w : Nat) (inn : Bool) (j : Nat) : (gAtt G s w inn).i 5 j = if inn = false ∧ j = s then G.i 5 s + 1 else G.i 5 j := by
  cases inn <;> simp only [gAtt, if_true, if_false, sI_i, sL_i, Bool.false_eq_true, Bool.true_eq_false, Nat.reduceEqDiff, false_and, true_and]
theorem gAtt_l (G : Gr) (s w : Nat) (inn : Bool) (k j : Nat) : (gAtt G s w inn).l k j = if k = 2 ∧ j = 8 * s + G.i 4 s + G.i 5 s then w else G.l k j := by
  cases inn <;> simp only [gAtt, if_true, if_false, sI_l, sL_l, Bool.false_eq_true]
theorem gAtt_c (G : Gr) (s w : Nat) (inn : Bool) : (gAtt G s w inn).pa = G.pa ∧ (gAtt G s w inn).cp = G.cp ∧ (gAtt G s w inn).co = G.co := by
  cases inn <;> exact ⟨rfl, rfl, rfl⟩
theorem gAtt_W {G : Gr} {s w : Nat} {inn : Bool} (h : W0 G) (hs : s < G.i 0 0) (hw : okW 8 w) (hi : (if inn = true then G.i 4 s else G.i 5 s) < 4) : W0 (gAtt G s w inn) := by
  obtain ⟨h1, h2, h3, h4, h5⟩ := h
  refine ⟨by rw [gAtt_i0]; exact h1, by rw [gAtt_i0]; exact h2, by rw [gAtt_i0]; exact h3, fun t ht => ?_, fun p hp => ?_⟩
  · rw [gAtt_i0] at ht
    obtain ⟨a1, a2, a3, a4⟩ := h4 t ht
    obtain ⟨b1, b2, _⟩ := h4 s hs
    have el : (gAtt G s w inn).l 1 t = G.l 1 t := by rw [gAtt_l, if_neg (by omega)]
    rw [el]
    refine ⟨?_, ?_, a3, fun a ha => ?_⟩
    · rw [gAtt_4]
      split
      · rename_i e; rw [if_pos e.1] at hi; omega
      · exact a1
    · rw [gAtt_5]
      split
      · rename_i e; rw [if_neg (by rw [e.1]; decide)] at hi; omega
      · exact a2
    · rw [gAtt_l]
      split
      · exact hw
      · rename_i e
        refine a4 a ?_
        rw [gAtt_4, gAtt_5] at ha
        by_cases et : t = s
        · subst et
          cases inn
          · simp only [Bool.false_eq_true, false_and, if_false, true_and, if_true] at ha; omega
          · simp only [Bool.true_eq_false, false_and, if_false, true_and, if_true] at ha; omega
        · simp only [et, and_false, if_false] at ha; exact ha
  · rw [gAtt_i0] at hp
    obtain ⟨a1, a2, a3⟩ := h5 p hp
    rw [gAtt_l, if_neg (by omega), gAtt_ik _ _ _ _ _ _ (by omega) (by omega), gAtt_i0]
    refine ⟨a1, a2, fun k hk => ?_⟩
    rw [gAtt_ik _ _ _ _ _ _ (by omega) (by omega)]; exact a3 k hk
theorem adv_ge {T : List Tok} {h : Nat} : h ≤ adv T h := by unfold adv; split <;> omega
theorem pAttr_W {n : Nat} {T : List Tok} {h : Nat} {G : Gr} {inn : Bool} {y : Nat × Gr} (hT : TT n T) (hh : h < T.length) (h0 : W0 G) (h1 : 0 < G.i 0 0) (e : pAttr inn T h G = .inr y) : W0 y.2 ∧ y.2.i 0 0 = G.i 0 0 ∧ Sa G y.2 ∧ h ≤ y.1 := by
  unfold pAttr at e
  split at e
  · rename_i e1
    split at e
    · unfold fl at e; cases e
    · by_cases e3 : (if inn = true then G.i 4 (G.i 0 0 - 1) else G.i 5 (G.i 0 0 - 1)) < 4
      · rw [if_pos e3] at e
        injection e with e
        subst e
        exact ⟨gAtt_W h0 (by omega) (nm_ok hT hh e1) e3, gAtt_i0 .., ⟨gAtt_i0 .., gAtt_i0 .., (gAtt_c ..).1, (gAtt_c ..).2.1, (gAtt_c ..).2.2⟩, adv_ge⟩
      · rw [if_neg e3] at e; unfold fl at e; cases e
  · unfold fl at e; cases e
theorem fR_m1 {r n : Nat} (hn : n < 2 ^ 31) : (fR r n = m1) = ¬ r < n := by
  unfold fR
  split
  · rename_i h; exact propext ⟨fun q => absurd q (n_ne_m1 (by omega)), fun q => absurd h q⟩
  · rename_i h; exact propext ⟨fun _ => h, fun _ => rfl⟩
theorem TK.h {T : List Tok} {h : Nat} {M : Mm} (K : TK T h M) : h < T.length := K.2.1
theorem TK.v {T : List Tok} {h : Nat} {M : Mm} (K : TK T h M) : M.2.1 2 8 = lN (tk T h).2.2.2 := K.2.2.2.2.2
theorem s_readAttribute {n : Nat} {T : List Tok} {h g : Nat} {G : Gr} {M : Mm} (N : Nat) (hN : 2000 < N) (inn : Bool) (hT : TT n T) (hg : g = 35 ∨ g = 52) (h0 : W0 G) (h1 : 0 < G.i 0 0) (K : KS T h g G M) : RI T g M (pAttr inn T h G) (D_X2_readAttribute N 7 (bI inn) M) := by
  have hs : G.i 0 0 - 1 < 8 := by have := h0.1; omega
  obtain ⟨a1, a2, a3, a4⟩ := h0.2.2.2.1 (G.i 0 0 - 1) (by omega)
  have e0 : M.1 g 0 - nI 1 = nI (G.i 0 0 - 1) := by rw [K.2.1.f 0, n_sub h1]
  unfold D_X2_readAttribute pAttr
  simp only [KS.t K, KS.g hg K, Option.bind_some, k_name N hT K, e0, K.1.v, bI_0]
  cases e1 : isNm (tk T h)
  · simp only [e1, Bool.false_eq_true, Bool.true_eq_false, eq_self, if_true, if_false, not_true_eq_false, not_false_eq_true]; exact k_fail N 2 hT hg h0.c K
  · have hw := ok63 (nm_ok hT K.1.h e1)
    simp only [e1, Bool.false_eq_true, Bool.true_eq_false, eq_self, if_true, if_false, not_true_eq_false, not_false_eq_true, s_findAttribute N hN K.2.1 hs (show G.i 4 (G.i 0 0 - 1) + G.i 5 (G.i 0 0 - 1) ≤ 8 by omega) (fun j hj => ok63 (a4 j hj)) hw, Option.bind_some, fR_m1 (show G.i 4 (G.i 0 0 - 1) + G.i 5 (G.i 0 0 - 1) < 2 ^ 31 by omega)]
    by_cases e2 : fi (fun a => G.l 2 (8 * (G.i 0 0 - 1) + a)) (tk T h).2.2.2 (G.i 4 (G.i 0 0 - 1) + G.i 5 (G.i 0 0 - 1)) < G.i 4 (G.i 0 0 - 1) + G.i 5 (G.i 0 0 - 1)
    · simp only [e2, Bool.false_eq_true, Bool.true_eq_false, eq_self, if_true, if_false, not_true_eq_false, not_false_eq_true]; exact k_fail N 4 hT hg h0.c K
    · simp only [e2, Bool.false_eq_true, Bool.true_eq_false, eq_self, if_true, if_false, not_true_eq_false, not_false_eq_true]
      have e5 : (if inn = false then (ldI 8 (g + 5) (nI (G.i 0 0 - 1)) M).bind fun v1 => some v1 else (ldI 8 (g + 4) (nI (G.i 0 0 - 1)) M).bind fun v2 => some v2) = some (nI (if inn = true then G.i 4 (G.i 0 0 - 1) else G.i 5 (G.i 0 0 - 1))) := by
        simp (disch := omega) only [ldI_n, K.2.1.a, Option.bind_some]
        cases inn <;> rfl
      rw [e5]
      have e6 : (if inn = true then G.i 4 (G.i 0 0 - 1) else G.i 5 (G.i 0 0 - 1)) < 2 ^ 31 := by split <;> omega
      simp only [Option.bind_some, n_lt e6 (show 4 < 2 ^ 31 by omega)]
      by_cases e3 : (if inn = true then G.i 4 (G.i 0 0 - 1) else G.i 5 (G.i 0 0 - 1)) < 4
      · rw [if_pos e3, if_pos e3]
        obtain ⟨M1, f1, C1, g1⟩ := s_addAttribute (w := (tk T h).2.2.2) N inn K.2.1 hs (by cases inn <;> simp at e3 <;> omega)
        have c := gAtt_c G (G.i 0 0 - 1) (tk T h).2.2.2 inn
        have K1 := K.G hg C1 g1 c.1 c.2.1 c.2.2
        obtain ⟨M2, f2, K2, g2⟩ := k_adv N hT hg K1
        rw [f1, Option.bind_some, K1.t, Option.bind_some, f2, Option.bind_some, retZ_1]
        exact ⟨M2, rfl, K2, (PF.G hg g1).trans g2, KF.S K K2 c.2.1 c.2.2⟩
      · rw [if_neg e3, if_neg e3]; exact k_fail N 6 hT hg h0.c K
