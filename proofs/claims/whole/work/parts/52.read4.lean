-- a production's line
def pSide (T : List Tok) (h : Nat) (G : Gr) : RS :=
  if isNm (tk T h) = true then
    (if fi (G.l 1) (tk T h).2.2.2 (G.i 0 0) < G.i 0 0 then
      (if G.i 6 (G.i 0 1 - 1) < 4 then .inr (adv T h, gSid G (G.i 0 1 - 1) (fi (G.l 1) (tk T h).2.2.2 (G.i 0 0))) else fl T h 6)
     else fl T h 3)
  else fl T h 2
theorem gSid_0 (G : Gr) (p s k j : Nat) (h6 : ¬ k = 6) (h7 : ¬ k = 7) (h8 : ¬ k = 8) (h9 : ¬ k = 9) : (gSid G p s).i k j = G.i k j := by
  unfold gSid; simp only [sI_i, h6, h7, h8, h9, false_and, if_false]
theorem gSid_6 (G : Gr) (p s j : Nat) : (gSid G p s).i 6 j = if j = p then G.i 6 p + 1 else G.i 6 j := by
  unfold gSid; simp only [sI_i, Nat.reduceEqDiff, true_and, false_and, if_false]
theorem gSid_7 (G : Gr) (p s j : Nat) : (gSid G p s).i 7 j = if j = 4 * p + G.i 6 p then s else G.i 7 j := by
  unfold gSid; simp only [sI_i, Nat.reduceEqDiff, true_and, false_and, if_false]
theorem gSid_l (G : Gr) (p s : Nat) : (gSid G p s).l = G.l := rfl
theorem gSid_W {G : Gr} {p s : Nat} (h : W0 G) (hp : p < G.i 0 1) (hs : s < G.i 0 0) (hd : G.i 6 p < 4) : W0 (gSid G p s) := by
  obtain ⟨h1, h2, h3, h4, h5⟩ := h
  unfold W0
  simp (disch := omega) only [gSid_0, gSid_6, gSid_7, gSid_l]
  refine ⟨h1, h2, h3, h4, fun q hq => ?_⟩
  obtain ⟨a1, a2, a3⟩ := h5 q hq
  refine ⟨a1, by split <;> omega, fun k hk => ?_⟩
  split
  · exact hs
  · rename_i e
    refine a3 k ?_
    split at hk
    · rename_i e2; subst e2; omega
    · exact hk
def Sb (G G' : Gr) : Prop := G'.i 0 0 = G.i 0 0 ∧ Sa G G'
def W1 (G : Gr) : Prop := ∀ p, p + 1 < G.i 0 1 → 1 ≤ G.i 6 p
def Qp (T : List Tok) (h0 : Nat) (G : Gr) (y : Nat × Gr) : Prop := W0 y.2 ∧ Sb G y.2 ∧ h0 ≤ y.1 ∧ y.1 < T.length ∧ W1 y.2
theorem pSide_Q {n : Nat} {T : List Tok} {h h0 : Nat} {G G0 : Gr} {y : Nat × Gr} (_hT : TT n T) (q : Qp T h0 G0 (h, G)) (h1 : 0 < G0.i 0 1) (e : pSide T h G = .inr y) : Qp T h0 G0 y ∧ 1 ≤ y.2.i 6 (G0.i 0 1 - 1) := by
  obtain ⟨a, b, c, d, w⟩ := q
  have b1 : G.i 0 1 = G0.i 0 1 := b.2.1
  have c' : h0 ≤ h := c
  have d' : h < T.length := d
  unfold pSide at e
  split at e
  · split at e
    · rename_i e2
      split at e
      · rename_i e3
        injection e with e
        subst e
        refine ⟨⟨gSid_W a (by omega) e2 e3, ⟨?_, ?_, ?_, b.2.2.2⟩, Nat.le_trans c' adv_ge, adv_lt d', fun p hp => ?_⟩, ?_⟩
        · exact (gSid_0 _ _ _ _ _ (by omega) (by omega) (by omega) (by omega)).trans b.1
        · exact (gSid_0 _ _ _ _ _ (by omega) (by omega) (by omega) (by omega)).trans b.2.1
        · exact (gSid_0 _ _ _ _ _ (by omega) (by omega) (by omega) (by omega)).trans b.2.2.1
        · rw [gSid_0 _ _ _ _ _ (by omega) (by omega) (by omega) (by omega)] at hp
          rw [gSid_6]
          split
          · omega
          · exact w p hp
        · show 1 ≤ (gSid G (G.i 0 1 - 1) _).i 6 (G0.i 0 1 - 1)
          rw [gSid_6, b1, if_pos rfl]; omega
      · unfold fl at e; cases e
    · unfold fl at e; cases e
  · unfold fl at e; cases e
theorem s_readSide {n : Nat} {T : List Tok} {h g : Nat} {G : Gr} {M : Mm} (N : Nat) (hN : 2000 < N) (hT : TT n T) (hg : g = 35 ∨ g = 52) (h0 : W0 G) (h1 : 0 < G.i 0 1) (K : KS T h g G M) : RI T g M (pSide T h G) (D_X2_readSide N 7 M) := by
  obtain ⟨b1, b2, b3, b4, b5⟩ := h0
  have hp : G.i 0 1 - 1 < 12 := by omega
  obtain ⟨c1, c2, c3⟩ := b5 (G.i 0 1 - 1) (by omega)
  have e0 : M.1 g 1 - nI 1 = nI (G.i 0 1 - 1) := by rw [K.2.1.f 1, n_sub h1]
  unfold D_X2_readSide pSide
  simp only [K.t, K.g hg, Option.bind_some, k_name N hT K, e0, K.1.v, bI_0]
  cases e1 : isNm (tk T h)
  · simp only [Bool.false_eq_true, Bool.true_eq_false, eq_self, if_true, if_false, not_true_eq_false, not_false_eq_true]; exact k_fail N 2 hT hg b3 K
  · have hw := ok63 (nm_ok hT K.1.h e1)
    simp only [Bool.false_eq_true, Bool.true_eq_false, eq_self, if_true, if_false, not_true_eq_false, not_false_eq_true, s_findSymbol N hN K.2.1 b1 (fun j hj => ok63 (b4 j hj).2.2.1) hw, Option.bind_some, fR_m1 (show G.i 0 0 < 2 ^ 31 by omega)]
    by_cases e2 : fi (G.l 1) (tk T h).2.2.2 (G.i 0 0) < G.i 0 0
    · obtain ⟨d1, d2, d3, d4⟩ := b4 _ e2
      simp (disch := omega) only [e2, Bool.false_eq_true, Bool.true_eq_false, eq_self, if_true, if_false, not_true_eq_false, not_false_eq_true, ldI_n, K.2.1.a, Option.bind_some, n_lt]
      by_cases e3 : G.i 6 (G.i 0 1 - 1) < 4
      · obtain ⟨M1, f1, C1, g1⟩ := s_addSide N K.2.1 hp e3 (show fi (G.l 1) (tk T h).2.2.2 (G.i 0 0) < 8 by omega) d1 d2
        have K1 := K.G hg C1 g1 rfl rfl rfl
        obtain ⟨M2, f2, K2, g2⟩ := k_adv N hT hg K1
        simp only [e3, Bool.false_eq_true, Bool.true_eq_false, eq_self, if_true, if_false, not_true_eq_false, not_false_eq_true, fR_n e2, f1, Option.bind_some, K1.t, f2, retZ_1]
        exact ⟨M2, rfl, K2, (PF.G hg g1).trans g2, KF.S K K2 rfl rfl⟩
      · simp only [e3, Bool.false_eq_true, Bool.true_eq_false, eq_self, if_true, if_false, not_true_eq_false, not_false_eq_true]; exact k_fail N 6 hT hg b3 K
    · simp only [e2, Bool.false_eq_true, Bool.true_eq_false, eq_self, if_true, if_false, not_true_eq_false, not_false_eq_true]; exact k_fail N 3 hT hg b3 K
def pSidesL (T : List Tok) : Nat → RS → RS
  | 0, r => r
  | m + 1, r => bnd r fun h G => if isNm (tk T h) = true then pSidesL T m (pSide T h G) else .inr (h, G)
theorem pSidesL_l (T : List Tok) (m : Nat) (e : Nat × Nat) : pSidesL T m (.inl e) = .inl e := by cases m <;> rfl
theorem pSidesL_r (T : List Tok) (m h : Nat) (G : Gr) : pSidesL T (m + 1) (.inr (h, G)) = if isNm (tk T h) = true then pSidesL T m (pSide T h G) else .inr (h, G) := rfl
theorem pSidesL_Q {n : Nat} {T : List Tok} {h0 : Nat} {G0 : Gr} (hT : TT n T) (h1 : 0 < G0.i 0 1) : ∀ (m : Nat) (r : RS) (y : Nat × Gr), (∀ z, r = .inr z → Qp T h0 G0 z ∧ 1 ≤ z.2.i 6 (G0.i 0 1 - 1)) → pSidesL T m r = .inr y → Qp T h0 G0 y ∧ 1 ≤ y.2.i 6 (G0.i 0 1 - 1)
  | 0, r, y, hr, e => hr y e
  | m + 1, .inl e0, y, hr, e => by rw [pSidesL_l] at e; cases e
  | m + 1, .inr (h, G), y, hr, e => by
    rw [pSidesL_r] at e
    have q := hr _ rfl
    split at e
    · exact pSidesL_Q hT h1 m _ y (fun z hz => pSide_Q hT q.1 h1 hz) e
    · injection e with e; subst e; exact q
theorem loop_readProduction {n : Nat} {T : List Tok} {g : Nat} {G0 : Gr} (N : Nat) (hN : 2000 < N) (hT : TT n T) (hg : g = 35 ∨ g = 52) (h1 : 0 < G0.i 0 1) : ∀ (m k j : Nat) (M : Mm) (r : RS) (x : Option (Int32 × Mm)), m + j = 8 → 8 < j + k → (∀ z, r = .inr z → Qp T 0 G0 z) → RI T g M r x → RI T g M (pSidesL T m r) (x.bind fun q => L_X2_readProduction_123 7 N k q.1 (nI j) q.2)
  | m, 0, j, M, r, x, hj, hk, _, _ => by omega
  | 0, k + 1, j, M, r, x, hj, hk, hr, h => by
    have hj8 : j = 8 := by omega
    subst hj8
    cases r with
    | inl e => obtain ⟨M', a, b⟩ := h; rw [a]; exact ⟨M', rfl, b⟩
    | inr y => obtain ⟨M', a, b⟩ := h; rw [a]; exact ⟨M', rfl, b⟩
  | m + 1, k + 1, j, M, .inl e, x, hj, hk, hr, h => by
    obtain ⟨M', a, b⟩ := h
    rw [a, pSidesL_l]
    refine ⟨M', ?_, b⟩
    show (if (nI 8) ≤ nI j then (retZ (nI 0) M') else (if nI 0 = nI 0 then (retZ (nI 0) M') else _)) = _
    rw [if_pos rfl, retZ_0, ite_self]
  | m + 1, k + 1, j, M, .inr (h, G), x, hj, hk, hr, hx => by
    obtain ⟨M', a, K, p, kf⟩ := hx
    have q := hr _ rfl
    rw [a, pSidesL_r]
    have h1' : 0 < G.i 0 1 := by rw [show G.i 0 1 = G0.i 0 1 from q.2.1.2.1]; exact h1
    refine RI.pre p kf ?_
    show RI T g M' _ (if (nI 8) ≤ nI j then (retZ (nI 1) M') else (if nI 1 = nI 0 then (retZ (nI 1) M') else ((rf M' 7 0 7).bind fun r11 => (D_X7_isName N r11 M').bind fun q5 => (if q5 = nI 0 then (retZ (nI 1) M') else ((D_X2_readSide N 7 M').bind fun q6 => (some (nI j + (nI 1))).bind fun l2_2 => (L_X2_readProduction_123 7 N k q6.1 l2_2 q6.2))))))
    simp (disch := omega) only [n_le, show ¬ 8 ≤ j by omega, z10, if_false]
    simp only [K.t, Option.bind_some, k_name N hT K, bI_0, nI_add]
    cases e1 : isNm (tk T h)
    · simp only [Bool.false_eq_true, Bool.true_eq_false, eq_self, if_true, if_false, not_true_eq_false, not_false_eq_true, retZ_1]
      exact ⟨M', rfl, K, PF.refl, rfl, rfl⟩
    · simp only [Bool.false_eq_true, Bool.true_eq_false, eq_self, if_true, if_false, not_true_eq_false, not_false_eq_true]
      exact loop_readProduction N hN hT hg h1 m k (j + 1) M' _ _ (by omega) (by omega) (fun z hz => (pSide_Q hT q h1 hz).1) (s_readSide N hN hT hg q.1 h1' K)
def pPro (T : List Tok) (h : Nat) (G : Gr) : RS :=
  if G.i 0 1 < 12 then
    (if isNm (tk T (adv T h)) = true then
      (if fi (G.l 3) (tk T (adv T h)).2.2.2 (G.i 0 1) < G.i 0 1 then fl T (adv T h) 4
       else pSidesL T 8 (bnd (pSign T 58 (adv T (adv T h)) (gPro G (tk T (adv T h)).2.2.2)) fun h3 G3 => pSide T h3 G3))
     else fl T (adv T h) 2)
  else fl T h 6
theorem gPro_l (G : Gr) (w k j : Nat) : (gPro G w).l k j = if k = 3 ∧ j = G.i 0 1 then w else G.l k j := rfl
theorem gPro_i (G : Gr) (w k j : Nat) : (gPro G w).i k j = if k = 0 ∧ j = 1 then G.i 0 1 + 1 else if (k = 6 ∨ k = 8 ∨ k = 9 ∨ k = 10 ∨ k = 11) ∧ j = G.i 0 1 then 0 else G.i k j := by
  unfold gPro
  simp only [sI_i, sL_i]
  by_cases e0 : k = 0 ∧ j = 1
  · rw [if_pos e0, if_pos e0]
  · rw [if_neg e0, if_neg e0]
    by_cases ej : j = G.i 0 1
    · simp only [ej, and_true]
      by_cases e11 : k = 11
      · simp only [e11, if_true, or_true]
      · by_cases e10 : k = 10
        · simp only [e10, if_true, or_true, true_or, ite_self]
        · by_cases e9 : k = 9
          · simp only [e9, if_true, or_true, true_or, ite_self]
          · by_cases e8 : k = 8
            · simp only [e8, if_true, or_true, true_or, ite_self]
            · simp only [e11, e10, e9, e8, if_false, or_false]
    · simp only [ej, and_false, if_false]
theorem gPro_W {G : Gr} {w : Nat} (h : W0 G) (hs : G.i 0 1 < 12) (hw : okW 8 w) : W0 (gPro G w) := by
  obtain ⟨h1, h2, h3, h4, h5⟩ := h
  unfold W0
  simp only [gPro_i, gPro_l, Nat.reduceEqDiff, false_and, and_false, and_true, true_and, if_true, if_false, or_false, false_or, or_true, true_or]
  refine ⟨h1, by omega, h3, h4, fun p hp => ?_⟩
  by_cases e : p = G.i 0 1
  · simp only [e, if_true]
    exact ⟨hw, by omega, fun k hk => by omega⟩
  · simp only [e, if_false]
    exact h5 p (by omega)
theorem pSign_r {T : List Tok} {c h : Nat} {G : Gr} {y : Nat × Gr} (e : pSign T c h G = .inr y) : y = (adv T h, G) ∧ isSn T h c := by
  unfold pSign at e
  split at e
  · rename_i e1; injection e with e; exact ⟨e.symm, e1⟩
  · unfold fl at e; cases e
-- each production has a left side
def W2 (G : Gr) : Prop := ∀ p, p < G.i 0 1 → 1 ≤ G.i 6 p
theorem gPro_Q {T : List Tok} {h : Nat} {G : Gr} {w : Nat} (h0 : W0 G) (h2 : W2 G) (hs : G.i 0 1 < 12) (hw : okW 8 w) (hh : h < T.length) : Qp T h (gPro G w) (h, gPro G w) ∧ 0 < (gPro G w).i 0 1 := by
  refine ⟨⟨gPro_W h0 hs hw, ⟨rfl, Sa.refl⟩, Nat.le_refl _, hh, fun p hp => ?_⟩, by rw [gPro_i, if_pos ⟨rfl, rfl⟩]; omega⟩
  show 1 ≤ (gPro G w).i 6 p
  have hp' : p + 1 < (gPro G w).i 0 1 := hp
  rw [gPro_i, if_pos ⟨rfl, rfl⟩] at hp'
  rw [gPro_i, if_neg (by omega), if_neg (by omega)]
  exact h2 p (by omega)
theorem pPro_W {n : Nat} {T : List Tok} {h : Nat} {G : Gr} {y : Nat × Gr} (hT : TT n T) (hh : h < T.length) (h0 : W0 G) (h2 : W2 G) (e : pPro T h G = .inr y) : W0 y.2 ∧ W2 y.2 ∧ y.2.i 0 1 = G.i 0 1 + 1 ∧ y.2.i 0 0 = G.i 0 0 ∧ y.2.i 0 2 = G.i 0 2 ∧ h ≤ y.1 ∧ y.1 < T.length := by
  unfold pPro at e
  split at e
  · rename_i e1
    split at e
    · rename_i e2
      split at e
      · unfold fl at e; cases e
      · obtain ⟨q, q1⟩ := gPro_Q (T := T) (h := adv T (adv T h)) h0 h2 e1 (nm_ok hT (adv_lt hh) e2) (adv_lt (adv_lt hh))
        obtain ⟨⟨r1, r2, r3, r4, r5⟩, r6⟩ := pSidesL_Q hT q1 8 _ y (fun z hz => by
          obtain ⟨z', a, b⟩ := bnd_r hz
          obtain ⟨c, _⟩ := pSign_r a
          subst c
          exact pSide_Q hT (show Qp T _ _ (adv T (adv T (adv T h)), gPro G _) from ⟨q.1, q.2.1, Nat.le_trans q.2.2.1 adv_ge, adv_lt q.2.2.2.1, q.2.2.2.2⟩) q1 b) e
        have n1 : y.2.i 0 1 = G.i 0 1 + 1 := r2.2.1.trans (by rw [gPro_i, if_pos ⟨rfl, rfl⟩])
        refine ⟨r1, fun p hp => ?_, n1, r2.1.trans (by rw [gPro_i, if_neg (by omega), if_neg (by omega)]), r2.2.2.1.trans (by rw [gPro_i, if_neg (by omega), if_neg (by omega)]), Nat.le_trans (Nat.le_trans adv_ge adv_ge) r3, r4⟩
        rw [n1] at hp
        by_cases ep : p = G.i 0 1
        · rw [gPro_i, if_pos ⟨rfl, rfl⟩] at r6; rw [ep]; exact r6
        · refine r5 p ?_
          show p + 1 < y.2.i 0 1
          rw [n1]; omega
    · unfold fl at e; cases e
  · unfold fl at e; cases e
theorem s_readProduction {n : Nat} {T : List Tok} {h g : Nat} {G : Gr} {M : Mm} (N : Nat) (hN : 2000 < N) (hT : TT n T) (hg : g = 35 ∨ g = 52) (h0 : W0 G) (h2 : W2 G) (K : KS T h g G M) : RI T g M (pPro T h G) (D_X2_readProduction N 7 M) := by
  have b2 := h0.2.1
  obtain ⟨M1, f1, K1, g1⟩ := k_adv N hT hg K
  unfold D_X2_readProduction pPro
  simp (disch := omega) only [K.t, K.g hg, Option.bind_some, K.2.1.f, n_lt, f1, K1.t, K1.g hg, k_name N hT K1, bI_0, K1.1.v]
  by_cases e0 : G.i 0 1 < 12
  · simp only [e0, Bool.false_eq_true, Bool.true_eq_false, eq_self, if_true, if_false, not_true_eq_false, not_false_eq_true]
    refine RI.pre g1 (KF.S K K1 rfl rfl) ?_
    cases e1 : isNm (tk T (adv T h))
    · simp only [Bool.false_eq_true, Bool.true_eq_false, eq_self, if_true, if_false, not_true_eq_false, not_false_eq_true]; exact k_fail N 2 hT hg h0.c K1
    · have hw0 := nm_ok hT K1.1.h e1
      have hw := ok63 hw0
      simp only [Bool.false_eq_true, Bool.true_eq_false, eq_self, if_true, if_false, not_true_eq_false, not_false_eq_true, s_findProduction N hN K1.2.1 b2 (fun j hj => ok63 (h0.2.2.2.2 j hj).1) hw, Option.bind_some, fR_m1 (show G.i 0 1 < 2 ^ 31 by omega)]
      by_cases e2 : fi (G.l 3) (tk T (adv T h)).2.2.2 (G.i 0 1) < G.i 0 1
      · simp only [e2, Bool.false_eq_true, Bool.true_eq_false, eq_self, if_true, if_false, not_true_eq_false, not_false_eq_true]; exact k_fail N 4 hT hg h0.c K1
      · simp only [e2, Bool.false_eq_true, Bool.true_eq_false, eq_self, if_true, if_false, not_true_eq_false, not_false_eq_true]
        obtain ⟨M2, f2, C2, g2⟩ := s_addProduction (w := (tk T (adv T h)).2.2.2) N K1.2.1 e0
        have K2 := K1.G hg C2 g2 rfl rfl rfl
        obtain ⟨M3, f3, K3, g3⟩ := k_adv N hT hg K2
        obtain ⟨q, q1⟩ := gPro_Q (T := T) (h := adv T (adv T h)) h0 h2 e0 hw0 K3.1.h
        simp only [f2, Option.bind_some, K2.t, f3, K3.t, jn]
        refine RI.pre ((PF.G hg g2).trans g3) (KF.S K1 K3 rfl rfl) ?_
        have r1 := k_take (c := 58) N hT hg q.1.c (by omega) K3
        have q' : ∀ z, pSign T 58 (adv T (adv T h)) (gPro G (tk T (adv T h)).2.2.2) = .inr z → Qp T 0 (gPro G (tk T (adv T h)).2.2.2) z := fun z hz => by
          obtain ⟨c, _⟩ := pSign_r hz
          subst c
          exact ⟨q.1, q.2.1, Nat.zero_le _, adv_lt q.2.2.2.1, q.2.2.2.2⟩
        have r2 : RI T g M3 (bnd (pSign T 58 (adv T (adv T h)) (gPro G (tk T (adv T h)).2.2.2)) fun h3 G3 => pSide T h3 G3) ((D_X7_takeSign N 2 (nI 58) M3).bind fun q4 => if q4.1 = nI 0 then some (nI 0, q4.2) else (D_X2_readSide N 7 q4.2).bind fun q7 => if q7.1 = nI 0 then some (nI 0, q7.2) else some (nI 1, q7.2)) := by
          refine RI.bind r1 (fun M' => ?_) (fun y M' hy Ky => ?_)
          · simp only [if_true]
          · simp only [z10, if_false]
            obtain ⟨a1, a2, a3, a4, a5⟩ := q' y hy
            have r := s_readSide N hN hT hg a1 (by rw [a2.2.1]; exact q1) Ky
            cases e5 : pSide T y.1 y.2 with
            | inl e => rw [e5] at r; obtain ⟨M', a, b⟩ := r; rw [a]; exact ⟨M', rfl, b⟩
            | inr y => rw [e5] at r; obtain ⟨M', a, b⟩ := r; rw [a]; exact ⟨M', by rw [Option.bind_some, if_neg z10], b⟩
        have r3 := loop_readProduction N hN hT hg q1 8 N 0 M3 _ _ rfl (by omega) (fun z hz => by
          obtain ⟨z', a, b⟩ := bnd_r hz
          exact (pSide_Q hT (q' z' a) q1 b).1) r2
        rw [Option.bind_assoc] at r3
        exact r3
  · simp only [e0, Bool.false_eq_true, Bool.true_eq_false, eq_self, if_true, if_false, not_true_eq_false, not_false_eq_true]; exact k_fail N 6 hT hg h0.c K
