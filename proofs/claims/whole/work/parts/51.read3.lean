-- a symbol's line
def pAttrsL (inn : Bool) (T : List Tok) : Nat → RS → RS
  | 0, r => r
  | m + 1, r => bnd r fun h G => if isNm (tk T h) = true then pAttrsL inn T m (pAttr inn T h G) else .inr (h, G)
theorem pAttrsL_l (inn : Bool) (T : List Tok) (m : Nat) (e : Nat × Nat) : pAttrsL inn T m (.inl e) = .inl e := by cases m <;> rfl
theorem pAttrsL_r (inn : Bool) (T : List Tok) (m h : Nat) (G : Gr) : pAttrsL inn T (m + 1) (.inr (h, G)) = if isNm (tk T h) = true then pAttrsL inn T m (pAttr inn T h G) else .inr (h, G) := rfl
def pAttrs (inn : Bool) (T : List Tok) (h : Nat) (G : Gr) : RS := pAttrsL inn T 8 (pAttr inn T (adv T h) G)
def Qs (T : List Tok) (h0 : Nat) (G : Gr) (y : Nat × Gr) : Prop := W0 y.2 ∧ y.2.i 0 0 = G.i 0 0 ∧ Sa G y.2 ∧ h0 ≤ y.1 ∧ y.1 < T.length
theorem pAttr_Q {n : Nat} {T : List Tok} {h h0 : Nat} {G G0 : Gr} {inn : Bool} {y : Nat × Gr} (hT : TT n T) (q : Qs T h0 G0 (h, G)) (h1 : 0 < G0.i 0 0) (e : pAttr inn T h G = .inr y) : Qs T h0 G0 y := by
  obtain ⟨a, b, c, d, f⟩ := q
  have h1' : 0 < G.i 0 0 := by rw [show G.i 0 0 = G0.i 0 0 from b]; exact h1
  obtain ⟨a', b', c', d'⟩ := pAttr_W hT f a h1' e
  refine ⟨a', b'.trans b, c.trans c', Nat.le_trans d d', ?_⟩
  unfold pAttr at e
  split at e
  · split at e
    · unfold fl at e; cases e
    · by_cases e3 : (if inn = true then G.i 4 (G.i 0 0 - 1) else G.i 5 (G.i 0 0 - 1)) < 4
      · rw [if_pos e3] at e
        injection e with e
        subst e
        exact adv_lt f
      · rw [if_neg e3] at e; unfold fl at e; cases e
  · unfold fl at e; cases e
theorem pAttrsL_Q {n : Nat} {T : List Tok} {h0 : Nat} {G0 : Gr} {inn : Bool} (hT : TT n T) (h1 : 0 < G0.i 0 0) : ∀ (m : Nat) (r : RS) (y : Nat × Gr), (∀ z, r = .inr z → Qs T h0 G0 z) → pAttrsL inn T m r = .inr y → Qs T h0 G0 y
  | 0, r, y, hr, e => hr y e
  | m + 1, .inl e0, y, hr, e => by rw [pAttrsL_l] at e; cases e
  | m + 1, .inr (h, G), y, hr, e => by
    rw [pAttrsL_r] at e
    have q := hr _ rfl
    split at e
    · exact pAttrsL_Q hT h1 m _ y (fun z hz => pAttr_Q hT q h1 hz) e
    · injection e with e; subst e; exact q
theorem pAttrs_Q {n : Nat} {T : List Tok} {h h0 : Nat} {G G0 : Gr} {inn : Bool} {y : Nat × Gr} (hT : TT n T) (q : Qs T h0 G0 (h, G)) (h1 : 0 < G0.i 0 0) (e : pAttrs inn T h G = .inr y) : Qs T h0 G0 y :=
  pAttrsL_Q hT h1 8 _ y (fun z hz => pAttr_Q hT (show Qs T h0 G0 (adv T h, G) from ⟨q.1, q.2.1, q.2.2.1, Nat.le_trans q.2.2.2.1 adv_ge, adv_lt q.2.2.2.2⟩) h1 hz) e
theorem loop_readAttributes {n : Nat} {T : List Tok} {g : Nat} {G0 : Gr} (N : Nat) (hN : 2000 < N) (inn : Bool) (hT : TT n T) (hg : g = 35 ∨ g = 52) (h1 : 0 < G0.i 0 0) : ∀ (m k j : Nat) (M : Mm) (r : RS) (x : Option (Int32 × Mm)), m + j = 8 → 8 < j + k → (∀ z, r = .inr z → Qs T 0 G0 z) → RI T g M r x → RI T g M (pAttrsL inn T m r) (x.bind fun q => L_X2_readAttributes_15 7 N (bI inn) k q.1 (nI j) q.2)
  | m, 0, j, M, r, x, hj, hk, _, _ => by omega
  | 0, k + 1, j, M, r, x, hj, hk, hr, h => by
    have hj8 : j = 8 := by omega
    subst hj8
    cases r with
    | inl e => obtain ⟨M', a, b⟩ := h; rw [a]; exact ⟨M', rfl, b⟩
    | inr y => obtain ⟨M', a, b⟩ := h; rw [a]; exact ⟨M', rfl, b⟩
  | m + 1, k + 1, j, M, .inl e, x, hj, hk, hr, h => by
    obtain ⟨M', a, b⟩ := h
    rw [a, pAttrsL_l]
    refine ⟨M', ?_, b⟩
    show (if (nI 8) ≤ nI j then (retZ (nI 0) M') else (if nI 0 = nI 0 then (retZ (nI 0) M') else _)) = _
    rw [if_pos rfl, retZ_0, ite_self]
  | m + 1, k + 1, j, M, .inr (h, G), x, hj, hk, hr, hx => by
    obtain ⟨M', a, K, p, kf⟩ := hx
    have q := hr _ rfl
    rw [a, pAttrsL_r]
    have h1' : 0 < G.i 0 0 := by rw [show G.i 0 0 = G0.i 0 0 from q.2.1]; exact h1
    refine RI.pre p kf ?_
    show RI T g M' _ (if (nI 8) ≤ nI j then (retZ (nI 1) M') else (if nI 1 = nI 0 then (retZ (nI 1) M') else ((rf M' 7 0 7).bind fun r2 => (D_X7_isName N r2 M').bind fun q2 => (if q2 = nI 0 then (retZ (nI 1) M') else ((D_X2_readAttribute N 7 (bI inn) M').bind fun q3 => (some (nI j + (nI 1))).bind fun l3_2 => (L_X2_readAttributes_15 7 N (bI inn) k q3.1 l3_2 q3.2))))))
    simp (disch := omega) only [n_le, show ¬ 8 ≤ j by omega, z10, if_false]
    simp only [K.t, Option.bind_some, k_name N hT K, bI_0, nI_add]
    cases e1 : isNm (tk T h)
    · simp only [Bool.false_eq_true, Bool.true_eq_false, eq_self, if_true, if_false, not_true_eq_false, not_false_eq_true, retZ_1]
      exact ⟨M', rfl, K, PF.refl, rfl, rfl⟩
    · simp only [Bool.false_eq_true, Bool.true_eq_false, eq_self, if_true, if_false, not_true_eq_false, not_false_eq_true]
      exact loop_readAttributes N hN inn hT hg h1 m k (j + 1) M' _ _ (by omega) (by omega) (fun z hz => pAttr_Q hT q h1 hz) (s_readAttribute N hN inn hT hg q.1 h1' K)
theorem s_readAttributes {n : Nat} {T : List Tok} {h g : Nat} {G : Gr} {M : Mm} (N : Nat) (hN : 2000 < N) (inn : Bool) (hT : TT n T) (hg : g = 35 ∨ g = 52) (h0 : W0 G) (h1 : 0 < G.i 0 0) (K : KS T h g G M) : RI T g M (pAttrs inn T h G) (D_X2_readAttributes N 7 (bI inn) M) := by
  obtain ⟨M1, f1, K1, g1⟩ := k_adv N hT hg K
  unfold D_X2_readAttributes pAttrs
  simp only [K.t, Option.bind_some, f1]
  exact (loop_readAttributes N hN inn hT hg h1 8 N 0 M1 _ _ rfl (by omega) (fun z hz => pAttr_Q hT ⟨h0, rfl, Sa.refl, Nat.zero_le _, K1.1.h⟩ h1 hz) (s_readAttribute N hN inn hT hg h0 h1 K1)).pre g1 (KF.S K K1 rfl rfl)
def pSymA (inn : Bool) (v : Nat) (T : List Tok) (h : Nat) (G : Gr) : RS := if isWd T h v then pAttrs inn T h G else .inr (h, G)
def pSym (T : List Tok) (h : Nat) (G : Gr) : RS :=
  if G.i 0 0 < 8 then
    (if isNm (tk T (adv T h)) = true then
      (if fi (G.l 1) (tk T (adv T h)).2.2.2 (G.i 0 0) < G.i 0 0 then fl T (adv T h) 4
       else bnd (pSymA true 302 T (adv T (adv T h)) (gSym G (tk T (adv T h)).2.2.2)) fun h3 G3 => pSymA false 16052 T h3 G3)
     else fl T (adv T h) 2)
  else fl T h 6
theorem gSym_i (G : Gr) (w k j : Nat) : (gSym G w).i k j = if k = 0 ∧ j = 0 then G.i 0 0 + 1 else if (k = 4 ∨ k = 5) ∧ j = G.i 0 0 then 0 else G.i k j := by
  unfold gSym
  simp only [sI_i, sL_i]
  by_cases e0 : k = 0 ∧ j = 0
  · rw [if_pos e0, if_pos e0]
  · rw [if_neg e0, if_neg e0]
    by_cases e5 : k = 5 ∧ j = G.i 0 0
    · rw [if_pos e5, if_pos ⟨Or.inr e5.1, e5.2⟩]
    · rw [if_neg e5]
      by_cases e4 : k = 4 ∧ j = G.i 0 0
      · rw [if_pos e4, if_pos ⟨Or.inl e4.1, e4.2⟩]
      · rw [if_neg e4, if_neg (fun q => q.1.elim (fun a => e4 ⟨a, q.2⟩) (fun a => e5 ⟨a, q.2⟩))]
theorem gSym_l (G : Gr) (w k j : Nat) : (gSym G w).l k j = if k = 1 ∧ j = G.i 0 0 then w else G.l k j := rfl
theorem gSym_W {G : Gr} {w : Nat} (h : W0 G) (hs : G.i 0 0 < 8) (hw : okW 8 w) : W0 (gSym G w) := by
  obtain ⟨h1, h2, h3, h4, h5⟩ := h
  unfold W0
  simp only [gSym_i, gSym_l, Nat.reduceEqDiff, false_and, and_false, and_true, true_and, if_true, if_false, or_false, false_or, or_true, true_or]
  refine ⟨by omega, h2, h3, fun s hs' => ?_, fun p hp => ?_⟩
  · by_cases e : s = G.i 0 0
    · simp only [e, if_true]
      exact ⟨by omega, by omega, hw, fun a ha => by omega⟩
    · simp only [e, if_false]
      exact h4 s (by omega)
  · obtain ⟨a1, a2, a3⟩ := h5 p hp
    exact ⟨a1, a2, fun k hk => by have := a3 k hk; omega⟩
theorem gSym_Q {T : List Tok} {h : Nat} {G : Gr} {w : Nat} (h0 : W0 G) (hs : G.i 0 0 < 8) (hw : okW 8 w) (hh : h < T.length) : Qs T h (gSym G w) (h, gSym G w) ∧ 0 < (gSym G w).i 0 0 ∧ Sa G (gSym G w) :=
  ⟨⟨gSym_W h0 hs hw, rfl, Sa.refl, Nat.le_refl _, hh⟩, by rw [gSym_i, if_pos ⟨rfl, rfl⟩]; omega, by rw [gSym_i, if_neg (by omega), if_neg (by omega)], by rw [gSym_i, if_neg (by omega), if_neg (by omega)], rfl, rfl, rfl⟩
theorem pSymA_Q {n : Nat} {T : List Tok} {h h0 v : Nat} {G G0 : Gr} {inn : Bool} {y : Nat × Gr} (hT : TT n T) (q : Qs T h0 G0 (h, G)) (h1 : 0 < G0.i 0 0) (e : pSymA inn v T h G = .inr y) : Qs T h0 G0 y := by
  unfold pSymA at e
  split at e
  · exact pAttrs_Q hT q h1 e
  · injection e with e; subst e; exact q
theorem bnd_r {r : RS} {f : Nat → Gr → RS} {y : Nat × Gr} (e : bnd r f = .inr y) : ∃ z, r = .inr z ∧ f z.1 z.2 = .inr y := by
  cases r with
  | inl e0 => cases e
  | inr z => exact ⟨z, rfl, e⟩
theorem pSym_W {n : Nat} {T : List Tok} {h : Nat} {G : Gr} {y : Nat × Gr} (hT : TT n T) (hh : h < T.length) (h0 : W0 G) (e : pSym T h G = .inr y) : W0 y.2 ∧ y.2.i 0 0 = G.i 0 0 + 1 ∧ Sa G y.2 ∧ h ≤ y.1 ∧ y.1 < T.length := by
  unfold pSym at e
  split at e
  · rename_i e1
    split at e
    · rename_i e2
      split at e
      · unfold fl at e; cases e
      · obtain ⟨z, a, b⟩ := bnd_r e
        obtain ⟨q, q1, q2⟩ := gSym_Q (T := T) (h := adv T (adv T h)) h0 e1 (nm_ok hT (adv_lt hh) e2) (adv_lt (adv_lt hh))
        obtain ⟨r1, r2, r3, r4, r5⟩ := pSymA_Q hT (pSymA_Q hT q q1 a) q1 b
        exact ⟨r1, by rw [r2, gSym_i, if_pos ⟨rfl, rfl⟩], q2.trans r3, Nat.le_trans (Nat.le_trans adv_ge adv_ge) r4, r5⟩
    · unfold fl at e; cases e
  · unfold fl at e; cases e
theorem s_readSymbol {n : Nat} {T : List Tok} {h g : Nat} {G : Gr} {M : Mm} (N : Nat) (hN : 2000 < N) (hT : TT n T) (hg : g = 35 ∨ g = 52) (h0 : W0 G) (K : KS T h g G M) : RI T g M (pSym T h G) (D_X2_readSymbol N 7 M) := by
  have b1 := h0.1
  obtain ⟨M1, f1, K1, g1⟩ := k_adv N hT hg K
  unfold D_X2_readSymbol pSym
  simp (disch := omega) only [K.t, K.g hg, Option.bind_some, K.2.1.f, n_lt, f1, K1.t, K1.g hg, k_name N hT K1, bI_0, K1.1.v]
  by_cases e0 : G.i 0 0 < 8
  · simp only [e0, Bool.false_eq_true, Bool.true_eq_false, eq_self, if_true, if_false, not_true_eq_false, not_false_eq_true]
    refine RI.pre g1 (KF.S K K1 rfl rfl) ?_
    cases e1 : isNm (tk T (adv T h))
    · simp only [Bool.false_eq_true, Bool.true_eq_false, eq_self, if_true, if_false, not_true_eq_false, not_false_eq_true]; exact k_fail N 2 hT hg h0.c K1
    · have hw0 := nm_ok hT K1.1.h e1
      have hw := ok63 hw0
      simp only [Bool.false_eq_true, Bool.true_eq_false, eq_self, if_true, if_false, not_true_eq_false, not_false_eq_true, s_findSymbol N hN K1.2.1 b1 (fun j hj => ok63 (h0.2.2.2.1 j hj).2.2.1) hw, Option.bind_some, fR_m1 (show G.i 0 0 < 2 ^ 31 by omega)]
      by_cases e2 : fi (G.l 1) (tk T (adv T h)).2.2.2 (G.i 0 0) < G.i 0 0
      · simp only [e2, Bool.false_eq_true, Bool.true_eq_false, eq_self, if_true, if_false, not_true_eq_false, not_false_eq_true]; exact k_fail N 4 hT hg h0.c K1
      · simp only [e2, Bool.false_eq_true, Bool.true_eq_false, eq_self, if_true, if_false, not_true_eq_false, not_false_eq_true]
        obtain ⟨M2, f2, C2, g2⟩ := s_addSymbol (w := (tk T (adv T h)).2.2.2) N K1.2.1 e0
        have K2 := K1.G hg C2 g2 rfl rfl rfl
        obtain ⟨M3, f3, K3, g3⟩ := k_adv N hT hg K2
        obtain ⟨q, q1, q2⟩ := gSym_Q (T := T) (h := adv T (adv T h)) h0 e0 hw0 K3.1.h
        simp only [f2, Option.bind_some, K2.t, f3, K3.t, k_word N hT K3 (show 302 < 2 ^ 63 by decide), jn, bI_0]
        refine RI.pre ((PF.G hg g2).trans g3) (KF.S K1 K3 rfl rfl) ?_
        have second : ∀ h4 G4 M4, Qs T (adv T (adv T h)) (gSym G (tk T (adv T h)).2.2.2) (h4, G4) → KS T h4 g G4 M4 → RI T g M4 (pSymA false 16052 T h4 G4) ((rf M4 7 0 7).bind fun r11 => (D_X7_isWordOf N r11 (lN 16052) M4).bind fun q5 => if q5 = nI 0 then retZ (nI 1) M4 else (D_X2_readAttributes N 7 (nI 0) M4).bind fun q6 => if q6.1 = nI 0 then retZ (nI 0) q6.2 else retZ (nI 1) q6.2) := by
          intro h4 G4 M4 q4 K4
          simp only [K4.t, Option.bind_some, k_word N hT K4 (show 16052 < 2 ^ 63 by decide), bI_0]
          unfold pSymA
          by_cases e4 : isWd T h4 16052
          · rw [if_pos e4, decide_eq_true e4]
            simp only [Bool.false_eq_true, Bool.true_eq_false, eq_self, if_true, if_false, not_true_eq_false, not_false_eq_true]
            have h1' : 0 < G4.i 0 0 := by rw [show G4.i 0 0 = _ from q4.2.1]; exact q1
            have r := s_readAttributes N hN false hT hg q4.1 h1' K4
            rw [bI_f] at r
            cases e5 : pAttrs false T h4 G4 with
            | inl e => rw [e5] at r; obtain ⟨M', a, b⟩ := r; rw [a]; exact ⟨M', rfl, b⟩
            | inr y => rw [e5] at r; obtain ⟨M', a, b⟩ := r; rw [a]; exact ⟨M', by rw [Option.bind_some, if_neg z10, retZ_1], b⟩
          · rw [if_neg e4, decide_eq_false e4]
            simp only [Bool.false_eq_true, Bool.true_eq_false, eq_self, if_true, if_false, not_true_eq_false, not_false_eq_true, retZ_1]
            exact ⟨M4, rfl, K4, PF.refl, rfl, rfl⟩
        by_cases e3 : isWd T (adv T (adv T h)) 302
        · rw [show pSymA true 302 T (adv T (adv T h)) (gSym G (tk T (adv T h)).2.2.2) = pAttrs true T (adv T (adv T h)) (gSym G (tk T (adv T h)).2.2.2) from if_pos e3]
          rw [decide_eq_true e3]
          simp only [Bool.false_eq_true, Bool.true_eq_false, eq_self, if_true, if_false, not_true_eq_false, not_false_eq_true]
          have r := s_readAttributes N hN true hT hg q.1 q1 K3
          rw [bI_t] at r
          refine RI.bind r (fun M' => ?_) (fun y M' hy Ky => ?_)
          · simp only [if_true, retZ_0]
          · simp only [z10, if_false]
            exact second y.1 y.2 M' (pAttrs_Q hT q q1 hy) Ky
        · rw [show pSymA true 302 T (adv T (adv T h)) (gSym G (tk T (adv T h)).2.2.2) = .inr (adv T (adv T h), gSym G (tk T (adv T h)).2.2.2) from if_neg e3]
          rw [decide_eq_false e3]
          simp only [Bool.false_eq_true, Bool.true_eq_false, eq_self, if_true, if_false, not_true_eq_false, not_false_eq_true]
          have r := second _ _ M3 q K3
          rw [K3.t] at r
          exact r
  · simp only [e0, Bool.false_eq_true, Bool.true_eq_false, eq_self, if_true, if_false, not_true_eq_false, not_false_eq_true]; exact k_fail N 6 hT hg h0.c K
