-- a grammar's text
def LI (T : List Tok) (h : Nat) (G : Gr) : Prop := W0 G ∧ W2 G ∧ G.i 0 2 ≤ h ∧ h < T.length ∧ T.length ≤ 1001
def pLine (T : List Tok) (h : Nat) (G : Gr) : RS :=
  if isWd T h 664177132 then bnd (pSym T h G) fun h' G' => pSign T 59 h' G'
  else if isWd T h 543204 then bnd (pPro T h G) fun h' G' => pSign T 59 h' G'
  else if isWd T h 611717 then bnd (pRule T h G) fun h' G' => pSign T 59 h' G'
  else fl T h 2
def pRL (T : List Tok) : Nat → Bool → Nat → Gr → RS
  | 0, _, h, G => .inr (h, G)
  | m + 1, first, h, G => if first = false ∧ (tk T h).1 = 0 then .inr (h, G) else bnd (pLine T h G) fun h' G' => pRL T m false h' G'
theorem pRule_L {T : List Tok} {h : Nat} {G : Gr} {y : Nat × Gr} (hE : TE T) (hI : LI T h G) (e : pRule T h G = .inr y) : LI T y.1 y.2 := by
  obtain ⟨h0, h2, hc, hh, hl⟩ := hI
  unfold pRule at e
  split at e
  · split at e
    · rename_i e2
      split at e
      · cases e
      · rename_i y1 e3
        split at e
        · obtain ⟨z, a, b⟩ := bnd_r e
          injection b with b
          subst b
          obtain ⟨z5, a5, b5⟩ := bnd_r a
          obtain ⟨o1, o2, o3⟩ := pOcc_h hE (adv_lt (adv_lt hh)) e3
          have q5 := pSign_D (adv_lt o2) (show (gRul G _ y1.2).pa ≤ 24 from Nat.zero_le _) a5
          have q := q5.trans (pE_D hE 8 0 _ _ _ q5.1.2.2.2 q5.2 b5)
          obtain ⟨⟨s, q1, q2, q3⟩, q4⟩ := q
          have n2 : (gRul G (fi (G.l 3) (tk T (adv T h)).2.2.2 (G.i 0 1)) y1.2).i 0 2 = G.i 0 2 := gRul_i _ _ _ _ _ (by omega) (by omega)
          have ka := adv_ge (T := T) (h := h)
          have ka2 := adv_ge (T := T) (h := adv T h)
          have ka3 := adv_ge (T := T) (h := y1.1)
          rw [n2] at q1
          have hz : z.2.i 0 2 ≤ z.1 := by omega
          refine ⟨gEnd_W (W0_Se (gRul_W h0) s (by omega)), fun p hp => ?_, ?_, q3, hl⟩
          · show 1 ≤ (gEnd z.2 _ _).i 6 p
            have hp' : p < (gEnd z.2 (fi (G.l 3) (tk T (adv T h)).2.2.2 (G.i 0 1)) y1.2).i 0 1 := hp
            rw [gEnd_i _ _ _ _ _ (by omega), s.2.2.1, gRul_i _ _ _ _ _ (by omega) (by omega)] at hp'
            rw [gEnd_i _ _ _ _ _ (by omega), s.1 6 p (by omega) (by omega) (by omega) (by omega) (by omega), gRul_i _ _ _ _ _ (by omega) (by omega)]
            exact h2 p hp'
          · show (gEnd z.2 _ _).i 0 2 ≤ z.1
            rw [gEnd_i _ _ _ _ _ (by omega)]; exact hz
        · unfold fl at e; cases e
    · unfold fl at e; cases e
  · unfold fl at e; cases e
theorem pSym_6 {n : Nat} {T : List Tok} {h : Nat} {G : Gr} {y : Nat × Gr} (e : pSym T h G = .inr y) : ∀ p, y.2.i 6 p = G.i 6 p := by
  have at6 : ∀ (inn : Bool) (h : Nat) (G : Gr) (y : Nat × Gr), pAttr inn T h G = .inr y → ∀ p, y.2.i 6 p = G.i 6 p := by
    intro inn h G y e p
    unfold pAttr at e
    split at e
    · split at e
      · unfold fl at e; cases e
      · by_cases e3 : (if inn = true then G.i 4 (G.i 0 0 - 1) else G.i 5 (G.i 0 0 - 1)) < 4
        · rw [if_pos e3] at e
          injection e with e
          subst e
          exact gAtt_ik _ _ _ _ _ _ (by omega) (by omega)
        · rw [if_neg e3] at e; unfold fl at e; cases e
    · unfold fl at e; cases e
  have al6 : ∀ (inn : Bool) (G : Gr) (m : Nat) (r : RS) (y : Nat × Gr), (∀ z, r = .inr z → ∀ p, z.2.i 6 p = G.i 6 p) → pAttrsL inn T m r = .inr y → ∀ p, y.2.i 6 p = G.i 6 p := by
    intro inn G m
    induction m with
    | zero => intro r y hr e; exact hr y e
    | succ m ih =>
      intro r y hr e
      cases r with
      | inl e0 => rw [pAttrsL_l] at e; cases e
      | inr z =>
        obtain ⟨h1, G1⟩ := z
        rw [pAttrsL_r] at e
        split at e
        · exact ih _ y (fun z hz p => (at6 inn h1 G1 z hz p).trans (hr _ rfl p)) e
        · injection e with e; subst e; exact hr _ rfl
  have as6 : ∀ (inn : Bool) (v h : Nat) (G : Gr) (y : Nat × Gr), pSymA inn v T h G = .inr y → ∀ p, y.2.i 6 p = G.i 6 p := by
    intro inn v h G y e
    unfold pSymA at e
    split at e
    · exact al6 inn G 8 _ y (fun z hz => at6 inn _ _ z hz) e
    · injection e with e; subst e; exact fun _ => rfl
  unfold pSym at e
  split at e
  · split at e
    · split at e
      · unfold fl at e; cases e
      · obtain ⟨z, a, b⟩ := bnd_r e
        intro p
        rw [as6 _ _ _ _ y b p, as6 _ _ _ _ z a p, gSym_i, if_neg (by omega), if_neg (by omega)]
    · unfold fl at e; cases e
  · unfold fl at e; cases e
theorem pSign_L {T : List Tok} {c h : Nat} {G : Gr} {y : Nat × Gr} (hI : LI T h G) (e : pSign T c h G = .inr y) : LI T y.1 y.2 := by
  obtain ⟨a, _⟩ := pSign_r e
  subst a
  exact ⟨hI.1, hI.2.1, Nat.le_trans hI.2.2.1 adv_ge, adv_lt hI.2.2.2.1, hI.2.2.2.2⟩
theorem pSym_L {n : Nat} {T : List Tok} {h : Nat} {G : Gr} {y : Nat × Gr} (hT : TT n T) (hI : LI T h G) (e : pSym T h G = .inr y) : LI T y.1 y.2 := by
  obtain ⟨a, b, c, d, f⟩ := pSym_W hT hI.2.2.2.1 hI.1 e
  refine ⟨a, fun p hp => ?_, by rw [c.2.1]; exact Nat.le_trans hI.2.2.1 d, f, hI.2.2.2.2⟩
  have hp' : p < y.2.i 0 1 := hp
  rw [c.1] at hp'
  show 1 ≤ y.2.i 6 p
  rw [pSym_6 (n := n) e p]
  exact hI.2.1 p hp'
theorem pPro_L {n : Nat} {T : List Tok} {h : Nat} {G : Gr} {y : Nat × Gr} (hT : TT n T) (hI : LI T h G) (e : pPro T h G = .inr y) : LI T y.1 y.2 := by
  obtain ⟨a, b, _, _, c, d, f⟩ := pPro_W hT hI.2.2.2.1 hI.1 hI.2.1 e
  exact ⟨a, b, by rw [c]; exact Nat.le_trans hI.2.2.1 d, f, hI.2.2.2.2⟩
theorem pLine_L {n : Nat} {T : List Tok} {h : Nat} {G : Gr} {y : Nat × Gr} (hT : TT n T) (hE : TE T) (hI : LI T h G) (e : pLine T h G = .inr y) : LI T y.1 y.2 := by
  unfold pLine at e
  split at e
  · obtain ⟨z, a, b⟩ := bnd_r e
    exact pSign_L (pSym_L hT hI a) b
  · split at e
    · obtain ⟨z, a, b⟩ := bnd_r e
      exact pSign_L (pPro_L hT hI a) b
    · split at e
      · obtain ⟨z, a, b⟩ := bnd_r e
        exact pSign_L (pRule_L hE hI a) b
      · unfold fl at e; cases e
