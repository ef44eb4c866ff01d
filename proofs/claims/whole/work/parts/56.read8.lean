-- expressions
def opAt (T : List Tok) (h : Nat) : Option Nat :=
  if (tk T h).1 = 1 then (if (tk T h).2.2.2 = 13368 then some 6 else if (tk T h).2.2.2 = 13614 then some 7 else none)
  else if (tk T h).1 = 3 then
    (if (tk T h).2.2.2 = 38 then some 4 else if (tk T h).2.2.2 = 42 then some 2 else if (tk T h).2.2.2 = 43 then some 0 else if (tk T h).2.2.2 = 45 then some 1 else if (tk T h).2.2.2 = 60 then some 5 else if (tk T h).2.2.2 = 124 then some 3 else none)
  else none
def oR (o : Option Nat) : Int32 := match o with
  | none => m1
  | some v => nI v
theorem opAt_k {T : List Tok} {h v : Nat} (e : opAt T h = some v) : ¬ (tk T h).1 = 0 ∧ v < 8 := by
  unfold opAt at e
  split at e
  · refine ⟨by omega, ?_⟩
    split at e
    · injection e with e; omega
    · split at e
      · injection e with e; omega
      · cases e
  · split at e
    · refine ⟨by omega, ?_⟩
      split at e
      · injection e with e; omega
      · split at e
        · injection e with e; omega
        · split at e
          · injection e with e; omega
          · split at e
            · injection e with e; omega
            · split at e
              · injection e with e; omega
              · split at e
                · injection e with e; omega
                · cases e
    · cases e
theorem s_operatorHere {n : Nat} {T : List Tok} {h g : Nat} {G : Gr} {M : Mm} (N : Nat) (hT : TT n T) (K : KS T h g G M) : D_X2_operatorHere N 7 M = some (oR (opAt T h)) := by
  have hk := (hT.w h K.1.h).1
  have ek : M.1 2 7 = nI (tk T h).1 := K.1.2.2.2.2.1
  unfold D_X2_operatorHere opAt
  simp (disch := omega) only [K.t, Option.bind_some, ek, n_eq, lgc, K.1.v, l_to]
  by_cases e1 : (tk T h).1 = 1
  · have hw := hT.c1 K.1.h e1
    simp (disch := omega) only [e1, if_true, l_eq]
    by_cases c1 : (tk T h).2.2.2 = 13368
    · rw [if_pos c1, if_pos c1]; rfl
    · rw [if_neg c1, if_neg c1]
      by_cases c2 : (tk T h).2.2.2 = 13614
      · rw [if_pos c2, if_pos c2]; rfl
      · rw [if_neg c2, if_neg c2]; rfl
  · rw [if_neg e1, if_neg e1]
    by_cases e3 : (tk T h).1 = 3
    · have hw := (hT.g K.1.h).2.2.2.2 e3
      rw [if_pos e3, if_pos e3]
      simp (disch := omega) only [n_eq]
      by_cases c1 : (tk T h).2.2.2 = 38
      · rw [if_pos c1, if_pos c1]; rfl
      · rw [if_neg c1, if_neg c1]
        by_cases c2 : (tk T h).2.2.2 = 42
        · rw [if_pos c2, if_pos c2]; rfl
        · rw [if_neg c2, if_neg c2]
          by_cases c3 : (tk T h).2.2.2 = 43
          · rw [if_pos c3, if_pos c3]; rfl
          · rw [if_neg c3, if_neg c3]
            by_cases c4 : (tk T h).2.2.2 = 45
            · rw [if_pos c4, if_pos c4]; rfl
            · rw [if_neg c4, if_neg c4]
              by_cases c5 : (tk T h).2.2.2 = 60
              · rw [if_pos c5, if_pos c5]; rfl
              · rw [if_neg c5, if_neg c5]
                by_cases c6 : (tk T h).2.2.2 = 124
                · rw [if_pos c6, if_pos c6]; rfl
                · rw [if_neg c6, if_neg c6]; rfl
    · rw [if_neg e3, if_neg e3]; rfl
-- rc: an expression one bracket deeper
def pBrL (T : List Tok) (rc : Nat → Gr → RS) : Nat → RS → RS
  | 0, r => r
  | m + 1, r => pBrL T rc m (bnd r fun h G => bnd (pSign T 44 h G) fun h' G' => rc h' G')
def pBr (T : List Tok) (rc : Nat → Gr → RS) (d many h : Nat) (G : Gr) : RS :=
  if isSn T h 40 then
    (if d < 6 then bnd (pBrL T rc (many - 1) (rc (adv T h) G)) fun h' G' => pSign T 41 h' G' else fl T h 6)
  else fl T h 2
def pPart (T : List Tok) (rc : Nat → Gr → RS) (d h : Nat) (G : Gr) : RS :=
  if isSn T h 40 then pBr T rc d 1 h G
  else if isWd T h 294 then bnd (pBr T rc d 3 (adv T h) G) fun h' G' => .inr (h', gCod G' 40000)
  else pLeaf T h G
def pEL (T : List Tok) (rc : Nat → Gr → RS) (d : Nat) : Nat → RS → RS
  | 0, r => r
  | m + 1, r => bnd r fun h G => match opAt T h with
    | none => .inr (h, G)
    | some v => pEL T rc d m (bnd (pPart T rc d (adv T h) G) fun h' G' => .inr (h', gCod G' (30000 + v)))
def pE (T : List Tok) : Nat → Nat → Nat → Gr → RS
  | 0, _, _, _ => .inl (0, 0)
  | fu + 1, d, h, G => pEL T (pE T fu (d + 1)) d 1000 (pPart T (pE T fu (d + 1)) d h G)
theorem pBrL_l (T : List Tok) (rc : Nat → Gr → RS) : ∀ (m : Nat) (e : Nat × Nat), pBrL T rc m (.inl e) = .inl e
  | 0, _ => rfl
  | m + 1, e => pBrL_l T rc m e
theorem pEL_l (T : List Tok) (rc : Nat → Gr → RS) (d : Nat) : ∀ (m : Nat) (e : Nat × Nat), pEL T rc d m (.inl e) = .inl e
  | 0, _ => rfl
  | _ + 1, _ => rfl
-- what an expression's reader keeps
def DP (T : List Tok) (h : Nat) (G : Gr) (y : Nat × Gr) : Prop := DE T h G y ∧ y.2.pa ≤ 24
def DR (T : List Tok) (rc : Nat → Gr → RS) : Prop := ∀ h G y, h < T.length → G.pa ≤ 24 → rc h G = .inr y → DP T h G y
theorem DE.refl {T : List Tok} {h : Nat} {G : Gr} (hh : h < T.length) : DE T h G (h, G) := ⟨Se.refl, Nat.le_refl _, Nat.le_refl _, hh⟩
theorem DE_adv {T : List Tok} {h : Nat} {G : Gr} (hh : h < T.length) : DE T h G (adv T h, G) := ⟨Se.refl, Nat.add_le_add_left adv_ge _, adv_ge, adv_lt hh⟩
