-- an occ behind a position; brackets of three
theorem W4.eq {G G' : Gr} (h : W4 G) (e1 : G'.i 0 1 = G.i 0 1) (hk : ∀ k j, 4 ≤ k → k ≤ 9 → G'.i k j = G.i k j) : W4 G' := by
  intro p hp i
  rw [e1] at hp
  rw [hk 8 _ (by omega) (by omega), hk 9 _ (by omega) (by omega), hk 6 _ (by omega) (by omega), hk 7 _ (by omega) (by omega), hk 7 _ (by omega) (by omega), hk 4 _ (by omega) (by omega), hk 4 _ (by omega) (by omega), hk 5 _ (by omega) (by omega), hk 5 _ (by omega) (by omega)]
  exact h p hp i
theorem gCod_ak (G : Gr) (v j : Nat) : (gCod G v).i 12 j = G.i 12 j := gCod_i _ _ _ _ (by omega) (by omega)
theorem gCod_ab (G : Gr) (v j : Nat) : (gCod G v).i 13 j = G.i 13 j := gCod_i _ _ _ _ (by omega) (by omega)
theorem gAsk_12 (G : Gr) (p o q j : Nat) : (gAsk G p o q).i 12 j = if j = 32 * p + o then G.i 12 j ||| 2 ^ q else G.i 12 j := by
  unfold gAsk
  simp only [sI_i, Nat.reduceEqDiff, true_and, false_and, if_false]
  split
  · rename_i e; rw [e]
  · rfl
theorem gAsk_13 (G : Gr) (p o q j : Nat) : (gAsk G p o q).i 13 j = if j = 32 * p + q then G.i 13 j ||| 2 ^ o else G.i 13 j := by
  unfold gAsk
  simp only [sI_i, Nat.reduceEqDiff, true_and, false_and, if_false]
  split
  · rename_i e; rw [e]
  · rfl
/-- a name behind a position -/
def pON (T : List Tok) (h1 p at' : Nat) (G : Gr) : Sum (Nat × Nat) (Nat × Nat) :=
  if isSn T h1 46 then
    (if isNm (tk T (adv T h1)) = true then
      (if attN G (G.i 7 (4 * p + at')) (posK T (adv T h1)) < G.i 4 (G.i 7 (4 * p + at')) + G.i 5 (G.i 7 (4 * p + at')) then .inr (adv T h1, 8 * at' + attN G (G.i 7 (4 * p + at')) (posK T (adv T h1)))
       else .inl (if (tk T (adv T h1)).1 = 4 then 1 else 3, (tk T (adv T h1)).2.1))
     else .inl (if (tk T (adv T h1)).1 = 4 then 1 else 2, (tk T (adv T h1)).2.1))
  else .inl (if (tk T h1).1 = 4 then 1 else 2, (tk T h1).2.1)
theorem pOcc_N {T : List Tok} {h : Nat} {G : Gr} {y : Nat × Gr} (e : pPos T h G = .inr y) : pOcc T h G = pON T (adv T h) G.cp (posK T h) G := by
  unfold pOcc pON
  rw [e]
theorem pON_v {T : List Tok} {h1 p at' : Nat} {G : Gr} {y : Nat × Nat} (e : pON T h1 p at' G = .inr y) : ∃ a, y.2 = 8 * at' + a ∧ a < G.i 4 (G.i 7 (4 * p + at')) + G.i 5 (G.i 7 (4 * p + at')) := by
  unfold pON at e
  split at e
  · split at e
    · split at e
      · rename_i q
        injection e with e; subst e
        exact ⟨_, rfl, q⟩
      · cases e
    · cases e
  · cases e
theorem bnd_assoc (r : RS) (f g : Nat → Gr → RS) : bnd (bnd r f) g = bnd r fun h G => bnd (f h G) g := by cases r <;> rfl
theorem bnd_r' (h : Nat) (G : Gr) (f : Nat → Gr → RS) : bnd (.inr (h, G)) f = f h G := rfl
theorem pBr3 (T : List Tok) (rc : Nat → Gr → RS) (r : RS) (k : Nat → Gr → RS) : bnd (pBrL T rc 2 r) k = bnd r fun h G => bnd (pSign T 44 h G) fun h G => bnd (rc h G) fun h G => bnd (pSign T 44 h G) fun h G => bnd (rc h G) k := by
  show bnd (bnd (bnd r fun h G => bnd (pSign T 44 h G) fun h' G' => rc h' G') fun h G => bnd (pSign T 44 h G) fun h' G' => rc h' G') k = _
  simp only [bnd_assoc]
