-- what the expression's readers keep
theorem pLeaf_P {T : List Tok} {h : Nat} {G : Gr} {y : Nat × Gr} (ha : G.pa ≤ 24) (e : pLeaf T h G = .inr y) : y.2.pa ≤ 24 := by
  unfold pLeaf at e
  split at e
  · split at e
    · rename_i e2
      injection e with e; subst e
      show G.pa + 1 ≤ 24
      omega
    · unfold fl at e; cases e
  · split at e
    · unfold pLeafN at e
      split at e
      · split at e
        · cases e
        · split at e
          · rename_i e2
            split at e
            · cases e
            · injection e with e; subst e
              show G.pa + 1 ≤ 24
              omega
          · unfold fl at e; cases e
      · split at e
        · rename_i e2
          injection e with e; subst e
          show G.pa + 1 ≤ 24
          omega
        · unfold fl at e; cases e
    · unfold fl at e; cases e
theorem DP.trans {T : List Tok} {h : Nat} {G : Gr} {y z : Nat × Gr} (a : DP T h G y) (b : DP T y.1 y.2 z) : DP T h G z := ⟨a.1.trans b.1, b.2⟩
theorem DP_adv {T : List Tok} {h : Nat} {G : Gr} (hh : h < T.length) (ha : G.pa ≤ 24) : DP T h G (adv T h, G) := ⟨DE_adv hh, ha⟩
theorem pSign_D {T : List Tok} {c h : Nat} {G : Gr} {y : Nat × Gr} (hh : h < T.length) (ha : G.pa ≤ 24) (e : pSign T c h G = .inr y) : DP T h G y := by
  obtain ⟨a, _⟩ := pSign_r e
  subst a
  exact DP_adv hh ha
theorem pBrL_D {T : List Tok} {rc : Nat → Gr → RS} (hrc : DR T rc) {h : Nat} {G : Gr} : ∀ (m : Nat) (r : RS) (y : Nat × Gr), (∀ z, r = .inr z → DP T h G z) → pBrL T rc m r = .inr y → DP T h G y
  | 0, r, y, hr, e => hr y e
  | m + 1, r, y, hr, e => pBrL_D hrc m _ y (fun z hz => by
      obtain ⟨z1, a, b⟩ := bnd_r hz
      obtain ⟨z2, c, d⟩ := bnd_r b
      have q1 := hr z1 a
      have q2 := pSign_D q1.1.2.2.2 q1.2 c
      have q3 := hrc z2.1 z2.2 z q2.1.2.2.2 q2.2 d
      exact (q1.trans q2).trans q3) e
theorem pBr_D {T : List Tok} {rc : Nat → Gr → RS} (hrc : DR T rc) {d many h : Nat} {G : Gr} {y : Nat × Gr} (hh : h < T.length) (ha : G.pa ≤ 24) (e : pBr T rc d many h G = .inr y) : DP T h G y := by
  unfold pBr at e
  split at e
  · split at e
    · obtain ⟨z, a, b⟩ := bnd_r e
      have q1 := pBrL_D hrc (h := h) (G := G) (many - 1) _ z (fun z hz => (DP_adv hh ha).trans (hrc _ _ _ (adv_lt hh) ha hz)) a
      exact q1.trans (pSign_D q1.1.2.2.2 q1.2 b)
    · unfold fl at e; cases e
  · unfold fl at e; cases e
-- a code behind a token more
theorem gCod_D {T : List Tok} {h h1 v : Nat} {G : Gr} {y : Nat × Gr} (q : DP T h1 G y) (h1e : h1 = h + 1) : DP T h G (y.1, gCod y.2 v) := by
  obtain ⟨⟨a, b, c, d⟩, e⟩ := q
  subst h1e
  refine ⟨⟨Se.trans a (gCod_S _ _), ?_, Nat.le_trans (Nat.le_succ h) c, d⟩, e⟩
  show (gCod y.2 v).i 0 2 + h ≤ G.i 0 2 + y.1
  rw [gCod_0, if_pos rfl]
  omega
theorem pPart_D {T : List Tok} {rc : Nat → Gr → RS} (hE : TE T) (hrc : DR T rc) {d h : Nat} {G : Gr} {y : Nat × Gr} (hh : h < T.length) (ha : G.pa ≤ 24) (e : pPart T rc d h G = .inr y) : DP T h G y := by
  unfold pPart at e
  split at e
  · exact pBr_D hrc hh ha e
  · split at e
    · rename_i e1
      obtain ⟨z, a, b⟩ := bnd_r e
      injection b with b
      subst b
      exact gCod_D (pBr_D hrc (adv_lt hh) ha a) (hE.adv hh (by have := e1.1; omega))
    · exact ⟨pLeaf_D hE hh e, pLeaf_P ha e⟩
theorem pEL_D {T : List Tok} {rc : Nat → Gr → RS} (hE : TE T) (hrc : DR T rc) {d h : Nat} {G : Gr} : ∀ (m : Nat) (r : RS) (y : Nat × Gr), (∀ z, r = .inr z → DP T h G z) → pEL T rc d m r = .inr y → DP T h G y
  | 0, r, y, hr, e => hr y e
  | m + 1, .inl e0, y, hr, e => by rw [pEL_l] at e; cases e
  | m + 1, .inr (h1, G1), y, hr, e => by
    have q := hr _ rfl
    have e' : (match opAt T h1 with
      | none => .inr (h1, G1)
      | some v => pEL T rc d m (bnd (pPart T rc d (adv T h1) G1) fun h' G' => .inr (h', gCod G' (30000 + v)))) = (Sum.inr y : RS) := e
    split at e'
    · injection e' with e'; subst e'; exact q
    · rename_i v ev
      refine pEL_D hE hrc m _ y (fun z hz => ?_) e'
      obtain ⟨z1, a, b⟩ := bnd_r hz
      injection b with b
      subst b
      exact q.trans (gCod_D (pPart_D hE hrc (adv_lt q.1.2.2.2) q.2 a) (hE.adv q.1.2.2.2 (opAt_k ev).1))
theorem pE_D {T : List Tok} (hE : TE T) : ∀ (fu d : Nat), DR T (pE T fu d)
  | 0, d => fun h G y _ _ e => by cases e
  | fu + 1, d => fun h G y hh ha e => pEL_D hE (pE_D hE fu (d + 1)) 1000 _ y (fun z hz => pPart_D hE (pE_D hE fu (d + 1)) hh ha hz) e
