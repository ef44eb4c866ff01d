-- a leaf
theorem KS.R {T : List Tok} {h g f v : Nat} {G G' : Gr} {M : Mm} (hg : g = 35 ∨ g = 52) (K : KS T h g G M) (hi : G'.i = G.i) (hl : G'.l = G.l) (h2 : nI G'.cp = if f = 2 then nI v else nI G.cp) (h3 : nI G'.co = if f = 3 then nI v else nI G.co) (h4 : nI G'.pa = if f = 4 then nI v else nI G.pa) : KS T h g G' (upI M 7 f (nI v)) := by
  obtain ⟨k1, k2, k3, k4, k5, k6, k7⟩ := K
  have fr : Fr (fun a => a = 7) M (upI M 7 f (nI v)) := Fr.I rfl
  refine ⟨k1.fr fr (by decide) (by decide) (by decide) (by decide), (k2.eq hi hl).fr fr (fun k hk => by rcases hg with e | e <;> subst e <;> omega), k3, k4, ?_, ?_, ?_⟩
  · rw [up1, if_pos rfl, upd_a, h2, k5]
    by_cases e : f = 2
    · rw [if_pos e, if_pos e.symm]
    · rw [if_neg e, if_neg (fun q => e q.symm)]
  · rw [up1, if_pos rfl, upd_a, h3, k6]
    by_cases e : f = 3
    · rw [if_pos e, if_pos e.symm]
    · rw [if_neg e, if_neg (fun q => e q.symm)]
  · rw [up1, if_pos rfl, upd_a, h4, k7]
    by_cases e : f = 4
    · rw [if_pos e, if_pos e.symm]
    · rw [if_neg e, if_neg (fun q => e q.symm)]
theorem KS.A {T : List Tok} {h g v : Nat} {G : Gr} {M : Mm} (hg : g = 35 ∨ g = 52) (K : KS T h g G M) : KS T h g (sA G v) (upI M 7 4 (nI v)) := K.R hg rfl rfl rfl rfl rfl
theorem KS.P {T : List Tok} {h g v : Nat} {G : Gr} {M : Mm} (hg : g = 35 ∨ g = 52) (K : KS T h g G M) : KS T h g (sP G v) (upI M 7 2 (nI v)) := K.R hg rfl rfl rfl rfl rfl
theorem KS.O {T : List Tok} {h g v : Nat} {G : Gr} {M : Mm} (hg : g = 35 ∨ g = 52) (K : KS T h g G M) : KS T h g (sO G v) (upI M 7 3 (nI v)) := K.R hg rfl rfl rfl rfl rfl
-- what an expression leaves as it was
def Se (G G' : Gr) : Prop := (∀ k j, ¬ k = 0 → ¬ k = 11 → ¬ k = 12 → ¬ k = 13 → ¬ k = 16 → G'.i k j = G.i k j) ∧ G'.i 0 0 = G.i 0 0 ∧ G'.i 0 1 = G.i 0 1 ∧ G'.l = G.l ∧ G'.cp = G.cp ∧ G'.co = G.co
theorem Se.refl {G : Gr} : Se G G := ⟨fun _ _ _ _ _ _ _ => rfl, rfl, rfl, rfl, rfl, rfl⟩
theorem Se.trans {G G' G'' : Gr} (h : Se G G') (h' : Se G' G'') : Se G G'' := ⟨fun k j a b c d e => (h'.1 k j a b c d e).trans (h.1 k j a b c d e), h'.2.1.trans h.2.1, h'.2.2.1.trans h.2.2.1, h'.2.2.2.1.trans h.2.2.2.1, h'.2.2.2.2.1.trans h.2.2.2.2.1, h'.2.2.2.2.2.trans h.2.2.2.2.2⟩
theorem W0_Se {G G' : Gr} (h : W0 G) (s : Se G G') (hc : G'.i 0 2 ≤ 1000) : W0 G' := by
  obtain ⟨h1, h2, h3, h4, h5⟩ := h
  obtain ⟨s1, s2, s3, s4, s5, s6⟩ := s
  unfold W0
  simp (disch := omega) only [s1, s2, s3, s4]
  exact ⟨h1, h2, hc, h4, h5⟩
def EI (T : List Tok) (h : Nat) (G : Gr) : Prop := W0 G ∧ G.i 0 2 ≤ h ∧ h < T.length ∧ T.length ≤ 1001 ∧ G.cp < G.i 0 1 ∧ G.co < 32
def DE (T : List Tok) (h : Nat) (G : Gr) (y : Nat × Gr) : Prop := Se G y.2 ∧ y.2.i 0 2 + h ≤ G.i 0 2 + y.1 ∧ h ≤ y.1 ∧ y.1 < T.length
theorem DE.trans {T : List Tok} {h : Nat} {G : Gr} {y z : Nat × Gr} (a : DE T h G y) (b : DE T y.1 y.2 z) : DE T h G z := ⟨Se.trans a.1 b.1, by have := a.2.1; have := b.2.1; have := a.2.2.1; have := b.2.2.1; omega, Nat.le_trans a.2.2.1 b.2.2.1, b.2.2.2⟩
theorem EI.go {T : List Tok} {h : Nat} {G : Gr} {y : Nat × Gr} (a : EI T h G) (b : DE T h G y) : EI T y.1 y.2 := by
  obtain ⟨a1, a2, a3, a4, a5, a6⟩ := a
  obtain ⟨b1, b2, b3, b4⟩ := b
  have b1' : Se G y.2 := b1
  refine ⟨W0_Se a1 b1' (by omega), by omega, b4, a4, ?_, ?_⟩
  · rw [b1'.2.2.2.2.1, b1'.2.2.1]; exact a5
  · rw [b1'.2.2.2.2.2]; exact a6
def gAw (G : Gr) : Gr := sI G 11 G.cp (G.i 11 G.cp ||| 2 ^ G.co)
abbrev pf (T : List Tok) (h : Nat) : Prop := h + 1 < T.length ∧ (tk T (h + 1)).1 = 3 ∧ (tk T (h + 1)).2.2.2 = 46
def pLeafN (T : List Tok) (h : Nat) (G : Gr) : RS :=
  if pf T h then
    (match pPos T h G with
    | .inl e => .inl e
    | .inr _ =>
      if G.pa < 24 then
        (match pOcc T h G with
        | .inl e => .inl e
        | .inr y => .inr (adv T y.1, gCod (gAsk (sA G (G.pa + 1)) G.cp G.co y.2) (10000 + y.2)))
      else fl T h 6)
  else if G.pa < 24 then .inr (adv T h, gCod (sA G (G.pa + 1)) (tk T h).2.2.2) else fl T h 6
def pLeaf (T : List Tok) (h : Nat) (G : Gr) : RS :=
  if isWd T h 15021 then (if G.pa < 24 then .inr (adv T h, gCod (gAw (sA G (G.pa + 1))) 20000) else fl T h 6)
  else if (tk T h).1 = 2 then pLeafN T h G else fl T h 2
theorem gCod_i (G : Gr) (v k j : Nat) (h0 : ¬ k = 0) (h16 : ¬ k = 16) : (gCod G v).i k j = G.i k j := by
  unfold gCod; simp only [sI_i, h0, h16, false_and, if_false]
theorem gCod_0 (G : Gr) (v j : Nat) : (gCod G v).i 0 j = if j = 2 then G.i 0 2 + 1 else G.i 0 j := by
  unfold gCod; simp only [sI_i, true_and, Nat.reduceEqDiff, false_and, if_false]
theorem gCod_S (G : Gr) (v : Nat) : Se G (gCod G v) := ⟨fun k j a _ _ _ e => gCod_i _ _ _ _ a e, by rw [gCod_0]; rfl, by rw [gCod_0]; rfl, rfl, rfl, rfl⟩
theorem sA_S (G : Gr) (v : Nat) : Se G (sA G v) := ⟨fun _ _ _ _ _ _ _ => rfl, rfl, rfl, rfl, rfl, rfl⟩
theorem gAsk_S (G : Gr) (p o q : Nat) : Se G (gAsk G p o q) := by
  unfold gAsk
  exact ⟨fun k j _ _ a b _ => by simp only [sI_i, a, b, false_and, if_false], by simp only [sI_i, Nat.reduceEqDiff, false_and, if_false], by simp only [sI_i, Nat.reduceEqDiff, false_and, if_false], rfl, rfl, rfl⟩
theorem gAw_S (G : Gr) : Se G (gAw G) := by
  unfold gAw
  exact ⟨fun k j _ a _ _ _ => by simp only [sI_i, a, false_and, if_false], by simp only [sI_i, Nat.reduceEqDiff, false_and, if_false], by simp only [sI_i, Nat.reduceEqDiff, false_and, if_false], rfl, rfl, rfl⟩
theorem pOcc_h {T : List Tok} {h : Nat} {G : Gr} {y : Nat × Nat} (hE : TE T) (hh : h < T.length) (e : pOcc T h G = .inr y) : h + 2 ≤ y.1 ∧ y.1 < T.length ∧ ¬ (tk T y.1).1 = 0 := by
  unfold pOcc at e
  split at e
  · cases e
  · rename_i z e0
    obtain ⟨_, e1, _⟩ := pPos_r e0
    split at e
    · rename_i e2
      split at e
      · rename_i e3
        split at e
        · injection e with e
          subst e
          have q1 := hE.adv hh (by omega)
          have q2 := hE.adv (adv_lt hh) (by have := e2.1; omega)
          refine ⟨by show h + 2 ≤ adv T (adv T h); omega, adv_lt (adv_lt hh), ?_⟩
          have := isNm_k e3
          show ¬ (tk T (adv T (adv T h))).1 = 0
          omega
        · cases e
      · cases e
    · cases e
theorem pLeaf_D {T : List Tok} {h : Nat} {G : Gr} {y : Nat × Gr} (hE : TE T) (hh : h < T.length) (e : pLeaf T h G = .inr y) : DE T h G y := by
  unfold pLeaf at e
  split at e
  · rename_i e1
    split at e
    · injection e with e; subst e
      have q := hE.adv hh (by have := e1.1; omega)
      refine ⟨((sA_S _ _).trans (gAw_S _)).trans (gCod_S _ _), ?_, adv_ge, adv_lt hh⟩
      show (gCod _ _).i 0 2 + h ≤ _ + adv T h
      rw [gCod_0, if_pos rfl, q]
      have : (gAw (sA G (G.pa + 1))).i 0 2 = G.i 0 2 := by unfold gAw; simp only [sI_i, Nat.reduceEqDiff, false_and, if_false]; rfl
      omega
    · unfold fl at e; cases e
  · split at e
    · rename_i e1
      unfold pLeafN at e
      split at e
      · split at e
        · cases e
        · split at e
          · split at e
            · cases e
            · rename_i y2 e5
              injection e with e; subst e
              obtain ⟨a, b, c⟩ := pOcc_h hE hh e5
              have q := hE.adv b c
              refine ⟨((sA_S _ _).trans (gAsk_S _ _ _ _)).trans (gCod_S _ _), ?_, ?_, adv_lt b⟩
              · show (gCod _ _).i 0 2 + h ≤ _ + adv T y2.1
                rw [gCod_0, if_pos rfl, q]
                have : (gAsk (sA G (G.pa + 1)) G.cp G.co y2.2).i 0 2 = G.i 0 2 := by unfold gAsk; simp only [sI_i, Nat.reduceEqDiff, false_and, if_false]; rfl
                omega
              · show h ≤ adv T y2.1
                omega
          · unfold fl at e; cases e
      · split at e
        · injection e with e; subst e
          have q := hE.adv hh (by omega)
          refine ⟨(sA_S _ _).trans (gCod_S _ _), ?_, adv_ge, adv_lt hh⟩
          show (gCod _ _).i 0 2 + h ≤ _ + adv T h
          rw [gCod_0, if_pos rfl, q]
          show G.i 0 2 + 1 + h ≤ _
          omega
        · unfold fl at e; cases e
    · unfold fl at e; cases e
