-- leaves, parts, expressions: their codes
theorem XE_sA (G : Gr) (v : Nat) : XE 0 0 G (sA G v) := by
  refine ⟨sA_S _ _, Nat.le_refl _, fun _ _ => rfl, fun t _ => ?_, fun c c1 c2 => ?_, fun q h => Or.inl h, fun q h => h, ?_, fun _ _ _ => rfl, fun _ _ => rfl, fun h => h, fun _ _ _ => rfl, fun _ _ => rfl⟩
  · rw [show (sA G v).i 0 2 - G.i 0 2 = 0 from Nat.sub_self _]; rfl
  · have : (sA G v).i 0 2 = G.i 0 2 := rfl
    omega
  · constructor
    · exact fun h => Or.inl h
    · rintro (h | ⟨c, c1, c2, _⟩)
      · exact h
      · have : (sA G v).i 0 2 = G.i 0 2 := rfl
        omega
theorem XE_num (G : Gr) (v : Nat) : XE 1 1 G (gCod (gAw (sA G v)) 20000) := by
  have hk : ∀ k j, ¬ k = 11 → (gAw (sA G v)).i k j = G.i k j := fun k j h => by unfold gAw; simp only [sI_i, h, false_and, if_false]; rfl
  have h11 : ∀ p, (gAw (sA G v)).i 11 p = if p = G.cp then G.i 11 G.cp ||| 2 ^ G.co else G.i 11 p := fun p => by unfold gAw; simp only [sI_i, true_and]; rfl
  have e12 : ∀ j, (gCod (gAw (sA G v)) 20000).i 12 j = G.i 12 j := fun j => by rw [gCod_ak, hk _ _ (by omega)]
  have e13 : ∀ j, (gCod (gAw (sA G v)) 20000).i 13 j = G.i 13 j := fun j => by rw [gCod_ab, hk _ _ (by omega)]
  have e11 : ∀ p, (gCod (gAw (sA G v)) 20000).i 11 p = if p = G.cp then G.i 11 G.cp ||| 2 ^ G.co else G.i 11 p := fun j => by rw [gCod_i _ _ _ _ (by omega) (by omega), h11]
  have enc : (gAw (sA G v)).i 0 2 = G.i 0 2 := hk _ _ (by omega)
  have e16 : ∀ c, (gCod (gAw (sA G v)) 20000).i 16 c = if c = G.i 0 2 then 20000 else G.i 16 c := fun c => by rw [gCod_cc, enc, hk _ _ (by omega)]
  unfold XE
  simp only [e12, e13, e11, e16, gCod_nc, enc]
  refine ⟨((sA_S _ _).trans (gAw_S _)).trans (gCod_S _ _), by omega, fun c hc => by rw [if_neg (by omega)], fun t ht => ?_, fun c c1 c2 => ?_, fun q h => Or.inl h, fun q h => h, ?_, fun p o h => ?_, fun _ _ => trivial, fun h => h, fun _ _ _ => trivial, fun _ _ => trivial⟩
  · rw [show G.i 0 2 + 1 - G.i 0 2 = 1 by omega, hgt_s, e16, if_pos rfl, show hst 20000 t = some (t + 1) by unfold hst; rw [if_pos (by omega), if_pos (by omega)]]; rfl
  · rw [if_pos (by omega)]; exact Or.inr (Or.inl rfl)
  · rw [if_pos trivial, Nat.testBit_or, Nat.testBit_two_pow_self, Bool.or_true]
    exact ⟨fun _ => Or.inr ⟨G.i 0 2, Nat.le_refl _, by omega, by rw [if_pos rfl]⟩, fun _ => rfl⟩
  · by_cases q : p = G.cp
    · rw [if_pos q, Nat.testBit_or, Nat.testBit_two_pow_of_ne (fun z => h ⟨q, z.symm⟩), Bool.or_false, q]
    · rw [if_neg q]
theorem XE_ask (G : Gr) (v q : Nat) (hq : q < 32) (hco : G.co < 32) (hu : (G.i 8 G.cp).testBit q = true) : XE 0 0 G (gAsk (sA G v) G.cp G.co q) := by
  have hk : ∀ k j, ¬ k = 12 → ¬ k = 13 → (gAsk (sA G v) G.cp G.co q).i k j = G.i k j := fun k j h h' => by unfold gAsk; simp only [sI_i, h, h', false_and, if_false]; rfl
  have h12 : ∀ j, (gAsk (sA G v) G.cp G.co q).i 12 j = if j = eI G then G.i 12 j ||| 2 ^ q else G.i 12 j := fun j => gAsk_12 _ _ _ _ _
  have h13 : ∀ j, (gAsk (sA G v) G.cp G.co q).i 13 j = if j = 32 * G.cp + q then G.i 13 j ||| 2 ^ G.co else G.i 13 j := fun j => gAsk_13 _ _ _ _ _
  have enc : (gAsk (sA G v) G.cp G.co q).i 0 2 = G.i 0 2 := hk _ _ (by omega) (by omega)
  have e16 : ∀ j, (gAsk (sA G v) G.cp G.co q).i 16 j = G.i 16 j := fun j => hk _ _ (by omega) (by omega)
  have e11 : ∀ j, (gAsk (sA G v) G.cp G.co q).i 11 j = G.i 11 j := fun j => hk _ _ (by omega) (by omega)
  unfold XE
  simp only [h12, h13, e11, e16, enc]
  refine ⟨(sA_S _ _).trans (gAsk_S _ _ _ _), Nat.le_refl _, fun c hc => trivial, fun t ht => ?_, fun c c1 c2 => by omega, fun z hz => ?_, fun z hz => ?_, ?_, fun _ _ _ => trivial, fun i h => by rw [if_neg h], fun h z hz => ?_, fun i o h => ?_, fun i h => ?_⟩
  · rw [Nat.sub_self]; rfl
  · rw [if_pos trivial, Nat.testBit_or] at hz
    by_cases c : z = q
    · exact Or.inr (by rw [c]; exact hu)
    · rw [Nat.testBit_two_pow_of_ne (fun y => c y.symm), Bool.or_false] at hz; exact Or.inl hz
  · rw [if_pos trivial, Nat.testBit_or, hz, Bool.true_or]
  · exact ⟨fun h => Or.inl h, fun h => by rcases h with h | ⟨c, c1, c2, _⟩; exact h; omega⟩
  · rw [if_pos trivial, Nat.testBit_or]
    by_cases c : z = q
    · rw [if_pos (by omega), Nat.testBit_or, c, Nat.testBit_two_pow_self, Nat.testBit_two_pow_self, Bool.or_true, Bool.or_true]
    · rw [if_neg (by omega), Nat.testBit_two_pow_of_ne (fun y => c y.symm), Bool.or_false]; exact h z hz
  · split
    · rw [Nat.testBit_or, Nat.testBit_two_pow_of_ne (fun z => h z.symm), Bool.or_false]
    · rfl
  · rw [if_neg (by omega)]
/-- where an expression can be read -/
def WX (G : Gr) : Prop := G.cp < G.i 0 1 ∧ G.co < 32 ∧ W4 G ∧ G.i 6 G.cp ≤ 4 ∧ ∀ k, k < G.i 6 G.cp → G.i 4 (G.i 7 (4 * G.cp + k)) + G.i 5 (G.i 7 (4 * G.cp + k)) ≤ 8
theorem WX.se {G G' : Gr} (w : WX G) (s : Se G G') : WX G' := by
  obtain ⟨w1, w2, w3, w4, w5⟩ := w
  obtain ⟨s1, s2, s3, s4, s5, s6⟩ := s
  have hk : ∀ k j, 4 ≤ k → k ≤ 9 → G'.i k j = G.i k j := fun k j k1 k2 => s1 k j (by omega) (by omega) (by omega) (by omega) (by omega)
  unfold WX
  rw [s5, s6, s3, hk 6 _ (by omega) (by omega)]
  refine ⟨w1, w2, w3.eq s3 hk, w4, fun k h => ?_⟩
  rw [hk 7 _ (by omega) (by omega), hk 4 _ (by omega) (by omega), hk 5 _ (by omega) (by omega)]
  exact w5 k h
def DX (T : List Tok) (rc : Nat → Gr → RS) (x : Nat) : Prop := ∀ h G y, h < T.length → WX G → G.pa ≤ 24 → rc h G = .inr y → XE 1 x G y.2
theorem pLeaf_X {n : Nat} {T : List Tok} {h : Nat} {G : Gr} {y : Nat × Gr} (hT : TT n T) (hh : h < T.length) (w : WX G) (e : pLeaf T h G = .inr y) : XE 1 1 G y.2 := by
  unfold pLeaf at e
  split at e
  · split at e
    · injection e with e; subst e
      exact XE_num G _
    · unfold fl at e; cases e
  · split at e
    · rename_i e1
      unfold pLeafN at e
      split at e
      · split at e
        · cases e
        · rename_i z0 ez0
          split at e
          · split at e
            · cases e
            · rename_i y2 e5
              injection e with e; subst e
              obtain ⟨_, e8, e9⟩ := pPos_r ez0
              rw [pOcc_N ez0] at e5
              obtain ⟨a, ea, ha⟩ := pON_v e5
              obtain ⟨w1, w2, w3, w4, w5⟩ := w
              have h8 := w5 _ e9
              have hp : posK T h < G.i 6 G.cp := e9
              have hq : y2.2 < 32 := by rw [ea]; unfold posK at hp ⊢; unfold posK at ha; omega
              have hu : (G.i 8 G.cp).testBit y2.2 = true := by
                rw [(w3 G.cp w1 y2.2).1, ea]
                unfold posK at hp ⊢; unfold posK at ha
                rw [show (8 * (tk T h).2.2.2 + a) / 8 = (tk T h).2.2.2 by omega, show (8 * (tk T h).2.2.2 + a) % 8 = a by omega, decide_eq_true hp, decide_eq_true ha]; rfl
              have s := XE_ask G (G.pa + 1) y2.2 hq w2 hu
              refine XE_code s (by omega) (Or.inr (Or.inr (Or.inr (Or.inr ⟨y2.2, hq, rfl, ?_⟩)))) (fun t ht => ?_) (by omega)
              · show ((gAsk (sA G (G.pa + 1)) G.cp G.co y2.2).i 12 (eI G)).testBit y2.2 = true
                rw [gAsk_12, if_pos (show eI G = 32 * G.cp + G.co from rfl), Nat.testBit_or, Nat.testBit_two_pow_self, Bool.or_true]
              · unfold hst; rw [if_pos (by omega), if_pos (by omega)]
          · unfold fl at e; cases e
      · split at e
        · injection e with e; subst e
          have hv := (hT.g hh).2.2.2.1 e1
          exact XE_code (XE_sA G (G.pa + 1)) (by omega) (Or.inl (by omega)) (fun t ht => by unfold hst; rw [if_pos (by omega), if_pos (by omega)]) (by omega)
        · unfold fl at e; cases e
    · unfold fl at e; cases e
theorem pSign_X {T : List Tok} {c h : Nat} {G : Gr} {y : Nat × Gr} (e : pSign T c h G = .inr y) : y.2 = G ∧ y.1 = adv T h := by
  obtain ⟨a, _⟩ := pSign_r e
  subst a; exact ⟨rfl, rfl⟩
theorem pBr1_X {T : List Tok} {rc : Nat → Gr → RS} {x d h : Nat} {G : Gr} {y : Nat × Gr} (hrc : d < 6 → DX T rc x) (hh : h < T.length) (w : WX G) (ha : G.pa ≤ 24) (e : pBr T rc d 1 h G = .inr y) : XE 1 x G y.2 ∧ d < 6 := by
  unfold pBr at e
  split at e
  · split at e
    · rename_i hd
      obtain ⟨z, a, b⟩ := bnd_r e
      have q := hrc hd (adv T h) G z (adv_lt hh) w ha a
      rw [(pSign_X b).1]
      exact ⟨q, hd⟩
    · unfold fl at e; cases e
  · unfold fl at e; cases e
theorem pBr3_X {T : List Tok} {rc : Nat → Gr → RS} {x d h : Nat} {G : Gr} {y : Nat × Gr} (hD : DR T rc) (hrc : d < 6 → DX T rc x) (hh : h < T.length) (w : WX G) (ha : G.pa ≤ 24) (e : pBr T rc d 3 h G = .inr y) : XE 3 (x + 2) G y.2 ∧ d < 6 := by
  unfold pBr at e
  split at e
  · split at e
    · rename_i hd
      rw [show (3 : Nat) - 1 = 2 from rfl, pBr3] at e
      obtain ⟨z1, a1, e⟩ := bnd_r e
      obtain ⟨z2, a2, e⟩ := bnd_r e
      obtain ⟨z3, a3, e⟩ := bnd_r e
      obtain ⟨z4, a4, e⟩ := bnd_r e
      obtain ⟨z5, a5, e⟩ := bnd_r e
      have q1 := hrc hd _ _ _ (adv_lt hh) w ha a1
      have d1 := hD _ _ _ (adv_lt hh) ha a1
      have w1 := w.se q1.1
      have e2 := pSign_X a2
      have hh2 : z2.1 < T.length := by rw [e2.2]; exact adv_lt d1.1.2.2.2
      rw [e2.1] at a3
      have q3 := hrc hd _ _ _ hh2 w1 d1.2 a3
      have d3 := hD _ _ _ hh2 d1.2 a3
      have w3 := w1.se q3.1
      have e4 := pSign_X a4
      have hh4 : z4.1 < T.length := by rw [e4.2]; exact adv_lt d3.1.2.2.2
      rw [e4.1] at a5
      have q5 := hrc hd _ _ _ hh4 w3 d3.2 a5
      rw [(pSign_X e).1]
      have t1 := XE.trans (x := x + 1) q1 q3 (by omega) (by omega)
      exact ⟨XE.trans (x := x + 2) t1 q5 (by omega) (by omega), hd⟩
    · unfold fl at e; cases e
  · unfold fl at e; cases e
theorem pPart_X {n : Nat} {T : List Tok} {rc : Nat → Gr → RS} {x d h : Nat} {G : Gr} {y : Nat × Gr} (hT : TT n T) (hD : DR T rc) (hrc : d < 6 → DX T rc x) (hh : h < T.length) (w : WX G) (ha : G.pa ≤ 24) (e : pPart T rc d h G = .inr y) : XE 1 (if d < 6 then x + 2 else 1) G y.2 := by
  unfold pPart at e
  split at e
  · obtain ⟨q, hd⟩ := pBr1_X hrc hh w ha e
    rw [if_pos hd]
    exact q.le (by omega)
  · split at e
    · obtain ⟨z, a, b⟩ := bnd_r e
      injection b with b
      subst b
      obtain ⟨q, hd⟩ := pBr3_X hD hrc (adv_lt hh) w ha a
      rw [if_pos hd]
      exact XE_code q (by omega) (Or.inr (Or.inr (Or.inr (Or.inl rfl)))) (fun t ht => by unfold hst; rw [if_neg (by omega), if_pos rfl, if_pos (by omega)]; exact congrArg some (by omega)) (by omega)
    · exact (pLeaf_X hT hh w e).le (by split <;> omega)
theorem pEL_X {n : Nat} {T : List Tok} {rc : Nat → Gr → RS} {x d : Nat} {G : Gr} (hT : TT n T) (hE : TE T) (hD : DR T rc) (hrc : d < 6 → DX T rc x) : ∀ (m : Nat) (r : RS) (y : Nat × Gr), (∀ z, r = .inr z → XE 1 ((if d < 6 then x + 2 else 1) + 1) G z.2 ∧ WX z.2 ∧ z.1 < T.length ∧ z.2.pa ≤ 24) → pEL T rc d m r = .inr y → XE 1 ((if d < 6 then x + 2 else 1) + 1) G y.2
  | 0, r, y, hr, e => (hr y e).1
  | m + 1, .inl e0, y, hr, e => by rw [pEL_l] at e; cases e
  | m + 1, .inr (h1, G1), y, hr, e => by
    obtain ⟨q, w, hh, ha⟩ := hr _ rfl
    have e' : (match opAt T h1 with
      | none => .inr (h1, G1)
      | some v => pEL T rc d m (bnd (pPart T rc d (adv T h1) G1) fun h' G' => .inr (h', gCod G' (30000 + v)))) = (Sum.inr y : RS) := e
    split at e'
    · injection e' with e'; subst e'; exact q
    · rename_i v ev
      refine pEL_X hT hE hD hrc m _ y (fun z hz => ?_) e'
      obtain ⟨z1, a, b⟩ := bnd_r hz
      injection b with b
      subst b
      have qp := pPart_X hT hD hrc (adv_lt hh) w ha a
      have qd := pPart_D hE hD (adv_lt hh) ha a
      have t := XE.trans (x := (if d < 6 then x + 2 else 1) + 1) q qp (Nat.le_refl _) (by omega)
      have hv := (opAt_k ev).2
      refine ⟨XE_code t (by omega) (Or.inr (Or.inr (Or.inl ⟨by omega, by omega⟩))) (fun s hs => by unfold hst; rw [if_neg (by omega), if_neg (by omega), if_pos (by omega)]; exact congrArg some (by omega)) (Nat.le_refl _), (w.se qp.1).se (gCod_S _ _), qd.1.2.2.2, qd.2⟩
def xB (d : Nat) : Nat := 20 - 3 * d
theorem pE_X {n : Nat} {T : List Tok} (hT : TT n T) (hE : TE T) : ∀ (fu d : Nat), fu + d = 8 → d ≤ 6 → DX T (pE T fu d) (xB d)
  | 0, d, e, hd => by omega
  | fu + 1, d, e, hd => fun h G y hh w ha ey => by
    have hrc : d < 6 → DX T (pE T fu (d + 1)) (xB (d + 1)) := fun hd6 => pE_X hT hE fu (d + 1) (by omega) (by omega)
    have hD := pE_D hE fu (d + 1)
    have r := pEL_X (G := G) hT hE hD hrc 1000 _ y (fun z hz => by
      have qp := pPart_X hT hD hrc hh w ha hz
      have qd := pPart_D hE hD hh ha hz
      exact ⟨qp.le (by omega), w.se qp.1, qd.1.2.2.2, qd.2⟩) ey
    refine r.le ?_
    unfold xB
    split <;> omega
