-- the reference: a symbol's line
theorem RG_att {G : Gr} {s w sy pr e : Nat} {inn : Bool} {M : Mm} (h : RG 140 142 G sy pr e M) (h0 : W0 G) (hs : s < G.i 0 0) (hc4 : (if inn = true then G.i 4 s else G.i 5 s) < 4) : RG 140 142 (gAtt G s w inn) sy pr e (upI (upJ M 142 (20 + 8 * s + (G.i 4 s + G.i 5 s)) (lN (conv 8 w))) 140 ((if inn = true then 4 else 12) + s) (nI ((if inn = true then G.i 4 s else G.i 5 s) + 1))) := by
  obtain ⟨⟨a1, a2, a3, a4⟩, b, c, d, f⟩ := h
  have n8 := h0.1
  have n12 := h0.2.1
  have hb := (h0.2.2.2.1 s hs)
  have ht : ∀ i, tdB (gAtt G s w inn) i = tdB G i := fun i => by unfold tdB; rw [gAtt_ik _ _ _ _ _ _ (by omega) (by omega)]
  have hto : tolds (gAtt G s w inn) e = tolds G e := by
    unfold tolds; rw [gAtt_i0]; simp only [ht]
  have hk : 4 ≤ (if inn = true then 4 else 12 : Nat) ∧ (if inn = true then 4 else 12 : Nat) ≤ 12 := by split <;> omega
  have lo : ∀ j, j < 4 ∨ 20 ≤ j → (upI (upJ M 142 (20 + 8 * s + (G.i 4 s + G.i 5 s)) (lN (conv 8 w))) 140 ((if inn = true then 4 else 12) + s) (nI ((if inn = true then G.i 4 s else G.i 5 s) + 1))).1 140 j = M.1 140 j := fun j hj => by
    rw [upI_j, if_neg (by omega), upJ1]
  refine ⟨⟨?_, ?_, ?_, ?_⟩, fun t ht2 => ?_, fun p hp => ?_, fun i hi => ?_, fun c2 hc2 => ?_⟩
  · rw [lo 0 (by omega)]; exact a1
  · rw [lo 1 (by omega)]; exact a2
  · rw [lo 2 (by omega), hto]; exact a3
  · rw [lo 3 (by omega), gAtt_i0]; exact a4
  · rw [gAtt_i0] at ht2
    obtain ⟨e1, e2, e3, e4⟩ := b t ht2
    have hbt := h0.2.2.2.1 t ht2
    refine ⟨?_, ?_, ?_, fun j hj => ?_⟩
    · rw [upI_j, gAtt_4, upJ1]
      cases inn
      · simp only [Bool.false_eq_true, if_false, false_and]
        rw [if_neg (by omega)]; exact e1
      · simp only [if_true, true_and]
        by_cases q : t = s
        · rw [if_pos (by omega), if_pos q]
        · rw [if_neg (by omega), if_neg q]; exact e1
    · rw [upI_j, gAtt_5, upJ1]
      cases inn
      · simp only [Bool.false_eq_true, if_false, true_and]
        by_cases q : t = s
        · rw [if_pos (by omega), if_pos q]
        · rw [if_neg (by omega), if_neg q]; exact e2
      · simp only [if_true, Bool.true_eq_false, false_and, if_false]
        rw [if_neg (by omega)]; exact e2
    · rw [up2, upJ_j, if_neg (by omega), gAtt_l, if_neg (by omega)]; exact e3
    · rw [up2, upJ_j, gAtt_l]
      simp only [true_and]
      have hj' : j < G.i 4 t + G.i 5 t ∨ t = s ∧ j = G.i 4 s + G.i 5 s := by
        rw [gAtt_4, gAtt_5] at hj
        by_cases q : t = s
        · subst q
          cases inn
          · simp only [Bool.false_eq_true, false_and, if_false, true_and, if_true] at hj; omega
          · simp only [Bool.true_eq_false, false_and, if_false, true_and, if_true] at hj; omega
        · simp only [q, and_false, if_false] at hj; exact Or.inl hj
      rcases hj' with hj' | ⟨q1, q2⟩
      · have hne : ¬ 8 * t + j = 8 * s + G.i 4 s + G.i 5 s := by
          by_cases q : t = s
          · subst q; omega
          · have h8 : G.i 4 s + G.i 5 s < 8 := by
              have := hb.1; have := hb.2.1
              cases inn
              · rw [if_neg (by decide)] at hc4; omega
              · rw [if_pos rfl] at hc4; omega
            omega
        rw [if_neg (by omega), if_neg hne]; exact e4 j hj'
      · subst q1
        rw [if_pos (by omega), if_pos (by omega)]
  · rw [gAtt_i0] at hp
    obtain ⟨e1, e2⟩ := c p hp
    refine ⟨?_, fun hd => ?_⟩
    · rw [up2, upJ_j, if_neg (by omega), gAtt_l, if_neg (by omega)]; exact e1
    · have hkk : ∀ k j, ¬ k = 4 → ¬ k = 5 → (gAtt G s w inn).i k j = G.i k j := fun k j q1 q2 => gAtt_ik _ _ _ _ _ _ q1 q2
      rw [hkk 6 p (by omega) (by omega)] at hd ⊢
      obtain ⟨g1, g2, g3⟩ := e2 hd
      refine ⟨?_, ?_, fun k hk2 => ?_⟩
      · rw [lo _ (by omega), hkk 7 _ (by omega) (by omega)]; exact g1
      · rw [lo _ (by omega)]; exact g2
      · rw [lo _ (by omega), hkk 7 _ (by omega) (by omega)]; exact g3 k hk2
  · obtain ⟨e1, e2, e3⟩ := d i hi
    rw [ht]
    refine ⟨?_, ?_, fun q => ⟨?_, ?_⟩⟩
    · rw [lo _ (by omega), gAtt_ik _ _ _ _ _ _ (by omega) (by omega)]; exact e1
    · rw [lo _ (by omega), gAtt_ik _ _ _ _ _ _ (by omega) (by omega)]; exact e2
    · rw [lo _ (by omega), gAtt_ik _ _ _ _ _ _ (by omega) (by omega)]; exact (e3 q).1
    · rw [lo _ (by omega)]; exact (e3 q).2
  · rw [gAtt_i0] at hc2
    rw [lo _ (by omega), lo _ (by omega), gAtt_ik _ _ _ _ _ _ (by omega) (by omega)]; exact f c2 hc2
theorem RK.set {B : Nat → Nat} {n h sy pr e sy' pr' e' : Nat} {T : List Tok} {G G' : Gr} {M M' : Mm} (K : RK B n T h G sy pr e M) (f : FX (fun a _ => a = 140 ∨ a = 142) M M') (hG : RG 140 142 G' sy' pr' e' M') : RK B n T h G' sy' pr' e' M' :=
  ⟨K.1.fx f (fun j q => by omega) (fun j _ q => by omega), hG, (f.2 137 16 (by omega)).1.trans K.2.2.1, (f.2 137 17 (by omega)).1.trans K.2.2.2⟩
theorem FX.r {M M' : Mm} (f : FX (fun a _ => a = 140 ∨ a = 142) M M') : FX PR M M' := f.mono fun a j q => Or.inr q
-- in a symbol's line the reference counts the symbol at the end
def ZR (G : Gr) (q : Nat) : Prop := ∀ i, (32 * q ≤ i ∨ tdB G i = false) → i < 384 → G.i 14 i = 0 ∧ G.i 15 i = 0 ∧ G.i 12 i = 0 ∧ (32 * q ≤ i → G.i 13 i = 0)
theorem ZR.eq {G G' : Gr} {q : Nat} (h : ZR G q) (h14 : ∀ j, G'.i 14 j = G.i 14 j) (h15 : ∀ j, G'.i 15 j = G.i 15 j) (h12 : ∀ j, G'.i 12 j = G.i 12 j) (h13 : ∀ j, G'.i 13 j = G.i 13 j) (ht : ∀ i, i < 32 * q → tdB G' i = tdB G i) : ZR G' q := fun i a b => by
  rw [h14, h15, h12, h13]
  by_cases c : 32 * q ≤ i
  · exact h i (Or.inl c) b
  · rw [ht i (by omega)] at a; exact h i a b
def QS (B : Nat → Nat) (n : Nat) (T : List Tok) (h : Nat) (G : Gr) (M : Mm) : Prop := RK B n T h G (G.i 0 0 - 1) (G.i 0 1) 1000 M ∧ W0 G ∧ 0 < G.i 0 0 ∧ ZR G (G.i 0 1) ∧ W5 G ∧ GI G
theorem v_readAttributes {B : Nat → Nat} {n : Nat} {T : List Tok} (N : Nat) (hN : 2000 < N) (inn : Bool) : ∀ (k m h : Nat) (G : Gr) (M : Mm), QS B n T h G M → 8 ≤ m + (if inn = true then G.i 4 (G.i 0 0 - 1) else G.i 5 (G.i 0 0 - 1)) → 6 ≤ k + (if inn = true then G.i 4 (G.i 0 0 - 1) else G.i 5 (G.i 0 0 - 1)) →
    RV (fun h' G' M' => QS B n T h' G' M' ∧ G'.i 0 0 = G.i 0 0) M (pAttrsL inn T m (pAttr inn T h G)) (L_X12_readAttributes_0 N 137 (nI (G.i 0 0 - 1)) (nI (if inn = true then 4 else 12)) k M)
  | 0, m, h, G, M, q, hm, hk => by
    have := (q.2.1.2.2.2.1 (G.i 0 0 - 1) (by have := q.2.2.1; omega))
    split at hk <;> omega
  | k + 1, m, h, G, M, q, hm, hk => by
    obtain ⟨K, h0, h1, hz, h5, hgi⟩ := q
    have n8 := h0.1
    generalize hs : G.i 0 0 - 1 = s at *
    have hsl : s < G.i 0 0 := by omega
    have hb := h0.2.2.2.1 s hsl
    obtain ⟨b1, b2, b3, b4⟩ := K.2.1.2.1 s hsl
    rw [L_X12_readAttributes_0, r_isName N hN K.1, Option.bind_some]
    unfold pAttr
    rw [hs]
    cases e1 : isNm (tk T h)
    · rw [bI_f, if_pos rfl, if_neg (by decide)]
      show RV _ M (pAttrsL inn T m (fl T h 2)) _
      rw [show fl T h 2 = Sum.inl (if (tk T h).1 = 4 then 1 else 2, (tk T h).2.1) from rfl, pAttrsL_l]
      exact v_bad N K.1
    · have hw := nm_ok K.1.t.1 K.1.h e1
      have h18 := (K.1.wd (isNm_k e1)).1
      rw [bI_t, if_neg z10, if_pos rfl, show (137 : Nat) + 3 = 140 from rfl, show (137 : Nat) + 5 = 142 from rfl, r_attributesIn N len140 (by omega) b1 b2, Option.bind_some, h18, pk_mul, nI_add, r_findIn (f := fun j => G.l 2 (8 * s + j)) N hN len142 (by omega) (fun j hj => ⟨b4 j hj, hb.2.2.2 j hj⟩) hw, Option.bind_some]
      simp only [fR_m1 (show G.i 4 s + G.i 5 s < 2 ^ 31 by omega)]
      by_cases e2 : fi (fun a => G.l 2 (8 * s + a)) (tk T h).2.2.2 (G.i 4 s + G.i 5 s) < G.i 4 s + G.i 5 s
      · rw [if_pos e2, if_neg (not_not_intro e2)]
        rw [show fl T h 4 = Sum.inl (if (tk T h).1 = 4 then 1 else 4, (tk T h).2.1) from rfl, pAttrsL_l]
        exact v_bad N K.1
      · rw [if_neg e2, if_pos e2]
        have hkk : (if inn = true then 4 else 12 : Nat) ≤ 12 := by split <;> omega
        have hv : M.1 140 ((if inn = true then 4 else 12) + s) = nI (if inn = true then G.i 4 s else G.i 5 s) := by cases inn; exact b2; exact b1
        have hv4 : (if inn = true then G.i 4 s else G.i 5 s) ≤ 4 := by split <;> omega
        rw [nI_add, ldI_n (by omega) (by omega), hv, Option.bind_some]
        simp only [n_eq (show (if inn = true then G.i 4 s else G.i 5 s) < 2 ^ 31 by omega) (show 4 < 2 ^ 31 by omega)]
        by_cases e3 : (if inn = true then G.i 4 s else G.i 5 s) < 4
        · have h8 : G.i 4 s + G.i 5 s < 8 := by
            have := hb.1; have := hb.2.1
            cases inn
            · rw [if_neg (by decide)] at e3; omega
            · rw [if_pos rfl] at e3; omega
          rw [if_pos e3, if_neg (by omega), Option.bind_some, nI_add, stJ_n (by omega) (by omega), Option.bind_some, ldI_n (by omega) (by omega), upJ1, hv, Option.bind_some, nI_add, stI_n (by omega) (by omega), Option.bind_some]
          have hG := RG_att (w := (tk T h).2.2.2) (inn := inn) K.2.1 h0 hsl e3
          have f1 : FX (fun a _ => a = 140 ∨ a = 142) M (upI (upJ M 142 (20 + 8 * s + (G.i 4 s + G.i 5 s)) (lN (conv 8 (tk T h).2.2.2))) 140 ((if inn = true then 4 else 12) + s) (nI ((if inn = true then G.i 4 s else G.i 5 s) + 1))) := (FX.J (Or.inr rfl)).trans (FX.I (Or.inl rfl))
          have K1 := K.set f1 hG
          obtain ⟨M2, g1, K2, g2, _⟩ := K1.go N hN
          rw [g1, Option.bind_some, r_isName N hN K2.1, Option.bind_some]
          have hW := gAtt_W (w := (tk T h).2.2.2) (inn := inn) h0 hsl hw e3
          have ens : (gAtt G s (tk T h).2.2.2 inn).i 0 0 = G.i 0 0 := gAtt_i0 ..
          have enp : (gAtt G s (tk T h).2.2.2 inn).i 0 1 = G.i 0 1 := gAtt_i0 ..
          have Q2 : QS B n T (adv T h) (gAtt G s (tk T h).2.2.2 inn) M2 := ⟨by rw [ens, enp, hs]; exact K2, hW, by rw [ens]; exact h1, by
            rw [enp]; exact hz.eq (fun j => gAtt_ik _ _ _ _ _ _ (by omega) (by omega)) (fun j => gAtt_ik _ _ _ _ _ _ (by omega) (by omega)) (fun j => gAtt_ik _ _ _ _ _ _ (by omega) (by omega)) (fun j => gAtt_ik _ _ _ _ _ _ (by omega) (by omega)) (fun i _ => by unfold tdB; rw [gAtt_ik _ _ _ _ _ _ (by omega) (by omega)]), by
            have := W5_att (w := (tk T h).2.2.2) (inn := inn) h5; rw [hs] at this; exact this, GI_att hgi⟩
          have hcc : (if inn = true then (gAtt G s (tk T h).2.2.2 inn).i 4 s else (gAtt G s (tk T h).2.2.2 inn).i 5 s) = (if inn = true then G.i 4 s else G.i 5 s) + 1 := by
            rw [gAtt_4, gAtt_5]
            cases inn
            · simp only [Bool.false_eq_true, if_false, true_and, if_true]
            · simp only [if_true, true_and]
          obtain ⟨m', rfl⟩ : ∃ m', m = m' + 1 := ⟨m - 1, by omega⟩
          rw [pAttrsL_r]
          refine RV.pre (f1.r.trans g2) ?_
          cases e5 : isNm (tk T (adv T h))
          · rw [bI_f, if_pos rfl, if_neg (by decide), retZ_1]
            exact ⟨M2, rfl, ⟨Q2, ens⟩, FX.refl⟩
          · rw [bI_t, if_neg z10, if_pos rfl]
            have r := v_readAttributes N hN inn k m' (adv T h) (gAtt G s (tk T h).2.2.2 inn) M2 Q2 (by rw [ens, hs, hcc]; omega) (by rw [ens, hs, hcc]; omega)
            rw [ens, hs] at r
            exact r
        · rw [if_neg e3, if_pos (by omega)]
          rw [show fl T h 6 = Sum.inl (if (tk T h).1 = 4 then 1 else 6, (tk T h).2.1) from rfl, pAttrsL_l]
          exact v_bad N K.1
