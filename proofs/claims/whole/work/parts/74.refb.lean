-- the reference: a production's line
theorem cnt_zero {f : Nat → Bool} {n : Nat} : ∀ m, (∀ i, n ≤ i → i < n + m → f i = false) → cnt f (n + m) = cnt f n
  | 0, _ => rfl
  | m + 1, h => by
    show cnt f (n + m + 1) = _
    rw [cnt, cnt_zero m fun i a b => h i a (by omega), h (n + m) (by omega) (by omega)]; rfl
theorem gPro_k (G : Gr) (w k j : Nat) (h0 : ¬ (k = 0 ∧ j = 1)) (h1 : ¬ j = G.i 0 1 ∨ ¬ (k = 6 ∨ k = 8 ∨ k = 9 ∨ k = 10 ∨ k = 11)) : (gPro G w).i k j = G.i k j := by
  rw [gPro_i, if_neg h0, if_neg]; intro q; rcases h1 with h1 | h1; exact h1 q.2; exact h1 q.1
theorem RG_pro {G : Gr} {w sy e : Nat} {M : Mm} (h : RG 140 142 G sy (G.i 0 1) e M) (h0 : W0 G) (hs : G.i 0 1 < 12) : RG 140 142 (gPro G w) sy (G.i 0 1) e (upJ M 142 (8 + G.i 0 1) (lN (conv 8 w))) := by
  obtain ⟨⟨a1, a2, a3, a4⟩, b, c, d, f⟩ := h
  have n8 := h0.1
  have hnp : (gPro G w).i 0 1 = G.i 0 1 + 1 := by rw [gPro_i, if_pos ⟨rfl, rfl⟩]
  have ht : ∀ i, i < 32 * G.i 0 1 → tdB (gPro G w) i = tdB G i := fun i hi => by unfold tdB; rw [gPro_k _ _ _ _ (by omega) (Or.inl (by omega))]
  have hto : tolds (gPro G w) e = tolds G e := by
    unfold tolds
    rw [hnp, show 32 * (G.i 0 1 + 1) = 32 * G.i 0 1 + 32 by omega, cnt_zero 32 (fun i q1 q2 => ?_), cnt_congr fun i hi => by rw [ht i hi]]
    have : tdB (gPro G w) i = false := by
      unfold tdB; rw [show i / 32 = G.i 0 1 by omega, gPro_i, if_neg (by omega), if_pos (by omega)]; exact Nat.zero_testBit _
    rw [this, Bool.and_false]
  have lw : ∀ j, ¬ j = 8 + G.i 0 1 → (upJ M 142 (8 + G.i 0 1) (lN (conv 8 w))).2.1 142 j = M.2.1 142 j := fun j q => by rw [upJ_j, if_neg q]
  refine ⟨⟨a1, a2, by rw [hto]; exact a3, by rw [gPro_k _ _ _ _ (by omega) (Or.inr (by omega))]; exact a4⟩, fun t ht2 => ?_, fun p hp => ?_, fun i hi => ?_, fun c2 hc2 => ?_⟩
  · rw [gPro_k _ _ _ _ (by omega) (Or.inr (by omega))] at ht2
    obtain ⟨e1, e2, e3, e4⟩ := b t ht2
    have hbt := h0.2.2.2.1 t ht2
    rw [gPro_k _ _ _ _ (by omega) (Or.inr (by omega)), gPro_k _ _ _ _ (by omega) (Or.inr (by omega)), gPro_l, if_neg (by omega)]
    refine ⟨e1, e2, by rw [lw _ (by omega)]; exact e3, fun j hj => ?_⟩
    rw [lw _ (by omega), gPro_l, if_neg (by omega)]; exact e4 j hj
  · rw [hnp] at hp
    by_cases q : p = G.i 0 1
    · subst q
      refine ⟨by rw [upJ_j, if_pos rfl, gPro_l, if_pos ⟨rfl, rfl⟩], fun hd => ?_⟩
      rw [gPro_i, if_neg (by omega), if_pos (by omega)] at hd; omega
    · obtain ⟨e1, e2⟩ := c p (by omega)
      refine ⟨by rw [lw _ (by omega), gPro_l, if_neg (by omega)]; exact e1, fun hd => ?_⟩
      rw [gPro_k _ _ _ _ (by omega) (Or.inl q)] at hd ⊢
      obtain ⟨g1, g2, g3⟩ := e2 hd
      refine ⟨by rw [gPro_k _ _ _ _ (by omega) (Or.inr (by omega))]; exact g1, g2, fun k hk => ?_⟩
      rw [gPro_k _ _ _ _ (by omega) (Or.inr (by omega))]; exact g3 k hk
  · obtain ⟨e1, e2, e3⟩ := d i hi
    rw [ht i hi, gPro_k _ _ _ _ (by omega) (Or.inr (by omega)), gPro_k _ _ _ _ (by omega) (Or.inr (by omega)), gPro_k _ _ _ _ (by omega) (Or.inr (by omega))]
    exact ⟨e1, e2, e3⟩
  · rw [gPro_k _ _ _ _ (by omega) (Or.inr (by omega))] at hc2
    rw [gPro_k _ _ _ _ (by omega) (Or.inr (by omega))]; exact f c2 hc2
theorem RG_sid {G : Gr} {s p sy pr e : Nat} {M M' : Mm} (h : RG 140 142 G sy pr e M) (h0 : W0 G) (hp : p < G.i 0 1) (hpr : pr ≤ 12) (hd : G.i 6 p < 4)
    (lo : ∀ j, ¬ j = 32 + p → ¬ j = (if G.i 6 p = 0 then 20 + p else 44 + 3 * p + (G.i 6 p - 1)) → M'.1 140 j = M.1 140 j) (lw : M'.2.1 142 = M.2.1 142)
    (l1 : M'.1 140 (32 + p) = nI (G.i 6 p)) (l2 : M'.1 140 (if G.i 6 p = 0 then 20 + p else 44 + 3 * p + (G.i 6 p - 1)) = nI s) : RG 140 142 (gSid G p s) sy pr e M' := by
  obtain ⟨⟨a1, a2, a3, a4⟩, b, c, d, f⟩ := h
  have n8 := h0.1
  have n12 := h0.2.1
  have hk : ∀ k j, ¬ k = 6 → ¬ k = 7 → ¬ k = 8 → ¬ k = 9 → (gSid G p s).i k j = G.i k j := fun k j q1 q2 q3 q4 => gSid_0 _ _ _ _ _ q1 q2 q3 q4
  have ht : ∀ i, tdB (gSid G p s) i = tdB G i := fun i => by unfold tdB; rw [hk _ _ (by omega) (by omega) (by omega) (by omega)]
  have hto : tolds (gSid G p s) e = tolds G e := by unfold tolds; rw [hk _ _ (by omega) (by omega) (by omega) (by omega)]; simp only [ht]
  have hx : 20 ≤ (if G.i 6 p = 0 then 20 + p else 44 + 3 * p + (G.i 6 p - 1)) ∧ (if G.i 6 p = 0 then 20 + p else 44 + 3 * p + (G.i 6 p - 1)) < 80 := by split <;> omega
  refine ⟨⟨by rw [lo 0 (by omega) (by omega)]; exact a1, by rw [lo 1 (by omega) (by omega)]; exact a2, by rw [lo 2 (by omega) (by omega), hto]; exact a3, by rw [lo 3 (by omega) (by omega), hk _ _ (by omega) (by omega) (by omega) (by omega)]; exact a4⟩, fun t ht2 => ?_, fun q hq => ?_, fun i hi => ?_, fun c2 hc2 => ?_⟩
  · rw [hk _ _ (by omega) (by omega) (by omega) (by omega)] at ht2
    rw [hk _ _ (by omega) (by omega) (by omega) (by omega), hk _ _ (by omega) (by omega) (by omega) (by omega), gSid_l, lo _ (by omega) (by omega), lo _ (by omega) (by omega), lw]
    exact b t ht2
  · rw [hk _ _ (by omega) (by omega) (by omega) (by omega)] at hq
    obtain ⟨e1, e2⟩ := c q hq
    rw [lw, gSid_l, gSid_6]
    refine ⟨e1, ?_⟩
    by_cases eq : q = p
    · subst eq
      rw [if_pos rfl]
      intro _
      refine ⟨?_, by rw [l1, Nat.add_sub_cancel], fun k hk2 => ?_⟩
      · rw [gSid_7]
        by_cases z : G.i 6 q = 0
        · rw [if_pos z] at l2
          rw [if_pos (by omega)]; exact l2
        · rw [if_neg (by omega), lo _ (by omega) (by rw [if_neg z]; omega)]; exact (e2 (by omega)).1
      · rw [gSid_7]
        by_cases z : k + 1 = G.i 6 q
        · rw [if_neg (by omega)] at l2
          rw [if_pos (by omega), show 44 + 3 * q + k = 44 + 3 * q + (G.i 6 q - 1) by omega]; exact l2
        · rw [if_neg (by omega), lo _ (by omega) (by split <;> omega)]; exact (e2 (by omega)).2.2 k (by omega)
    · rw [if_neg eq]
      intro hd2
      have hsq := (h0.2.2.2.2 q hq).2.1
      obtain ⟨g1, g2, g3⟩ := e2 hd2
      refine ⟨?_, ?_, fun k hk2 => ?_⟩
      · rw [gSid_7, if_neg (by omega), lo _ (by omega) (by split <;> omega)]; exact g1
      · rw [lo _ (by omega) (by split <;> omega)]; exact g2
      · rw [gSid_7, if_neg (by omega), lo _ (by omega) (by split <;> omega)]; exact g3 k hk2
  · rw [ht, hk _ _ (by omega) (by omega) (by omega) (by omega), hk _ _ (by omega) (by omega) (by omega) (by omega), hk _ _ (by omega) (by omega) (by omega) (by omega), lo _ (by omega) (by omega), lo _ (by omega) (by omega), lo _ (by omega) (by omega), lo _ (by omega) (by omega)]
    exact d i hi
  · rw [hk _ _ (by omega) (by omega) (by omega) (by omega)] at hc2
    rw [hk _ _ (by omega) (by omega) (by omega) (by omega), lo _ (by omega) (by omega), lo _ (by omega) (by omega)]
    exact f c2 hc2
/-- in a production's line the reference counts it at the end -/
def QP (B : Nat → Nat) (n : Nat) (T : List Tok) (h : Nat) (G : Gr) (M : Mm) : Prop := RK B n T h G (G.i 0 0) (G.i 0 1 - 1) 1000 M ∧ W0 G ∧ 0 < G.i 0 1 ∧ ZR G (G.i 0 1 - 1) ∧ G.i 10 (G.i 0 1 - 1) = 0 ∧ W4 G ∧ GI G
theorem gSid_QP {B : Nat → Nat} {n h : Nat} {T : List Tok} {G : Gr} {M M' : Mm} {s h' : Nat} (q : QP B n T h G M) (hs : s < G.i 0 0) (hd : G.i 6 (G.i 0 1 - 1) < 4) (K : RK B n T h' (gSid G (G.i 0 1 - 1) s) (G.i 0 0) (G.i 0 1 - 1) 1000 M') : QP B n T h' (gSid G (G.i 0 1 - 1) s) M' := by
  obtain ⟨_, h0, h1, hz, ht, h4, hgi⟩ := q
  have hk : ∀ k j, ¬ k = 6 → ¬ k = 7 → ¬ k = 8 → ¬ k = 9 → (gSid G (G.i 0 1 - 1) s).i k j = G.i k j := fun k j q1 q2 q3 q4 => gSid_0 _ _ _ _ _ q1 q2 q3 q4
  unfold QP
  rw [hk 0 0 (by omega) (by omega) (by omega) (by omega), hk 0 1 (by omega) (by omega) (by omega) (by omega), hk 10 _ (by omega) (by omega) (by omega) (by omega)]
  refine ⟨K, gSid_W h0 (by omega) hs hd, h1, hz.eq (fun j => hk _ _ (by omega) (by omega) (by omega) (by omega)) (fun j => hk _ _ (by omega) (by omega) (by omega) (by omega)) (fun j => hk _ _ (by omega) (by omega) (by omega) (by omega)) (fun j => hk _ _ (by omega) (by omega) (by omega) (by omega)) (fun i _ => by unfold tdB; rw [hk _ _ (by omega) (by omega) (by omega) (by omega)]), ht, W4_sid h0 h4 (by omega) hs hd, GI_sid hgi ht⟩
/-- the name of a symbol told -/
theorem r_findSym {B : Nat → Nat} {n h sy pr e : Nat} {T : List Tok} {G : Gr} {M : Mm} (N : Nat) (hN : 2000 < N) (K : RK B n T h G sy pr e M) (h0 : W0 G) (e1 : isNm (tk T h) = true) : D_X12_findIn N 142 (nI 0) (nI (G.i 0 0)) (M.2.1 137 18) M = some (fR (fi (G.l 1) (tk T h).2.2.2 (G.i 0 0)) (G.i 0 0)) := by
  have n8 := h0.1
  rw [(K.1.wd (isNm_k e1)).1, r_findIn (f := G.l 1) N hN len142 (by omega) (fun j hj => ⟨by rw [Nat.zero_add]; exact (K.2.1.2.1 j hj).2.2.1, (h0.2.2.2.1 j hj).2.2.1⟩) (nm_ok K.1.t.1 K.1.h e1)]
theorem r_findPro {B : Nat → Nat} {n h sy pr e : Nat} {T : List Tok} {G : Gr} {M : Mm} (N : Nat) (hN : 2000 < N) (K : RK B n T h G sy pr e M) (h0 : W0 G) (e1 : isNm (tk T h) = true) : D_X12_findIn N 142 (nI 8) (nI (G.i 0 1)) (M.2.1 137 18) M = some (fR (fi (G.l 3) (tk T h).2.2.2 (G.i 0 1)) (G.i 0 1)) := by
  have n12 := h0.2.1
  rw [(K.1.wd (isNm_k e1)).1, r_findIn (f := G.l 3) N hN len142 (by omega) (fun j hj => ⟨(K.2.1.2.2.1 j hj).1, (h0.2.2.2.2 j hj).1⟩) (nm_ok K.1.t.1 K.1.h e1)]
/-- the further sides -/
theorem loop_v_sides {B : Nat → Nat} {n p : Nat} {T : List Tok} {Q' : Nat → Gr → Mm → Prop} {kE : Mm → Option (Int32 × Mm)} (N : Nat) (hN : 2000 < N) : ∀ (k m h : Nat) (G : Gr) (M : Mm), QP B n T h G M → p = G.i 0 1 - 1 → 1 ≤ G.i 6 p → 9 ≤ m + G.i 6 p → 6 ≤ k + G.i 6 p → (∀ h' G' M', QP B n T h' G' M' → p = G'.i 0 1 - 1 → 1 ≤ G'.i 6 p → RV Q' M' (.inr (h', G')) (kE M')) →
    RV Q' M (pSidesL T m (.inr (h, G))) (L_X12_readProduction_156 kE N 137 (nI p) k M)
  | 0, m, h, G, M, q, hp, hd, hm, hk, hE => by
    have := (q.2.1.2.2.2.2 p (by have := q.2.2.1; omega)).2.1
    omega
  | k + 1, m, h, G, M, q, hp, hd, hm, hk, hE => by
    have q' := q
    obtain ⟨K, h0, h1, hz, ht, h4, hgi⟩ := q
    have n8 := h0.1
    have n12 := h0.2.1
    have hpn : p < G.i 0 1 := by omega
    have hdp := (h0.2.2.2.2 p hpn).2.1
    obtain ⟨m', rfl⟩ : ∃ m', m = m' + 1 := ⟨m - 1, by omega⟩
    rw [L_X12_readProduction_156, r_isName N hN K.1, Option.bind_some, pSidesL_r]
    cases e1 : isNm (tk T h)
    · rw [bI_f, if_pos rfl, if_neg (by decide)]
      exact hE h G M q' hp hd
    · rw [bI_t, if_neg z10, if_pos rfl, show (137 : Nat) + 3 = 140 from rfl, show (137 : Nat) + 5 = 142 from rfl, ldI_n (by omega) (by omega), K.2.1.1.1, Option.bind_some, r_findSym N hN K h0 e1, Option.bind_some]
      unfold pSide
      rw [if_pos e1, ← hp]
      simp only [fR_m1 (show G.i 0 0 < 2 ^ 31 by omega)]
      by_cases e2 : fi (G.l 1) (tk T h).2.2.2 (G.i 0 0) < G.i 0 0
      · rw [if_pos e2, if_neg (not_not_intro e2), fR_n e2, nI_add, ldI_n (by omega) (by omega), ((K.2.1.2.2.1 p hpn).2 hd).2.1, Option.bind_some]
        simp only [n_eq (show G.i 6 p - 1 < 2 ^ 31 by omega) (show 3 < 2 ^ 31 by omega)]
        by_cases e3 : G.i 6 p < 4
        · rw [if_pos e3, if_neg (show ¬ G.i 6 p - 1 = 3 by omega), Option.bind_some, pk_mul, nI_add, nI_add, stI_n (by omega) (by omega), Option.bind_some, ldI_n (by omega) (by omega), upI_j, if_neg (by omega), ((K.2.1.2.2.1 p hpn).2 hd).2.1, Option.bind_some, nI_add, stI_n (by omega) (by omega), Option.bind_some, show G.i 6 p - 1 + 1 = G.i 6 p by omega]
          have f1 : FX (fun a _ => a = 140 ∨ a = 142) M (upI (upI M 140 (44 + 3 * p + (G.i 6 p - 1)) (nI (fi (G.l 1) (tk T h).2.2.2 (G.i 0 0)))) 140 (32 + p) (nI (G.i 6 p))) := (FX.I (Or.inl rfl)).trans (FX.I (Or.inl rfl))
          have hG := RG_sid (s := fi (G.l 1) (tk T h).2.2.2 (G.i 0 0)) (M' := upI (upI M 140 (44 + 3 * p + (G.i 6 p - 1)) (nI (fi (G.l 1) (tk T h).2.2.2 (G.i 0 0)))) 140 (32 + p) (nI (G.i 6 p))) K.2.1 h0 hpn (by omega) e3 (fun j j1 j2 => by rw [if_neg (by omega)] at j2; rw [upI_j, if_neg j1, upI_j, if_neg j2]) rfl (by rw [upI_j, if_pos rfl]) (by rw [if_neg (by omega), upI_j, if_neg (by omega), upI_j, if_pos rfl])
          have K1 := K.set f1 hG
          obtain ⟨M2, g1, K2, g2, _⟩ := K1.go N hN
          rw [g1, Option.bind_some]
          refine RV.pre (f1.r.trans g2) ?_
          have Q2 : QP B n T (adv T h) (gSid G p (fi (G.l 1) (tk T h).2.2.2 (G.i 0 0))) M2 := by
            subst hp; exact gSid_QP q' e2 e3 K2
          have es : (gSid G p (fi (G.l 1) (tk T h).2.2.2 (G.i 0 0))).i 6 p = G.i 6 p + 1 := by rw [gSid_6, if_pos rfl]
          exact loop_v_sides N hN k m' _ _ _ Q2 (by rw [gSid_0 _ _ _ _ _ (by omega) (by omega) (by omega) (by omega)]; exact hp) (by rw [es]; omega) (by rw [es]; omega) (by rw [es]; omega) hE
        · rw [if_neg e3, if_pos (show G.i 6 p - 1 = 3 by omega)]
          rw [show fl T h 6 = Sum.inl (if (tk T h).1 = 4 then 1 else 6, (tk T h).2.1) from rfl, pSidesL_l]
          exact v_bad N K.1
      · rw [if_neg e2, if_pos e2]
        rw [show fl T h 3 = Sum.inl (if (tk T h).1 = 4 then 1 else 3, (tk T h).2.1) from rfl, pSidesL_l]
        exact v_bad N K.1
