-- the reference: sums
theorem loop_v_sum {B : Nat → Nat} {n d : Nat} {T : List Tok} {rcS : Nat → Gr → RS} {rc : Nat → Int32 → Int32 → Mm → Option (Int32 × Mm)} (N : Nat) (hN : 2000 < N) (hD : DR T rcS) (hrc : d < 6 → RRr B n T rcS (fun p M => rc 137 p (nI (d + 1)) M)) (hd : d ≤ 6) : ∀ (k m h : Nat) (G : Gr) (M : Mm), QE B n T h G M → EI T h G → G.pa ≤ 24 → 1 ≤ h → T.length ≤ h + m → T.length < h + k → RV (QE B n T) M (pEL T rcS d m (.inr (h, G))) (L_X12_readSum_16 N 137 rc (nI G.cp) (nI d) k (jR (opAt T h)) M)
  | 0, m, h, G, M, q, hI, ha, h1, hm, hk => by have := hI.2.2.1; omega
  | k + 1, 0, h, G, M, q, hI, ha, h1, hm, hk => by have := hI.2.2.1; omega
  | k + 1, m + 1, h, G, M, q, hI, ha, h1, hm, hk => by
    have hE := q.1.1.t.2.1
    rw [L_X12_readSum_16]
    show RV _ M (match opAt T h with
      | none => .inr (h, G)
      | some v => pEL T rcS d m (bnd (pPart T rcS d (adv T h) G) fun h' G' => .inr (h', gCod G' (30000 + v)))) _
    cases e3 : opAt T h with
    | none =>
      show RV _ M (.inr (h, G)) (if m1 = m1 then _ else _)
      rw [if_pos rfl, retZ_1]
      exact ⟨M, rfl, q, FX.refl⟩
    | some v =>
      obtain ⟨ek, hv⟩ := opAt_k e3
      have hadv := hE.adv hI.2.2.1 ek
      have hopC : opC v < 256 := by unfold opC; repeat' (first | decide | split)
      have hm1 : ¬ jR (some v) = m1 := n_ne_m1 (show opC v < 2 ^ 31 by omega)
      rw [if_neg hm1]
      obtain ⟨M1, a1, Q1, p1⟩ := q.go N hN hI
      rw [a1, Option.bind_some]
      refine RV.pre p1 ?_
      have I1 := hI.adv
      have r := v_readPart N hN hD hrc hd Q1 I1 ha (by omega)
      show RV _ M1 (pEL T rcS d m (bnd (pPart T rcS d (adv T h) G) fun h' G' => .inr (h', gCod G' (30000 + v)))) _
      cases e4 : pPart T rcS d (adv T h) G with
      | inl e =>
        rw [e4] at r; obtain ⟨M', a, b, c⟩ := r
        show RV _ M1 (pEL T rcS d m (.inl e)) _
        rw [pEL_l]
        exact ⟨M', by rw [a, Option.bind_some, if_pos rfl, retZ_0], b, c⟩
      | inr z =>
        rw [e4] at r; obtain ⟨M2, a2, Q2, p2⟩ := r
        have qD := pPart_D hE hD I1.2.2.1 ha e4
        have I2 := I1.go qD.1
        have hc : z.2.i 0 2 < 1000 := by
          have g1 := qD.1.2.1; have g2 := hI.2.1; have g3 := qD.1.2.2.2; have g4 := hI.2.2.2.1
          rw [hadv] at g1; omega
        obtain ⟨M3, a3, K3, f3⟩ := v_codes (v := 30000 + v) (x := opC v) (y := 0) N Q2.1 I2.1 I2.1.2.1 hc (by unfold cR; rw [if_neg (by omega), if_neg (by omega), if_neg (by omega), if_pos (by omega), Nat.add_sub_cancel_left])
        have Q3 : QE B n T z.1 (gCod z.2 (30000 + v)) M3 := Q2.next (gCod_S _ _) ⟨fun i _ => gCod_ak _ _ _, fun i _ => gCod_ab _ _ _⟩ K3 (by rw [f3.o]; exact Q2.2.1) (by rw [f3.o, gCod_ak]; exact Q2.2.2.1) ⟨I2.2.2.2.2.1, I2.2.2.2.2.2⟩
        rw [a2, Option.bind_some, if_neg z10, show jR (some v) = nI (opC v) from rfl, a3, Option.bind_some, v_joint N Q3.1.1, Option.bind_some]
        refine RV.pre (p2.trans f3.r) ?_
        have q2 : DP T h G (z.1, gCod z.2 (30000 + v)) := gCod_D qD hadv
        have hz : h + 1 ≤ z.1 := by have := qD.1.2.2.1; rw [hadv] at this; exact this
        have rr := loop_v_sum N hN hD hrc hd k m z.1 (gCod z.2 (30000 + v)) M3 Q3 (hI.go q2.1) q2.2 (by omega) (by omega) (by omega)
        rw [show (gCod z.2 (30000 + v)).cp = G.cp from q2.1.1.2.2.2.2.1] at rr
        exact rr
theorem v_readSum {B : Nat → Nat} {n : Nat} {T : List Tok} (N : Nat) (hN : 2000 < N) : ∀ (fu d : Nat), fu + d = 8 → d ≤ 6 → RRr B n T (pE T fu d) (fun p M => D_X12_readSum N fu 137 p (nI d) M)
  | 0, d, e, h => by omega
  | fu + 1, d, e, h => fun h0 G M hI ha h1 q => by
    have hE := q.1.1.t.2.1
    have hl := q.1.1.t.2.2
    show RV _ M (pEL T (pE T fu (d + 1)) d 1000 (pPart T (pE T fu (d + 1)) d h0 G)) (DB_X12_readSum N (D_X12_readSum N fu) 137 (nI G.cp) (nI d) M)
    have hD := pE_D hE fu (d + 1)
    have hrc : d < 6 → RRr B n T (pE T fu (d + 1)) (fun p M => D_X12_readSum N fu 137 p (nI (d + 1)) M) := fun hd => v_readSum N hN fu (d + 1) (by omega) (by omega)
    have r := v_readPart N hN hD hrc h q hI ha h1
    unfold DB_X12_readSum
    cases e4 : pPart T (pE T fu (d + 1)) d h0 G with
    | inl e =>
      rw [e4] at r; obtain ⟨M', a, b, c⟩ := r
      rw [pEL_l]
      exact ⟨M', by rw [a, Option.bind_some, if_pos rfl, retZ_0], b, c⟩
    | inr z =>
      rw [e4] at r; obtain ⟨M2, a2, Q2, p2⟩ := r
      have qD := pPart_D hE hD hI.2.2.1 ha e4
      have hz : h0 ≤ z.1 := qD.1.2.2.1
      rw [a2, Option.bind_some, if_neg z10, v_joint N Q2.1.1, Option.bind_some]
      refine RV.pre p2 ?_
      have rr := loop_v_sum N hN hD hrc h N 1000 z.1 z.2 M2 Q2 (hI.go qD.1) qD.2 (by omega) (by omega) (by omega)
      rw [show z.2.cp = G.cp from qD.1.1.2.2.2.2.1] at rr
      exact rr
-- the reference: a rule's line
theorem r_canTell {a b sy pr e p o : Nat} {G : Gr} {M : Mm} (N : Nat) (hlen : len a = 3816) (h : RG a b G sy pr e M) (h0 : W0 G) (h4 : W4 G) (hp : p < G.i 0 1) (ho : o < 32) (hu : (G.i 8 p).testBit o = true) : D_X12_canTell N a (nI p) (nI o) M = some (bI ((G.i 9 p).testBit o)) := by
  obtain ⟨u, t⟩ := h4 p hp o
  rw [hu] at u
  have u' := u.symm
  rw [Bool.and_eq_true] at u'
  have c1 := of_decide_eq_true u'.1
  have c2 := of_decide_eq_true u'.2
  have n8 := h0.1
  have hsy := (h0.2.2.2.2 p hp).2.2 (o / 8) c1
  obtain ⟨d1, d2, d3, d4⟩ := h0.2.2.2.1 _ hsy
  unfold D_X12_canTell
  rw [dv_n (by omega) (by omega) (by omega), Option.bind_some, rm_n (by omega) (by omega) (by omega), Option.bind_some, r_symbolAt N hlen h h0 hp c1, Option.bind_some, hlen, nI_add, ldI_n (by omega) (by omega), (h.2.1 _ hsy).1, Option.bind_some]
  have e1 : (nI (o % 8) < nI (G.i 4 (G.i 7 (4 * p + o / 8)))) = (o % 8 < G.i 4 (G.i 7 (4 * p + o / 8))) := n_lt (by omega) (by omega)
  have e2 : (nI (o / 8) = nI 0) = (o / 8 = 0) := n_eq (by omega) (by omega)
  simp only [e1, e2]
  rw [t, decide_eq_true c1, Bool.true_and]
  by_cases z : o / 8 = 0
  · rw [if_pos z]
    have c2' : o % 8 < G.i 4 (G.i 7 (4 * p)) + G.i 5 (G.i 7 (4 * p)) := by rw [z] at c2; exact c2
    rw [z, Nat.add_zero]
    by_cases i : o % 8 < G.i 4 (G.i 7 (4 * p))
    · rw [if_pos i, Option.bind_some, if_pos rfl, decide_eq_false (fun q => by omega)]; rfl
    · rw [if_neg i, Option.bind_some, if_pos rfl, decide_eq_true ⟨by omega, c2'⟩]; rfl
  · rw [if_neg z]
    by_cases i : o % 8 < G.i 4 (G.i 7 (4 * p + o / 8))
    · rw [if_pos i, Option.bind_some, if_neg z, if_pos rfl, decide_eq_true i]; rfl
    · rw [if_neg i, Option.bind_some, if_neg z, if_neg z10, decide_eq_false i]; rfl
theorem RG_rul {G : Gr} {p o sy pr : Nat} {M M' : Mm} (h : RG 140 142 G sy pr 1000 M) (h0 : W0 G) (hp : p < G.i 0 1) (hpr : pr ≤ 12) (ho : o < 32) (ht : tdB G (32 * p + o) = false)
    (lo : ∀ j, ¬ j = 80 + (32 * p + o) → M'.1 140 j = M.1 140 j) (l1 : M'.1 140 (80 + (32 * p + o)) = nI (G.i 0 2)) (lw : M'.2.1 142 = M.2.1 142) : RG 140 142 (gRul G p o) sy pr (32 * p + o) M' := by
  obtain ⟨⟨a1, a2, a3, a4⟩, b, c, d, f⟩ := h
  have n8 := h0.1
  have n12 := h0.2.1
  have hk : ∀ k j, ¬ k = 10 → ¬ k = 14 → (gRul G p o).i k j = G.i k j := fun k j q1 q2 => gRul_i _ _ _ _ _ q1 q2
  have h10 : ∀ j, (gRul G p o).i 10 j = if j = p then G.i 10 p ||| 2 ^ o else G.i 10 j := fun j => by
    show (gBeg (sO (sP G p) o) p o).i 10 j = _
    unfold gBeg; simp only [sI_i, Nat.reduceEqDiff, true_and, false_and, if_false]; rfl
  have h14 : ∀ j, (gRul G p o).i 14 j = if j = 32 * p + o then G.i 0 2 else G.i 14 j := fun j => by
    show (gBeg (sO (sP G p) o) p o).i 14 j = _
    unfold gBeg; simp only [sI_i, Nat.reduceEqDiff, true_and, false_and, if_false]; rfl
  have hl : (gRul G p o).l = G.l := rfl
  have htd : ∀ i, ¬ i = 32 * p + o → tdB (gRul G p o) i = tdB G i := fun i hi => by
    unfold tdB
    rw [h10]
    by_cases q : i / 32 = p
    · rw [if_pos q, Nat.testBit_or, Nat.testBit_two_pow_of_ne (by omega), Bool.or_false, q]
    · rw [if_neg q]
  have hto : tolds (gRul G p o) (32 * p + o) = tolds G 1000 := by
    unfold tolds
    rw [hk 0 1 (by omega) (by omega)]
    refine cnt_congr fun i hi => ?_
    by_cases q : i = 32 * p + o
    · rw [decide_eq_true q, q, ht, Bool.and_false]; rfl
    · rw [decide_eq_false q, decide_eq_false (show ¬ i = 1000 by omega), htd i q]
  have lo' : ∀ j, j < 80 ∨ 464 ≤ j → M'.1 140 j = M.1 140 j := fun j q => lo j (by omega)
  refine ⟨⟨by rw [lo' 0 (by omega)]; exact a1, by rw [lo' 1 (by omega)]; exact a2, by rw [lo' 2 (by omega), hto]; exact a3, by rw [lo' 3 (by omega), hk 0 2 (by omega) (by omega)]; exact a4⟩, fun t ht2 => ?_, fun q hq => ?_, fun i hi => ?_, fun c2 hc2 => ?_⟩
  · rw [hk 0 0 (by omega) (by omega)] at ht2
    rw [hk 4 _ (by omega) (by omega), hk 5 _ (by omega) (by omega), hl, lo' _ (by omega), lo' _ (by omega), lw]
    exact b t ht2
  · rw [hk 0 1 (by omega) (by omega)] at hq
    have hsq := (h0.2.2.2.2 q hq).2.1
    rw [lw, hl, hk 6 _ (by omega) (by omega), hk 7 _ (by omega) (by omega), lo' _ (by omega), lo' _ (by omega)]
    refine ⟨(c q hq).1, fun hd => ⟨((c q hq).2 hd).1, ((c q hq).2 hd).2.1, fun k hk2 => ?_⟩⟩
    rw [hk 7 _ (by omega) (by omega), lo' _ (by omega)]; exact ((c q hq).2 hd).2.2 k hk2
  · obtain ⟨e1, e2, e3⟩ := d i hi
    rw [h14, hk 15 _ (by omega) (by omega), hk 12 _ (by omega) (by omega), lo' (464 + i) (by omega), lo' (848 + i) (by omega), lo' (1232 + i) (by omega)]
    refine ⟨?_, e2, fun q => ?_⟩
    · by_cases q : i = 32 * p + o
      · rw [if_pos q, q]; exact l1
      · rw [if_neg q, lo _ (by omega)]; exact e1
    · rw [htd i q]; exact e3 (by omega)
  · rw [hk 0 2 (by omega) (by omega)] at hc2
    rw [hk 16 _ (by omega) (by omega), lo' _ (by omega), lo' _ (by omega)]; exact f c2 hc2
