-- the reference: a rule's line, whole
theorem RG_end {G : Gr} {p o sy pr : Nat} {M M' : Mm} (h : RG 140 142 G sy pr (32 * p + o) M) (h0 : W0 G) (hp : p < G.i 0 1) (hpr : pr ≤ 12) (ho : o < 32) (ht : tdB G (32 * p + o) = true)
    (lo : ∀ j, ¬ j = 2 → ¬ j = 464 + (32 * p + o) → ¬ j = 848 + (32 * p + o) → ¬ j = 1232 + (32 * p + o) → M'.1 140 j = M.1 140 j)
    (l2 : M'.1 140 2 = nI (tolds G (32 * p + o) + 1)) (l4 : M'.1 140 (464 + (32 * p + o)) = nI (G.i 0 2)) (l8 : M'.1 140 (848 + (32 * p + o)) = nI (G.i 12 (32 * p + o))) (l1 : M'.1 140 (1232 + (32 * p + o)) = nI 1) (lw : M'.2.1 142 = M.2.1 142) : RG 140 142 (gEnd G p o) sy pr 1000 M' := by
  obtain ⟨⟨a1, a2, a3, a4⟩, b, c, d, f⟩ := h
  have n8 := h0.1
  have n12 := h0.2.1
  have hk : ∀ k j, ¬ k = 15 → (gEnd G p o).i k j = G.i k j := fun k j q1 => gEnd_i _ _ _ _ _ q1
  have h15 : ∀ j, (gEnd G p o).i 15 j = if j = 32 * p + o then G.i 0 2 else G.i 15 j := fun j => by
    unfold gEnd; simp only [sI_i, true_and]
  have htd : ∀ i, tdB (gEnd G p o) i = tdB G i := fun i => by unfold tdB; rw [hk _ _ (by omega)]
  have hto : tolds (gEnd G p o) 1000 = tolds G (32 * p + o) + 1 := by
    unfold tolds
    rw [hk 0 1 (by omega)]
    refine cnt_one (32 * p + o) (by omega) (fun i hi q => ?_) ?_ ?_
    · rw [htd, decide_eq_false q, decide_eq_false (show ¬ i = 1000 by omega)]
    · rw [decide_eq_true rfl]; rfl
    · rw [htd, ht, decide_eq_false (show ¬ 32 * p + o = 1000 by omega)]; rfl
  have lo' : ∀ j, ¬ j = 2 → j < 464 ∨ 1616 ≤ j → M'.1 140 j = M.1 140 j := fun j q1 q2 => lo j q1 (by omega) (by omega) (by omega)
  refine ⟨⟨by rw [lo' 0 (by omega) (by omega)]; exact a1, by rw [lo' 1 (by omega) (by omega)]; exact a2, by rw [l2, hto], by rw [lo' 3 (by omega) (by omega), hk 0 2 (by omega)]; exact a4⟩, fun t ht2 => ?_, fun q hq => ?_, fun i hi => ?_, fun c2 hc2 => ?_⟩
  · rw [hk 0 0 (by omega)] at ht2
    rw [hk 4 _ (by omega), hk 5 _ (by omega), show (gEnd G p o).l = G.l from rfl, lo' _ (by omega) (by omega), lo' _ (by omega) (by omega), lw]
    exact b t ht2
  · rw [hk 0 1 (by omega)] at hq
    have hsq := (h0.2.2.2.2 q hq).2.1
    rw [lw, show (gEnd G p o).l = G.l from rfl, hk 6 _ (by omega), hk 7 _ (by omega), lo' _ (by omega) (by omega), lo' _ (by omega) (by omega)]
    refine ⟨(c q hq).1, fun hd => ⟨((c q hq).2 hd).1, ((c q hq).2 hd).2.1, fun k hk2 => ?_⟩⟩
    rw [hk 7 _ (by omega), lo' _ (by omega) (by omega)]; exact ((c q hq).2 hd).2.2 k hk2
  · obtain ⟨e1, e2, e3⟩ := d i hi
    rw [h15, hk 14 _ (by omega), hk 12 _ (by omega), htd, lo' (80 + i) (by omega) (by omega)]
    by_cases q : i = 32 * p + o
    · rw [if_pos q, q, ht, if_pos rfl]
      rw [q] at e1
      exact ⟨e1, l4, fun _ => ⟨l8, l1⟩⟩
    · rw [if_neg q, lo (464 + i) (by omega) (by omega) (by omega) (by omega), lo (848 + i) (by omega) (by omega) (by omega) (by omega), lo (1232 + i) (by omega) (by omega) (by omega) (by omega)]
      exact ⟨e1, e2, fun _ => e3 q⟩
  · rw [hk 0 2 (by omega)] at hc2
    rw [hk 16 _ (by omega), lo' _ (by omega) (by omega), lo' _ (by omega) (by omega)]; exact f c2 hc2
theorem v_readRule {B : Nat → Nat} {n h : Nat} {T : List Tok} {G : Gr} {M : Mm} (N : Nat) (hN : 2000 < N) (Q : QL B n T h G M) (hL : LI T h G) : RV (QL B n T) M (pRule T h G) (D_X12_readRule N 137 M) := by
  obtain ⟨K, h0, hz, h4, hgi⟩ := Q
  obtain ⟨_, h2, hnc, hh, hl⟩ := hL
  have hE := K.1.t.2.1
  have n8 := h0.1
  have n12 := h0.2.1
  obtain ⟨M1, a1, K1, p1, _⟩ := K.go N hN
  unfold D_X12_readRule pRule
  rw [a1, Option.bind_some, r_isName N hN K1.1, Option.bind_some]
  refine RV.pre p1 ?_
  cases e1 : isNm (tk T (adv T h))
  · rw [bI_f, if_pos rfl, if_neg (by decide)]; exact v_bad N K1.1
  · rw [bI_t, if_neg z10, if_pos rfl, show (137 : Nat) + 3 = 140 from rfl, show (137 : Nat) + 5 = 142 from rfl, ldI_n (by omega) (by omega), K1.2.1.1.2.1, Option.bind_some, r_findPro N hN K1 h0 e1, Option.bind_some]
    simp only [fR_m1 (show G.i 0 1 < 2 ^ 31 by omega)]
    generalize hp : fi (G.l 3) (tk T (adv T h)).2.2.2 (G.i 0 1) = p
    by_cases e2 : p < G.i 0 1
    · rw [if_pos e2, if_neg (not_not_intro e2), fR_n e2]
      obtain ⟨M2, a2, K2, p2, _⟩ := K1.go N hN
      rw [a2, Option.bind_some]
      refine RV.pre p2 ?_
      have hsd := h2 p e2
      have hsd4 := (h0.2.2.2.2 p e2).2.1
      simp only [K2.1.isK (show 3 < 5 by omega), kR_2 K2.1.k4]
      by_cases e3 : (tk T (adv T (adv T h))).1 = 2
      · have hv := (K2.1.t.1.g K2.1.h).2.2.2.1 e3
        rw [if_pos e3, K2.1.2.2.2.2.2.2.2.1 e3, r_isPosition N len140 K2.2.1 h0 e2 hsd (by omega), Option.bind_some]
        by_cases e4 : (tk T (adv T (adv T h))).2.2.2 < G.i 6 p
        · rw [decide_eq_true e4, bI_t, if_neg z10, Option.bind_some]
          have epos : pPos T (adv T (adv T h)) (sP G p) = .inr (adv T (adv T h), sP G p) := by
            unfold pPos; rw [if_pos e3]; exact if_pos e4
          rw [pOcc_N epos]
          obtain ⟨M3, a3, K3, p3, _⟩ := K2.go N hN
          rw [a3, Option.bind_some]
          refine RV.pre p3 ?_
          have r := v_readOccName N hN K3 h0 e2 e4
          show RV _ M3 (match pON T (adv T (adv T (adv T h))) p (tk T (adv T (adv T h))).2.2.2 G with
            | .inl e => Sum.inl e
            | .inr y => if ((G.i 9 p).testBit y.2 && !(G.i 10 p).testBit y.2) = true then
                bnd (bnd (pSign T 61 (adv T y.1) (gRul G p y.2)) fun h5 G5 => pE T 8 0 h5 G5) fun h6 G6 => .inr (h6, gEnd G6 p y.2)
              else fl T y.1 5) _
          cases e5 : pON T (adv T (adv T (adv T h))) p (tk T (adv T (adv T h))).2.2.2 G with
          | inl er =>
            rw [e5] at r
            obtain ⟨M4, a4, b4, p4⟩ := r
            exact ⟨M4, by rw [a4, Option.bind_some, if_pos rfl, retZ_0], b4, p4⟩
          | inr y =>
            rw [e5] at r
            obtain ⟨M4, a4, K4, m19, hy, p4⟩ := r
            obtain ⟨aa, ey, ha⟩ := pON_v e5
            have hsy := (h0.2.2.2.2 p e2).2.2 _ e4
            obtain ⟨d1, d2, d3, d4⟩ := h0.2.2.2.1 _ hsy
            have hu : (G.i 8 p).testBit y.2 = true := by
              rw [(h4 p e2 y.2).1, ey, show (8 * (tk T (adv T (adv T h))).2.2.2 + aa) / 8 = (tk T (adv T (adv T h))).2.2.2 by omega, show (8 * (tk T (adv T (adv T h))).2.2.2 + aa) % 8 = aa by omega, decide_eq_true e4, decide_eq_true ha]; rfl
            rw [a4, Option.bind_some, if_neg z10, m19, pk_mul, nI_add, Option.bind_some, r_canTell N len140 K4.2.1 h0 h4 e2 hy hu, Option.bind_some]
            refine RV.pre p4.pp ?_
            show RV _ M4 (if ((G.i 9 p).testBit y.2 && !(G.i 10 p).testBit y.2) = true then _ else _) _
            have htdB : tdB G (32 * p + y.2) = (G.i 10 p).testBit y.2 := by unfold tdB; rw [show (32 * p + y.2) / 32 = p by omega, show (32 * p + y.2) % 32 = y.2 by omega]
            cases t1 : (G.i 9 p).testBit y.2
            · rw [bI_f, if_pos rfl, Bool.false_and, if_neg (by decide)]; exact v_bad N K4.1
            · rw [bI_t, if_neg z10, Bool.true_and, nI_add, ldI_n (by omega) (by omega), ((K4.2.1.2.2.2.1 (32 * p + y.2) (by omega)).2.2 (by omega)).2, Option.bind_some, htdB]
              cases t2 : (G.i 10 p).testBit y.2
              · simp only [Bool.not_false, Bool.false_eq_true, if_true, if_false]
                rw [if_neg (fun q => z10 q.symm)]
                obtain ⟨M5, a5, K5, p5, _⟩ := K4.go N hN
                rw [a5, Option.bind_some, bnd_assoc]
                refine RV.pre p5 ?_
                have r6 := v_eats (c := 61) N hN (by omega) K5
                unfold pSign at r6 ⊢
                by_cases e6 : isSn T (adv T y.1) 61
                · rw [if_pos e6] at r6 ⊢
                  obtain ⟨M6, a6, ⟨K60, _⟩, p6⟩ := r6
                  have K6 : RK B n T (adv T (adv T y.1)) G (G.i 0 0) (G.i 0 1) 1000 M6 := K60
                  have K7 := (K6.fld (f := 20) (v := nI 0) (by omega)).fld (f := 21) (v := nI 0) (by omega)
                  rw [a6, Option.bind_some, if_neg z10, pI_n, Option.bind_some, pI_n, Option.bind_some, ldI_n (by omega) (by omega), K7.2.1.1.2.2.2, Option.bind_some, nI_add, stI_n (by omega) (by omega), Option.bind_some]
                  have htf : tdB G (32 * p + y.2) = false := by rw [htdB, t2]
                  generalize hM7 : upI (upI M6 137 20 (nI 0)) 137 21 (nI 0) = M7 at K7
                  have m720 : M7.1 137 20 = nI 0 := by rw [← hM7, upI_j, if_neg (by omega), upI_j, if_pos rfl]
                  have m721 : M7.1 137 21 = nI 0 := by rw [← hM7, upI_j, if_pos rfl]
                  have f8 : FX (fun a _ => a = 140 ∨ a = 142) M7 (upI M7 140 (80 + (32 * p + y.2)) (nI (G.i 0 2))) := FX.I (Or.inl rfl)
                  have K8 := K7.set f8 (RG_rul K7.2.1 h0 e2 n12 hy htf (fun j hj => by rw [upI_j, if_neg hj]) (by rw [upI_j, if_pos rfl]) rfl)
                  have en : (gRul G p y.2).i 0 1 = G.i 0 1 := gRul_i _ _ _ _ _ (by omega) (by omega)
                  have es : (gRul G p y.2).i 0 0 = G.i 0 0 := gRul_i _ _ _ _ _ (by omega) (by omega)
                  have ec : (gRul G p y.2).i 0 2 = G.i 0 2 := gRul_i _ _ _ _ _ (by omega) (by omega)
                  have e12 : ∀ j, (gRul G p y.2).i 12 j = G.i 12 j := fun j => gRul_i _ _ _ _ _ (by omega) (by omega)
                  have h10 : ∀ j, (gRul G p y.2).i 10 j = if j = p then G.i 10 p ||| 2 ^ y.2 else G.i 10 j := fun j => by
                    show (gBeg (sO (sP G p) y.2) p y.2).i 10 j = _
                    unfold gBeg; simp only [sI_i, Nat.reduceEqDiff, true_and, false_and, if_false]; rfl
                  have h14 : ∀ j, ¬ j = 32 * p + y.2 → (gRul G p y.2).i 14 j = G.i 14 j := fun j hj => by
                    show (gBeg (sO (sP G p) y.2) p y.2).i 14 j = _
                    unfold gBeg; simp only [sI_i, Nat.reduceEqDiff, true_and, false_and, if_false, hj]; rfl
                  have htd : ∀ i, ¬ i = 32 * p + y.2 → tdB (gRul G p y.2) i = tdB G i := fun i hi => by
                    unfold tdB
                    rw [h10]
                    by_cases q : i / 32 = p
                    · rw [if_pos q, Nat.testBit_or, Nat.testBit_two_pow_of_ne (by omega), Bool.or_false, q]
                    · rw [if_neg q]
                  have htt : tdB (gRul G p y.2) (32 * p + y.2) = true := by
                    unfold tdB
                    rw [h10, if_pos (by omega), Nat.testBit_or, show (32 * p + y.2) % 32 = y.2 by omega, Nat.testBit_two_pow_self, Bool.or_true]
                  have zz := hz (32 * p + y.2) (Or.inr htf) (by omega)
                  have Q8 : QE B n T (adv T (adv T y.1)) (gRul G p y.2) (upI M7 140 (80 + (32 * p + y.2)) (nI (G.i 0 2))) := by
                    unfold QE
                    rw [es, en, show (gRul G p y.2).cp = p from rfl, show (gRul G p y.2).co = y.2 from rfl, show (gRul G p y.2).pa = 0 from rfl, e12]
                    refine ⟨K8, by rw [f8.o]; exact m720, by rw [f8.o, m721, zz.2.2.1], fun i i1 i2 => ?_, h4.eq en fun k j k1 k2 => gRul_i _ _ _ _ _ (by omega) (by omega), ?_, htt⟩
                    · by_cases q : i = 32 * p + y.2
                      · rcases i1 with i1 | i1
                        · omega
                        · rw [q, htt] at i1; cases i1
                      · rw [htd i q] at i1
                        rw [h14 i q, gRul_i _ _ _ 15 _ (by omega) (by omega), gRul_i _ _ _ 12 _ (by omega) (by omega), gRul_i _ _ _ 13 _ (by omega) (by omega)]
                        exact hz i i1 i2
                    · rw [gRul_i _ _ _ 6 _ (by omega) (by omega)]; exact hsd
                  have k1 := adv_ge (T := T) (h := h)
                  have k2 := adv_ge (T := T) (h := adv T h)
                  have k3 := adv_ge (T := T) (h := adv T (adv T h))
                  have k4 := adv_ge (T := T) (h := y.1)
                  have k5 := adv_ge (T := T) (h := adv T y.1)
                  have hy1 : adv T (adv T (adv T h)) ≤ y.1 := by
                    unfold pON at e5
                    split at e5
                    · split at e5
                      · split at e5
                        · injection e5 with e5; subst e5; exact adv_ge
                        · cases e5
                      · cases e5
                    · cases e5
                  have hone : 1 ≤ adv T h := by
                    unfold adv
                    split
                    · omega
                    · rename_i q
                      have := hE h hh (by
                        intro z0
                        have := isNm_k e1
                        unfold adv at this
                        rw [if_neg q] at this
                        omega)
                      omega
                  have I8 : EI T (adv T (adv T y.1)) (gRul G p y.2) := ⟨gRul_W h0, by rw [ec]; omega, K6.1.h, hl, by rw [en]; exact e2, hy⟩
                  have rs := v_readSum N hN 8 0 rfl (by omega) (adv T (adv T y.1)) (gRul G p y.2) _ I8 (Nat.zero_le _) (by omega) Q8
                  refine RV.pre ((p6.trans ((FX.f (f := 20) (v := nI 0) (by omega)).trans (by rw [← hM7]; exact FX.f (by omega)))).trans f8.r) ?_
                  have rs' : RV (QE B n T) (upI M7 140 (80 + (32 * p + y.2)) (nI (G.i 0 2))) (pE T 8 0 (adv T (adv T y.1)) (gRul G p y.2)) (D_X12_readSum N 8 137 (nI p) (nI 0) (upI M7 140 (80 + (32 * p + y.2)) (nI (G.i 0 2)))) := rs
                  show RV _ _ (bnd (pE T 8 0 (adv T (adv T y.1)) (gRul G p y.2)) fun h6 G6 => .inr (h6, gEnd G6 p y.2)) _
                  have hDR := pE_D hE 8 0 (adv T (adv T y.1)) (gRul G p y.2)
                  cases e7 : pE T 8 0 (adv T (adv T y.1)) (gRul G p y.2) with
                  | inl er =>
                    rw [e7] at rs'
                    obtain ⟨M9, a9, b9, p9⟩ := rs'
                    exact ⟨M9, by rw [a9, Option.bind_some, if_pos rfl, retZ_0], b9, p9⟩
                  | inr z =>
                    rw [e7] at rs'
                    obtain ⟨M9, a9, Q9, p9⟩ := rs'
                    obtain ⟨⟨sE, q1, q2, q3⟩, q4⟩ := hDR z I8.2.2.1 (Nat.zero_le _) e7
                    obtain ⟨s1, s2, s3, s4, s5, s6⟩ := sE
                    obtain ⟨K9, c20, c21, z9, w49, sd9, b9⟩ := Q9
                    rw [show z.2.cp = p from s5, show z.2.co = y.2 from s6] at K9 c21 b9
                    have enz : z.2.i 0 1 = G.i 0 1 := s3.trans en
                    have ezc : z.2.i 0 2 ≤ 1000 := by rw [ec] at q1; omega
                    have wz : W0 z.2 := W0_Se (gRul_W h0) ⟨s1, s2, s3, s4, s5, s6⟩ ezc
                    rw [enz] at K9
                    rw [a9, Option.bind_some, if_neg z10, ldI_n (by omega) (by omega), K9.2.1.1.2.2.2, Option.bind_some, nI_add, stI_n (by omega) (by omega), Option.bind_some, nI_add, stI_n (by omega) (by omega), Option.bind_some, stI_n (by omega) (by omega), Option.bind_some, ldI_n (by omega) (by omega), upI_j, if_neg (by omega), upI_j, if_neg (by omega), upI_j, if_neg (by omega), K9.2.1.1.2.2.1, Option.bind_some, nI_add, stI_n (by omega) (by omega), Option.bind_some, retZ_1]
                    have e21 : (upI M9 140 (464 + (32 * p + y.2)) (nI (z.2.i 0 2))).1 137 21 = nI (z.2.i 12 (32 * p + y.2)) := c21
                    rw [e21]
                    have f9 : FX (fun a _ => a = 140 ∨ a = 142) M9 (upI (upI (upI (upI M9 140 (464 + (32 * p + y.2)) (nI (z.2.i 0 2))) 140 (848 + (32 * p + y.2)) (nI (z.2.i 12 (32 * p + y.2)))) 140 (1232 + (32 * p + y.2)) (nI 1)) 140 2 (nI (tolds z.2 (32 * p + y.2) + 1))) := (((FX.I (Or.inl rfl)).trans (FX.I (Or.inl rfl))).trans (FX.I (Or.inl rfl))).trans (FX.I (Or.inl rfl))
                    have hG9 := RG_end (M' := upI (upI (upI (upI M9 140 (464 + (32 * p + y.2)) (nI (z.2.i 0 2))) 140 (848 + (32 * p + y.2)) (nI (z.2.i 12 (32 * p + y.2)))) 140 (1232 + (32 * p + y.2)) (nI 1)) 140 2 (nI (tolds z.2 (32 * p + y.2) + 1))) K9.2.1 wz (by omega) n12 hy b9 (fun j j1 j2 j3 j4 => by rw [upI_j, if_neg j1, upI_j, if_neg j4, upI_j, if_neg j3, upI_j, if_neg j2]) (by rw [upI_j, if_pos rfl]) (by rw [upI_j, if_neg (by omega), upI_j, if_neg (by omega), upI_j, if_neg (by omega), upI_j, if_pos rfl]) (by rw [upI_j, if_neg (by omega), upI_j, if_neg (by omega), upI_j, if_pos rfl]) (by rw [upI_j, if_neg (by omega), upI_j, if_pos rfl]) rfl
                    have eg : ∀ k j, ¬ k = 15 → (gEnd z.2 p y.2).i k j = z.2.i k j := fun k j hk => gEnd_i _ _ _ _ _ hk
                    refine ⟨_, rfl, ?_, p9.trans f9.r⟩
                    show QL B n T z.1 (gEnd z.2 p y.2) _
                    unfold QL
                    rw [eg 0 0 (by omega), eg 0 1 (by omega), enz]
                    refine ⟨K9.set f9 hG9, gEnd_W wz, fun i i1 i2 => ?_, w49.eq (eg 0 1 (by omega)) (fun k j k1 k2 => eg k j (by omega)), GI_rule (x := xB 0) hgi e2 hy t1 htf zz.2.2.1 (by decide) (pE_X K.1.t.1 hE 8 0 rfl (by omega) _ _ _ I8.2.2.1 ⟨by rw [en]; exact e2, hy, h4.eq en fun k j k1 k2 => gRul_i _ _ _ _ _ (by omega) (by omega), by rw [gRul_i _ _ _ 6 _ (by omega) (by omega)]; exact hsd4, fun k hk => ?_⟩ (Nat.zero_le _) e7)⟩
                    · have et : tdB (gEnd z.2 p y.2) i = tdB z.2 i := by unfold tdB; rw [eg 10 _ (by omega)]
                      rw [et] at i1
                      have hie : ¬ i = 32 * p + y.2 := by
                        intro q
                        rcases i1 with i1 | i1
                        · omega
                        · rw [q, b9] at i1; cases i1
                      have e15 : (gEnd z.2 p y.2).i 15 i = z.2.i 15 i := by unfold gEnd; simp only [sI_i, true_and, hie, if_false]
                      rw [e15, eg 14 _ (by omega), eg 12 _ (by omega), eg 13 _ (by omega)]
                      rw [enz] at z9
                      exact z9 i i1 i2
                    · have e6' : ∀ k j, ¬ k = 10 → ¬ k = 14 → (gRul G p y.2).i k j = G.i k j := fun k j q1 q2 => gRul_i _ _ _ _ _ q1 q2
                      have hk' : k < G.i 6 p := by
                        have : k < (gRul G p y.2).i 6 p := hk
                        rw [e6' 6 _ (by omega) (by omega)] at this; exact this
                      obtain ⟨k1, k2, _, _⟩ := h0.2.2.2.1 _ ((h0.2.2.2.2 p e2).2.2 k hk')
                      show (gRul G p y.2).i 4 ((gRul G p y.2).i 7 (4 * p + k)) + (gRul G p y.2).i 5 ((gRul G p y.2).i 7 (4 * p + k)) ≤ 8
                      rw [e6' 7 _ (by omega) (by omega), e6' 4 _ (by omega) (by omega), e6' 5 _ (by omega) (by omega)]
                      omega
                · rw [if_neg e6] at r6 ⊢
                  obtain ⟨M6, a6, b6, p6⟩ := r6
                  exact ⟨M6, by rw [a6, Option.bind_some, if_pos rfl, retZ_0], b6, p6⟩
              · simp only [Bool.not_true, Bool.false_eq_true, if_true, if_false]
                exact v_bad N K4.1
        · rw [decide_eq_false e4, bI_f, if_pos rfl]
          have epos : pOcc T (adv T (adv T h)) (sP G p) = .inl (if (tk T (adv T (adv T h))).1 = 4 then 1 else 3, (tk T (adv T (adv T h))).2.1) := by
            unfold pOcc pPos; rw [if_pos e3]; rw [show (if (tk T (adv T (adv T h))).2.2.2 < (sP G p).i 6 (sP G p).cp then (Sum.inr (adv T (adv T h), sP G p) : RS) else fl T (adv T (adv T h)) 3) = fl T (adv T (adv T h)) 3 from if_neg e4]; rfl
          rw [epos]
          exact v_bad N K2.1
      · rw [if_neg e3]
        have epos : pOcc T (adv T (adv T h)) (sP G p) = .inl (if (tk T (adv T (adv T h))).1 = 4 then 1 else 2, (tk T (adv T (adv T h))).2.1) := by
          unfold pOcc pPos; rw [if_neg e3]; rfl
        rw [epos]
        exact v_bad N K2.1
    · rw [if_neg e2, if_pos e2]; exact v_bad N K1.1
