-- the reference: a production's line, whole
def inz (p o j : Nat) : Prop := (80 + 32 * p + o ≤ j ∧ j < 80 + 32 * p + 32) ∨ (464 + 32 * p + o ≤ j ∧ j < 464 + 32 * p + 32) ∨ (848 + 32 * p + o ≤ j ∧ j < 848 + 32 * p + 32) ∨ (1232 + 32 * p + o ≤ j ∧ j < 1232 + 32 * p + 32)
theorem loop_v_zero {p : Nat} (hp : p < 12) (kE : Mm → Option (Int32 × Mm)) : ∀ (k o : Nat) (M : Mm), o ≤ 32 → 32 < o + k → ∃ M', L_X12_readProduction_257 kE 137 (nI p) k (nI o) M = kE M' ∧ M'.2 = M.2 ∧ (∀ a, ¬ a = 140 → M'.1 a = M.1 a) ∧ (∀ j, inz p o j → M'.1 140 j = nI 0) ∧ ∀ j, ¬ inz p o j → M'.1 140 j = M.1 140 j
  | 0, o, M, h1, h2 => by omega
  | k + 1, o, M, h1, h2 => by
    rw [L_X12_readProduction_257]
    simp (disch := omega) only [n_le]
    by_cases e : 32 ≤ o
    · rw [if_pos e]
      exact ⟨M, rfl, rfl, fun _ _ => rfl, fun j hj => by unfold inz at hj; omega, fun _ _ => rfl⟩
    · rw [if_neg e]
      simp (disch := omega) only [nI_add, pk_mul, stI_n, Option.bind_some, show (137 : Nat) + 3 = 140 from rfl]
      generalize hM : upI (upI (upI (upI M 140 (1232 + 32 * p + o) (nI 0)) 140 (848 + 32 * p + o) (nI 0)) 140 (80 + 32 * p + o) (nI 0)) 140 (464 + 32 * p + o) (nI 0) = M1
      have hj : ∀ j, M1.1 140 j = if j = 464 + 32 * p + o then nI 0 else if j = 80 + 32 * p + o then nI 0 else if j = 848 + 32 * p + o then nI 0 else if j = 1232 + 32 * p + o then nI 0 else M.1 140 j := fun j => by rw [← hM, upI_j, upI_j, upI_j, upI_j]
      obtain ⟨M', a, b, c, d, f⟩ := loop_v_zero hp kE k (o + 1) M1 (by omega) (by omega)
      refine ⟨M', a, b.trans (by rw [← hM]; rfl), fun a' ha => (c a' ha).trans (by rw [← hM, up1, if_neg ha, up1, if_neg ha, up1, if_neg ha, up1, if_neg ha]), fun j hj2 => ?_, fun j hj2 => ?_⟩
      · by_cases q : inz p (o + 1) j
        · exact d j q
        · rw [f j q, hj]
          unfold inz at hj2 q
          split
          · rfl
          · split
            · rfl
            · split
              · rfl
              · rw [if_pos (by omega)]
      · unfold inz at hj2
        rw [f j (by unfold inz; omega), hj, if_neg (by omega), if_neg (by omega), if_neg (by omega), if_neg (by omega)]
theorem RG_fin {G : Gr} {sy : Nat} {M M' : Mm} (h : RG 140 142 G sy (G.i 0 1 - 1) 1000 M) (h0 : W0 G) (h1 : 0 < G.i 0 1) (hz : ZR G (G.i 0 1 - 1)) (ht : G.i 10 (G.i 0 1 - 1) = 0)
    (m1 : M'.1 140 1 = nI (G.i 0 1)) (z : ∀ j, inz (G.i 0 1 - 1) 0 j → M'.1 140 j = nI 0) (lo : ∀ j, ¬ j = 1 → ¬ inz (G.i 0 1 - 1) 0 j → M'.1 140 j = M.1 140 j) (lw : M'.2.1 142 = M.2.1 142) : RG 140 142 G sy (G.i 0 1) 1000 M' := by
  obtain ⟨⟨a1, a2, a3, a4⟩, b, c, d, f⟩ := h
  have n8 := h0.1
  have n12 := h0.2.1
  have lo' : ∀ j, ¬ j = 1 → j < 80 ∨ 1616 ≤ j → M'.1 140 j = M.1 140 j := fun j q1 q2 => lo j q1 (by unfold inz; omega)
  refine ⟨⟨by rw [lo' 0 (by omega) (by omega)]; exact a1, m1, by rw [lo' 2 (by omega) (by omega)]; exact a3, by rw [lo' 3 (by omega) (by omega)]; exact a4⟩, fun t ht2 => ?_, fun q hq => ?_, fun i hi => ?_, fun c2 hc2 => ?_⟩
  · rw [lo' _ (by omega) (by omega), lo' _ (by omega) (by omega), lw]; exact b t ht2
  · rw [lw, lo' _ (by omega) (by omega), lo' _ (by omega) (by omega)]
    have hsq := (h0.2.2.2.2 q hq).2.1
    refine ⟨(c q hq).1, fun hd => ⟨((c q hq).2 hd).1, ((c q hq).2 hd).2.1, fun k hk => ?_⟩⟩
    rw [lo' _ (by omega) (by omega)]; exact ((c q hq).2 hd).2.2 k hk
  · by_cases e : i < 32 * (G.i 0 1 - 1)
    · have q : ∀ k, (k = 80 ∨ k = 464 ∨ k = 848 ∨ k = 1232) → M'.1 140 (k + i) = M.1 140 (k + i) := fun k hk => lo _ (by omega) (by unfold inz; omega)
      rw [q 80 (by omega), q 464 (by omega), q 848 (by omega), q 1232 (by omega)]
      exact d i e
    · obtain ⟨z1, z2, z3, z4⟩ := hz i (Or.inl (by omega)) (by omega)
      have q : ∀ k, (k = 80 ∨ k = 464 ∨ k = 848 ∨ k = 1232) → M'.1 140 (k + i) = nI 0 := fun k hk => z _ (by unfold inz; omega)
      have tb : tdB G i = false := by unfold tdB; rw [show i / 32 = G.i 0 1 - 1 by omega, ht]; exact Nat.zero_testBit _
      rw [q 80 (by omega), q 464 (by omega), q 848 (by omega), q 1232 (by omega), z1, z2, z3, tb]
      exact ⟨rfl, rfl, fun _ => ⟨rfl, rfl⟩⟩
  · rw [lo' _ (by omega) (by omega), lo' _ (by omega) (by omega)]; exact f c2 hc2
theorem gPro_QP {B : Nat → Nat} {n h : Nat} {T : List Tok} {G : Gr} {M : Mm} {w : Nat} (h0 : W0 G) (hz : ZR G (G.i 0 1)) (h4 : W4 G) (hgi : GI G) (hs : G.i 0 1 < 12) (hw : okW 8 w) (K : RK B n T h (gPro G w) (G.i 0 0) (G.i 0 1) 1000 M) : QP B n T h (gPro G w) M := by
  have e1 : (gPro G w).i 0 1 = G.i 0 1 + 1 := by rw [gPro_i, if_pos ⟨rfl, rfl⟩]
  have e0 : (gPro G w).i 0 0 = G.i 0 0 := gPro_k _ _ _ _ (by omega) (Or.inr (by omega))
  unfold QP
  rw [e1, e0, Nat.add_sub_cancel]
  exact ⟨K, gPro_W h0 hs hw, by omega, hz.eq (fun j => gPro_k _ _ _ _ (by omega) (Or.inr (by omega))) (fun j => gPro_k _ _ _ _ (by omega) (Or.inr (by omega))) (fun j => gPro_k _ _ _ _ (by omega) (Or.inr (by omega))) (fun j => gPro_k _ _ _ _ (by omega) (Or.inr (by omega))) (fun i hi => by unfold tdB; rw [gPro_k _ _ _ _ (by omega) (Or.inl (by omega))]), by rw [gPro_i, if_neg (by omega), if_pos (by omega)], W4_pro h4, GI_pro hgi hs fun i i1 i2 => ⟨(hz i (Or.inl i1) i2).2.2.1, (hz i (Or.inl i1) i2).2.2.2 i1⟩⟩
theorem v_readProduction {B : Nat → Nat} {n h : Nat} {T : List Tok} {G : Gr} {M : Mm} (N : Nat) (hN : 2000 < N) (Q : QL B n T h G M) : RV (QL B n T) M (pPro T h G) (D_X12_readProduction N 137 M) := by
  obtain ⟨K, h0, hz, h4, hgi⟩ := Q
  have n8 := h0.1
  have n12 := h0.2.1
  have v1 : M.1 140 1 = nI (G.i 0 1) := K.2.1.1.2.1
  unfold D_X12_readProduction pPro
  rw [show (137 : Nat) + 3 = 140 from rfl, show (137 : Nat) + 5 = 142 from rfl, ldI_n (by omega) (by omega), v1, Option.bind_some]
  have e8 : (nI (G.i 0 1) = nI 12) = (G.i 0 1 = 12) := n_eq (by omega) (by omega)
  simp only [e8]
  by_cases c : G.i 0 1 < 12
  · rw [if_pos c, if_neg (show ¬ G.i 0 1 = 12 by omega)]
    obtain ⟨M1, g1, K1, g2, _⟩ := K.go N hN
    rw [g1, Option.bind_some, r_isName N hN K1.1, Option.bind_some]
    refine RV.pre g2 ?_
    cases e1 : isNm (tk T (adv T h))
    · rw [bI_f, if_pos rfl, if_neg (by decide)]; exact v_bad N K1.1
    · have hw := nm_ok K1.1.t.1 K1.1.h e1
      rw [bI_t, if_neg z10, if_pos rfl, r_findPro N hN K1 h0 e1, Option.bind_some]
      simp only [fR_m1 (show G.i 0 1 < 2 ^ 31 by omega)]
      by_cases e2 : fi (G.l 3) (tk T (adv T h)).2.2.2 (G.i 0 1) < G.i 0 1
      · rw [if_pos e2, if_neg (not_not_intro e2)]; exact v_bad N K1.1
      · rw [if_neg e2, if_pos e2, nI_add, (K1.1.wd (isNm_k e1)).1, stJ_n (by omega) (by omega), Option.bind_some]
        have hG := RG_pro (w := (tk T (adv T h)).2.2.2) K1.2.1 h0 c
        have f1 : FX (fun a _ => a = 140 ∨ a = 142) M1 (upJ M1 142 (8 + G.i 0 1) (lN (conv 8 (tk T (adv T h)).2.2.2))) := FX.J (Or.inr rfl)
        have K2 := K1.set f1 hG
        obtain ⟨M3, g3, K3, g4, _⟩ := K2.go N hN
        rw [g3, Option.bind_some]
        refine RV.pre (f1.r.trans g4) ?_
        have ens : (gPro G (tk T (adv T h)).2.2.2).i 0 0 = G.i 0 0 := gPro_k _ _ _ _ (by omega) (Or.inr (by omega))
        have Q3 : QP B n T (adv T (adv T h)) (gPro G (tk T (adv T h)).2.2.2) M3 := gPro_QP h0 hz h4 hgi c hw K3
        generalize hGp : gPro G (tk T (adv T h)).2.2.2 = G3 at *
        have enp : G3.i 0 1 = G.i 0 1 + 1 := by rw [← hGp, gPro_i, if_pos ⟨rfl, rfl⟩]
        have esd : G3.i 6 (G.i 0 1) = 0 := by rw [← hGp, gPro_i, if_neg (by omega), if_pos (by omega)]
        have r := v_eats (c := 58) N hN (by omega) K3
        unfold pSign at r ⊢
        by_cases s58 : isSn T (adv T (adv T h)) 58
        · rw [if_pos s58] at r ⊢
          obtain ⟨M4, a4, ⟨K40, _⟩, p4⟩ := r
          have K4 : RK B n T (adv T (adv T (adv T h))) G3 (G.i 0 0) (G.i 0 1) 1000 M4 := K40
          rw [a4, Option.bind_some, if_neg z10, r_isName N hN K4.1, Option.bind_some]
          refine RV.pre p4 ?_
          show RV _ M4 (pSidesL T 8 (pSide T (adv T (adv T (adv T h))) G3)) _
          unfold pSide
          cases e3 : isNm (tk T (adv T (adv T (adv T h))))
          · rw [bI_f, if_pos rfl, if_neg (by decide)]
            rw [show ∀ h y, fl T h y = Sum.inl (if (tk T h).1 = 4 then 1 else y, (tk T h).2.1) from fun _ _ => rfl, pSidesL_l]
            exact v_bad N K4.1
          · have W3 := Q3.2.1
            rw [bI_t, if_neg z10, if_pos rfl, ldI_n (by omega) (by omega), K4.2.1.1.1, Option.bind_some, ← ens, r_findSym N hN K4 W3 e3, Option.bind_some]
            simp only [fR_m1 (show G3.i 0 0 < 2 ^ 31 by omega)]
            by_cases e4 : fi (G3.l 1) (tk T (adv T (adv T (adv T h)))).2.2.2 (G3.i 0 0) < G3.i 0 0
            · rw [if_pos e4, if_neg (not_not_intro e4), show G3.i 0 1 - 1 = G.i 0 1 by omega, esd, if_pos (by omega), fR_n e4, nI_add, nI_add, stI_n (by omega) (by omega), Option.bind_some, stI_n (by omega) (by omega), Option.bind_some]
              have f5 : FX (fun a _ => a = 140 ∨ a = 142) M4 (upI (upI M4 140 (20 + G.i 0 1) (nI (fi (G3.l 1) (tk T (adv T (adv T (adv T h)))).2.2.2 (G3.i 0 0)))) 140 (32 + G.i 0 1) (nI 0)) := (FX.I (Or.inl rfl)).trans (FX.I (Or.inl rfl))
              have hG5 := RG_sid (p := G.i 0 1) (s := fi (G3.l 1) (tk T (adv T (adv T (adv T h)))).2.2.2 (G3.i 0 0)) (M' := upI (upI M4 140 (20 + G.i 0 1) (nI (fi (G3.l 1) (tk T (adv T (adv T (adv T h)))).2.2.2 (G3.i 0 0)))) 140 (32 + G.i 0 1) (nI 0)) K4.2.1 W3 (by omega) (by omega) (by omega) (fun j j1 j2 => by rw [if_pos esd] at j2; rw [upI_j, if_neg j1, upI_j, if_neg j2]) rfl (by rw [upI_j, if_pos rfl, esd]) (by rw [if_pos esd, upI_j, if_neg (by omega), upI_j, if_pos rfl])
              have K5 := K4.set f5 hG5
              obtain ⟨M6, g6, K6, g7, _⟩ := K5.go N hN
              rw [g6, Option.bind_some]
              refine RV.pre (f5.r.trans g7) ?_
              have Q4 : QP B n T (adv T (adv T (adv T h))) G3 M4 := ⟨by rw [ens, enp]; exact K4, Q3.2⟩
              have Q6 : QP B n T (adv T (adv T (adv T (adv T h)))) (gSid G3 (G.i 0 1) (fi (G3.l 1) (tk T (adv T (adv T (adv T h)))).2.2.2 (G3.i 0 0))) M6 := by
                have eq1 : G3.i 0 1 - 1 = G.i 0 1 := by omega
                have := gSid_QP (M' := M6) (h' := adv T (adv T (adv T (adv T h)))) Q4 e4 (by rw [eq1, esd]; omega) (by rw [eq1]; rw [← ens] at K6; exact K6)
                rw [eq1] at this; exact this
              have es6 : (gSid G3 (G.i 0 1) (fi (G3.l 1) (tk T (adv T (adv T (adv T h)))).2.2.2 (G3.i 0 0))).i 6 (G.i 0 1) = 1 := by rw [gSid_6, if_pos rfl, esd]
              have ep6 : (gSid G3 (G.i 0 1) (fi (G3.l 1) (tk T (adv T (adv T (adv T h)))).2.2.2 (G3.i 0 0))).i 0 1 = G.i 0 1 + 1 := by rw [gSid_0 _ _ _ _ _ (by omega) (by omega) (by omega) (by omega)]; exact enp
              refine loop_v_sides (p := G.i 0 1) N hN N 8 _ _ _ Q6 (by rw [ep6]; rfl) (by rw [es6]; omega) (by rw [es6]; omega) (by rw [es6]; omega) fun h' G' M' q' hp' hd' => ?_
              obtain ⟨K', W', n1', z', t', w4', gi'⟩ := q'
              have hnp' : G'.i 0 1 = G.i 0 1 + 1 := by omega
              obtain ⟨M7, b1, b2, b3, b4, b5⟩ := loop_v_zero (p := G.i 0 1) c (fun (M17 : Mm) => ((ldI 3816 140 (nI 1) M17).bind fun v7 => (stI 3816 140 (nI 1) (v7 + (nI 1)) M17).bind fun M18 => retZ (nI 1) M18)) N 0 M' (by omega) (by omega)
              rw [b1]
              have b7 : M7.1 140 1 = nI (G.i 0 1) := by
                rw [b5 1 (by unfold inz; omega), K'.2.1.1.2.1, ← hp']
              rw [ldI_n (by omega) (by omega), b7, Option.bind_some, nI_add, stI_n (by omega) (by omega), Option.bind_some, retZ_1]
              have f7 : FX (fun a _ => a = 140 ∨ a = 142) M' (upI M7 140 1 (nI (G.i 0 1 + 1))) := FX.trans ⟨by rw [b2], fun a j ha => ⟨by rw [b3 a (fun q => ha (Or.inl q))], by rw [b2]⟩⟩ (FX.I (Or.inl rfl))
              refine ⟨_, rfl, ⟨K'.set f7 (RG_fin K'.2.1 W' n1' z' t' ?_ (fun j hj => ?_) (fun j j1 hj => ?_) ?_), W', fun i (i1 : 32 * G'.i 0 1 ≤ i ∨ tdB G' i = false) i2 => by
                obtain ⟨y1, y2, y3, y4⟩ := z' i (by rcases i1 with a | a; exact Or.inl (by omega); exact Or.inr a) i2
                exact ⟨y1, y2, y3, fun (q : 32 * G'.i 0 1 ≤ i) => y4 (by omega)⟩, w4', gi'⟩, f7.r⟩
              · rw [upI_j, if_pos rfl, hnp']
              · rw [← hp'] at hj
                rw [upI_j, if_neg (by unfold inz at hj; omega)]; exact b4 j hj
              · rw [← hp'] at hj
                rw [upI_j, if_neg j1]; exact b5 j hj
              · rw [up2, b2]
            · rw [if_neg e4, if_pos e4]
              rw [show ∀ h y, fl T h y = Sum.inl (if (tk T h).1 = 4 then 1 else y, (tk T h).2.1) from fun _ _ => rfl, pSidesL_l]
              exact v_bad N K4.1
        · rw [if_neg s58] at r ⊢
          obtain ⟨M4, a4, b4, p4⟩ := r
          rw [a4, Option.bind_some, if_pos rfl, retZ_0]
          show RV _ M3 (pSidesL T 8 (bnd (fl T _ 2) _)) _
          rw [show (bnd (fl T (adv T (adv T h)) 2) fun h3 G3 => pSide T h3 G3) = Sum.inl (if (tk T (adv T (adv T h))).1 = 4 then 1 else 2, (tk T (adv T (adv T h))).2.1) from rfl, pSidesL_l]
          exact ⟨M4, rfl, b4, p4⟩
  · rw [if_neg c, if_pos (show G.i 0 1 = 12 by omega)]; exact v_bad N K.1
