-- both sides answer: plan, symbol, production
section q
variable {M : Mm} (N : Nat)
theorem PQv {b j : Nat} (z : PVb b j) : PQ b j ∧ ¬ b = 1 := by unfold PVb PVa at z; unfold PQ; omega
theorem q_plan (hN : 20000 < N) (I : INV M) (a b : Int32) : QOK M (D_X11_plan N 1 a b M) (D_X12_plan N 137 a b) := by
  obtain ⟨_, g, g', w, w', q, q', I0⟩ := I
  have R := I0.2.1
  obtain ⟨hg, hw, hq, _⟩ := R.gg
  have rg := R.g
  have x1 : D_X11_plan N 1 a b M = (if m1 ≤ b then ((D_X1_hasProduction N g a M).bind fun q1 => (if q1 = nI 0 then D_X11_refuse N 1 (nI 4) M else (if M.1 15 3 = m1 then (if b = m1 then ((ldI 12 21 a M).bind fun v1 => D_X11_answer N 1 v1 M) else ((ldI 12 21 a M).bind fun v2 => (if b < v2 then ((D_X5_step N 15 a b M).bind fun q4 => D_X11_answer N 1 q4 M) else D_X11_refuse N 1 (nI 7) M))) else D_X11_refuse N 1 (nI 5) M))) else D_X11_refuse N 1 (nI 1) M) := by
    unfold D_X11_plan
    simp only [bind_pair]
    rw [rg]; rfl
  have y1 : ∀ M, D_X12_plan N 137 a b M = (if m1 ≤ b then ((D_X12_isProduction N 137 a M).bind fun q1 => (if q1 = nI 0 then D_X12_refuse N 137 (nI 4) M else ((D_X12_block N 137 M).bind fun q3 => (if q3.1 = m1 then ((D_X12_laysPlan N 137 a q3.2).bind fun M1 => (if b = m1 then D_X12_gives N 137 (M1.1 137 33) M1 else (if M1.1 137 33 ≤ b then D_X12_refuse N 137 (nI 7) M1 else ((ldI 100 151 b M1).bind fun v1 => D_X12_gives N 137 v1 M1)))) else D_X12_refuse N 137 (nI 5) q3.2)))) else D_X12_refuse N 137 (nI 1) M) := fun M => by
    unfold D_X12_plan
    simp only [bind_pair]
  by_cases c1 : m1 ≤ b
  · rw [if_pos c1] at x1
    have y2 : ∀ M, D_X12_plan N 137 a b M = _ := fun M => (y1 M).trans (if_pos c1)
    rcases I0.2.2 with n0 | ⟨G, A, Gi, _, _⟩
    · exact QOK.ref (v := nI 4) N I0 FX.refl (by rw [x1, no_prod N a n0.2.1, Option.bind_some, if_pos rfl]) FX.refl (by rw [y2, rno_prod N a (n0.q hg hw f10).2.2.1, Option.bind_some, if_pos rfl])
    · rcases prod_A N a Gi with ⟨e1, e2⟩ | ⟨p, hp, rfl, e1, e2⟩
      · exact QOK.ref (v := nI 4) N I0 FX.refl (by rw [x1, e1, Option.bind_some, if_pos rfl]) FX.refl (by rw [y2, e2 _ (Gi.q hg f10), Option.bind_some, if_pos rfl])
      · have np12 := Gi.1.1.2.1
        rw [e1, Option.bind_some, if_neg z10, Gi.pl.2.2.1] at x1
        simp only [fR_m1 (show G.i 0 1 < 2 ^ 31 by omega)] at x1
        by_cases c : blk G A < G.i 0 1
        · rw [if_neg (not_not_intro c)] at x1
          obtain ⟨M2, b1, b2⟩ := r_block N (by omega) Gi.hi (Gi.q hg (f10 (v := nI 5))).ri
          refine QOK.ref (v := nI 5) N I0 FX.refl x1 (b2.mono fun b j z => PQv z) ?_
          rw [y2, e2 _ (Gi.q hg f10), Option.bind_some, if_neg z10, b1, Option.bind_some]
          simp only [fR_m1 (show G.i 0 1 < 2 ^ 31 by omega)]
          rw [if_neg (not_not_intro c)]
        · rw [if_pos c] at x1
          obtain ⟨l1, l2, _⟩ := Gi.pl.2.2.2 c p hp
          have nb : bPf G A p = false := by
            have e : blk G A = G.i 0 1 := by have := fb_le (bPf G A) (G.i 0 1); unfold blk at c ⊢; omega
            exact fb_below (show p < fb (bPf G A) (G.i 0 1) by unfold blk at e; omega)
          have ord := OrdP.of Gi.1 Gi.hi hp nb
          have l40 := pL_40 ord
          rw [ldI_n (by omega) (by omega), l1, Option.bind_some, Option.bind_some] at x1
          have fin : ∀ v : Int32, ∃ M3, (∀ (f : Mm → Option (Int32 × Mm)) (h : Int32 × Mm → Option (Int32 × Mm)), ((D_X12_block N 137 (upI M 1 0 v)).bind fun q3 => (if q3.1 = m1 then ((D_X12_laysPlan N 137 (nI p) q3.2).bind f) else h q3)) = f M3) ∧ LSt M3 151 0 (pL G A p) ∧ M3.1 137 33 = nI (pL G A p).length ∧ FX (fun b j => PQ b j ∧ ¬ b = 1) (upI M 1 0 v) M3 := fun v => by
            have K := Gi.q hg (f10 (v := v))
            obtain ⟨M2, b1, b2⟩ := r_block N (by omega) Gi.hi K.ri
            have f9 : M2.1 137 9 = nI 1 := by rw [(b2.2 137 9 (fun z => by unfold PVb PVa at z; omega)).1]; exact K.fl
            obtain ⟨M3, d1, d2, d3, d4⟩ := r_laysPlan N (by omega) ord (K.ri.pvb b2) f9
            refine ⟨M3, fun f h => ?_, d2, d3, (b2.mono fun b j z => PQv z).trans (d4.mono fun b j z => by unfold PPn PPl PVa at z; unfold PQ; omega)⟩
            rw [b1, Option.bind_some]
            simp only [fR_m1 (show G.i 0 1 < 2 ^ 31 by omega)]
            rw [if_pos c, d1, Option.bind_some]
          rcases m1_cases b with z | ⟨_, rfl⟩ | ⟨k, hk, rfl, _⟩
          · exact absurd c1 z
          · rw [if_pos rfl] at x1
            obtain ⟨M3, d1, d2, d3, d4⟩ := fin (nI 0)
            refine QOK.ans (v := nI (pL G A p).length) N I0 FX.refl x1 d4 ?_
            rw [y2, e2 _ (Gi.q hg f10), Option.bind_some, if_neg z10, d1, if_pos rfl, d3]
          · have nm : ¬ nI k = m1 := n_ne_m1 hk
            rw [if_neg nm] at x1
            simp only [n_lt hk (show (pL G A p).length < 2 ^ 31 by omega)] at x1
            by_cases e : k < (pL G A p).length
            · have ge : (pL G A p)[k]? = some ((pL G A p)[k]) := List.getElem?_eq_getElem e
              have st : D_X5_step N 15 (nI p) (nI k) M = some (nI (pL G A p)[k]) := by
                unfold D_X5_step
                simp only [jn]
                rw [if_neg (by rw [n_lt hk (by decide)]; omega), if_neg (by rw [n_le (by decide) hk]; omega), pk_mul, nI_add, ldI_n (by omega) (by omega), l2 k _ ge]; rfl
              rw [if_pos e, st, Option.bind_some] at x1
              obtain ⟨M3, d1, d2, d3, d4⟩ := fin (nI 0)
              refine QOK.ans (v := nI (pL G A p)[k]) N I0 FX.refl x1 d4 ?_
              rw [y2, e2 _ (Gi.q hg f10), Option.bind_some, if_neg z10, d1, if_neg nm, d3, if_neg (by rw [n_le (by omega) hk]; omega), ldI_n (by omega) (by omega)]
              have := d2 k _ ge
              rw [Nat.zero_add] at this
              rw [this, Option.bind_some]
            · rw [if_neg e] at x1
              obtain ⟨M3, d1, d2, d3, d4⟩ := fin (nI 7)
              refine QOK.ref (v := nI 7) N I0 FX.refl x1 d4 ?_
              rw [y2, e2 _ (Gi.q hg f10), Option.bind_some, if_neg z10, d1, if_neg nm, d3, if_pos (by rw [n_le (by omega) hk]; omega)]
  · exact QOK.ref (v := nI 1) N I0 FX.refl (by rw [x1, if_neg c1]) FX.refl (by rw [y1, if_neg c1])
-- symbol
theorem loop_lefts {g s : Nat} {G : Gr} (C : CG g G M) (hq : QG G) (hs : s < 8) : ∀ (fu p c : Nat), p ≤ G.i 0 1 → 12 < p + fu → c = cnt (fun p => decide (G.i 7 (4 * p) = s)) p → L_X1_leftSides_4 M g N (nI s) fu (nI c) (nI p) = some (nI (cnt (fun p => decide (G.i 7 (4 * p) = s)) (G.i 0 1)))
  | 0, p, c, h1, h2, _ => by have := hq.np; omega
  | fu + 1, p, c, h1, h2, hc => by
    have n12 := hq.np
    have n8 := hq.ns
    rw [L_X1_leftSides_4, C.f 1]
    simp only [n_le (show G.i 0 1 < 2 ^ 31 by omega) (show p < 2 ^ 31 by omega)]
    by_cases e : G.i 0 1 ≤ p
    · rw [if_pos e, hc, show p = G.i 0 1 by omega]
    · have sy8 := hq.sy (show p < G.i 0 1 by omega) (k := 0) (by have := hq.sd (show p < G.i 0 1 by omega); omega)
      rw [if_neg e, s_side N C (by omega) (by omega), Option.bind_some, Option.bind_some, Option.bind_some, nI_add, nI_add]
      simp only [n_eq (show G.i 7 (4 * p + 0) < 2 ^ 31 by omega) (show s < 2 ^ 31 by omega)]
      by_cases z : G.i 7 (4 * p + 0) = s
      · rw [if_pos z]
        exact loop_lefts C hq hs fu (p + 1) (c + 1) (by omega) (by omega) (by show _ = cnt _ p + if decide (G.i 7 (4 * p) = s) = true then 1 else 0; rw [decide_eq_true (show G.i 7 (4 * p) = s from z), if_pos rfl, hc])
      · rw [if_neg z]
        exact loop_lefts C hq hs fu (p + 1) c (by omega) (by omega) (by show _ = cnt _ p + if decide (G.i 7 (4 * p) = s) = true then 1 else 0; rw [decide_eq_false (show ¬ G.i 7 (4 * p) = s from z), if_neg (by decide), hc, Nat.add_zero])
theorem loop_rlefts {s : Nat} {G : Gr} (K : QT G M) (hq : QG G) (hs : s < 8) : ∀ (fu p c : Nat), p ≤ G.i 0 1 → 12 < p + fu → c = cnt (fun p => decide (G.i 7 (4 * p) = s)) p → L_X12_symbol_66 137 M N (nI s) fu (nI c) (nI p) = D_X12_gives N 137 (nI (cnt (fun p => decide (G.i 7 (4 * p) = s)) (G.i 0 1))) M
  | 0, p, c, h1, h2, _ => by have := hq.np; omega
  | fu + 1, p, c, h1, h2, hc => by
    have n12 := hq.np
    have n8 := hq.ns
    rw [L_X12_symbol_66, show (137 : Nat) + 2 = 139 from rfl, ldI_n (by omega) (by omega), K.r0.2.1, Option.bind_some]
    simp only [n_le (show G.i 0 1 < 2 ^ 31 by omega) (show p < 2 ^ 31 by omega), bind_pair]
    by_cases e : G.i 0 1 ≤ p
    · rw [if_pos e, hc, show p = G.i 0 1 by omega]
    · have sd := hq.sd (show p < G.i 0 1 by omega)
      have sy8 := hq.sy (show p < G.i 0 1 by omega) (k := 0) (by omega)
      have l20 := ((K.1.2.2.1 p (by omega)).2 sd.1).1
      rw [if_neg e, nI_add, ldI_n (by omega) (by omega), l20, Option.bind_some, Option.bind_some, Option.bind_some, Option.bind_some, nI_add, nI_add, nI_add, Option.bind_some]
      simp only [n_eq (show G.i 7 (4 * p) < 2 ^ 31 by have := sy8; rw [Nat.add_zero] at this; omega) (show s < 2 ^ 31 by omega)]
      by_cases z : G.i 7 (4 * p) = s
      · rw [if_pos z]
        exact loop_rlefts K hq hs fu (p + 1) (c + 1) (by omega) (by omega) (by show _ = cnt _ p + if decide (G.i 7 (4 * p) = s) = true then 1 else 0; rw [decide_eq_true z, if_pos rfl, hc])
      · rw [if_neg z]
        exact loop_rlefts K hq hs fu (p + 1) (c + 0) (by omega) (by omega) (by show _ = cnt _ p + if decide (G.i 7 (4 * p) = s) = true then 1 else 0; rw [decide_eq_false z, if_neg (by decide), hc])
theorem q_symbol (hN : 20000 < N) (I : INV M) (a b : Int32) : QOK M (D_X11_symbol N 1 a b M) (D_X12_symbol N 137 a b) := by
  obtain ⟨_, g, g', w, w', q, q', I0⟩ := I
  have R := I0.2.1
  obtain ⟨hg, hw, hq, _⟩ := R.gg
  have rg := R.g
  rcases arg2 b 3 (by decide) with h | ⟨k, hk, rfl, h1, h2⟩
  · refine QOK.ref (v := nI 1) N I0 FX.refl ?_ FX.refl ?_
    · unfold D_X11_symbol
      simp only [bind_pair]
      rw [if_out h]
    · unfold D_X12_symbol
      rw [out_from N _ h, Option.bind_some, if_pos rfl, bind_pair]
  · have x1 : D_X11_symbol N 1 a (nI k) M = (D_X1_hasSymbol N g a M).bind fun q2 => (if q2 = nI 0 then D_X11_refuse N 1 (nI 4) M else (if nI k = nI 0 then ((ldI 8 (g + 4) a M).bind fun v1 => D_X11_answer N 1 v1 M) else if nI k = nI 1 then ((ldI 8 (g + 5) a M).bind fun v2 => D_X11_answer N 1 v2 M) else if nI k = nI 2 then ((D_X1_leftSides N g a M).bind fun q6 => D_X11_answer N 1 q6 M) else ((ldI 8 16 a M).bind fun v3 => (if v3 = nI 0 then D_X11_refuse N 1 (nI 7) M else ((ldI 8 16 a M).bind fun v4 => D_X11_answer N 1 v4 M))))) := by
      unfold D_X11_symbol
      simp only [bind_pair]
      rw [if_in h1 h2, rg, Option.bind_some]
      simp only [Option.bind_some]
    have y1 : ∀ M, D_X12_symbol N 137 a (nI k) M = (D_X12_isSymbol N 137 a M).bind fun q3 => (if q3 = nI 0 then D_X12_refuse N 137 (nI 4) M else (if nI 2 ≤ nI k then (if nI k = nI 2 then (L_X12_symbol_66 137 M N a N (nI 0) (nI 0)) else ((D_X12_isSelf N 137 a M).bind fun q6 => (if q6 = nI 0 then ((D_X12_laysVisits N 137 a M).bind fun M1 => (ldI 8 150 a M1).bind fun v3 => D_X12_gives N 137 v3 M1) else D_X12_refuse N 137 (nI 7) M))) else (if nI k = nI 0 then ((ldI 3816 139 ((nI 4) + a) M).bind fun v4 => D_X12_gives N 137 v4 M) else ((ldI 3816 139 ((nI 12) + a) M).bind fun v5 => D_X12_gives N 137 v5 M)))) := fun M => by
      unfold D_X12_symbol
      simp only [bind_pair]
      rw [from_yes N M hk (by decide), Option.bind_some, if_neg z10]
    rcases I0.2.2 with n0 | ⟨G, A, Gi, _, _⟩
    · exact QOK.ref (v := nI 4) N I0 FX.refl (by rw [x1, no_sym N a n0.1, Option.bind_some, if_pos rfl]) FX.refl (by rw [y1, rno_sym N a (n0.q hg hw f10).2.2.1, Option.bind_some, if_pos rfl])
    · rcases sym_A N a Gi with ⟨e1, e2⟩ | ⟨s, hs, rfl, e1, e2⟩
      · exact QOK.ref (v := nI 4) N I0 FX.refl (by rw [x1, e1, Option.bind_some, if_pos rfl]) FX.refl (by rw [y1, e2 _ (Gi.q hg f10), Option.bind_some, if_pos rfl])
      · have n8 := Gi.1.ns
        have C := Gi.2.2.1
        rw [e1, Option.bind_some, if_neg z10] at x1
        have y2 : ∀ v, D_X12_symbol N 137 (nI s) (nI k) (upI M 1 0 v) = _ := fun v => by rw [y1, e2 _ (Gi.q hg f10), Option.bind_some, if_neg z10]
        have K := fun v => (Gi.q hg f10 : GrI g G A (upI M 1 0 v))
        rcases (show k = 0 ∨ k = 1 ∨ k = 2 ∨ k = 3 by omega) with z | z | z | z <;> subst z
        · rw [if_pos rfl, ldI_n (by omega) (by omega), C.a 4 s (by omega), Option.bind_some] at x1
          refine QOK.ans (v := nI (G.i 4 s)) N I0 FX.refl x1 FX.refl ?_
          rw [y2, if_neg (by decide), if_pos rfl, nI_add, ldI_n (by omega) (by omega), ((K _).2.2.2.1.1.2.1 s hs).1, Option.bind_some]
        · rw [if_neg z10, if_pos rfl, ldI_n (by omega) (by omega), C.a 5 s (by omega), Option.bind_some] at x1
          refine QOK.ans (v := nI (G.i 5 s)) N I0 FX.refl x1 FX.refl ?_
          rw [y2, if_neg (by decide), if_neg z10, nI_add, ldI_n (by omega) (by omega), ((K _).2.2.2.1.1.2.1 s hs).2.1, Option.bind_some]
        · have l := loop_lefts N C Gi.1 (show s < 8 by omega) N 0 0 (Nat.zero_le _) (by omega) rfl
          have l : D_X1_leftSides N g (nI s) M = _ := l
          rw [if_neg (by decide), if_neg (by decide), if_pos rfl, l, Option.bind_some] at x1
          refine QOK.ans (v := nI (cnt (fun p => decide (G.i 7 (4 * p) = s)) (G.i 0 1))) N I0 FX.refl x1 FX.refl ?_
          rw [y2, if_pos (by decide), if_pos rfl]
          exact loop_rlefts N (K _).2.2.2.1 Gi.1 (by omega) N 0 0 (Nat.zero_le _) (by omega) rfl
        · have cb := cnV_0 Gi.1 Gi.hi hs
          obtain ⟨p1, p2⟩ := Gi.pl.1 s hs
          rw [if_neg (by decide), if_neg (by decide), if_neg (by decide), ldI_n (by omega) (by omega), p1, Option.bind_some, Option.bind_some] at x1
          simp only [n_eq (show cnV G A s < 2 ^ 31 by omega) (show 0 < 2 ^ 31 by decide)] at x1
          cases c : slf G A s
          · rw [if_neg (fun z => by rw [cb.1.1 z] at c; exact absurd c (by decide))] at x1
            obtain ⟨M2, v1, v2, v3, v4⟩ := r_laysVisits N (by omega) (K (nI 0)).ri (Gi.hi.ok Gi.1) hs (Gi.hi.ac Gi.1 hs c)
            refine QOK.ans (v := nI (cnV G A s)) (M2 := M2) N I0 FX.refl x1 (v4.mono fun b j z => by unfold PVs at z; unfold PQ; omega) ?_
            rw [y2, if_pos (by decide), if_neg (by decide), r_isSelf N (by omega) (K _).ri (Gi.hi.ok Gi.1) hs, c, Option.bind_some, if_pos bI_f, v1, Option.bind_some, ldI_n (by omega) (by omega), v3, Option.bind_some]
            unfold cnV
            rw [c, if_neg (by decide)]
          · rw [if_pos (cb.1.2 c)] at x1
            refine QOK.ref (v := nI 7) N I0 FX.refl x1 FX.refl ?_
            rw [y2, if_pos (by decide), if_neg (by decide), r_isSelf N (by omega) (K _).ri (Gi.hi.ok Gi.1) hs, c, Option.bind_some, if_neg (show ¬ bI true = nI 0 from z10)]
end q
