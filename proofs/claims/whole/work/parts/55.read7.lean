-- a leaf, class
theorem k_addCode {T : List Tok} {h g v : Nat} {G : Gr} {M : Mm} (N : Nat) (hg : g = 35 ∨ g = 52) (hc : G.i 0 2 < 1000) (K : KS T h g G M) : ∃ M', D_X1_addCode N g (nI v) M = some M' ∧ KS T h g (gCod G v) M' ∧ PF g M M' := by
  obtain ⟨M', f, C, fr⟩ := s_addCode (v := v) N K.2.1 hc
  exact ⟨M', f, K.G hg C fr rfl rfl rfl, PF.G hg fr⟩
theorem k_leafEnd {n : Nat} {T : List Tok} {h g v : Nat} {G : Gr} {M : Mm} (N : Nat) (hT : TT n T) (hg : g = 35 ∨ g = 52) (hc : G.i 0 2 < 1000) (K : KS T h g G M) : RI T g M (.inr (adv T h, gCod G v)) ((rf M 7 1 1).bind fun r2 => (D_X1_addCode N r2 (nI v) M).bind fun M5 => (rf M5 7 0 7).bind fun r3 => (D_X7_advance N r3 M5).bind fun M6 => retZ (nI 1) M6) := by
  obtain ⟨M1, f1, K1, p1⟩ := k_addCode (v := v) N hg hc K
  obtain ⟨M2, f2, K2, p2⟩ := k_adv N hT hg K1
  rw [K.g hg, Option.bind_some, f1, Option.bind_some, K1.t, Option.bind_some, f2, Option.bind_some, retZ_1]
  exact ⟨M2, rfl, K2, p1.trans p2, KF.S K K2 rfl rfl⟩
theorem pOcc_sA (T : List Tok) (h : Nat) (G : Gr) (v : Nat) : pOcc T h (sA G v) = pOcc T h G := by
  unfold pOcc pPos attN
  simp only [show (sA G v).i = G.i from rfl, show (sA G v).l = G.l from rfl, show (sA G v).cp = G.cp from rfl]
  by_cases a : (tk T h).1 = 2
  · simp only [a, if_true]
    by_cases b : (tk T h).2.2.2 < G.i 6 G.cp
    · simp only [b, if_true]
    · simp only [b, if_false, fl]
  · simp only [a, if_false, fl]
theorem s_readLeaf {n : Nat} {T : List Tok} {h g : Nat} {G : Gr} {M : Mm} (N : Nat) (hN : 2000 < N) (hT : TT n T) (hE : TE T) (hg : g = 35 ∨ g = 52) (hI : EI T h G) (ha : G.pa ≤ 24) (K : KS T h g G M) : RI T g M (pLeaf T h G) (D_X2_readLeaf N 7 M) := by
  obtain ⟨w, i1, i2, i3, i4, i5⟩ := hI
  have hcp : G.cp < 12 := by have := w.2.1; omega
  have hk := (hT.w h K.1.h).1
  have KA := K.A (v := G.pa + 1) hg
  have pA : PF g M (upI M 7 4 (nI (G.pa + 1))) := PF.R
  have fA : KF M (upI M 7 4 (nI (G.pa + 1))) := KF.S K KA rfl rfl
  have e4 : M.1 7 4 = nI G.pa := K.2.2.2.2.2.2
  unfold D_X2_readLeaf pLeaf
  rw [K.t, Option.bind_some, k_word N hT K (show 15021 < 2 ^ 63 by decide), Option.bind_some]
  have ek : M.1 2 7 = nI (tk T h).1 := K.1.2.2.2.2.1
  by_cases e1 : isWd T h 15021
  · have hn := hE h i2 (by have := e1.1; omega)
    rw [if_pos e1, decide_eq_true e1, bI_t]
    simp only [z10, jn, if_true, if_false, Option.bind_some, e4, n_lt (show G.pa < 2 ^ 31 by omega) (show 24 < 2 ^ 31 by omega), pI_n, nI_add]
    by_cases e2 : G.pa < 24
    · simp (disch := omega) only [e2, if_true, KA.g hg, Option.bind_some, KA.2.2.2.2.1, KA.2.2.2.2.2.1, show (sA G (G.pa + 1)).cp = G.cp from rfl, show (sA G (G.pa + 1)).co = G.co from rfl, ldI_n, KA.2.1.a, stI_n, n_or, n_shl, Nat.one_mul]
      have C3 := KA.2.1.I 11 G.cp (G.i 11 G.cp ||| 2 ^ G.co)
      have g3 : FG g (upI M 7 4 (nI (G.pa + 1))) (upI (upI M 7 4 (nI (G.pa + 1))) (g + 11) G.cp (nI (G.i 11 G.cp ||| 2 ^ G.co))) := FG.I (by omega)
      have K3 : KS T h g (gAw (sA G (G.pa + 1))) _ := KA.G hg C3 g3 rfl rfl rfl
      refine RI.pre (pA.trans (PF.G hg g3)) (KF.S K K3 rfl rfl) ?_
      exact k_leafEnd N hT hg (by have : (gAw (sA G (G.pa + 1))).i 0 2 = G.i 0 2 := by unfold gAw; simp only [sI_i, Nat.reduceEqDiff, false_and, if_false]; rfl
                                  omega) K3
    · simp only [e2, if_false]
      rw [K.t]
      exact k_fail N 6 hT hg w.c K
  · rw [if_neg e1, decide_eq_false e1, bI_f]
    have e22 : (nI (tk T h).1 = nI 2) = ((tk T h).1 = 2) := n_eq (by omega) (by omega)
    simp only [if_true, jn, Option.bind_some, ek, e22]
    by_cases e2 : (tk T h).1 = 2
    · have hn := hE h i2 (by omega)
      have hpf := s_pointFollows N K.1 hT.w (fun j hj => hT.c3 hj)
      simp only [e2, if_true]
      rw [hpf, Option.bind_some]
      unfold pLeafN
      by_cases e3 : pf T h
      · rw [if_pos e3, decide_eq_true e3, bI_t]
        simp only [Option.bind_some, z10, if_false]
        have r1 := s_positionStands N hT hg w i4 K
        cases e0 : pPos T h G with
        | inl e =>
          rw [e0] at r1
          obtain ⟨M', a, b⟩ := r1
          rw [a]
          exact ⟨M', by rw [Option.bind_some, if_pos rfl, retZ_0], b⟩
        | inr z =>
          rw [e0] at r1
          obtain ⟨ez, ez1, ez2⟩ := pPos_r e0
          subst ez
          obtain ⟨M0, a, K00, p0, f0⟩ := r1
          have K0 : KS T h g G M0 := K00
          have e40 : M0.1 7 4 = nI G.pa := K0.2.2.2.2.2.2
          have KB := K0.A (v := G.pa + 1) hg
          refine RI.pre p0 f0 ?_
          simp only [a, Option.bind_some, z10, if_false, e40, n_lt (show G.pa < 2 ^ 31 by omega) (show 24 < 2 ^ 31 by omega), pI_n, nI_add, KB.t]
          by_cases e5 : G.pa < 24
          · simp only [e5, if_true]
            have r2 := s_seekOcc N hN hT hg (G := sA G (G.pa + 1)) w i4 KB ez1 ez2
            rw [pOcc_sA] at r2
            cases e6 : pOcc T h G with
            | inl e =>
              rw [e6] at r2
              obtain ⟨M', a, b, c⟩ := r2
              rw [a]
              exact ⟨M', by rw [Option.bind_some, if_pos rfl, retZ_0], b.pre PF.R, (KF.S K0 KB rfl rfl).trans c⟩
            | inr y =>
              rw [e6] at r2
              obtain ⟨ho, M1, a1, K1, p1⟩ := r2
              obtain ⟨o1, o2, o3⟩ := pOcc_h hE i2 e6
              obtain ⟨M2, f2, C2, g2⟩ := s_addAsk (q := y.2) N K1.2.1 hcp i5 ho
              have K2 := K1.G hg C2 g2 rfl rfl rfl
              refine RI.pre ((PF.R.trans p1).trans (PF.G hg g2)) (KF.S K0 K2 rfl rfl) ?_
              simp only [a1, Option.bind_some, n_ne_m1 (show y.2 < 2 ^ 31 by omega), if_false, K1.g hg, K1.2.2.2.2.1, K1.2.2.2.2.2.1, show (sA G (G.pa + 1)).cp = G.cp from rfl, show (sA G (G.pa + 1)).co = G.co from rfl, f2, nI_add]
              exact k_leafEnd N hT hg (by have : (gAsk (sA G (G.pa + 1)) G.cp G.co y.2).i 0 2 = G.i 0 2 := by unfold gAsk; simp only [sI_i, Nat.reduceEqDiff, false_and, if_false]; rfl
                                          omega) K2
          · simp only [e5, if_false]
            rw [K0.t]
            exact k_fail N 6 hT hg w.c K0
      · rw [if_neg e3, decide_eq_false e3, bI_f]
        simp only [if_true, Option.bind_some, e4, n_lt (show G.pa < 2 ^ 31 by omega) (show 24 < 2 ^ 31 by omega), pI_n, nI_add, KA.t, KA.1.v, l_to]
        by_cases e5 : G.pa < 24
        · simp only [e5, if_true]
          refine RI.pre pA fA ?_
          exact k_leafEnd N hT hg (by show G.i 0 2 < 1000; omega) KA
        · simp only [e5, if_false]
          rw [K.t]
          exact k_fail N 6 hT hg w.c K
    · simp only [e2, if_false]
      exact k_fail N 2 hT hg w.c K
