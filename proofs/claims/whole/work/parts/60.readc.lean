-- a rule's line
theorem upI_s (M : Mm) (a k : Nat) (v : Int32) : (upI M a k v).1 a k = v := by rw [up1, if_pos rfl, upd_a, if_pos rfl]
theorem bitAN {a b k : Nat} (hk : k < 32) : shr (nI a &&& (nI b ^^^ m1)) (nI k) &&& nI 1 = bI (a.testBit k && !b.testBit k) := by
  have e : (nI a &&& (nI b ^^^ m1)).toBitVec.toNat.testBit k = (a.testBit k && !b.testBit k) := by
    show (BitVec.ofNat 32 a &&& (BitVec.ofNat 32 b ^^^ BitVec.allOnes 32)).getLsbD k = _
    rw [BitVec.getLsbD_and, BitVec.getLsbD_xor, BitVec.getLsbD_allOnes, BitVec.getLsbD_ofNat, BitVec.getLsbD_ofNat]
    simp [hk]
  have q := bitI (a := (nI a &&& (nI b ^^^ m1)).toBitVec.toNat) (BitVec.isLt _) hk
  rw [← n_ofn, e] at q
  exact q
def gRul (G : Gr) (p o : Nat) : Gr := sA (gBeg (sO (sP G p) o) p o) 0
def pRule (T : List Tok) (h : Nat) (G : Gr) : RS :=
  if isNm (tk T (adv T h)) = true then
    (if fi (G.l 3) (tk T (adv T h)).2.2.2 (G.i 0 1) < G.i 0 1 then
      (match pOcc T (adv T (adv T h)) (sP G (fi (G.l 3) (tk T (adv T h)).2.2.2 (G.i 0 1))) with
      | .inl e => .inl e
      | .inr y =>
        if ((G.i 9 (fi (G.l 3) (tk T (adv T h)).2.2.2 (G.i 0 1))).testBit y.2 && !(G.i 10 (fi (G.l 3) (tk T (adv T h)).2.2.2 (G.i 0 1))).testBit y.2) = true then
          bnd (bnd (pSign T 61 (adv T y.1) (gRul G (fi (G.l 3) (tk T (adv T h)).2.2.2 (G.i 0 1)) y.2)) fun h5 G5 => pE T 8 0 h5 G5) fun h6 G6 => .inr (h6, gEnd G6 (fi (G.l 3) (tk T (adv T h)).2.2.2 (G.i 0 1)) y.2)
        else fl T y.1 5)
     else fl T (adv T h) 3)
  else fl T (adv T h) 2
theorem gRul_i (G : Gr) (p o k j : Nat) (h10 : ¬ k = 10) (h14 : ¬ k = 14) : (gRul G p o).i k j = G.i k j := by
  show (gBeg (sO (sP G p) o) p o).i k j = G.i k j
  unfold gBeg
  simp only [sI_i, h10, h14, false_and, if_false]
  rfl
theorem gRul_W {G : Gr} {p o : Nat} (h : W0 G) : W0 (gRul G p o) := by
  unfold W0
  simp (disch := omega) only [gRul_i]
  exact h
theorem gEnd_i (G : Gr) (p o k j : Nat) (h15 : ¬ k = 15) : (gEnd G p o).i k j = G.i k j := by
  unfold gEnd; simp only [sI_i, h15, false_and, if_false]
theorem gEnd_W {G : Gr} {p o : Nat} (h : W0 G) : W0 (gEnd G p o) := by
  unfold W0
  simp (disch := omega) only [gEnd_i]
  exact h
theorem m1_big : m1 = nI 4294967295 := by decide +kernel
theorem FT.R {g f : Nat} {v : Int32} {e : Nat × Nat} {M M' : Mm} (hg : g = 35 ∨ g = 52) (F : FT g e M M') : FT g e M (upI M' 7 f v) := by
  obtain ⟨a, b, c, d, d1, d2⟩ := F
  exact ⟨a, b, c.trans PF.R, d, d1, by rw [up1, if_neg (by omega)]; exact d2⟩
theorem s_readRule {n : Nat} {T : List Tok} {h g : Nat} {G : Gr} {M : Mm} (N : Nat) (hN : 2000 < N) (hT : TT n T) (hE : TE T) (hg : g = 35 ∨ g = 52) (h0 : W0 G) (hc : G.i 0 2 ≤ h) (hl : T.length ≤ 1001) (K : KS T h g G M) : RC T g M (pRule T h G) (D_X2_readRule N 7 M) := by
  obtain ⟨M1, f1, K1, g1⟩ := k_adv N hT hg K
  have b2 := h0.2.1
  unfold D_X2_readRule pRule
  rw [K.t, Option.bind_some, f1, Option.bind_some, K1.t, Option.bind_some, k_name N hT K1, Option.bind_some]
  refine RC.pre g1 ?_
  cases e1 : isNm (tk T (adv T h))
  · rw [bI_f, if_pos rfl]
    simp only [Bool.false_eq_true, Bool.true_eq_false, eq_self, if_true, if_false, not_true_eq_false, not_false_eq_true]
    exact (k_fail N 2 hT hg h0.c K1).c
  · have hw := ok63 (nm_ok hT K1.1.h e1)
    rw [bI_t, if_neg z10, K1.g hg, Option.bind_some, Option.bind_some, K1.1.v, s_findProduction N hN K1.2.1 b2 (fun j hj => ok63 (h0.2.2.2.2 j hj).1) hw, Option.bind_some, pI_n, Option.bind_some, upI_s]
    simp only [Bool.false_eq_true, Bool.true_eq_false, eq_self, if_true, if_false, not_true_eq_false, not_false_eq_true]
    generalize hp : fi (G.l 3) (tk T (adv T h)).2.2.2 (G.i 0 1) = p
    by_cases e2 : p < G.i 0 1
    · rw [fR_n e2, if_neg (n_ne_m1 (by omega)), if_pos e2]
      have K2 := K1.P (v := p) hg
      obtain ⟨M3, f3, K3, g3⟩ := k_adv N hT hg K2
      refine RC.pre (PF.R.trans g3) ?_
      rw [K2.t, Option.bind_some, f3, Option.bind_some]
      have r0 := s_positionStands (G := sP G p) N hT hg h0 e2 K3
      cases e0 : pPos T (adv T (adv T h)) (sP G p) with
      | inl e =>
        have e3 : pOcc T (adv T (adv T h)) (sP G p) = .inl e := by unfold pOcc; rw [e0]
        rw [e0] at r0; rw [e3]; obtain ⟨M', a, F, kf⟩ := r0
        exact ⟨M', by rw [a, Option.bind_some, if_pos rfl, retZ_0], F⟩
      | inr z =>
        rw [e0] at r0
        obtain ⟨ez, ez1, ez2⟩ := pPos_r e0
        subst ez
        obtain ⟨M0, a0, K00, p0, f0⟩ := r0
        have K0 : KS T (adv T (adv T h)) g (sP G p) M0 := K00
        refine RC.pre p0 ?_
        rw [a0, Option.bind_some, if_neg z10]
        have r := s_seekOcc (G := sP G p) N hN hT hg h0 e2 K0 ez1 ez2
        cases e3 : pOcc T (adv T (adv T h)) (sP G p) with
        | inl e =>
          rw [e3] at r; obtain ⟨M', a, F, kf⟩ := r
          refine ⟨_, ?_, F.R (f := 3) (v := m1) hg⟩
          rw [a, Option.bind_some, pI_n, Option.bind_some, upI_s, if_pos rfl, retZ_0]
        | inr y =>
          rw [e3] at r; obtain ⟨ho, M4, a, K4, p4⟩ := r
          obtain ⟨o1, o2, o3⟩ := pOcc_h hE K0.1.h e3
          have K5 := K4.O (v := y.2) hg
          have ka := adv_ge (T := T) (h := h)
          have ka2 := adv_ge (T := T) (h := adv T h)
          rw [a, Option.bind_some, pI_n, Option.bind_some, show (upI M4 7 3 (nI y.2)).1 7 3 = nI y.2 from K5.2.2.2.2.2.1, if_neg (n_ne_m1 (by omega)), K5.g hg, Option.bind_some, show (upI M4 7 3 (nI y.2)).1 7 2 = nI p from K5.2.2.2.2.1, ldI_n (by omega) (by omega), K5.2.1.a 9 p (by omega), Option.bind_some, Option.bind_some, ldI_n (by omega) (by omega), K5.2.1.a 10 p (by omega), Option.bind_some, bitAN ho]
          refine RC.pre (p4.trans (PF.R (f := 3) (v := nI y.2))) ?_
          show RC T g (upI M4 7 3 (nI y.2)) (if ((G.i 9 p).testBit y.2 && !(G.i 10 p).testBit y.2) = true then _ else _) (if bI ((G.i 9 p).testBit y.2 && !(G.i 10 p).testBit y.2) = nI 0 then _ else _)
          cases e4 : ((G.i 9 p).testBit y.2 && !(G.i 10 p).testBit y.2)
          · rw [bI_f, if_pos rfl, if_neg (by decide), K5.t, Option.bind_some]
            exact (k_fail (G := sO (sP G p) y.2) N 5 hT hg h0.c K5).c
          · rw [bI_t, if_neg z10, if_pos rfl, Option.bind_some]
            obtain ⟨M6, f6, C6, g6⟩ := s_beginCode (p := p) (o := y.2) N K5.2.1 (by omega) ho
            have K6 := K5.G hg C6 g6 rfl rfl rfl
            have K7 : KS T y.1 g (gRul G p y.2) (upI M6 7 4 (nI 0)) := K6.A (v := 0) hg
            obtain ⟨M8, f8, K8, g8⟩ := k_adv N hT hg K7
            rw [f6, Option.bind_some, pI_n, Option.bind_some, K7.t, Option.bind_some, f8, Option.bind_some, K8.t, Option.bind_some]
            refine RC.pre (((PF.G hg g6).trans PF.R).trans g8) ?_
            have w7 : W0 (gRul G p y.2) := gRul_W h0
            have n7 : (gRul G p y.2).i 0 2 = G.i 0 2 := gRul_i _ _ _ _ _ (by omega) (by omega)
            have n71 : (gRul G p y.2).i 0 1 = G.i 0 1 := gRul_i _ _ _ _ _ (by omega) (by omega)
            have ka3 := adv_ge (T := T) (h := y.1)
            have I8 : EI T (adv T y.1) (gRul G p y.2) := ⟨w7, by rw [n7]; omega, K8.1.h, hl, by rw [n71]; exact e2, ho⟩
            have rA := k_take (c := 61) N hT hg w7.c (by omega) K8
            -- the sign and the expression
            have rB : RI T g M8 (bnd (pSign T 61 (adv T y.1) (gRul G p y.2)) fun h5 G5 => pE T 8 0 h5 G5) ((D_X7_takeSign N 2 (nI 61) M8).bind fun q8 => ((jn (fun (p192 : Mm) => (some ((nI 0), p192))) fun J1 => (if q8.1 = nI 0 then (J1 q8.2) else ((D_X2_readE N 8 7 (nI 0) q8.2).bind fun q9 => (if q9.1 = nI 0 then (J1 q9.2) else (some ((nI 1), q9.2)))))))) := by
              refine RI.bind rA (fun M' => ?_) (fun z M' hz Kz => ?_)
              · simp only [jn, if_true]
              · simp only [jn, z10, if_false]
                have qz := pSign_D I8.2.2.1 (show (gRul G p y.2).pa ≤ 24 from Nat.zero_le _) hz
                have r := s_readE N hN hT hE hg 8 0 rfl (by omega) z.1 z.2 M' (I8.go qz.1) qz.2 Kz
                cases e5 : pE T 8 0 z.1 z.2 with
                | inl e => rw [e5] at r; obtain ⟨M', a, b⟩ := r; exact ⟨M', by rw [show D_X2_readE N 8 7 (nI 0) _ = _ from a, Option.bind_some, if_pos rfl], b⟩
                | inr z2 => rw [e5] at r; obtain ⟨M', a, b⟩ := r; exact ⟨M', by rw [show D_X2_readE N 8 7 (nI 0) _ = _ from a, Option.bind_some, if_neg z10], b⟩
            have e72 : M8.1 7 2 = nI p := K8.2.2.2.2.1
            have e73 : M8.1 7 3 = nI y.2 := K8.2.2.2.2.2.1
            rw [← Option.bind_assoc]
            cases e5 : bnd (pSign T 61 (adv T y.1) (gRul G p y.2)) fun h5 G5 => pE T 8 0 h5 G5 with
            | inl e =>
              rw [e5] at rB; obtain ⟨M9, a9, F9, kf9⟩ := rB
              have rg : rf M9 7 1 1 = some g := by
                unfold rf; rw [F9.2.2.1.2.1, K8.2.2.2.1]; rcases hg with e | e <;> subst e <;> rfl
              obtain ⟨G9, C9, _⟩ := CG_ex g M9 0 0 0
              obtain ⟨M10, f10, C10, g10⟩ := s_endCode (p := p) (o := y.2) N C9 (by omega) ho
              rw [a9, Option.bind_some, rg, Option.bind_some, kf9.1, kf9.2, e72, e73, f10, Option.bind_some, retZ_0]
              refine ⟨M10, rfl, ?_⟩
              obtain ⟨x1, x2, x3, x4, x5, x6⟩ := F9
              have y2 := g10.1 2 (by rcases hg with e | e <;> subst e <;> unfold SG <;> omega)
              refine ⟨by rw [y2.1]; exact x1, by rw [y2.1]; exact x2, x3.trans (PF.G hg g10), x4, x5, ?_⟩
              rw [C10.f 2, gEnd_i _ _ _ _ _ (by omega), ← C9.f 2]; exact x6
            | inr z =>
              rw [e5] at rB; obtain ⟨M9, a9, K9, p9, kf9⟩ := rB
              obtain ⟨M10, f10, C10, g10⟩ := s_endCode (p := p) (o := y.2) N K9.2.1 (by omega) ho
              rw [a9, Option.bind_some, K9.g hg, Option.bind_some, kf9.1, kf9.2, e72, e73, f10, Option.bind_some, retZ_1]
              exact ⟨M10, rfl, K9.G hg C10 g10 rfl rfl rfl, p9.trans (PF.G hg g10)⟩
    · rw [fR_m e2, if_pos rfl, if_neg e2]
      have K2 := K1.P (v := 4294967295) hg
      rw [← m1_big] at K2
      refine RC.pre (PF.R (f := 2) (v := m1)) ?_
      rw [K2.t, Option.bind_some]
      exact (k_fail (G := sP G 4294967295) N 3 hT hg h0.c K2).c
