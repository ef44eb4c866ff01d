-- the reference: a leaf
theorem RK.fld {B : Nat → Nat} {n h sy pr e f : Nat} {T : List Tok} {G : Gr} {v : Int32} {M : Mm} (K : RK B n T h G sy pr e M) (hf : 19 ≤ f ∧ f ≤ 21) : RK B n T h G sy pr e (upI M 137 f v) := by
  have f1 : FX (fun a j => a = 137 ∧ j = f) M (upI M 137 f v) := FX.I ⟨rfl, rfl⟩
  exact ⟨K.1.fx f1 (fun j q => by omega) (fun j hj q => by omega), K.2.1.eq (by rw [up1, if_neg (by decide)]) rfl, (f1.2 137 16 (by omega)).1.trans K.2.2.1, (f1.2 137 17 (by omega)).1.trans K.2.2.2⟩
theorem FX.f {f : Nat} {v : Int32} {M : Mm} (hf : 19 ≤ f ∧ f ≤ 21) : FX PR M (upI M 137 f v) := FX.I (Or.inl ⟨rfl, by omega⟩)
theorem QE.next {B : Nat → Nat} {n h h' : Nat} {T : List Tok} {G G' : Gr} {M M' : Mm} (q : QE B n T h G M) (s : Se G G') (z : (∀ i, ¬ i = 32 * G.cp + G.co → G'.i 12 i = G.i 12 i) ∧ ∀ i, 32 * G.i 0 1 ≤ i → G'.i 13 i = G.i 13 i) (K' : RK B n T h' G' (G.i 0 0) (G.i 0 1) (32 * G.cp + G.co) M') (h20 : M'.1 137 20 = nI G'.pa) (h21 : M'.1 137 21 = nI (G'.i 12 (32 * G.cp + G.co))) (hcp : G.cp < G.i 0 1 ∧ G.co < 32) : QE B n T h' G' M' := by
  obtain ⟨_, _, _, hz, h4, hs, hb⟩ := q
  obtain ⟨s1, s2, s3, s4, s5, s6⟩ := s
  have ht : ∀ i, tdB G' i = tdB G i := fun i => by unfold tdB; rw [s1 10 _ (by omega) (by omega) (by omega) (by omega) (by omega)]
  unfold QE
  rw [s2, s3, s5, s6, s1 6 _ (by omega) (by omega) (by omega) (by omega) (by omega), ht]
  refine ⟨K', h20, h21, fun i i1 i2 => ?_, h4.eq s3 fun k j k1 k2 => s1 k j (by omega) (by omega) (by omega) (by omega) (by omega), hs, hb⟩
  rw [ht] at i1
  obtain ⟨z1, z2, z3, z4⟩ := hz i i1 i2
  rw [s1 14 _ (by omega) (by omega) (by omega) (by omega) (by omega), s1 15 _ (by omega) (by omega) (by omega) (by omega) (by omega)]
  refine ⟨z1, z2, ?_, fun q => (z.2 i q).trans (z4 q)⟩
  rw [z.1 i]
  · exact z3
  · intro e
    rcases i1 with a | a
    · rw [e] at a; have := hcp.1; have := hcp.2; omega
    · rw [e, hb] at a; cases a
theorem EI.nc {T : List Tok} {h : Nat} {G : Gr} (a : EI T h G) (hE : TE T) (hk : ¬ (tk T h).1 = 0) : G.i 0 2 < 1000 := by
  have h1 := hE h a.2.2.1 hk
  have h2 := a.2.1
  have h3 := a.2.2.2.1
  omega
theorem v_readNumber {B : Nat → Nat} {n h : Nat} {T : List Tok} {G : Gr} {M : Mm} (N : Nat) (hN : 2000 < N) (q : QE B n T h G M) (hI : EI T h G) (ha : G.pa ≤ 24) (e2 : (tk T h).1 = 2) : RV (QE B n T) M (pLeafN T h G) (D_X12_readNumber N 137 (nI G.cp) M) := by
  have q' := q
  obtain ⟨K, h20, h21, hz, h4, hs, hb⟩ := q
  have hE := K.1.t.2.1
  have hcp := hI.2.2.2.2.1
  have hco := hI.2.2.2.2.2
  have n12 := hI.1.2.1
  have hnc := hI.nc hE (show ¬ (tk T h).1 = 0 by omega)
  have hv := (K.1.t.1.g K.1.h).2.2.2.1 e2
  have hadv : adv T h = h + 1 := hE.adv K.1.h (by omega)
  have hnx := hE h K.1.h (show ¬ (tk T h).1 = 0 by omega)
  obtain ⟨M1, g1, K1, p1, u1⟩ := K.go N hN
  have m20 : M1.1 137 20 = nI G.pa := (u1.2.2.1 20 (by omega)).trans h20
  have m21 : M1.1 137 21 = nI (G.i 12 (32 * G.cp + G.co)) := (u1.2.2.1 21 (by omega)).trans h21
  unfold D_X12_readNumber pLeafN
  rw [Option.bind_some, Option.bind_some, g1, Option.bind_some, r_isSign N K1.1 (by omega), Option.bind_some, K.1.2.2.2.2.2.2.2.1 e2, K.1.2.2.2.2.1]
  have hpf : pf T h ↔ isSn T (adv T h) 46 := by rw [hadv]; exact ⟨fun q => q.2, fun q => ⟨hnx, q⟩⟩
  have e24 : (nI G.pa = nI 24) = (G.pa = 24) := n_eq (by omega) (by omega)
  have flk : ∀ y, fl T h y = .inl (y, (tk T h).2.1) := fun y => by unfold fl; rw [if_neg (by omega)]
  refine RV.pre p1 ?_
  by_cases e3 : isSn T (adv T h) 46
  · rw [if_pos (hpf.mpr e3), decide_eq_true e3, bI_t, if_neg z10, show (137 : Nat) + 3 = 140 from rfl, r_isPosition N len140 K1.2.1 hI.1 hcp hs (by omega), Option.bind_some]
    unfold pPos
    rw [if_pos e2]
    by_cases e4 : (tk T h).2.2.2 < G.i 6 G.cp
    · rw [if_pos e4, decide_eq_true e4, bI_t, if_neg z10, m20]
      simp only [e24]
      by_cases e5 : G.pa < 24
      · rw [if_pos e5, if_neg (by omega)]
        have epos : pPos T h G = .inr (h, G) := by unfold pPos; rw [if_pos e2, if_pos e4]
        rw [pOcc_N epos]
        have r := v_readOccName N hN K1 hI.1 hcp e4
        show RV _ M1 (match pON T (adv T h) G.cp (posK T h) G with | .inl e => Sum.inl e | .inr y => Sum.inr (adv T y.1, gCod (gAsk (sA G (G.pa + 1)) G.cp G.co y.2) (10000 + y.2))) _
        have r' : ROr B n T G (G.i 0 0) (G.i 0 1) (32 * G.cp + G.co) M1 (pON T (adv T h) G.cp (posK T h) G) (D_X12_readOccName N 137 (nI G.cp) (nI (tk T h).2.2.2) M1) := r
        cases e6 : pON T (adv T h) G.cp (posK T h) G with
        | inl er =>
          rw [e6] at r'
          obtain ⟨M2, a2, b2, c2⟩ := r'
          exact ⟨M2, by rw [a2, Option.bind_some, if_pos rfl, retZ_0], b2, c2⟩
        | inr y =>
          rw [e6] at r'
          obtain ⟨M2, a2, K2, m19, hy, p2⟩ := r'
          have m20' : M2.1 137 20 = nI G.pa := (p2.2 137 20 (by unfold PO; omega)).1.trans m20
          have m21' : M2.1 137 21 = nI (G.i 12 (32 * G.cp + G.co)) := (p2.2 137 21 (by unfold PO; omega)).1.trans m21
          rw [a2, Option.bind_some, if_neg z10, m20', nI_add, pI_n, Option.bind_some]
          have i21 : (upI M2 137 20 (nI (G.pa + 1))).1 137 21 = nI (G.i 12 (32 * G.cp + G.co)) := by rw [upI_j, if_neg (by omega)]; exact m21'
          have i19 : (upI M2 137 20 (nI (G.pa + 1))).1 137 19 = nI y.2 := by rw [upI_j, if_neg (by omega)]; exact m19
          rw [i21, i19, n_shl 1 (show y.2 < 32 by omega), Nat.one_mul, n_or, pI_n, Option.bind_some]
          have i19' : (upI (upI M2 137 20 (nI (G.pa + 1))) 137 21 (nI (G.i 12 (32 * G.cp + G.co) ||| 2 ^ y.2))).1 137 19 = nI y.2 := by rw [upI_j, if_neg (by omega)]; exact i19
          rw [i19']
          have K3 := (K2.fld (f := 20) (v := nI (G.pa + 1)) (by omega)).fld (f := 21) (v := nI (G.i 12 (32 * G.cp + G.co) ||| 2 ^ y.2)) (by omega)
          have K4 : RK B n T y.1 (gAsk (sA G (G.pa + 1)) G.cp G.co y.2) (G.i 0 0) (G.i 0 1) (32 * G.cp + G.co) _ := ⟨K3.1, K3.2.1.same (fun k j k1 k2 k3 => by
            by_cases c : k = 12
            · subst c; rw [gAsk_12, if_neg (k3 rfl)]; rfl
            · unfold gAsk; simp only [sI_i, c, k2, false_and, if_false]; rfl) rfl, K3.2.2⟩
          have w4 : W0 (gAsk (sA G (G.pa + 1)) G.cp G.co y.2) := W0_Se hI.1 ((sA_S _ _).trans (gAsk_S _ _ _ _)) (by
            have : (gAsk (sA G (G.pa + 1)) G.cp G.co y.2).i 0 2 = G.i 0 2 := by unfold gAsk; simp only [sI_i, Nat.reduceEqDiff, false_and, if_false]; rfl
            omega)
          have nc4 : (gAsk (sA G (G.pa + 1)) G.cp G.co y.2).i 0 2 < 1000 := by
            have : (gAsk (sA G (G.pa + 1)) G.cp G.co y.2).i 0 2 = G.i 0 2 := by unfold gAsk; simp only [sI_i, Nat.reduceEqDiff, false_and, if_false]; rfl
            omega
          obtain ⟨M5, a5, K5, f5⟩ := v_codes (v := 10000 + y.2) N K4 w4 n12 nc4 (show cR (10000 + y.2) = (2, y.2) by unfold cR; rw [if_neg (by omega), if_pos (by omega), Nat.add_sub_cancel_left])
          rw [a5, Option.bind_some]
          obtain ⟨M6, a6, K6, p6, u6⟩ := K5.go N hN
          rw [a6, Option.bind_some, retZ_1]
          refine ⟨M6, rfl, q'.next (((sA_S _ _).trans (gAsk_S _ _ _ _)).trans (gCod_S _ _)) ⟨fun i hi => ?_, fun i hi => ?_⟩ K6 ?_ ?_ ⟨hcp, hco⟩, (((p2.pp.trans (FX.f (by omega))).trans (FX.f (by omega))).trans f5.r).trans p6⟩
          · rw [gCod_ak, gAsk_12, if_neg hi]; rfl
          · rw [gCod_ab, gAsk_13, if_neg (by omega)]; rfl
          · rw [u6.2.2.1 20 (by omega), f5.o, upI_j, if_neg (by omega), upI_j, if_pos rfl]; rfl
          · rw [u6.2.2.1 21 (by omega), f5.o, upI_j, if_pos rfl, gCod_ak, gAsk_12, if_pos rfl]; rfl
      · rw [if_neg e5, if_pos (by omega), flk]
        obtain ⟨M2, a2, b2, c2⟩ := r_badAt N 6 (tk T h).2.1 M1
        exact ⟨M2, by rw [a2, Option.bind_some, retZ_0], b2, c2.pr⟩
    · rw [if_neg e4, decide_eq_false e4, bI_f, if_pos rfl, flk]
      obtain ⟨M2, a2, b2, c2⟩ := r_badAt N 3 (tk T h).2.1 M1
      exact ⟨M2, by rw [a2, Option.bind_some, retZ_0], b2, c2.pr⟩
  · rw [if_neg (fun q => e3 (hpf.mp q)), decide_eq_false e3, bI_f, if_pos rfl, m20]
    simp only [e24]
    by_cases e5 : G.pa < 24
    · rw [if_pos e5, if_neg (by omega), nI_add, pI_n, Option.bind_some]
      have K2 := K1.fld (f := 20) (v := nI (G.pa + 1)) (by omega)
      have K3 : RK B n T (adv T h) (sA G (G.pa + 1)) (G.i 0 0) (G.i 0 1) (32 * G.cp + G.co) _ := ⟨K2.1, K2.2.1.same (fun _ _ _ _ _ => rfl) rfl, K2.2.2⟩
      obtain ⟨M5, a5, K5, f5⟩ := v_codes (v := (tk T h).2.2.2) N K3 (show W0 (sA G (G.pa + 1)) from hI.1) n12 hnc (show cR (tk T h).2.2.2 = (0, (tk T h).2.2.2) by unfold cR; rw [if_pos (by omega)])
      rw [a5, Option.bind_some, retZ_1]
      refine ⟨M5, rfl, q'.next ((sA_S _ _).trans (gCod_S _ _)) ⟨fun i hi => gCod_ak _ _ _, fun i hi => gCod_ab _ _ _⟩ K5 ?_ ?_ ⟨hcp, hco⟩, (FX.f (by omega)).trans f5.r⟩
      · rw [f5.o, upI_j, if_pos rfl]; rfl
      · rw [f5.o, upI_j, if_neg (by omega), gCod_ak]; exact m21
    · rw [if_neg e5, if_pos (by omega), flk]
      obtain ⟨M2, a2, b2, c2⟩ := r_badAt N 6 (tk T h).2.1 M1
      exact ⟨M2, by rw [a2, Option.bind_some, retZ_0], b2, c2.pr⟩
theorem v_num {B : Nat → Nat} {n h : Nat} {T : List Tok} {G : Gr} {M : Mm} (N : Nat) (hN : 2000 < N) (q : QE B n T h G M) (hI : EI T h G) (ha : G.pa ≤ 24) (e1 : isWd T h 15021) : RV (QE B n T) M (if G.pa < 24 then .inr (adv T h, gCod (gAw (sA G (G.pa + 1))) 20000) else fl T h 6) (if (M.1 137 20) = (nI 24) then ((D_X12_bad N 137 (nI 6) M).bind fun q14 => retZ q14.1 q14.2) else ((pI M 137 20 ((M.1 137 20) + (nI 1))).bind fun M6 => (D_X12_codes N 137 (nI 1) (nI 0) M6).bind fun M7 => (D_X12_go N 137 M7).bind fun M8 => retZ (nI 1) M8)) := by
  have q' := q
  obtain ⟨K, h20, h21, hz, h4, hs, hb⟩ := q
  have hE := K.1.t.2.1
  have n12 := hI.1.2.1
  have hnc := hI.nc hE (show ¬ (tk T h).1 = 0 by have := e1.1; omega)
  have e24 : (nI G.pa = nI 24) = (G.pa = 24) := n_eq (by omega) (by omega)
  rw [h20]
  simp only [e24]
  by_cases e5 : G.pa < 24
  · rw [if_pos e5, if_neg (by omega), nI_add, pI_n, Option.bind_some]
    have K2 := K.fld (f := 20) (v := nI (G.pa + 1)) (by omega)
    have K3 : RK B n T h (gAw (sA G (G.pa + 1))) (G.i 0 0) (G.i 0 1) (32 * G.cp + G.co) _ := ⟨K2.1, K2.2.1.same (fun k j k1 _ _ => by unfold gAw; simp only [sI_i, k1, false_and, if_false]; rfl) rfl, K2.2.2⟩
    have nc3 : (gAw (sA G (G.pa + 1))).i 0 2 = G.i 0 2 := by unfold gAw; simp only [sI_i, Nat.reduceEqDiff, false_and, if_false]; rfl
    have w3 : W0 (gAw (sA G (G.pa + 1))) := W0_Se hI.1 ((sA_S _ _).trans (gAw_S _)) (by omega)
    obtain ⟨M5, a5, K5, f5⟩ := v_codes (v := 20000) N K3 w3 n12 (by omega) (show cR 20000 = (1, 0) from rfl)
    obtain ⟨M6, a6, K6, p6, u6⟩ := K5.go N hN
    rw [a5, Option.bind_some, a6, Option.bind_some, retZ_1]
    have e12 : ∀ k j, ¬ k = 11 → (gAw (sA G (G.pa + 1))).i k j = G.i k j := fun k j hk => by unfold gAw; simp only [sI_i, hk, false_and, if_false]; rfl
    refine ⟨M6, rfl, q'.next (((sA_S _ _).trans (gAw_S _)).trans (gCod_S _ _)) ⟨fun i hi => by rw [gCod_ak, e12 12 _ (by omega)], fun i hi => by rw [gCod_ab, e12 13 _ (by omega)]⟩ K6 ?_ ?_ ⟨hI.2.2.2.2.1, hI.2.2.2.2.2⟩, ((FX.f (by omega)).trans f5.r).trans p6⟩
    · rw [u6.2.2.1 20 (by omega), f5.o, upI_j, if_pos rfl]; rfl
    · rw [u6.2.2.1 21 (by omega), f5.o, upI_j, if_neg (by omega), gCod_ak, e12 12 _ (by omega)]; exact h21
  · rw [if_neg e5, if_pos (by omega)]
    exact v_bad N K.1
