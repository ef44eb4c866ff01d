theorem s_readPart {n : Nat} {T : List Tok} {h g d : Nat} {G : Gr} {M : Mm} {rcS : Nat → Gr → RS} {rcC : Nat → Int32 → Mm → Option (Int32 × Mm)} (N : Nat) (hN : 2000 < N) (hT : TT n T) (hE : TE T) (hg : g = 35 ∨ g = 52) (hD : DR T rcS) (hrc : d < 6 → RR T g rcS (fun M => rcC 7 (nI (d + 1)) M)) (hd : d < 100) (hI : EI T h G) (ha : G.pa ≤ 24) (K : KS T h g G M) : RI T g M (pPart T rcS d h G) (D_X2_readPart N rcC 7 (nI d) M) := by
  unfold D_X2_readPart pPart
  rw [K.t, Option.bind_some, k_sign N hT K (show 40 < 2 ^ 31 by decide), Option.bind_some]
  have back : ∀ {M0 : Mm} {r : RS} {x : Option (Int32 × Mm)}, RI T g M0 r x → RI T g M0 r (x.bind fun q => retZ q.1 q.2) := fun {M0 r x} hx => by
    cases r with
    | inl e => obtain ⟨M', a, b⟩ := hx; exact ⟨M', by rw [a, Option.bind_some, retZ_0], b⟩
    | inr y => obtain ⟨M', a, b⟩ := hx; exact ⟨M', by rw [a, Option.bind_some, retZ_1], b⟩
  by_cases e1 : isSn T h 40
  · rw [if_pos e1, decide_eq_true e1, bI_t, if_neg z10]
    exact back (s_readBracket N hN hT hg hD hrc (by omega) (by omega) hd hI ha K)
  · rw [if_neg e1, decide_eq_false e1, bI_f, if_pos rfl, Option.bind_some, k_word N hT K (show 294 < 2 ^ 63 by decide), Option.bind_some]
    by_cases e2 : isWd T h 294
    · rw [if_pos e2, decide_eq_true e2, bI_t, if_neg z10]
      obtain ⟨M1, f1, K1, p1⟩ := k_adv N hT hg K
      have hadv := hE.adv hI.2.2.1 (show ¬ (tk T h).1 = 0 by have := e2.1; omega)
      rw [Option.bind_some, f1, Option.bind_some]
      refine RI.pre p1 (KF.S K K1 rfl rfl) ?_
      have r := s_readBracket (many := 3) N hN hT hg hD hrc (by omega) (by omega) hd hI.adv ha K1
      cases e3 : pBr T rcS d 3 (adv T h) G with
      | inl e =>
        rw [e3] at r; obtain ⟨M', a, F, kf⟩ := r
        obtain ⟨c1, M2, c2, c3, c4⟩ := FT_code (v := 40000) N hg K1 F kf
        refine ⟨M2, ?_, c3, c4⟩
        rw [a, Option.bind_some, c1, Option.bind_some, c2, Option.bind_some, retZ_0]
      | inr z =>
        rw [e3] at r; obtain ⟨M2, a, K2, p2, f2⟩ := r
        have q := pBr_D hD hI.adv.2.2.1 ha e3
        have I2 := hI.adv.go q.1
        have hc : z.2.i 0 2 < 1000 := by
          have h1 := q.1.2.1; have h2 := hI.2.1; have h3 := q.1.2.2.2; have h4 := hI.2.2.2.1
          rw [hadv] at h1; omega
        obtain ⟨M3, f3, K3, p3⟩ := k_addCode (v := 40000) N hg hc K2
        refine ⟨M3, ?_, K3, p2.trans p3, f2.trans (KF.S K2 K3 rfl rfl)⟩
        rw [a, Option.bind_some, K2.g hg, Option.bind_some, f3, Option.bind_some, retZ_1]
    · rw [if_neg e2, decide_eq_false e2, bI_f, if_pos rfl]
      exact back (s_readLeaf N hN hT hE hg hI ha K)
theorem loop_readE {n : Nat} {T : List Tok} {g d : Nat} {rcS : Nat → Gr → RS} {rcC : Nat → Int32 → Mm → Option (Int32 × Mm)} (N : Nat) (hN : 2000 < N) (hT : TT n T) (hE : TE T) (hg : g = 35 ∨ g = 52) (hD : DR T rcS) (hrc : d < 6 → RR T g rcS (fun M => rcC 7 (nI (d + 1)) M)) (hd : d < 100) : ∀ (m k j : Nat) (M : Mm) (h : Nat) (G : Gr), m + j = 1000 → 1000 < j + k → EI T h G → G.pa ≤ 24 → KS T h g G M → RI T g M (pEL T rcS d m (.inr (h, G))) (L_X2_readE_8 N 7 rcC (nI d) k (nI 1) (nI j) M)
  | m, 0, j, M, h, G, e1, e2, _, _, _ => by omega
  | 0, k + 1, j, M, h, G, e1, e2, hI, ha, K => by
    have ej : j = 1000 := by omega
    subst ej
    exact ⟨M, rfl, K, PF.refl, rfl, rfl⟩
  | m + 1, k + 1, j, M, h, G, e1, e2, hI, ha, K => by
    have hloop : ∀ M' , L_X2_readE_8 N 7 rcC (nI d) k (nI 0) (nI (j + 1)) M' = some (nI 0, M') := fun M' => by
      cases k with
      | zero => omega
      | succ k =>
        show (if nI 1000 ≤ nI (j + 1) then retZ (nI 0) M' else (if nI 0 = nI 0 then retZ (nI 0) M' else _)) = _
        rw [if_pos rfl, ite_self, retZ_0]
    show RI T g M (match opAt T h with
      | none => .inr (h, G)
      | some v => pEL T rcS d m (bnd (pPart T rcS d (adv T h) G) fun h' G' => .inr (h', gCod G' (30000 + v)))) (if nI 1000 ≤ nI j then retZ (nI 1) M else (if nI 1 = nI 0 then retZ (nI 1) M else ((D_X2_operatorHere N 7 M).bind fun q2 => (if q2 = m1 then (retZ (nI 1) M) else ((rf M 7 0 7).bind fun r1 => (D_X7_advance N r1 M).bind fun M2 => (D_X2_readPart N rcC 7 (nI d) M2).bind fun q3 => (rf q3.2 7 1 1).bind fun r2 => (D_X1_addCode N r2 ((nI 30000) + q2) q3.2).bind fun M3 => (some (nI j + (nI 1))).bind fun l3_2 => (L_X2_readE_8 N 7 rcC (nI d) k q3.1 l3_2 M3))))))
    have hmj : ¬ nI 1000 ≤ nI j := by rw [n_le (by omega) (by omega)]; omega
    rw [if_neg hmj, if_neg z10, s_operatorHere N hT K, Option.bind_some]
    cases e3 : opAt T h with
    | none =>
      show RI T g M (.inr (h, G)) (if m1 = m1 then _ else _)
      rw [if_pos rfl, retZ_1]
      exact ⟨M, rfl, K, PF.refl, rfl, rfl⟩
    | some v =>
      obtain ⟨ek, hv⟩ := opAt_k e3
      have hadv := hE.adv hI.2.2.1 ek
      obtain ⟨M1, f1, K1, p1⟩ := k_adv N hT hg K
      have hm : ¬ oR (some v) = m1 := n_ne_m1 (show v < 2 ^ 31 by omega)
      rw [if_neg hm, K.t, Option.bind_some, f1, Option.bind_some]
      refine RI.pre p1 (KF.S K K1 rfl rfl) ?_
      show RI T g M1 (pEL T rcS d m (bnd (pPart T rcS d (adv T h) G) fun h' G' => .inr (h', gCod G' (30000 + v)))) _
      have r := s_readPart N hN hT hE hg hD hrc hd hI.adv ha K1
      have hcode : nI 30000 + oR (some v) = nI (30000 + v) := nI_add 30000 v
      rw [hcode]
      cases e4 : pPart T rcS d (adv T h) G with
      | inl e =>
        rw [e4] at r; obtain ⟨M', a, F, kf⟩ := r
        obtain ⟨c1, M2, c2, c3, c4⟩ := FT_code (v := 30000 + v) N hg K1 F kf
        show RI T g M1 (pEL T rcS d m (.inl e)) _
        rw [pEL_l]
        refine ⟨M2, ?_, c3, c4⟩
        rw [a, Option.bind_some, c1, Option.bind_some, c2, Option.bind_some, Option.bind_some, nI_add]
        exact hloop M2
      | inr z =>
        rw [e4] at r; obtain ⟨M2, a, K2, p2, f2⟩ := r
        have q := pPart_D hE hD hI.adv.2.2.1 ha e4
        have hc : z.2.i 0 2 < 1000 := by
          have h1 := q.1.2.1; have h2 := hI.2.1; have h3 := q.1.2.2.2; have h4 := hI.2.2.2.1
          rw [hadv] at h1; omega
        obtain ⟨M3, f3, K3, p3⟩ := k_addCode (v := 30000 + v) N hg hc K2
        rw [a, Option.bind_some, K2.g hg, Option.bind_some, f3, Option.bind_some, Option.bind_some, nI_add]
        refine RI.pre (p2.trans p3) (f2.trans (KF.S K2 K3 rfl rfl)) ?_
        have q2 : DP T h G (z.1, gCod z.2 (30000 + v)) := gCod_D q hadv
        exact loop_readE N hN hT hE hg hD hrc hd m k (j + 1) M3 z.1 (gCod z.2 (30000 + v)) (by omega) (by omega) (hI.go q2.1) q2.2 K3
theorem s_readE {n : Nat} {T : List Tok} {g : Nat} (N : Nat) (hN : 2000 < N) (hT : TT n T) (hE : TE T) (hg : g = 35 ∨ g = 52) : ∀ (fu d : Nat), fu + d = 8 → d ≤ 6 → RR T g (pE T fu d) (fun M => D_X2_readE N fu 7 (nI d) M)
  | 0, d, e, h => by omega
  | fu + 1, d, e, h => fun h0 G M hI ha K => by
    show RI T g M (pEL T (pE T fu (d + 1)) d 1000 (pPart T (pE T fu (d + 1)) d h0 G)) ((D_X2_readPart N (D_X2_readE N fu) 7 (nI d) M).bind fun q1 => (L_X2_readE_8 N 7 (D_X2_readE N fu) (nI d) N q1.1 (nI 0) q1.2))
    have hD := pE_D hE fu (d + 1)
    have hrc : d < 6 → RR T g (pE T fu (d + 1)) (fun M => D_X2_readE N fu 7 (nI (d + 1)) M) := fun hd => s_readE N hN hT hE hg fu (d + 1) (by omega) (by omega)
    have r := s_readPart N hN hT hE hg hD hrc (by omega) hI ha K
    cases e4 : pPart T (pE T fu (d + 1)) d h0 G with
    | inl e =>
      rw [e4] at r; obtain ⟨M', a, b⟩ := r
      rw [pEL_l]
      refine ⟨M', ?_, b⟩
      rw [a, Option.bind_some]
      cases N with
      | zero => omega
      | succ N =>
        rw [L_X2_readE_8]
        simp only [if_true, ite_self, retZ_0]
    | inr z =>
      rw [e4] at r; obtain ⟨M2, a, K2, p2, f2⟩ := r
      have q := pPart_D hE hD hI.2.2.1 ha e4
      rw [a, Option.bind_some]
      exact RI.pre p2 f2 (loop_readE N hN hT hE hg hD hrc (by omega) 1000 N 0 M2 z.1 z.2 (by omega) (by omega) (hI.go q.1) q.2 K2)
