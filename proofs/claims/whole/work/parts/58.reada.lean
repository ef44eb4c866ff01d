-- expressions, class
theorem FT_code {g v : Nat} {e : Nat × Nat} {T : List Tok} {h : Nat} {G : Gr} {M M' : Mm} (N : Nat) (hg : g = 35 ∨ g = 52) (K : KS T h g G M) (F : FT g e M M') (kf : KF M M') : rf M' 7 1 1 = some g ∧ ∃ M'', D_X1_addCode N g (nI v) M' = some M'' ∧ FT g e M M'' ∧ KF M M'' := by
  obtain ⟨f1, f2, f3, c, hc, f4⟩ := F
  refine ⟨?_, ?_⟩
  · unfold rf; rw [f3.2.1, K.2.2.2.1]; rcases hg with e | e <;> subst e <;> rfl
  · unfold D_X1_addCode
    rw [f4, show Int32.ofNat 1000 = nI 1000 from rfl]
    simp (disch := omega) only [n_le]
    by_cases h1 : 1000 ≤ c
    · rw [if_pos h1]
      exact ⟨M', rfl, ⟨f1, f2, f3, c, hc, f4⟩, kf⟩
    · have g16 : ¬ g + 16 = g := by omega
      have gg : ¬ g = g + 16 := by omega
      have g2 : ¬ 2 = g := by rcases hg with e | e <;> subst e <;> decide
      have g2' : ¬ 2 = g + 16 := by omega
      have g7 : ¬ 7 = g := by rcases hg with e | e <;> subst e <;> decide
      have g7' : ¬ 7 = g + 16 := by omega
      rw [if_neg h1]
      simp (disch := omega) only [stI_n, Option.bind_some, pI_n, up1, gg, if_false, f4, nI_add]
      refine ⟨_, rfl, ⟨?_, ?_, f3.trans (PF.G hg ((FG.I (by omega)).trans FG.F)), c + 1, by omega, ?_⟩, ?_, ?_⟩
      · rw [up1, if_neg g2, up1, if_neg g2']; exact f1
      · rw [up1, if_neg g2, up1, if_neg g2']; exact f2
      · rw [up1, if_pos rfl, upd_a, if_pos rfl]
      · rw [up1, if_neg g7, up1, if_neg g7']; exact kf.1
      · rw [up1, if_neg g7, up1, if_neg g7']; exact kf.2
def RR (T : List Tok) (g : Nat) (rcS : Nat → Gr → RS) (rcC : Mm → Option (Int32 × Mm)) : Prop := ∀ h G M, EI T h G → G.pa ≤ 24 → KS T h g G M → RI T g M (rcS h G) (rcC M)
theorem EI.adv {T : List Tok} {h : Nat} {G : Gr} (a : EI T h G) : EI T (adv T h) G := a.go (DE_adv a.2.2.1)
theorem loop_readBracket {n : Nat} {T : List Tok} {g d many : Nat} {rcS : Nat → Gr → RS} {rcC : Nat → Int32 → Mm → Option (Int32 × Mm)} {kE : Int32 → Mm → Option (Int32 × Mm)} (N : Nat) (hT : TT n T) (hg : g = 35 ∨ g = 52) (hD : DR T rcS) (hrc : RR T g rcS (fun M => rcC 7 (nI (d + 1)) M)) (hmany : many < 100) (k0 : ∀ M, kE (nI 0) M = some (nI 0, M)) (k1 : ∀ M, kE (nI 1) M = ((rf M 7 0 7).bind fun r5 => (D_X7_takeSign N r5 (nI 41) M).bind fun q6 => if q6.1 = nI 0 then retZ (nI 0) q6.2 else retZ (nI 1) q6.2)) : ∀ (m k j : Nat) (M : Mm) (h : Nat) (G : Gr), j + m = many → many < j + k → EI T h G → G.pa ≤ 24 → KS T h g G M → RI T g M (bnd (pBrL T rcS m (.inr (h, G))) fun h' G' => pSign T 41 h' G') (L_X2_readBracket_55 kE (nI many) 7 N rcC (nI d) k (nI 1) (nI j) M)
  | m, 0, j, M, h, G, e1, e2, _, _, _ => by omega
  | 0, k + 1, j, M, h, G, e1, e2, hI, ha, K => by
    have ej : j = many := by omega
    subst ej
    show RI T g M (pSign T 41 h G) (if nI j ≤ nI j then kE (nI 1) M else _)
    rw [if_pos (show nI j ≤ nI j by rw [n_le (by omega) (by omega)]; exact Nat.le_refl j), k1, K.t, Option.bind_some]
    have r := k_take (c := 41) N hT hg hI.1.c (by omega) K
    cases e5 : pSign T 41 h G with
    | inl e => rw [e5] at r; obtain ⟨M', a, b⟩ := r; rw [a]; exact ⟨M', rfl, b⟩
    | inr y => rw [e5] at r; obtain ⟨M', a, b⟩ := r; rw [a]; exact ⟨M', by rw [Option.bind_some, if_neg z10, retZ_1], b⟩
  | m + 1, k + 1, j, M, h, G, e1, e2, hI, ha, K => by
    have hloop : ∀ M' , L_X2_readBracket_55 kE (nI many) 7 N rcC (nI d) k (nI 0) (nI (j + 1)) M' = some (nI 0, M') := fun M' => by
      cases k with
      | zero => omega
      | succ k =>
        show (if nI many ≤ nI (j + 1) then kE (nI 0) M' else (if nI 0 = nI 0 then kE (nI 0) M' else _)) = _
        rw [if_pos rfl, ite_self, k0]
    show RI T g M (bnd (pBrL T rcS m (bnd (pSign T 44 h G) fun h' G' => rcS h' G')) fun h' G' => pSign T 41 h' G') (if nI many ≤ nI j then kE (nI 1) M else (if nI 1 = nI 0 then kE (nI 1) M else ((rf M 7 0 7).bind fun r4 => (D_X7_takeSign N r4 (nI 44) M).bind fun q4 => (jn (fun (p91 : Mm) => ((some (nI j + (nI 1))).bind fun l4_2 => (L_X2_readBracket_55 kE (nI many) 7 N rcC (nI d) k (nI 0) l4_2 p91))) fun J1 => (if q4.1 = nI 0 then (J1 q4.2) else ((rcC 7 (nI d + (nI 1)) q4.2).bind fun q5 => (if q5.1 = nI 0 then (J1 q5.2) else ((some (nI j + (nI 1))).bind fun l4_3 => (L_X2_readBracket_55 kE (nI many) 7 N rcC (nI d) k (nI 1) l4_3 q5.2)))))))))
    have hmj : ¬ nI many ≤ nI j := by rw [n_le (by omega) (by omega)]; omega
    rw [if_neg hmj, if_neg z10, K.t, Option.bind_some]
    simp only [jn, Option.bind_some, nI_add]
    have r := k_take (c := 44) N hT hg hI.1.c (by omega) K
    cases e5 : pSign T 44 h G with
    | inl e =>
      rw [e5] at r; obtain ⟨M', a, b⟩ := r
      rw [a, Option.bind_some, if_pos rfl, hloop]
      show RI T g M (bnd (pBrL T rcS m (.inl e)) _) _
      rw [pBrL_l]
      exact ⟨M', rfl, b⟩
    | inr y =>
      rw [e5] at r; obtain ⟨M1, a, K1, p1, f1⟩ := r
      have q1 := pSign_D hI.2.2.1 ha e5
      have I1 := hI.go q1.1
      rw [a, Option.bind_some, if_neg z10]
      refine RI.pre p1 f1 ?_
      show RI T g M1 (bnd (pBrL T rcS m (rcS y.1 y.2)) _) _
      have r2 : RI T g M1 (rcS y.1 y.2) (rcC 7 (nI (d + 1)) M1) := hrc y.1 y.2 M1 I1 q1.2 K1
      show RI T g M1 (bnd (pBrL T rcS m (rcS y.1 y.2)) _) ((rcC 7 (nI (d + 1)) M1).bind fun q5 => if q5.1 = nI 0 then L_X2_readBracket_55 kE (nI many) 7 N rcC (nI d) k (nI 0) (nI (j + 1)) q5.2 else L_X2_readBracket_55 kE (nI many) 7 N rcC (nI d) k (nI 1) (nI (j + 1)) q5.2)
      cases e6 : rcS y.1 y.2 with
      | inl e =>
        rw [e6] at r2; obtain ⟨M', a, b⟩ := r2
        rw [a, Option.bind_some, if_pos rfl, hloop, pBrL_l]
        exact ⟨M', rfl, b⟩
      | inr z =>
        rw [e6] at r2; obtain ⟨M2, a2, K2, p2, f2⟩ := r2
        have q2 := hD y.1 y.2 z I1.2.2.1 q1.2 e6
        rw [a2, Option.bind_some, if_neg z10]
        exact RI.pre p2 f2 (loop_readBracket N hT hg hD hrc hmany k0 k1 m k (j + 1) M2 z.1 z.2 (by omega) (by omega) (I1.go q2.1) q2.2 K2)
theorem s_readBracket {n : Nat} {T : List Tok} {h g d many : Nat} {G : Gr} {M : Mm} {rcS : Nat → Gr → RS} {rcC : Nat → Int32 → Mm → Option (Int32 × Mm)} (N : Nat) (hN : 2000 < N) (hT : TT n T) (hg : g = 35 ∨ g = 52) (hD : DR T rcS) (hrc : d < 6 → RR T g rcS (fun M => rcC 7 (nI (d + 1)) M)) (hmany : many < 100) (hm1 : 1 ≤ many) (hd : d < 100) (hI : EI T h G) (ha : G.pa ≤ 24) (K : KS T h g G M) : RI T g M (pBr T rcS d many h G) (D_X2_readBracket N rcC 7 (nI d) (nI many) M) := by
  unfold D_X2_readBracket pBr
  rw [K.t, Option.bind_some, k_sign N hT K (show 40 < 2 ^ 31 by decide), Option.bind_some]
  by_cases e1 : isSn T h 40
  · rw [if_pos e1, decide_eq_true e1, bI_t, if_neg z10]
    have hn : (nI d < nI 6) = (d < 6) := n_lt (by omega) (by omega)
    simp only [hn]
    by_cases e2 : d < 6
    · rw [if_pos e2, if_pos e2]
      obtain ⟨M1, f1, K1, p1⟩ := k_adv N hT hg K
      rw [Option.bind_some, f1, Option.bind_some, nI_add]
      refine RI.pre p1 (KF.S K K1 rfl rfl) ?_
      have r2 : RI T g M1 (rcS (adv T h) G) (rcC 7 (nI (d + 1)) M1) := hrc e2 _ _ M1 hI.adv ha K1
      cases e6 : rcS (adv T h) G with
      | inl e =>
        rw [e6] at r2; obtain ⟨M', a, b⟩ := r2
        rw [a, Option.bind_some, pBrL_l]
        refine ⟨M', ?_, b⟩
        cases N with
        | zero => omega
        | succ N =>
          rw [L_X2_readBracket_55]
          simp only [if_true, ite_self, jn, retZ_0]
      | inr z =>
        rw [e6] at r2; obtain ⟨M2, a2, K2, p2, f2⟩ := r2
        have q2 := hD _ _ z hI.adv.2.2.1 ha e6
        rw [a2, Option.bind_some]
        refine RI.pre p2 f2 ?_
        refine loop_readBracket N hT hg hD (hrc e2) hmany (fun M => ?_) (fun M => ?_) (many - 1) N 1 M2 z.1 z.2 (by omega) (by omega) (hI.adv.go q2.1) q2.2 K2
        · simp only [jn, if_true, retZ_0]
        · simp only [jn, z10, if_false]
    · rw [if_neg e2, if_neg e2]
      exact k_fail N 6 hT hg hI.1.c K
  · rw [if_neg e1, decide_eq_false e1, bI_f, if_pos rfl]
    exact k_fail N 2 hT hg hI.1.c K
