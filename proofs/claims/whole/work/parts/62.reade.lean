-- the whole read, class
theorem line_end {n : Nat} {T : List Tok} {g : Nat} {M : Mm} {r : RS} {x : Option (Int32 × Mm)} (N : Nat) (hT : TT n T) (hg : g = 35 ∨ g = 52) (hx : RC T g M r x) (hc : ∀ z, r = .inr z → z.2.i 0 2 ≤ 1000) : RC T g M (bnd r fun h G => pSign T 59 h G) (x.bind fun q9 => ((jn (fun (p85 : Mm) => (some ((nI 0), p85))) fun J3 => (if q9.1 = nI 0 then (J3 q9.2) else ((rf q9.2 7 0 7).bind fun r8 => (D_X7_takeSign N r8 (nI 59) q9.2).bind fun q10 => (if q10.1 = nI 0 then (J3 q10.2) else (some ((nI 1), q10.2)))))))) := by
  refine RC.bind hx (fun M' => ?_) (fun y M' hy Ky => ?_)
  · simp only [jn, if_true]
  · simp only [jn, z10, if_false, Ky.t, Option.bind_some]
    have r := k_take (c := 59) N hT hg (hc y hy) (by omega) Ky
    cases e5 : pSign T 59 y.1 y.2 with
    | inl e => rw [e5] at r; obtain ⟨M', a, b, _⟩ := r; rw [a]; exact ⟨M', by rw [Option.bind_some, if_pos rfl], b⟩
    | inr z => rw [e5] at r; obtain ⟨M', a, b, c, _⟩ := r; rw [a]; exact ⟨M', by rw [Option.bind_some, if_neg z10], b, c⟩
theorem loop_read {n : Nat} {T : List Tok} {g : Nat} (N : Nat) (hN : 2000 < N) (hT : TT n T) (hE : TE T) (hg : g = 35 ∨ g = 52) : ∀ (m k j : Nat) (M : Mm) (h : Nat) (G : Gr), m + j = 1000 → 1000 < j + k → LI T h G → KS T h g G M → RC T g M (pRL T m (decide (j = 0)) h G) (L_X2_read_22 7 N k (nI 1) (nI j) M)
  | m, 0, j, M, h, G, e1, e2, _, _ => by omega
  | 0, k + 1, j, M, h, G, e1, e2, hI, K => by
    have ej : j = 1000 := by omega
    subst ej
    exact ⟨M, rfl, K, PF.refl⟩
  | m + 1, k + 1, j, M, h, G, e1, e2, hI, K => by
    have hloop : ∀ M' , L_X2_read_22 7 N k (nI 0) (nI (j + 1)) M' = some (nI 0, M') := fun M' => by
      cases k with
      | zero => omega
      | succ k =>
        rw [L_X2_read_22]
        rw [if_pos (show nI 0 = nI 0 from rfl), retZ_0, ite_self]
    have hk := (hT.w h K.1.h).1
    have ek : M.1 2 7 = nI (tk T h).1 := K.1.2.2.2.2.1
    have hmj : ¬ nI 1000 ≤ nI j := by rw [n_le (by omega) (by omega)]; omega
    have hj0 : (nI j = nI 0) = (j = 0) := n_eq (by omega) (by omega)
    have hkE : (nI (tk T h).1 = nI 0) = ((tk T h).1 = 0) := n_eq (by omega) (by omega)
    rw [L_X2_read_22, if_neg hmj, if_neg z10]
    -- a line and what follows
    have tail : ∀ (r : RS) (x : Option (Int32 × Mm)), RC T g M r x → (∀ z, r = .inr z → LI T z.1 z.2) → RC T g M (bnd (bnd r fun h' G' => pSign T 59 h' G') fun h' G' => pRL T m false h' G') (x.bind fun q9 => ((jn (fun (p85 : Mm) => (some ((nI 0), p85))) fun J3 => (if q9.1 = nI 0 then (J3 q9.2) else ((rf q9.2 7 0 7).bind fun r8 => (D_X7_takeSign N r8 (nI 59) q9.2).bind fun q10 => (if q10.1 = nI 0 then (J3 q10.2) else (some ((nI 1), q10.2)))))).bind fun p86 => ((some (nI j + (nI 1))).bind fun l4_5 => (L_X2_read_22 7 N k p86.1 l4_5 p86.2)))) := by
      intro r x hx hL
      rw [← Option.bind_assoc]
      refine RC.bind (line_end N hT hg hx (fun z hz => (hL z hz).1.c)) (fun M' => ?_) (fun y M' hy Ky => ?_)
      · rw [Option.bind_some, nI_add]; exact hloop M'
      · rw [Option.bind_some, nI_add]
        obtain ⟨z, a, b⟩ := bnd_r hy
        have q := loop_read N hN hT hE hg m k (j + 1) M' y.1 y.2 (by omega) (by omega) (pSign_L (hL z a) b) Ky
        rw [decide_eq_false (by omega)] at q
        exact q
    have body : RC T g M (bnd (pLine T h G) fun h' G' => pRL T m false h' G') ((rf M 7 0 7).bind fun r2 => (D_X7_isWordOf N r2 (lN 664177132) M).bind fun q1 => (if q1 = nI 0 then ((rf M 7 0 7).bind fun r3 => (D_X7_isWordOf N r3 (lN 543204) M).bind fun q2 => (if q2 = nI 0 then ((rf M 7 0 7).bind fun r4 => (D_X7_isWordOf N r4 (lN 611717) M).bind fun q3 => (if q3 = nI 0 then ((rf M 7 0 7).bind fun r5 => (D_X7_fail N r5 (nI 2) M).bind fun q4 => ((some (nI j + (nI 1))).bind fun l4_2 => (L_X2_read_22 7 N k q4.1 l4_2 q4.2))) else ((D_X2_readRule N 7 M).bind fun q5 => ((jn (fun (p167 : Mm) => (some ((nI 0), p167))) fun J1 => (if q5.1 = nI 0 then (J1 q5.2) else ((rf q5.2 7 0 7).bind fun r6 => (D_X7_takeSign N r6 (nI 59) q5.2).bind fun q6 => (if q6.1 = nI 0 then (J1 q6.2) else (some ((nI 1), q6.2)))))).bind fun p168 => ((some (nI j + (nI 1))).bind fun l4_3 => (L_X2_read_22 7 N k p168.1 l4_3 p168.2)))))) else ((D_X2_readProduction N 7 M).bind fun q7 => ((jn (fun (p126 : Mm) => (some ((nI 0), p126))) fun J2 => (if q7.1 = nI 0 then (J2 q7.2) else ((rf q7.2 7 0 7).bind fun r7 => (D_X7_takeSign N r7 (nI 59) q7.2).bind fun q8 => (if q8.1 = nI 0 then (J2 q8.2) else (some ((nI 1), q8.2)))))).bind fun p127 => ((some (nI j + (nI 1))).bind fun l4_4 => (L_X2_read_22 7 N k p127.1 l4_4 p127.2)))))) else ((D_X2_readSymbol N 7 M).bind fun q9 => ((jn (fun (p85 : Mm) => (some ((nI 0), p85))) fun J3 => (if q9.1 = nI 0 then (J3 q9.2) else ((rf q9.2 7 0 7).bind fun r8 => (D_X7_takeSign N r8 (nI 59) q9.2).bind fun q10 => (if q10.1 = nI 0 then (J3 q10.2) else (some ((nI 1), q10.2)))))).bind fun p86 => ((some (nI j + (nI 1))).bind fun l4_5 => (L_X2_read_22 7 N k p86.1 l4_5 p86.2)))))) := by
      unfold pLine
      rw [K.t, Option.bind_some, k_word N hT K (show 664177132 < 2 ^ 63 by decide), Option.bind_some]
      by_cases c1 : isWd T h 664177132
      · rw [if_pos c1, decide_eq_true c1, bI_t, if_neg z10]
        exact tail _ _ (s_readSymbol N hN hT hg hI.1 K).c (fun z hz => pSym_L hT hI hz)
      · rw [if_neg c1, decide_eq_false c1, bI_f, if_pos rfl, Option.bind_some, k_word N hT K (show 543204 < 2 ^ 63 by decide), Option.bind_some]
        by_cases c2 : isWd T h 543204
        · rw [if_pos c2, decide_eq_true c2, bI_t, if_neg z10]
          exact tail _ _ (s_readProduction N hN hT hg hI.1 hI.2.1 K).c (fun z hz => pPro_L hT hI hz)
        · rw [if_neg c2, decide_eq_false c2, bI_f, if_pos rfl, Option.bind_some, k_word N hT K (show 611717 < 2 ^ 63 by decide), Option.bind_some]
          by_cases c3 : isWd T h 611717
          · rw [if_pos c3, decide_eq_true c3, bI_t, if_neg z10]
            exact tail _ _ (s_readRule N hN hT hE hg hI.1 hI.2.2.1 hI.2.2.2.2 K) (fun z hz => pRule_L hE hI hz)
          · rw [if_neg c3, decide_eq_false c3, bI_f, if_pos rfl, Option.bind_some]
            obtain ⟨M', f, a, _⟩ := k_fail0 N 2 hT hg hI.1.c K
            rw [f, Option.bind_some, Option.bind_some, nI_add]
            exact ⟨M', hloop M', a⟩
    have key : ∀ (B : Unit → Option (Int32 × Mm)), RC T g M (bnd (pLine T h G) fun h' G' => pRL T m false h' G') (B ()) → RC T g M (if decide (j = 0) = false ∧ (tk T h).1 = 0 then .inr (h, G) else bnd (pLine T h G) fun h' G' => pRL T m false h' G') (jn B fun J4 => (if nI j = nI 0 then (J4 ()) else ((rf M 7 0 7).bind fun r9 => (if (M.1 r9 7) = nI 0 then (retZ (nI 1) M) else (J4 ()))))) := by
      intro B hB
      show RC T g M _ (if nI j = nI 0 then (B ()) else ((rf M 7 0 7).bind fun r9 => (if (M.1 r9 7) = nI 0 then (retZ (nI 1) M) else (B ()))))
      by_cases ej : j = 0
      · rw [if_neg (fun q => absurd q.1 (by rw [decide_eq_true ej]; decide)), if_pos (by rw [hj0]; exact ej)]
        exact hB
      · rw [if_neg (show ¬ nI j = nI 0 by rw [hj0]; exact ej), K.t, Option.bind_some, ek]
        by_cases ek0 : (tk T h).1 = 0
        · rw [if_pos ⟨decide_eq_false ej, ek0⟩, if_pos (by rw [hkE]; exact ek0), retZ_1]
          exact ⟨M, rfl, K, PF.refl⟩
        · rw [if_neg (fun q => ek0 q.2), if_neg (by rw [hkE]; exact ek0)]
          exact hB
    exact key _ body
def pRead (T : List Tok) (G : Gr) : RS := pRL T 1000 true 0 (gClr G)
